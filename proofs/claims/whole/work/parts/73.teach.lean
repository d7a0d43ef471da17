/-! ===== the reference's teach is a lesson ===== -/
theorem sh31 : ∀ n, n < 32 → ((nI n &&& 31).toBitVec.smod 32).toNat = n := by decide
/-- bit k of a set -/
def bt1 (m k : Nat) : Bool := decide (m / 2 ^ k % 2 = 1)
theorem bit_eq {m k : Nat} (hm : m < 2147483648) (hk : k < 31) : ((nI m >>> (nI k &&& 31)) &&& 1) = nI (m / 2 ^ k % 2) := by
  rw [pk_shrN hm (nI k &&& 31) k (sh31 k (by omega))]
  have h1 : m / 2 ^ k ≤ m := Nat.div_le_self _ _
  have := pk_andN (n := m / 2 ^ k) (by omega) (m := 1) 1 (by decide)
  rw [this]
theorem bit_is {m k : Nat} (hm : m < 2147483648) (hk : k < 31) : ((nI m >>> (nI k &&& 31)) &&& 1) = 1 ↔ bt1 m k = true := by
  rw [bit_eq hm hk, li_1, eqI (by omega) (by omega)]
  simp [bt1]
theorem bt1_full {n k : Nat} (h : k < n) : bt1 (2 ^ n - 1) k = true := by
  have : (2 ^ n - 1).testBit k = true := by rw [Nat.testBit_two_pow_sub_one]; simpa using h
  simpa [bt1, Nat.testBit_eq_decide_div_mod_eq] using this
theorem has_eq {S : St} {m k : Nat} (hm : m < 2147483648) (hk : k < 31) : fX7_has (nI m) (nI k) S = some (bI (bt1 m k), S) := by
  unfold fX7_has
  by_cases h : bt1 m k = true
  · rw [if_pos ((bit_is hm hk).mpr h), h]; rfl
  · rw [if_neg (fun q => h ((bit_is hm hk).mp q))]
    have : bt1 m k = false := by simpa using h
    rw [this]; rfl
theorem sh1 : ∀ n, n < 7 → (1 : Int32) <<< (nI n &&& 31) - 1 = nI (2 ^ n - 1) := by decide
theorem everybody_eq {S : St} {n : Nat} (h : gN S 44 1 = nI n) (hn : n ≤ 6) : fX7_everybody S = some (nI (2 ^ n - 1), S) := by
  simp only [fX7_everybody, h, sh1 n (by omega)]
theorem lcmp_eq {a b : Nat} (ha : a < 9223372036854775808) (hb : b < 9223372036854775808) : lg_cmp (lN a) (lN b) = if b < a then 1 else if a = b then 0 else -1 := by
  simp only [lg_cmp, gt_iff_lt, pk_lLT hb ha, pk_lEQ ha hb]
theorem lcmp_lt {a b : Nat} (ha : a < 9223372036854775808) (hb : b < 9223372036854775808) : lg_cmp (lN a) (lN b) < 0 ↔ a < b := by
  rw [lcmp_eq ha hb]
  by_cases h : b < a
  · rw [if_pos h]; exact ⟨fun q => absurd q (by decide), fun q => by omega⟩
  · rw [if_neg h]
    by_cases h2 : a = b
    · rw [if_pos h2]; exact ⟨fun q => absurd q (by decide), fun q => by omega⟩
    · rw [if_neg h2]; exact ⟨fun _ => by omega, fun _ => by decide⟩
theorem lcmp_gt {a b : Nat} (ha : a < 9223372036854775808) (hb : b < 9223372036854775808) : 0 < lg_cmp (lN a) (lN b) ↔ b < a := by
  rw [lcmp_eq ha hb]
  by_cases h : b < a
  · rw [if_pos h]; exact ⟨fun _ => h, fun _ => by decide⟩
  · rw [if_neg h]
    by_cases h2 : a = b
    · rw [if_pos h2]; exact ⟨fun q => absurd q (by decide), fun q => by omega⟩
    · rw [if_neg h2]; exact ⟨fun q => absurd q (by decide), fun q => by omega⟩
/-- within, in small numbers -/
theorem in_eq {S : St} {a lo hi : Nat} (ha : a < 2147483648) (hl : lo < 2147483648) (hh : hi < 2147483648) : fX7_in (lN a) (lN lo) (lN hi) S = some (bI (decide (lo ≤ a ∧ a ≤ hi)), S) := by
  simp (disch := omega) only [fX7_in, FX7_in_17, lcmp_lt, lcmp_gt]
  by_cases h1 : a < lo
  · rw [if_pos h1]; simp [bI, show ¬ lo ≤ a by omega]
  · rw [if_neg h1]
    by_cases h2 : hi < a
    · rw [if_pos h2]; simp [bI, show ¬ a ≤ hi by omega]
    · rw [if_neg h2]; simp [bI, show lo ≤ a by omega, show a ≤ hi by omega]
theorem draw_m {sd : Nat} (h : sd < 2147483648) : ((((nI sd).toInt64 * 1103515245) + 12345) - (((nI sd).toInt64 * 1103515245) + 12345) / 2147483648 * 2147483648 : Int64).toInt32 = nI (dr sd) := by
  rw [toI64 h, show (1103515245 : Int64) = lN 1103515245 from rfl, show (12345 : Int64) = lN 12345 from rfl, lN_mul, lN_add, show (2147483648 : Int64) = lN 2147483648 from rfl, pk_lRem (by omega) (by decide) (by decide), lN_i]
  rfl
/-- the reference's rows: how many, levels, tops, QUICK, BELIEF, PRIDE, the seed -/
def Mn (S : St) (n : Nat) (lv top qk bl pr : Nat → Nat) (sd : Nat) : Prop :=
  gN S 44 1 = nI n ∧ n ≤ 6 ∧ gN S 44 23 = nI sd ∧ sd < 2147483648 ∧ ∀ i, i < n → (gN S 52 i = nI (lv i) ∧ lv i ≤ 9) ∧ (gN S 53 i = nI (top i) ∧ (top i = 4 ∨ top i = 9)) ∧ (gN S 46 (3 * i) = nI (qk i) ∧ 1 ≤ qk i ∧ qk i ≤ 5) ∧ (gN S 46 (3 * i + 1) = nI (bl i) ∧ bl i ≤ 100) ∧ gN S 46 (3 * i + 2) = nI (pr i) ∧ pr i ≤ 100
/-- the row 'then' -/
def Th (S : St) (n : Nat) (th : Nat → Nat) : Prop := ∀ i, i < n → gN S 54 i = nI (th i) ∧ th i ≤ 9
section
variable {S : St} {n : Nat} {lv top qk bl pr th : Nat → Nat} {sd : Nat}
theorem Mn_sd {sd' : Nat} (hB : Mn S n lv top qk bl pr sd) (h : sd' < 2147483648) : Mn (sN S 44 23 (nI sd')) n lv top qk bl pr sd' := by
  obtain ⟨h0, h6, hs, hs1, hh⟩ := hB
  refine ⟨by rw [gN_sN_j (by decide)]; exact h0, h6, gN_sN_s, h, fun i hi => ?_⟩
  simp only [gN_sN_c (show (52 : Nat) ≠ 44 by decide), gN_sN_c (show (53 : Nat) ≠ 44 by decide), gN_sN_c (show (46 : Nat) ≠ 44 by decide)]
  exact hh i hi
theorem Mn_th {k : Nat} {v : Int32} (hB : Mn S n lv top qk bl pr sd) : Mn (sN S 54 k v) n lv top qk bl pr sd := by
  obtain ⟨h0, h6, hs, hs1, hh⟩ := hB
  refine ⟨by rw [gN_sN_c (by decide)]; exact h0, h6, by rw [gN_sN_c (by decide)]; exact hs, hs1, fun i hi => ?_⟩
  simp only [gN_sN_c (show (52 : Nat) ≠ 54 by decide), gN_sN_c (show (53 : Nat) ≠ 54 by decide), gN_sN_c (show (46 : Nat) ≠ 54 by decide)]
  exact hh i hi
theorem Mn_now {k v : Nat} (hB : Mn S n lv top qk bl pr sd) (hv : v ≤ 9) : Mn (sN S 52 k (nI v)) n (fup lv k v) top qk bl pr sd := by
  obtain ⟨h0, h6, hs, hs1, hh⟩ := hB
  refine ⟨by rw [gN_sN_c (by decide)]; exact h0, h6, by rw [gN_sN_c (by decide)]; exact hs, hs1, fun i hi => ?_⟩
  simp only [gN_sN_c (show (53 : Nat) ≠ 52 by decide), gN_sN_c (show (46 : Nat) ≠ 52 by decide)]
  refine ⟨?_, (hh i hi).2⟩
  by_cases hk : i = k
  · subst hk; rw [gN_sN_s, fup_s]; exact ⟨rfl, hv⟩
  · rw [gN_sN_j hk, fup_n hk]; exact (hh i hi).1
theorem Th_sd {v : Int32} (h : Th S n th) : Th (sN S 44 23 v) n th := fun i hi => by rw [gN_sN_c (by decide)]; exact h i hi
theorem Th_th {k v : Nat} (h : Th S n th) (hv : v ≤ 9) : Th (sN S 54 k (nI v)) n (fup th k v) := fun i hi => by
  by_cases hk : i = k
  · subst hk; rw [gN_sN_s, fup_s]; exact ⟨rfl, hv⟩
  · rw [gN_sN_j hk, fup_n hk]; exact h i hi
theorem mnoChance_eq {l : Nat} {r : Bool} (h : l ≤ 9) : fX7_noChance (nI l) (bI r) S = some (nI (noc l r), S) := by
  cases r <;> simp (disch := omega) [fX7_noChance, gdI, clI, clL, ltI, leI, eqI, nI_add, subI, pk_mul, divI, bd_s, li_0, li_1, li_2, li_3, li_4, li_5, li_6, li_7, li_8, li_9, li_10, li_20, li_31, li_32, li_36, li_40, li_44, li_48, li_50, li_57, li_59, li_63, li_97, li_99, li_100, li_122, li_255, li_300, li_400, li_1000, li_65536, li_96, li_18, noc, bI, ↓reduceIte]
theorem draw_eq (hs : gN S 44 23 = nI sd) (hs1 : sd < 2147483648) : fX7_draw 100 S = some (nI (dr sd / 65536 % 100), sN S 44 23 (nI (dr sd))) := by
  have hd := dr_lt sd
  have e : fX7_draw 100 S = gd (nzI 100) (some (gN (sN S 44 23 (nI (dr sd))) 44 23 / 65536 - gN (sN S 44 23 (nI (dr sd))) 44 23 / 65536 / 100 * 100, sN S 44 23 (nI (dr sd)))) := by
    rw [← draw_m hs1, ← hs]
    rfl
  rw [e]
  generalize dr sd = d at hd ⊢
  rw [gd_t (show nzI 100 = true by decide), gN_sN_s, show (65536 : Int32) = nI 65536 from rfl, divI hd (by decide) (by decide), show (100 : Int32) = nI 100 from rfl, pk_rem (by omega) (by decide) (by decide)]
theorem isSo_eq (hB : Mn S n lv top qk bl pr sd) {ch : Nat} {dw : Bool} (hc : ch < 2147483648) : fX7_isSo (nI ch) (bI dw) S = some (bI (cm ch dw sd).1, sN S 44 23 (nI (cm ch dw sd).2)) := by
  obtain ⟨h0, h6, hs, hs1, hh⟩ := hB
  cases dw with
  | false =>
    simp (disch := omega) only [fX7_isSo, bI, cm, gdI, clI, clL, ltI, leI, eqI, nI_add, subI, pk_mul, divI, bd_s, li_0, li_1, li_2, li_3, li_4, li_5, li_6, li_7, li_8, li_9, li_10, li_20, li_31, li_32, li_36, li_40, li_44, li_48, li_50, li_57, li_59, li_63, li_97, li_99, li_100, li_122, li_255, li_300, li_400, li_1000, li_65536, li_96, li_18, if_true, if_false, Bool.false_eq_true, sN_self hs]
    by_cases h : ch < 50
    · simp [h, show ¬ 50 ≤ ch by omega]
    · simp [h, show 50 ≤ ch by omega]
  | true =>
    have hd := dr_lt sd
    unfold fX7_isSo
    rw [show bI true = 1 from rfl, if_neg (by decide), draw_eq hs hs1, bd_s]
    have e2 : cm ch true sd = (decide (dr sd / 65536 % 100 < ch), dr sd) := rfl
    rw [e2]
    generalize dr sd = d at hd ⊢
    by_cases h : ch ≤ d / 65536 % 100
    · rw [if_pos ((leI hc (by omega)).mpr h)]
      have : ¬ d / 65536 % 100 < ch := Nat.not_lt.mpr h
      simp [this, bI]
    · rw [if_neg (fun q => h ((leI hc (by omega)).mp q))]
      have : d / 65536 % 100 < ch := Nat.not_le.mp h
      simp [this, bI]
theorem mrise_eq (hB : Mn S n lv top qk bl pr sd) (ht : Th S n th) {i b : Nat} (hi : i < n) (hb : b ≤ 5) : fX7_rise (nI i) (nI b) S = some ((), sN S 54 i (nI (ri (th i) (top i) b))) := by
  obtain ⟨h0, h6, hs, hs1, hh⟩ := hB
  obtain ⟨-, ⟨b1, b2⟩, -⟩ := hh i hi
  obtain ⟨a1, a2⟩ := ht i hi
  simp (disch := omega) only [fX7_rise, FX7_rise_34, FX7_rise_60, gdI, clI, clL, ltI, leI, eqI, nI_add, subI, pk_mul, divI, bd_s, li_0, li_1, li_2, li_3, li_4, li_5, li_6, li_7, li_8, li_9, li_10, li_20, li_31, li_32, li_36, li_40, li_44, li_48, li_50, li_57, li_59, li_63, li_97, li_99, li_100, li_122, li_255, li_300, li_400, li_1000, li_65536, li_96, li_18, a1, b1, ri]
  by_cases h : th i + b ≤ top i
  · rw [if_pos h]
    by_cases h2 : th i + b ≤ th i
    · rw [if_pos h2]
      have : b = 0 := by omega
      subst this
      by_cases h3 : th i < top i
      · rw [if_pos h3, if_pos (by omega), Nat.add_zero]
      · rw [if_neg h3]
    · rw [if_neg h2, if_pos (show th i < top i by omega)]
      by_cases h3 : th i + b < top i
      · rw [if_pos h3]
      · rw [if_neg h3, show th i + b = top i by omega]
  · rw [if_neg h]
    by_cases h2 : top i ≤ th i
    · rw [if_pos h2, if_neg (by omega)]
    · rw [if_neg h2, if_pos (by omega), if_neg (by omega)]
/-- now into then -/
theorem teach_copy {one mask : Nat} {g dw : Bool} : ∀ (m j : Nat) (S : St) (fu : Nat), j + m = n → m < fu → Mn S n lv top qk bl pr sd → (∀ i, i < j → gN S 54 i = nI (lv i)) →
    ∃ S' fu', FX7_teach_3 fu (nI one) (nI mask) (bI g) (bI dw) (nI j) S = FX7_teach_3 (fu' + 1) (nI one) (nI mask) (bI g) (bI dw) (nI n) S' ∧ Mn S' n lv top qk bl pr sd ∧ Th S' n lv := by
  intro m
  induction m with
  | zero =>
    intro j S fu hj hf hB ht
    obtain ⟨fu, rfl⟩ : ∃ k, fu = k + 1 := ⟨fu - 1, by omega⟩
    have hj' : j = n := by omega
    subst hj'
    exact ⟨S, fu, rfl, hB, fun i hi => ⟨ht i hi, (hB.2.2.2.2 i hi).1.2⟩⟩
  | succ m ih =>
    intro j S fu hj hf hB ht
    obtain ⟨fu, rfl⟩ : ∃ k, fu = k + 1 := ⟨fu - 1, by omega⟩
    have hB0 := hB
    obtain ⟨h0, h6, hs, hs1, hh⟩ := hB
    have hjn : j < n := by omega
    obtain ⟨⟨a1, a2⟩, -⟩ := hh j hjn
    rw [FX7_teach_3]
    simp (disch := omega) only [h0, a1, gdI, clI, clL, ltI, leI, eqI, nI_add, subI, pk_mul, divI, bd_s, li_0, li_1, li_2, li_3, li_4, li_5, li_6, li_7, li_8, li_9, li_10, li_20, li_31, li_32, li_36, li_40, li_44, li_48, li_50, li_57, li_59, li_63, li_97, li_99, li_100, li_122, li_255, li_300, li_400, li_1000, li_65536, li_96, li_18]
    rw [if_neg (show ¬ n ≤ j by omega)]
    exact ih (j + 1) _ fu (by omega) (by omega) (Mn_th hB0) (fun i hi => by
      by_cases hij : i = j
      · subst hij; rw [gN_sN_s]
      · rw [gN_sN_j hij]; exact ht i (by omega))
/-- then into now, and the answer -/
theorem teach_back {r sm : Bool} : ∀ (m j : Nat) (S : St) (l : Nat → Nat) (fu : Nat), j + m = n → m < fu → Mn S n l top qk bl pr sd → Th S n th → (∀ i, i < j → l i = th i) →
    ∃ S', FX7_teach_346 fu (bI r) (bI sm) (nI j) S = some (nI ((if r = true then 2 else 0) + (if sm = true then 0 else 1)), S') ∧ Mn S' n (fun i => if i < n then th i else l i) top qk bl pr sd := by
  intro m
  induction m with
  | zero =>
    intro j S l fu hj hf hB ht hl
    obtain ⟨fu, rfl⟩ : ∃ k, fu = k + 1 := ⟨fu - 1, by omega⟩
    have hB0 := hB
    obtain ⟨h0, h6, hs, hs1, hh⟩ := hB
    have hj' : j = n := by omega
    subst hj'
    simp (disch := omega) only [FX7_teach_346, FX7_teach_385, FX7_teach_395, h0, gdI, clI, clL, ltI, leI, eqI, nI_add, subI, pk_mul, divI, bd_s, li_0, li_1, li_2, li_3, li_4, li_5, li_6, li_7, li_8, li_9, li_10, li_20, li_31, li_32, li_36, li_40, li_44, li_48, li_50, li_57, li_59, li_63, li_97, li_99, li_100, li_122, li_255, li_300, li_400, li_1000, li_65536, li_96, li_18, bI_0]
    rw [if_pos (Nat.le_refl _)]
    have e : (fun i => if i < j then th i else l i) = l := by
      funext i
      by_cases hi : i < j
      · rw [if_pos hi, hl i hi]
      · rw [if_neg hi]
    rw [e]
    refine ⟨S, ?_, hB0⟩
    cases r <;> cases sm <;> rfl
  | succ m ih =>
    intro j S l fu hj hf hB ht hl
    obtain ⟨fu, rfl⟩ : ∃ k, fu = k + 1 := ⟨fu - 1, by omega⟩
    have hB0 := hB
    obtain ⟨h0, h6, hs, hs1, hh⟩ := hB
    have hjn : j < n := by omega
    obtain ⟨t1, t2⟩ := ht j hjn
    rw [FX7_teach_346]
    simp (disch := omega) only [h0, t1, gdI, clI, clL, ltI, leI, eqI, nI_add, subI, pk_mul, divI, bd_s, li_0, li_1, li_2, li_3, li_4, li_5, li_6, li_7, li_8, li_9, li_10, li_20, li_31, li_32, li_36, li_40, li_44, li_48, li_50, li_57, li_59, li_63, li_97, li_99, li_100, li_122, li_255, li_300, li_400, li_1000, li_65536, li_96, li_18]
    rw [if_neg (show ¬ n ≤ j by omega)]
    obtain ⟨S', e1, e2⟩ := ih (j + 1) _ _ fu (by omega) (by omega) (Mn_now (k := j) hB0 t2) (fun i hi => by rw [gN_sN_c (by decide)]; exact ht i hi) (fun i hi => by
      by_cases hij : i = j
      · subst hij; rw [fup_s]
      · rw [fup_n hij]; exact hl i (by omega))
    refine ⟨S', e1, ?_⟩
    have e : (fun i => if i < n then th i else fup l j (th j) i) = (fun i => if i < n then th i else l i) := by
      funext i
      by_cases hi : i < n
      · rw [if_pos hi, if_pos hi]
      · rw [if_neg hi, if_neg hi, fup_n (by omega)]
    rw [e] at e2
    exact e2
theorem teach_343 {r sm : Bool} (hB : Mn S n lv top qk bl pr sd) (ht : Th S n th) : ∃ S', FX7_teach_343 (bI r) (bI sm) S = some (nI ((if r = true then 2 else 0) + (if sm = true then 0 else 1)), S') ∧ Mn S' n (fun i => if i < n then th i else lv i) top qk bl pr sd := by
  have h6 := hB.2.1
  exact teach_back n 0 S lv FU (by omega) (by unfold FU; omega) hB ht (fun i hi => absurd hi (by omega))
theorem follow_loop {one mask : Nat} (ho : one < n) (hm : mask < 2147483648) : ∀ (m j : Nat) (S : St) (l : Nat → Nat) (fu : Nat), j + m = n → m < fu → Mn S n lv top qk bl pr sd → Th S n l → (∀ i, j ≤ i → l i = lv i) →
    ∃ S', FX7_follow_2 fu (nI one) (nI mask) (nI j) S = some ((), S') ∧ Mn S' n lv top qk bl pr sd ∧ Th S' n (fun i => if j ≤ i ∧ i < n ∧ bt1 mask i = true ∧ lv i ≤ lv one then ri (lv i) (top i) 1 else l i) := by
  intro m
  induction m with
  | zero =>
    intro j S l fu hj hf hB ht hl
    obtain ⟨fu, rfl⟩ : ∃ k, fu = k + 1 := ⟨fu - 1, by omega⟩
    have hB0 := hB
    obtain ⟨h0, h6, hs, hs1, hh⟩ := hB
    simp (disch := omega) only [FX7_follow_2, h0, gdI, clI, clL, ltI, leI, eqI, nI_add, subI, pk_mul, divI, bd_s, li_0, li_1, li_2, li_3, li_4, li_5, li_6, li_7, li_8, li_9, li_10, li_20, li_31, li_32, li_36, li_40, li_44, li_48, li_50, li_57, li_59, li_63, li_97, li_99, li_100, li_122, li_255, li_300, li_400, li_1000, li_65536, li_96, li_18]
    rw [if_pos (show n ≤ j by omega)]
    refine ⟨S, rfl, hB0, fun i hi => ?_⟩
    dsimp only
    rw [if_neg (by omega)]
    exact ht i hi
  | succ m ih =>
    intro j S l fu hj hf hB ht hl
    obtain ⟨fu, rfl⟩ : ∃ k, fu = k + 1 := ⟨fu - 1, by omega⟩
    have hB0 := hB
    obtain ⟨h0, h6, hs, hs1, hh⟩ := hB
    have hjn : j < n := by omega
    obtain ⟨⟨a1, a2⟩, ⟨b1, b2⟩, -⟩ := hh j hjn
    obtain ⟨⟨c1, c2⟩, -⟩ := hh one ho
    have hr := mrise_eq hB0 ht (b := 1) hjn (by omega)
    have hhas : fX7_has (nI mask) (nI j) S = some (bI (bt1 mask j), S) := has_eq hm (by omega)
    simp (disch := omega) only [FX7_follow_2, FX7_follow_39, h0, a1, c1, hhas, hr, gdI, clI, clL, ltI, leI, eqI, nI_add, subI, pk_mul, divI, bd_s, li_0, li_1, li_2, li_3, li_4, li_5, li_6, li_7, li_8, li_9, li_10, li_20, li_31, li_32, li_36, li_40, li_44, li_48, li_50, li_57, li_59, li_63, li_97, li_99, li_100, li_122, li_255, li_300, li_400, li_1000, li_65536, li_96, li_18, bI_0]
    rw [if_neg (show ¬ n ≤ j by omega)]
    have skip : (¬ (bt1 mask j = true ∧ lv j ≤ lv one)) → ∃ S', FX7_follow_2 fu (nI one) (nI mask) (nI (j + 1)) S = some ((), S') ∧ Mn S' n lv top qk bl pr sd ∧ Th S' n (fun i => if j ≤ i ∧ i < n ∧ bt1 mask i = true ∧ lv i ≤ lv one then ri (lv i) (top i) 1 else l i) := by
      intro hc
      obtain ⟨S', e1, e2, e3⟩ := ih (j + 1) S l fu (by omega) (by omega) hB0 ht (fun i hi => hl i (by omega))
      refine ⟨S', e1, e2, fun i hi => ?_⟩
      have := e3 i hi
      dsimp only at this ⊢
      by_cases hij : i = j
      · subst hij
        rw [if_neg (by omega)] at this
        rw [if_neg (fun q => hc q.2.2)]
        exact this
      · simpa only [show (j ≤ i ∧ i < n ∧ bt1 mask i = true ∧ lv i ≤ lv one) ↔ (j + 1 ≤ i ∧ i < n ∧ bt1 mask i = true ∧ lv i ≤ lv one) from ⟨fun h => ⟨by omega, h.2⟩, fun h => ⟨by omega, h.2⟩⟩] using this
    by_cases hb : bt1 mask j = false
    · rw [if_pos hb]
      exact skip (by simp [hb])
    · rw [if_neg hb]
      by_cases hc : lv one < lv j
      · rw [if_pos hc]
        exact skip (by omega)
      · rw [if_neg hc]
        have hth : l j = lv j := hl j (Nat.le_refl _)
        obtain ⟨S', e1, e2, e3⟩ := ih (j + 1) _ _ fu (by omega) (by omega) (Mn_th hB0) (Th_th (k := j) ht (ri_le (l := l j) (t := top j) (b := 1) (by omega) (by omega))) (fun i hi => by rw [fup_n (by omega)]; exact hl i (by omega))
        refine ⟨S', e1, e2, fun i hi => ?_⟩
        have := e3 i hi
        dsimp only at this ⊢
        by_cases hij : i = j
        · subst hij
          rw [if_neg (by omega), fup_s, hth] at this
          rw [if_pos ⟨Nat.le_refl _, hi, by simpa using hb, by omega⟩]
          exact this
        · rw [fup_n hij] at this
          simpa only [show (j ≤ i ∧ i < n ∧ bt1 mask i = true ∧ lv i ≤ lv one) ↔ (j + 1 ≤ i ∧ i < n ∧ bt1 mask i = true ∧ lv i ≤ lv one) from ⟨fun h => ⟨by omega, h.2⟩, fun h => ⟨by omega, h.2⟩⟩] using this
theorem believe_loop {one mask : Nat} {dw : Bool} {x0 : (Nat → Nat) × Nat} (ho : one < n) (hm : mask < 2147483648) : ∀ (m j : Nat) (S : St) (fu : Nat), j + m = n → m < fu → Mn S n lv top qk bl pr (bfold (bt1 mask) lv bl one dw x0 j).2 → Th S n (bfold (bt1 mask) lv bl one dw x0 j).1 → (∀ i, j ≤ i → (bfold (bt1 mask) lv bl one dw x0 j).1 i = lv i) →
    ∃ S', FX7_believe_3 fu (nI one) (nI mask) (bI dw) (nI j) S = some ((), S') ∧ Mn S' n lv top qk bl pr (bfold (bt1 mask) lv bl one dw x0 n).2 ∧ Th S' n (bfold (bt1 mask) lv bl one dw x0 n).1 := by
  intro m
  induction m with
  | zero =>
    intro j S fu hj hf hB ht hl
    obtain ⟨fu, rfl⟩ : ∃ k, fu = k + 1 := ⟨fu - 1, by omega⟩
    have hj' : j = n := by omega
    subst hj'
    have hB0 := hB
    obtain ⟨h0, h6, hs, hs1, hh⟩ := hB
    simp (disch := omega) only [FX7_believe_3, h0, gdI, clI, clL, ltI, leI, eqI, nI_add, subI, pk_mul, divI, bd_s, li_0, li_1, li_2, li_3, li_4, li_5, li_6, li_7, li_8, li_9, li_10, li_20, li_31, li_32, li_36, li_40, li_44, li_48, li_50, li_57, li_59, li_63, li_97, li_99, li_100, li_122, li_255, li_300, li_400, li_1000, li_65536, li_96, li_18]
    exact ⟨S, by simp, hB0, ht⟩
  | succ m ih =>
    intro j S fu hj hf hB ht hl
    obtain ⟨fu, rfl⟩ : ∃ k, fu = k + 1 := ⟨fu - 1, by omega⟩
    have hB0 := hB
    obtain ⟨h0, h6, hs, hs1, hh⟩ := hB
    have hjn : j < n := by omega
    obtain ⟨⟨a1, a2⟩, -, -, ⟨d1, d2⟩, -⟩ := hh j hjn
    obtain ⟨t1, t2⟩ := ht j hjn
    have hlj := hl j (Nat.le_refl _)
    have hhas : fX7_has (nI mask) (nI j) S = some (bI (bt1 mask j), S) := has_eq hm (by omega)
    have hcm := isSo_eq hB0 (ch := bl j) (dw := dw) (by omega)
    have hB1 := Mn_sd hB0 (cm_lt (ch := bl j) (dw := dw) hs1)
    have hin : fX7_in ((nI (lv j)).toInt64) 1 6 S = some (bI (decide (1 ≤ lv j ∧ lv j ≤ 6)), S) := by
      rw [toI64 (by omega), show (1 : Int64) = lN 1 from rfl, show (6 : Int64) = lN 6 from rfl]
      exact in_eq (by omega) (by omega) (by omega)
    have hstep : bfold (bt1 mask) lv bl one dw x0 (j + 1) = bstep (bt1 mask) lv bl one dw j (bfold (bt1 mask) lv bl one dw x0 j) := rfl
    rw [FX7_believe_3]
    simp (disch := omega) only [FX7_believe_49, FX7_believe_50, FX7_believe_88, FX7_believe_89, h0, hhas, a1, hin, d1, hcm, t1, gdI, clI, clL, ltI, leI, eqI, nI_add, subI, pk_mul, divI, bd_s, li_0, li_1, li_2, li_3, li_4, li_5, li_6, li_7, li_8, li_9, li_10, li_20, li_31, li_32, li_36, li_40, li_44, li_48, li_50, li_57, li_59, li_63, li_97, li_99, li_100, li_122, li_255, li_300, li_400, li_1000, li_65536, li_96, li_18, bI_0, gN_sN_c (show (54 : Nat) ≠ 44 by decide)]
    rw [if_neg (show ¬ n ≤ j by omega)]
    have key0 : mayB (bt1 mask) lv one j = false → ∃ S', FX7_believe_3 fu (nI one) (nI mask) (bI dw) (nI (j + 1)) (sN S 54 j (nI ((bfold (bt1 mask) lv bl one dw x0 j).1 j - 0))) = some ((), S') ∧ Mn S' n lv top qk bl pr (bfold (bt1 mask) lv bl one dw x0 n).2 ∧ Th S' n (bfold (bt1 mask) lv bl one dw x0 n).1 := by
      intro hb
      have hst : bfold (bt1 mask) lv bl one dw x0 (j + 1) = bfold (bt1 mask) lv bl one dw x0 j := by
        rw [hstep, bstep, if_neg (by simp [hb])]
      rw [Nat.sub_zero, sN_self t1]
      exact ih (j + 1) S fu (by omega) (by omega) (by rw [hst]; exact hB0) (by rw [hst]; exact ht) (fun i hi => by rw [hst]; exact hl i (by omega))
    simp only [if_true, show ¬ (1 = 0) by decide, if_false]
    by_cases hb : bt1 mask j = false
    · rw [if_pos hb]
      exact key0 (by simp [mayB, hb])
    · rw [if_neg hb]
      have hbt : bt1 mask j = true := by simpa using hb
      by_cases hjo : j = one
      · rw [if_pos hjo]
        exact key0 (by simp [mayB, hjo])
      · rw [if_neg hjo]
        by_cases h16 : 1 ≤ lv j ∧ lv j ≤ 6
        · rw [if_neg (by simp [h16])]
          have hmb : mayB (bt1 mask) lv one j = true := by simp [mayB, hbt, hjo, h16]
          by_cases hc : (cm (bl j) dw (bfold (bt1 mask) lv bl one dw x0 j).2).1 = false
          · rw [if_pos hc]
            have hst : bfold (bt1 mask) lv bl one dw x0 (j + 1) = ((bfold (bt1 mask) lv bl one dw x0 j).1, (cm (bl j) dw (bfold (bt1 mask) lv bl one dw x0 j).2).2) := by
              rw [hstep, bstep, if_pos hmb, if_neg (by simp [hc])]
            rw [Nat.sub_zero, sN_self (by rw [gN_sN_c (by decide)]; exact t1)]
            exact ih (j + 1) _ fu (by omega) (by omega) (by rw [hst]; exact hB1) (by rw [hst]; exact Th_sd ht) (fun i hi => by rw [hst]; exact hl i (by omega))
          · rw [if_neg hc]
            have hst : bfold (bt1 mask) lv bl one dw x0 (j + 1) = (fup (bfold (bt1 mask) lv bl one dw x0 j).1 j (lv j - 1), (cm (bl j) dw (bfold (bt1 mask) lv bl one dw x0 j).2).2) := by
              rw [hstep, bstep, if_pos hmb, if_pos (by simpa using hc)]
            rw [hlj]
            simp (disch := omega) only [gdI, clI, clL, ltI, leI, eqI, nI_add, subI, pk_mul, divI, bd_s, li_0, li_1, li_2, li_3, li_4, li_5, li_6, li_7, li_8, li_9, li_10, li_20, li_31, li_32, li_36, li_40, li_44, li_48, li_50, li_57, li_59, li_63, li_97, li_99, li_100, li_122, li_255, li_300, li_400, li_1000, li_65536, li_96, li_18]
            exact ih (j + 1) _ fu (by omega) (by omega) (by rw [hst]; exact Mn_th hB1) (by rw [hst]; exact Th_th (Th_sd ht) (by omega)) (fun i hi => by rw [hst]; exact (fup_n (by omega)).trans (hl i (by omega)))
        · rw [if_pos (by simpa using h16)]
          exact key0 (by simp [mayB]; omega)
end
