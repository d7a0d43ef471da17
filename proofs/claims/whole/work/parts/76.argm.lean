/-! ===== least, greatest, chosen, tell ===== -/
theorem toInt_sub {a b : Nat} (ha : a < 1073741824) (hb : b < 1073741824) : (nI a - nI b).toInt = (a : Int) - b := by
  rw [Int32.toInt_sub, nI_toInt (by omega), nI_toInt (by omega), Int.bmod_def]
  split <;> omega
theorem sub_le {a b c d : Nat} (ha : a < 1073741824) (hb : b < 1073741824) (hc : c < 1073741824) (hd : d < 1073741824) : nI a - nI b ≤ nI c - nI d ↔ a + d ≤ c + b := by
  rw [Int32.le_iff_toInt_le, toInt_sub ha hb, toInt_sub hc hd]
  omega
theorem sub_lt {a b c d : Nat} (ha : a < 1073741824) (hb : b < 1073741824) (hc : c < 1073741824) (hd : d < 1073741824) : nI a - nI b < nI c - nI d ↔ a + d < c + b := by
  rw [Int32.lt_iff_toInt_lt, toInt_sub ha hb, toInt_sub hc hd]
  omega
theorem sub_eq {a b c d : Nat} (ha : a < 1073741824) (hb : b < 1073741824) (hc : c < 1073741824) (hd : d < 1073741824) : nI a - nI b = nI c - nI d ↔ a + d = c + b := by
  rw [← Int32.toInt_inj, toInt_sub ha hb, toInt_sub hc hd]
  omega
theorem sub_zero (x : Int32) : x - nI 0 = x := Int32.sub_zero x
/-- the level that one seems to have, nine more -/
def vz (lv : Nat → Nat) (se : Int32) (le i : Nat) : Nat := lv i + 9 - (if nI i = se then le else 0)
/-- the first of the least -/
def am (v : Nat → Nat) : Nat → Nat
  | 0 => 0
  | k + 1 => if v k < v (am v k) then k else am v k
theorem am_lt (v : Nat → Nat) : ∀ k, 0 < k → am v k < k := by
  intro k
  induction k with
  | zero => intro h; omega
  | succ k ih =>
    intro _
    rw [am]
    split
    · omega
    · cases k with
      | zero => rw [am]; omega
      | succ k => have := ih (by omega); omega
/-- the first of the greatest below a limit; none -/
def gb (lim : Nat) (lv : Nat → Nat) : Nat → Option Nat
  | 0 => none
  | k + 1 => if lv k < lim ∧ (∀ b, gb lim lv k = some b → lv b < lv k) then some k else gb lim lv k
theorem gb_lt {lim : Nat} {lv : Nat → Nat} : ∀ k b, gb lim lv k = some b → b < k := by
  intro k
  induction k with
  | zero => intro b h; cases h
  | succ k ih =>
    intro b h
    rw [gb] at h
    split at h
    · cases h; omega
    · have := ih b h; omega
/-- who that is; pupil 0 where none is -/
def gw (lim : Nat) (lv : Nat → Nat) (n : Nat) : Nat := match gb lim lv n with
  | none => 0
  | some b => b
theorem gw_lt {lim : Nat} {lv : Nat → Nat} {n : Nat} (h : 0 < n) : gw lim lv n < n := by
  unfold gw
  split
  · exact h
  · next b e => exact gb_lt n b e
/-- the level that the greatest has, as an int: -1 where none is -/
def gv (lim : Nat) (lv : Nat → Nat) (n : Nat) : Int32 := match gb lim lv n with
  | none => -1
  | some b => nI (lv b)
def chz (lv : Nat → Nat) (n rule tu : Nat) : Nat := if rule = 0 then am (vz lv (-1) 0) n else if rule = 1 then tu else gw 9 lv n
theorem chz_lt {lv : Nat → Nat} {n rule tu : Nat} (h : tu < n) : chz lv n rule tu < n := by
  unfold chz
  split
  · exact am_lt _ n (by omega)
  · split
    · exact h
    · exact gw_lt (by omega)
section
variable {S : St} {n : Nat} {lv top qk bl pr : Nat → Nat} {g : Bool} {sd : Nat}
theorem least_eq (hB : Bn S n lv top qk bl pr g sd) {se : Int32} {le : Nat} (hl : le ≤ 9) : fX0_least se (nI le) S = some (nI (am (vz lv se le) n), S) := by
  obtain ⟨h0, h6, hg, hs, hs1, hh⟩ := hB
  have h9 : ∀ i, i < n → lv i ≤ 9 := fun i hi => (hh i hi).1.2
  exact loopFU (fun fu (s : Int32 × Int32 × Int32 × St) => FX0_least_9 fu se (nI le) s.1 s.2.1 s.2.2.1 s.2.2.2) (fun j s => s = (nI (am (vz lv se le) j), (if j = 0 then nI 19 - nI 9 else nI (vz lv se le (am (vz lv se le) j)) - nI 9), nI j, S)) (fun r => r = some (nI (am (vz lv se le) n), S)) n (FU_lt (by omega))
    (by
      intro j fu s hj hi
      subst hi
      obtain ⟨⟨a1, a2⟩, -⟩ := hh j hj
      have hv : ∀ i, i < n → vz lv se le i ≤ 18 := fun i hi => by have := h9 i hi; unfold vz; omega
      have e : (if nI j = se then nI (lv j) - nI le else nI (lv j)) = nI (vz lv se le j) - nI 9 := by
        unfold vz
        by_cases hse : nI j = se
        · rw [if_pos hse, if_pos hse, sub_eq (by omega) (by omega) (by omega) (by omega)]; omega
        · rw [if_neg hse, if_neg hse, subI (by omega)]; congr 1
      refine Or.inl ⟨(nI (am (vz lv se le) (j + 1)), nI (vz lv se le (am (vz lv se le) (j + 1))) - nI 9, nI (j + 1), S), ?_, by rw [if_neg (by omega)]⟩
      dsimp only
      rw [FX0_least_9, h0]
      have e2 : ∀ (x y : Option (Int32 × St)), (if nI j = se then x else y) = if nI j = se then x else y := fun _ _ => rfl
      simp (disch := omega) only [gdI, clI, clL, ltI, leI, eqI, nI_add, subI, pk_mul, divI, bd_s, li_0, li_1, li_2, li_3, li_4, li_5, li_6, li_7, li_8, li_9, li_10, li_20, li_31, li_32, li_36, li_40, li_44, li_48, li_50, li_57, li_59, li_63, li_97, li_99, li_100, li_122, li_255, li_300, li_400, li_1000, li_65536, li_96, li_18, a1]
      rw [if_neg (show ¬ n ≤ j by omega)]
      have go : FX0_least_43 (fun l1_ l2_ l3_ l4_ l5_ S_ => FX0_least_9 fu l1_ l2_ l3_ l4_ l5_ S_) se (nI le) (nI (am (vz lv se le) j)) (if j = 0 then nI 19 - nI 9 else nI (vz lv se le (am (vz lv se le) j)) - nI 9) (nI j) (nI (vz lv se le j) - nI 9) S = FX0_least_9 fu se (nI le) (nI (am (vz lv se le) (j + 1))) (nI (vz lv se le (am (vz lv se le) (j + 1))) - nI 9) (nI (j + 1)) S := by
        have hvj := hv j hj
        simp only [FX0_least_43, FX0_least_59, li_1, nI_add]
        by_cases hj0 : j = 0
        · subst hj0
          rw [if_pos rfl, if_neg (by rw [sub_le (by omega) (by omega) (by omega) (by omega)]; omega), am, am]
          simp only [Nat.lt_irrefl, if_false]
        · have hva := hv (am (vz lv se le) j) (Nat.lt_trans (am_lt _ j (by omega)) hj)
          rw [if_neg hj0, am]
          by_cases hlt : vz lv se le j < vz lv se le (am (vz lv se le) j)
          · rw [if_neg (by rw [sub_le (by omega) (by omega) (by omega) (by omega)]; omega), if_pos hlt]
          · rw [if_pos (by rw [sub_le (by omega) (by omega) (by omega) (by omega)]; omega), if_neg hlt]
      by_cases hse : nI j = se
      · rw [if_pos hse]
        rw [if_pos hse] at e
        rw [e]; exact go
      · rw [if_neg hse]
        rw [if_neg hse] at e
        rw [e]; exact go)
    (by
      intro fu s hi
      subst hi
      dsimp only
      rw [FX0_least_9, h0, if_pos (Int32.le_refl _)])
    (nI 0, nI 19 - nI 9, nI 0, S) rfl
theorem greatestBelow_eq (hB : Bn S n lv top qk bl pr g sd) {lim : Nat} (hl : lim ≤ 10) : fX0_greatestBelow (nI lim) S = some (nI (gw lim lv n), S) := by
  obtain ⟨h0, h6, hg, hs, hs1, hh⟩ := hB
  have h9 : ∀ i, i < n → lv i ≤ 9 := fun i hi => (hh i hi).1.2
  exact loopFU (fun fu (s : Int32 × Int32 × Int32 × St) => FX0_greatestBelow_7 fu (nI lim) s.1 s.2.1 s.2.2.1 s.2.2.2) (fun j s => s = (nI (gw lim lv j), gv lim lv j, nI j, S)) (fun r => r = some (nI (gw lim lv n), S)) n (FU_lt (by omega))
    (by
      intro j fu s hj hi
      subst hi
      obtain ⟨⟨a1, a2⟩, -⟩ := hh j hj
      refine Or.inl ⟨(nI (gw lim lv (j + 1)), gv lim lv (j + 1), nI (j + 1), S), ?_, rfl⟩
      dsimp only
      rw [FX0_greatestBelow_7, h0]
      simp (disch := omega) only [gdI, clI, clL, ltI, leI, eqI, nI_add, subI, pk_mul, divI, bd_s, li_0, li_1, li_2, li_3, li_4, li_5, li_6, li_7, li_8, li_9, li_10, li_20, li_31, li_32, li_36, li_40, li_44, li_48, li_50, li_57, li_59, li_63, li_97, li_99, li_100, li_122, li_255, li_300, li_400, li_1000, li_65536, li_96, li_18, a1, FX0_greatestBelow_49]
      rw [if_neg (show ¬ n ≤ j by omega)]
      by_cases hlim : lim ≤ lv j
      · rw [if_pos hlim]
        have : gb lim lv (j + 1) = gb lim lv j := by rw [gb, if_neg (fun q => by omega)]
        simp only [gw, gv, this]
      · rw [if_neg hlim]
        have hv : nI (lv j) ≤ gv lim lv j ↔ ∃ b, gb lim lv j = some b ∧ lv j ≤ lv b := by
          unfold gv
          cases hg' : gb lim lv j with
          | none => exact ⟨fun q => absurd q (by rw [← neg1, ← sub_zero (nI (lv j)), sub_le (by omega) (by omega) (by omega) (by omega)]; omega), fun ⟨b, q, _⟩ => nomatch q⟩
          | some b =>
            have := h9 b (Nat.lt_trans (gb_lt j b hg') hj)
            simp only [leI (show lv j < 2147483648 by omega) (show lv b < 2147483648 by omega)]
            exact ⟨fun q => ⟨b, rfl, q⟩, fun ⟨b', q, h⟩ => by cases q; exact h⟩
        by_cases hb : ∃ b, gb lim lv j = some b ∧ lv j ≤ lv b
        · rw [if_pos (hv.mpr hb)]
          obtain ⟨b, e1, e2⟩ := hb
          have : gb lim lv (j + 1) = gb lim lv j := by rw [gb, if_neg (fun q => by have := q.2 b e1; omega)]
          simp only [gw, gv, this]
        · rw [if_neg (fun q => hb (hv.mp q))]
          have : gb lim lv (j + 1) = some j := by rw [gb, if_pos ⟨by omega, fun b e => Nat.lt_of_not_le fun q => hb ⟨b, e, q⟩⟩]
          simp only [gw, gv, this])
    (by
      intro fu s hi
      subst hi
      dsimp only
      rw [FX0_greatestBelow_7, h0, if_pos (Int32.le_refl _)])
    (nI 0, -1, nI 0, S) rfl
theorem chosen_eq (hB : Bn S n lv top qk bl pr g sd) {rule tu : Nat} (hr : rule < 3) : fX0_chosen (nI rule) (nI tu) S = some (nI (chz lv n rule tu), S) := by
  have h1 := least_eq hB (se := -1) (le := 0) (by omega)
  have h2 := greatestBelow_eq hB (lim := 9) (by omega)
  unfold chz fX0_chosen
  match rule, hr with
  | 0, _ => rw [if_pos (by decide), if_pos rfl, show (0 : Int32) = nI 0 from rfl, h1]; rfl
  | 1, _ => rw [if_neg (by decide), if_pos (by decide), if_neg (by decide), if_pos rfl]
  | 2, _ => rw [if_neg (by decide), if_neg (by decide), if_neg (by decide), if_neg (by decide), show (9 : Int32) = nI 9 from rfl, h2]; rfl
end
