/-! ===== a likely lesson in closed form ===== -/
theorem ri_ge {l t b : Nat} : l ≤ ri l t b := by unfold ri; split <;> (try split) <;> omega
def gdB (n : Nat) (mk : Nat → Bool) (v : Nat → Nat) (g : Bool) : Bool := g || decide (∃ i, i < n ∧ mk i = true ∧ 5 ≤ v i)
/-- levels behind a likely lesson -/
def lkv (n : Nat) (mk : Nat → Bool) (top qk bl : Nat → Nat) (g : Bool) (v : Nat → Nat) (one i : Nat) : Nat :=
  if 5 ≤ v one then (if mk i = true ∧ v i ≤ v one then ri (v i) (top i) 1 else v i)
  else if gdB n mk v g = true then (if i = one then ri (v i) (top i) (qk i) else if mk i = true ∧ 5 ≤ v i then ri (v i) (top i) 1 else v i)
  else (if mk i = true ∧ i ≠ one ∧ 1 ≤ v i ∧ v i ≤ 6 ∧ 50 ≤ bl i then v i - 1 else v i)
section
variable {mk : Nat → Bool} {lv top qk bl pr : Nat → Nat} {g : Bool} {n one sd : Nat}
theorem nfold_1 {r : Bool} {s : Nat} : ∀ j i, (nfold mk lv one r false (fun _ => false, false, s) j).1 i = (decide (i < j) && (surer mk lv one i && decide (50 ≤ noc (lv i) r))) := by
  intro j
  induction j with
  | zero => intro i; simp [nfold]
  | succ j ih =>
    intro i
    rw [nfold, nstep]
    by_cases hs : surer mk lv one j = true
    · rw [if_pos hs, cm_f]
      dsimp only
      by_cases hij : i = j
      · subst hij; rw [fup_s, hs]; simp
      · rw [fup_n hij, ih i]
        have : decide (i < j + 1) = decide (i < j) := decide_eq_decide.mpr (by omega)
        rw [this]
    · rw [if_neg hs]
      dsimp only
      by_cases hij : i = j
      · subst hij; rw [fup_s]
        have : surer mk lv one i = false := by simpa using hs
        rw [this]; simp
      · rw [fup_n hij, ih i]
        have : decide (i < j + 1) = decide (i < j) := decide_eq_decide.mpr (by omega)
        rw [this]
theorem nfold_2 {r : Bool} {s : Nat} : ∀ j, (nfold mk lv one r false (fun _ => false, false, s) j).2.1 = decide (∃ i, i < j ∧ surer mk lv one i = true ∧ 50 ≤ noc (lv i) r) := by
  intro j
  induction j with
  | zero => simp [nfold]
  | succ j ih =>
    rw [nfold, nstep]
    have hex : (∃ i, i < j + 1 ∧ surer mk lv one i = true ∧ 50 ≤ noc (lv i) r) ↔ (∃ i, i < j ∧ surer mk lv one i = true ∧ 50 ≤ noc (lv i) r) ∨ (surer mk lv one j = true ∧ 50 ≤ noc (lv j) r) := by
      constructor
      · intro ⟨i, hi, h⟩
        by_cases hij : i = j
        · subst hij; exact Or.inr h
        · exact Or.inl ⟨i, by omega, h⟩
      · rintro (⟨i, hi, h⟩ | h)
        · exact ⟨i, by omega, h⟩
        · exact ⟨j, by omega, h⟩
    by_cases hs : surer mk lv one j = true
    · rw [if_pos hs, cm_f]
      dsimp only
      rw [ih, ← Bool.decide_or]
      exact decide_eq_decide.mpr (by rw [hex]; simp [hs])
    · rw [if_neg hs]
      dsimp only
      rw [ih]
      exact decide_eq_decide.mpr (by rw [hex]; simp [hs])
theorem bfold_1 {s : Nat} : ∀ j i, (bfold mk lv bl one false (lv, s) j).1 i = if i < j ∧ mayB mk lv one i = true ∧ 50 ≤ bl i then lv i - 1 else lv i := by
  intro j
  induction j with
  | zero => intro i; rw [if_neg (by omega)]; rfl
  | succ j ih =>
    intro i
    rw [bfold, bstep]
    by_cases hs : mayB mk lv one j = true
    · rw [if_pos hs, cm_f]
      dsimp only
      by_cases hb : 50 ≤ bl j
      · rw [if_pos (decide_eq_true hb)]
        by_cases hij : i = j
        · subst hij; rw [fup_s, if_pos ⟨by omega, hs, hb⟩]
        · rw [fup_n hij, ih i]
          by_cases h : i < j ∧ mayB mk lv one i = true ∧ 50 ≤ bl i
          · rw [if_pos h, if_pos ⟨by omega, h.2⟩]
          · rw [if_neg h, if_neg (fun q => h ⟨by omega, q.2⟩)]
      · rw [if_neg (by simp [hb]), ih i]
        by_cases h : i < j ∧ mayB mk lv one i = true ∧ 50 ≤ bl i
        · rw [if_pos h, if_pos ⟨by omega, h.2⟩]
        · rw [if_neg h, if_neg (fun q => h ⟨by
            by_cases hij : i = j
            · subst hij; exact absurd q.2.2 hb
            · omega, q.2⟩)]
    · rw [if_neg hs, ih i]
      by_cases h : i < j ∧ mayB mk lv one i = true ∧ 50 ≤ bl i
      · rw [if_pos h, if_pos ⟨by omega, h.2⟩]
      · rw [if_neg h, if_neg (fun q => h ⟨by
          by_cases hij : i = j
          · subst hij; exact absurd q.2.1 hs
          · omega, q.2⟩)]
theorem lesR_f : (lesR lv one false sd).1 = decide (5 ≤ lv one) := by
  rw [lesR, cm_f]
  exact decide_eq_decide.mpr (by omega)
theorem lesG_1 : (lesG n mk lv g one false sd).1 = (!decide (5 ≤ lv one) && gdB n mk lv g) := by
  have h2 : (lesN n mk lv one false sd).2.1 = decide (∃ i, i < n ∧ surer mk lv one i = true ∧ 50 ≤ noc (lv i) (decide (5 ≤ lv one))) := by
    rw [lesN, lesR_f, nfold_2]
  by_cases h5 : 5 ≤ lv one
  · have hno : ¬ ∃ i, i < n ∧ surer mk lv one i = true ∧ 50 ≤ noc (lv i) true := by
      intro ⟨i, _, _, h⟩
      unfold noc at h
      rw [if_pos rfl] at h
      omega
    rw [decide_eq_true h5] at h2 ⊢
    rw [decide_eq_false hno] at h2
    unfold lesG
    rw [h2, lesR_f, decide_eq_true h5, cm_f]
    split <;> rfl
  · rw [decide_eq_false h5] at h2 ⊢
    have hiff : (∃ i, i < n ∧ surer mk lv one i = true ∧ 50 ≤ noc (lv i) false) ↔ ∃ i, i < n ∧ mk i = true ∧ 5 ≤ lv i := by
      constructor
      · intro ⟨i, hi, hs, h⟩
        unfold surer at hs
        unfold noc at h
        rw [if_neg (by decide)] at h
        simp only [Bool.and_eq_true] at hs
        exact ⟨i, hi, hs.1, by omega⟩
      · intro ⟨i, hi, hm, h⟩
        refine ⟨i, hi, ?_, ?_⟩
        · unfold surer
          rw [hm, Bool.true_and]
          exact decide_eq_true ⟨fun q => by subst q; omega, by omega⟩
        · unfold noc; rw [if_neg (by decide)]; omega
    have h3 : (lesN n mk lv one false sd).2.1 = decide (∃ i, i < n ∧ mk i = true ∧ 5 ≤ lv i) := h2.trans (decide_eq_decide.mpr hiff)
    unfold lesG
    rw [h3, lesR_f, decide_eq_false h5, cm_f]
    unfold gdB
    by_cases hgt : g = true
    · rw [if_pos (by simp [hgt]; omega)]; simp [noc, hgt]
    · have hgf : g = false := by simpa using hgt
      simp [hgf]
theorem les_lkv (ho : one < n) {i : Nat} (hi : i < n) : lesLv n mk lv top qk bl pr g one false sd i = lkv n mk top qk bl g lv one i := by
  unfold lesLv lkv
  rw [lesR_f, lesG_1]
  by_cases h5 : 5 ≤ lv one
  · rw [if_pos (decide_eq_true h5), if_pos h5, decide_eq_true h5, if_neg (by simp)]
  · rw [if_neg (by simp [h5]), if_neg h5, decide_eq_false h5]
    simp only [Bool.not_false, Bool.true_and]
    by_cases hg : gdB n mk lv g = true
    · rw [if_pos hg, if_pos hg]
      by_cases hio : i = one
      · rw [if_pos hio, if_pos hio]
      · rw [if_neg hio, if_neg hio, lesN, lesR_f, nfold_1, decide_eq_false h5]
        have : (decide (i < n) && (surer mk lv one i && decide (50 ≤ noc (lv i) false))) = true ↔ mk i = true ∧ 5 ≤ lv i := by
          simp only [Bool.and_eq_true, decide_eq_true_eq, surer, noc, Bool.false_eq_true, if_false]
          constructor
          · intro h; exact ⟨h.2.1.1, by omega⟩
          · intro h; exact ⟨hi, ⟨h.1, hio, by omega⟩, by omega⟩
        by_cases hc : mk i = true ∧ 5 ≤ lv i
        · rw [if_pos (this.mpr hc), if_pos hc]
        · rw [if_neg (fun q => hc (this.mp q)), if_neg hc]
    · rw [if_neg hg, if_neg hg, lesB, bfold_1]
      have : (i < n ∧ mayB mk lv one i = true ∧ 50 ≤ bl i) ↔ (mk i = true ∧ i ≠ one ∧ 1 ≤ lv i ∧ lv i ≤ 6 ∧ 50 ≤ bl i) := by
        simp only [mayB, Bool.and_eq_true, decide_eq_true_eq]
        constructor
        · intro ⟨_, ⟨h1, h2, h3, h4⟩, h5⟩; exact ⟨h1, h2, h3, h4, h5⟩
        · intro ⟨h1, h2, h3, h4, h5⟩; exact ⟨hi, ⟨h1, h2, h3, h4⟩, h5⟩
      by_cases hc : i < n ∧ mayB mk lv one i = true ∧ 50 ≤ bl i
      · rw [if_pos hc, if_pos (this.mp hc)]
      · rw [if_neg hc, if_neg (fun q => hc (this.mpr q))]
/-! what a likely lesson can do -/
variable {v v' : Nat → Nat}
theorem gdB_congr (h : ∀ i, i < n → mk i = true → v i = v' i) : gdB n mk v g = gdB n mk v' g := by
  unfold gdB
  congr 1
  exact decide_eq_decide.mpr ⟨fun ⟨i, a, b, c⟩ => ⟨i, a, b, by rw [← h i a b]; exact c⟩, fun ⟨i, a, b, c⟩ => ⟨i, a, b, by rw [h i a b]; exact c⟩⟩
theorem lkv_congr (h : ∀ i, i < n → mk i = true → v i = v' i) (ho : one < n) (hm : mk one = true) {i : Nat} (hi : i < n) (hmi : mk i = true) : lkv n mk top qk bl g v one i = lkv n mk top qk bl g v' one i := by
  unfold lkv
  rw [gdB_congr h, h one ho hm, h i hi hmi]
theorem lkv_ge (hg : gdB n mk v g = true) (i : Nat) : v i ≤ lkv n mk top qk bl g v one i := by
  unfold lkv
  rw [if_pos hg]
  split
  · split
    · exact ri_ge
    · exact Nat.le_refl _
  · split
    · exact ri_ge
    · split
      · exact ri_ge
      · exact Nat.le_refl _
theorem lkv_le {i : Nat} (h : v i ≤ 9) (ht : top i ≤ 9) : lkv n mk top qk bl g v one i ≤ 9 := by
  unfold lkv
  split
  · split
    · exact ri_le h ht
    · exact h
  · split
    · split
      · exact ri_le h ht
      · split
        · exact ri_le h ht
        · exact h
    · split <;> omega
theorem lkv_bad (hg : ¬ gdB n mk v g = true) (ho : one < n) (hm : mk one = true) (i : Nat) : lkv n mk top qk bl g v one i ≤ v i := by
  have h5 : ¬ 5 ≤ v one := fun q => hg (by unfold gdB; simp only [Bool.or_eq_true, decide_eq_true_eq]; exact Or.inr ⟨one, ho, hm, q⟩)
  unfold lkv
  rw [if_neg h5, if_neg hg]
  split <;> omega
theorem gdB_bad (hg : ¬ gdB n mk v g = true) (h : ∀ i, i < n → mk i = true → v' i ≤ v i) : ¬ gdB n mk v' g = true := by
  intro q
  apply hg
  unfold gdB at q ⊢
  simp only [Bool.or_eq_true, decide_eq_true_eq] at q ⊢
  rcases q with q | ⟨i, a, b, c⟩
  · exact Or.inl q
  · exact Or.inr ⟨i, a, b, by have := h i a b; omega⟩
theorem ri_9 {t b : Nat} (ht : t ≤ 9) : ri 9 t b = 9 := by unfold ri; rw [if_neg (by omega)]
theorem lkv_9 {i : Nat} (h : v i = 9) (ht : top i ≤ 9) : lkv n mk top qk bl g v one i = 9 := by
  unfold lkv
  simp only [h, ri_9 ht]
  split
  · split <;> rfl
  · split
    · split
      · rfl
      · split <;> rfl
    · rw [if_neg (by omega)]
end
