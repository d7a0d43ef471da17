/-! ===== what both sides hold ===== -/
theorem toInt64_toInt (x : Int32) : x.toInt64.toInt = x.toInt := Int32.toInt_toInt64 x
theorem cmp_lt {x y : Int32} : lg_cmp x.toInt64 y.toInt64 < 0 ↔ x < y := by
  have e1 : (x.toInt64 > y.toInt64) ↔ y < x := by rw [gt_iff_lt, Int64.lt_iff_toInt_lt, Int32.lt_iff_toInt_lt, toInt64_toInt, toInt64_toInt]
  have e2 : (x.toInt64 = y.toInt64) ↔ x = y := by rw [← Int64.toInt_inj, toInt64_toInt, toInt64_toInt, Int32.toInt_inj]
  rw [lg_cmp]
  by_cases h : y < x
  · rw [if_pos (e1.mpr h)]
    exact ⟨fun q => absurd q (by decide), fun q => absurd (Int32.lt_trans h q) (Int32.lt_irrefl)⟩
  · rw [if_neg (fun q => h (e1.mp q))]
    by_cases h2 : x = y
    · rw [if_pos (e2.mpr h2)]
      exact ⟨fun q => absurd q (by decide), fun q => by subst h2; exact absurd q (Int32.lt_irrefl)⟩
    · rw [if_neg (fun q => h2 (e2.mp q))]
      refine ⟨fun _ => ?_, fun _ => by decide⟩
      have := Int32.not_lt.mp h
      exact Int32.lt_of_le_of_ne this h2
theorem cmp_gt {x y : Int32} : 0 < lg_cmp x.toInt64 y.toInt64 ↔ y < x := by
  have e1 : (x.toInt64 > y.toInt64) ↔ y < x := by rw [gt_iff_lt, Int64.lt_iff_toInt_lt, Int32.lt_iff_toInt_lt, toInt64_toInt, toInt64_toInt]
  rw [lg_cmp]
  by_cases h : y < x
  · rw [if_pos (e1.mpr h)]
    exact ⟨fun _ => h, fun _ => by decide⟩
  · rw [if_neg (fun q => h (e1.mp q))]
    refine ⟨fun q => absurd q ?_, fun q => absurd q h⟩
    split <;> decide
theorem in_gen {S : St} {x lo hi : Int32} : fX7_in x.toInt64 lo.toInt64 hi.toInt64 S = some (bI (decide (lo ≤ x ∧ x ≤ hi)), S) := by
  simp only [fX7_in, FX7_in_17, cmp_lt, cmp_gt]
  by_cases h1 : x < lo
  · rw [if_pos h1, decide_eq_false (fun q => Int32.not_lt.mpr q.1 h1)]; rfl
  · rw [if_neg h1]
    by_cases h2 : hi < x
    · rw [if_pos h2, decide_eq_false (fun q => Int32.not_lt.mpr q.2 h2)]; rfl
    · rw [if_neg h2, decide_eq_true ⟨Int32.not_lt.mp h1, Int32.not_lt.mp h2⟩]; rfl
theorem inB_get {x : Int32} {n : Nat} (h : inB x n = true) : ∃ p, p < n ∧ p < 2147483648 ∧ x = nI p := by
  simp only [inB, Bool.and_eq_true, decide_eq_true_eq] at h
  obtain ⟨j, hj, e⟩ := nI_of (x := x) (Int32.not_lt.mpr h.1)
  refine ⟨j, ?_, hj, e⟩
  have := h.2
  rwa [e, nI_clamp hj] at this
theorem inB_dec {x : Int32} {n : Nat} (hn : n < 2147483648) : decide ((0 : Int32) ≤ x ∧ x ≤ nI n - 1) = inB x n := by
  by_cases h0 : 0 ≤ x
  · obtain ⟨j, hj, e⟩ := nI_of (x := x) (Int32.not_lt.mpr h0)
    subst e
    simp only [inB, h0, true_and, decide_true, Bool.true_and, nI_clamp hj]
    cases n with
    | zero =>
      rw [show nI 0 - 1 = -1 by decide]
      have : ¬ nI j ≤ -1 := by
        intro q
        have := Int32.le_trans h0 q
        exact absurd this (by decide)
      simp [this]
    | succ n =>
      rw [show nI (n + 1) - 1 = nI n from nI_pred n]
      exact decide_eq_decide.mpr ⟨fun q => by rw [leI hj (by omega)] at q; omega, fun q => by rw [leI hj (by omega)]; omega⟩
  · simp [inB, h0]
/-- the images and the log; the text; the fault: all that a run shows -/
def Cx : Type := (Nat × (Nat → Nat) × Int32) × Sk × Sd × ((Bool × Sd) × (Bool × Sd)) × (Nat × (Nat → Nat) × (Nat → Nat))
def xL (c : Cx) : Nat := c.1.1
def xT (c : Cx) : Nat → Nat := c.1.2.1
def xF (c : Cx) : Int32 := c.1.2.2
def xK (c : Cx) : Sk := c.2.1
def xS (c : Cx) : Sd := c.2.2.1
def x0 (c : Cx) : Bool × Sd := c.2.2.2.1.1
def x1 (c : Cx) : Bool × Sd := c.2.2.2.1.2
def xN (c : Cx) : Nat := c.2.2.2.2.1
def xP (c : Cx) : Nat → Nat := c.2.2.2.2.2.1
def xU (c : Cx) : Nat → Nat := c.2.2.2.2.2.2
def setS (c : Cx) (s : Sd) : Cx := (c.1, c.2.1, s, c.2.2.2)
def WC (c : Cx) : Prop := WK (xK c) ∧ WS (xK c) (xS c) ∧ ((x0 c).1 = true → WS (xK c) (x0 c).2) ∧ ((x1 c).1 = true → WS (xK c) (x1 c).2) ∧ xL c ≤ 400 ∧ (∀ i, i < xL c → xT c i < 256) ∧ xN c ≤ 40 ∧ ∀ i, i < xN c → xP c i < np (xK c) ∧ xU c i < nt (xK c)
/-- a byte as Java has it -/
def byI (x : Nat) : Int32 := if x < 128 then nI x else nI x - nI 256
def RC (S : St) (c : Cx) : Prop :=
  ((gR S 0 1 = 3 ∧ gR S 0 2 = 9) ∨ (gR S 0 1 = 9 ∧ gR S 0 2 = 3)) ∧ ((gR S 33 0 = 34 ∧ gR S 33 1 = 35) ∨ (gR S 33 0 = 35 ∧ gR S 33 1 = 34)) ∧
  SkC S (gR S 0 1) (xK c) ∧ SdC S 15 (xK c) (xS c) ∧ ((x0 c).1 = true → SdC S 19 (xK c) (x0 c).2) ∧ ((x1 c).1 = true → SdC S 21 (xK c) (x1 c).2) ∧
  gN S 0 7 = nI ((if (x0 c).1 = true then 1 else 0) + (if (x1 c).1 = true then 2 else 0)) ∧
  (gN S 1 1 = nI (xL c) ∧ (∀ i, i < xL c → gN S 2 i = byI (xT c i)) ∧ gN S 1 2 = xF c) ∧
  gN S 0 9 = nI (xN c) ∧ ∀ i, i < xN c → gN S 23 i = nI (6 * xP c i + xU c i)
def RM (S : St) (c : Cx) : Prop :=
  SkM S (xK c) ∧ SdM S (xK c) (xS c) ∧
  (gN S 68 0 = bI (x0 c).1 ∧ gN S 68 1 = bI (x1 c).1) ∧
  ((x0 c).1 = true → (∀ p t, p < np (xK c) → t < nt (xK c) → gN S 67 (6 * p + t) = nI (dl (x0 c).2 p t)) ∧ gN S 67 36 = bI (dG (x0 c).2) ∧ gN S 67 37 = nI (dS (x0 c).2) ∧ gN S 67 38 = nI (dT (x0 c).2)) ∧
  ((x1 c).1 = true → (∀ p t, p < np (xK c) → t < nt (xK c) → gN S 67 (40 + (6 * p + t)) = nI (dl (x1 c).2 p t)) ∧ gN S 67 76 = bI (dG (x1 c).2) ∧ gN S 67 77 = nI (dS (x1 c).2) ∧ gN S 67 78 = nI (dT (x1 c).2)) ∧
  (gN S 44 8 = nI (xL c) ∧ (∀ i, i < xL c → gN S 48 i = nI (xT c i)) ∧ gN S 44 9 = xF c) ∧
  gN S 44 35 = nI (xN c) ∧ ∀ i, i < xN c → gN S 64 i = nI (xP c i) ∧ gN S 65 i = nI (xU c i)
section
variable {S S' : St} {c : Cx} {k : Sk} {s : Sd}
theorem SkM_of (h : SkM S k) (h0 : gN S' 44 0 = gN S 44 0) (h1 : gN S' 44 1 = gN S 44 1) (h45 : ∀ j, gN S' 45 j = gN S 45 j) (h46 : ∀ j, gN S' 46 j = gN S 46 j) : SkM S' k :=
  ⟨h0.trans h.1, h1.trans h.2.1, fun t ht => (h45 t).trans (h.2.2.1 t ht), fun p hp => ⟨(h46 _).trans (h.2.2.2 p hp).1, (h46 _).trans (h.2.2.2 p hp).2.1, (h46 _).trans (h.2.2.2 p hp).2.2⟩⟩
theorem SdM_of (h : SdM S k s) (h5 : gN S' 44 5 = gN S 44 5) (h23 : gN S' 44 23 = gN S 44 23) (h6 : gN S' 44 6 = gN S 44 6) (h47 : ∀ j, gN S' 47 j = gN S 47 j) : SdM S' k s :=
  ⟨fun p t hp ht => (h47 _).trans (h.1 p t hp ht), h5.trans h.2.1, h23.trans h.2.2.1, h6.trans h.2.2.2⟩
theorem told_or (h : RC S c) : gR S 0 1 = 3 ∨ gR S 0 1 = 9 := h.1.elim (fun q => Or.inl q.1) (fun q => Or.inr q.1)
theorem told_le (h : RC S c) : gR S 0 1 ≤ 9 := by rcases told_or h with q | q <;> omega
theorem told_is (h : RC S c) : isSch (gR S 0 1) = true := by rcases told_or h with q | q <;> rw [q] <;> rfl
/-- cells that RC does not read may change, the standing too -/
theorem RC_set (h : RC S c) (hR1 : gR S' 0 1 = gR S 0 1) (hR2 : gR S' 0 2 = gR S 0 2) (hR3 : (gR S' 33 0 = 34 ∧ gR S' 33 1 = 35) ∨ (gR S' 33 0 = 35 ∧ gR S' 33 1 = 34))
    (hN : ∀ cc jj, cc ≤ 14 ∨ 19 ≤ cc ∧ cc ≤ 23 → gN S' cc jj = gN S cc jj) (hS : SdC S' 15 (xK c) s) : RC S' (setS c s) := by
  have hb := told_le h
  obtain ⟨r1, r2, r3, r4, r5, r6, r7, ⟨r8, r9, r10⟩, r11, r12⟩ := h
  refine ⟨by rw [hR1, hR2]; exact r1, hR3, ?_, hS, fun q => SdC_of (r5 q) (fun cc jj x y => hN cc jj (by omega)), fun q => SdC_of (r6 q) (fun cc jj x y => hN cc jj (by omega)), (hN 0 7 (by omega)).trans r7, ⟨(hN 1 1 (by omega)).trans r8, fun i hi => (hN 2 i (by omega)).trans (r9 i hi), (hN 1 2 (by omega)).trans r10⟩, (hN 0 9 (by omega)).trans r11, fun i hi => (hN 23 i (by omega)).trans (r12 i hi)⟩
  rw [hR1]
  exact SkC_of r3 (fun cc jj x y => hN cc jj (by omega))
theorem RC_of (h : RC S c) (hR : ∀ cc jj, gR S' cc jj = gR S cc jj) (hN : ∀ cc jj, cc ≤ 16 ∨ 19 ≤ cc ∧ cc ≤ 23 → gN S' cc jj = gN S cc jj) : RC S' c :=
  RC_set (s := xS c) h (hR 0 1) (hR 0 2) (by rw [hR 33 0, hR 33 1]; exact h.2.1) (fun cc jj q => hN cc jj (by omega)) (SdC_of h.2.2.2.1 (fun cc jj x y => hN cc jj (by omega)))
/-- the reference: scratch may change, the standing too -/
theorem RM_set (h : RM S c) (hN : ∀ cc jj, (cc = 44 ∧ (jj = 0 ∨ jj = 1 ∨ jj = 8 ∨ jj = 9 ∨ jj = 35)) ∨ cc = 45 ∨ cc = 46 ∨ cc = 48 ∨ cc = 64 ∨ cc = 65 ∨ cc = 67 ∨ cc = 68 → gN S' cc jj = gN S cc jj) (hS : SdM S' (xK c) s) : RM S' (setS c s) := by
  obtain ⟨r1, r2, ⟨r3, r3'⟩, r4, r5, ⟨r6, r7, r8⟩, r9, r10⟩ := h
  refine ⟨SkM_of r1 (hN 44 0 (by omega)) (hN 44 1 (by omega)) (fun j => hN 45 j (by omega)) (fun j => hN 46 j (by omega)), hS, ⟨(hN 68 0 (by omega)).trans r3, (hN 68 1 (by omega)).trans r3'⟩, ?_, ?_, ⟨(hN 44 8 (by omega)).trans r6, fun i hi => (hN 48 i (by omega)).trans (r7 i hi), (hN 44 9 (by omega)).trans r8⟩, (hN 44 35 (by omega)).trans r9, fun i hi => ⟨(hN 64 i (by omega)).trans (r10 i hi).1, (hN 65 i (by omega)).trans (r10 i hi).2⟩⟩
  · intro q
    obtain ⟨a1, a2, a3, a4⟩ := r4 q
    exact ⟨fun p t hp ht => (hN 67 _ (by omega)).trans (a1 p t hp ht), (hN 67 _ (by omega)).trans a2, (hN 67 _ (by omega)).trans a3, (hN 67 _ (by omega)).trans a4⟩
  · intro q
    obtain ⟨a1, a2, a3, a4⟩ := r5 q
    exact ⟨fun p t hp ht => (hN 67 _ (by omega)).trans (a1 p t hp ht), (hN 67 _ (by omega)).trans a2, (hN 67 _ (by omega)).trans a3, (hN 67 _ (by omega)).trans a4⟩
theorem RM_of (h : RM S c) (hN : ∀ cc jj, (cc = 44 ∧ (jj = 0 ∨ jj = 1 ∨ jj = 5 ∨ jj = 6 ∨ jj = 8 ∨ jj = 9 ∨ jj = 23 ∨ jj = 35)) ∨ cc = 45 ∨ cc = 46 ∨ cc = 47 ∨ cc = 48 ∨ cc = 64 ∨ cc = 65 ∨ cc = 67 ∨ cc = 68 → gN S' cc jj = gN S cc jj) : RM S' c :=
  RM_set (s := xS c) h (fun cc jj q => hN cc jj (by omega)) (SdM_of h.2.1 (hN 44 5 (by omega)) (hN 44 23 (by omega)) (hN 44 6 (by omega)) (fun j => hN 47 j (by omega)))
/-! the questions who and what -/
theorem isPupil_c (h : RC S c) (hw : WC c) (x : Int32) : fX6_isPupil x S = some (bI (inB x (np (xK c))), S) := by
  have h6 := hw.1.2.1
  have e := h.2.2.1.2.1
  by_cases h0 : x < 0
  · rw [fX6_isPupil, if_pos h0]
    have : inB x (np (xK c)) = false := by simp [inB, Int32.not_le.mpr h0]
    rw [this]; rfl
  · obtain ⟨j, hj, rfl⟩ := nI_of h0
    rw [fX6_isPupil, if_neg h0, gd_t (told_is h), e]
    simp (disch := omega) only [leI]
    by_cases h1 : np (xK c) ≤ j
    · rw [if_pos h1]
      have : inB (nI j) (np (xK c)) = false := by simp [inB, nI_clamp hj, h1]
      rw [this]; rfl
    · rw [if_neg h1, inB_n (by omega) (by omega)]; rfl
theorem isThing_c (h : RC S c) (hw : WC c) (x : Int32) : fX6_isThing x S = some (bI (inB x (nt (xK c))), S) := by
  have h6 := hw.1.1
  have e := h.2.2.1.1
  by_cases h0 : x < 0
  · rw [fX6_isThing, if_pos h0]
    have : inB x (nt (xK c)) = false := by simp [inB, Int32.not_le.mpr h0]
    rw [this]; rfl
  · obtain ⟨j, hj, rfl⟩ := nI_of h0
    rw [fX6_isThing, if_neg h0, gd_t (told_is h), e]
    simp (disch := omega) only [leI]
    by_cases h1 : nt (xK c) ≤ j
    · rw [if_pos h1]
      have : inB (nI j) (nt (xK c)) = false := by simp [inB, nI_clamp hj, h1]
      rw [this]; rfl
    · rw [if_neg h1, inB_n (by omega) (by omega)]; rfl
theorem isRule_c (x : Int32) : fX6_isRule x S = some (bI (inB x 3), S) := by
  by_cases h0 : x < 0
  · rw [fX6_isRule, if_pos h0]
    have : inB x 3 = false := by simp [inB, Int32.not_le.mpr h0]
    rw [this]; rfl
  · obtain ⟨j, hj, rfl⟩ := nI_of h0
    rw [fX6_isRule, if_neg h0]
    simp (disch := omega) only [li_3, leI]
    by_cases h1 : 3 ≤ j
    · rw [if_pos h1]
      have : inB (nI j) 3 = false := by simp [inB, nI_clamp hj, h1]
      rw [this]; rfl
    · rw [if_neg h1, inB_n (by omega) (by omega)]; rfl
theorem isPupil_m (h : RM S c) (hw : WC c) (x : Int32) : fX7_isPupil x S = some (bI (inB x (np (xK c))), S) := by
  have h6 := hw.1.2.1
  rw [fX7_isPupil, h.1.2.1, show (0 : Int64) = (0 : Int32).toInt64 from rfl, in_gen, inB_dec (by omega), bd_s, gd_t (bI_isB _)]
theorem isThing_m (h : RM S c) (hw : WC c) (x : Int32) : fX7_isThing x S = some (bI (inB x (nt (xK c))), S) := by
  have h6 := hw.1.1
  rw [fX7_isThing, h.1.1, show (0 : Int64) = (0 : Int32).toInt64 from rfl, in_gen, inB_dec (by omega), bd_s, gd_t (bI_isB _)]
theorem isRule_m (x : Int32) : fX7_isRule x S = some (bI (inB x 3), S) := by
  rw [fX7_isRule, show (0 : Int64) = (0 : Int32).toInt64 from rfl, show (2 : Int64) = (nI 3 - 1).toInt64 from rfl, in_gen, inB_dec (by omega), bd_s, gd_t (bI_isB _)]
end
