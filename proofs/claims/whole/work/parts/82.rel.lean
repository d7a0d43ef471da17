/-! ===== what both sides hold ===== -/
theorem toInt64_toInt (x : Int32) : x.toInt64.toInt = x.toInt := Int32.toInt_toInt64 x
theorem cmp_lt {x y : Int32} : lg_cmp x.toInt64 y.toInt64 < 0 ↔ x < y := by
  have e1 : (x.toInt64 > y.toInt64) ↔ y < x := by rw [gt_iff_lt, Int64.lt_iff_toInt_lt, Int32.lt_iff_toInt_lt, toInt64_toInt, toInt64_toInt]
  have e2 : (x.toInt64 = y.toInt64) ↔ x = y := by rw [← Int64.toInt_inj, toInt64_toInt, toInt64_toInt, Int32.toInt_inj]
  rw [lg_cmp]
  by_cases h : y < x
  · rw [if_pos (e1.mpr h)]
    exact ⟨fun q => absurd q (by decide), fun q => absurd (Int32.lt_trans h q) (Int32.lt_irrefl)⟩
  · rw [if_neg (fun q => h (e1.mp q))]
    by_cases h2 : x = y
    · rw [if_pos (e2.mpr h2)]
      exact ⟨fun q => absurd q (by decide), fun q => by subst h2; exact absurd q (Int32.lt_irrefl)⟩
    · rw [if_neg (fun q => h2 (e2.mp q))]
      refine ⟨fun _ => ?_, fun _ => by decide⟩
      have := Int32.not_lt.mp h
      exact Int32.lt_of_le_of_ne this h2
theorem cmp_gt {x y : Int32} : 0 < lg_cmp x.toInt64 y.toInt64 ↔ y < x := by
  have e1 : (x.toInt64 > y.toInt64) ↔ y < x := by rw [gt_iff_lt, Int64.lt_iff_toInt_lt, Int32.lt_iff_toInt_lt, toInt64_toInt, toInt64_toInt]
  rw [lg_cmp]
  by_cases h : y < x
  · rw [if_pos (e1.mpr h)]
    exact ⟨fun _ => h, fun _ => by decide⟩
  · rw [if_neg (fun q => h (e1.mp q))]
    refine ⟨fun q => absurd q ?_, fun q => absurd q h⟩
    split <;> decide
theorem in_gen {S : St} {x lo hi : Int32} : fX7_in x.toInt64 lo.toInt64 hi.toInt64 S = some (bI (decide (lo ≤ x ∧ x ≤ hi)), S) := by
  simp only [fX7_in, FX7_in_17, cmp_lt, cmp_gt]
  by_cases h1 : x < lo
  · rw [if_pos h1, decide_eq_false (fun q => Int32.not_lt.mpr q.1 h1)]; rfl
  · rw [if_neg h1]
    by_cases h2 : hi < x
    · rw [if_pos h2, decide_eq_false (fun q => Int32.not_lt.mpr q.2 h2)]; rfl
    · rw [if_neg h2, decide_eq_true ⟨Int32.not_lt.mp h1, Int32.not_lt.mp h2⟩]; rfl
theorem inB_get {x : Int32} {n : Nat} (h : inB x n = true) : ∃ p, p < n ∧ p < 2147483648 ∧ x = nI p := by
  simp only [inB, Bool.and_eq_true, decide_eq_true_eq] at h
  obtain ⟨j, hj, e⟩ := nI_of (x := x) (Int32.not_lt.mpr h.1)
  refine ⟨j, ?_, hj, e⟩
  have := h.2
  rwa [e, nI_clamp hj] at this
theorem inB_dec {x : Int32} {n : Nat} (hn : n < 2147483648) : decide ((0 : Int32) ≤ x ∧ x ≤ nI n - 1) = inB x n := by
  by_cases h0 : 0 ≤ x
  · obtain ⟨j, hj, e⟩ := nI_of (x := x) (Int32.not_lt.mpr h0)
    subst e
    simp only [inB, h0, true_and, decide_true, Bool.true_and, nI_clamp hj]
    cases n with
    | zero =>
      rw [show nI 0 - 1 = -1 by decide]
      have : ¬ nI j ≤ -1 := by
        intro q
        have := Int32.le_trans h0 q
        exact absurd this (by decide)
      simp [this]
    | succ n =>
      rw [show nI (n + 1) - 1 = nI n from nI_pred, leI hj (by omega)]
      exact decide_eq_decide.mpr ⟨fun q => by omega, fun q => by omega⟩
  · simp [inB, h0]
/-- the images and the log; the text; the fault: all that a run shows -/
def Cx : Type := (Nat × (Nat → Nat) × Int32) × Sk × Sd × ((Bool × Sd) × (Bool × Sd)) × (Nat × (Nat → Nat) × (Nat → Nat))
def xL (c : Cx) : Nat := c.1.1
def xT (c : Cx) : Nat → Nat := c.1.2.1
def xF (c : Cx) : Int32 := c.1.2.2
def xK (c : Cx) : Sk := c.2.1
def xS (c : Cx) : Sd := c.2.2.1
def x0 (c : Cx) : Bool × Sd := c.2.2.2.1.1
def x1 (c : Cx) : Bool × Sd := c.2.2.2.1.2
def xN (c : Cx) : Nat := c.2.2.2.2.1
def xP (c : Cx) : Nat → Nat := c.2.2.2.2.2.1
def xU (c : Cx) : Nat → Nat := c.2.2.2.2.2.2
def setS (c : Cx) (s : Sd) : Cx := (c.1, c.2.1, s, c.2.2.2)
def WC (c : Cx) : Prop := WK (xK c) ∧ WS (xK c) (xS c) ∧ ((x0 c).1 = true → WS (xK c) (x0 c).2) ∧ ((x1 c).1 = true → WS (xK c) (x1 c).2) ∧ xL c ≤ 400 ∧ (∀ i, i < xL c → xT c i < 256) ∧ xN c ≤ 40 ∧ ∀ i, i < xN c → xP c i < np (xK c) ∧ xU c i < nt (xK c)
/-- a byte as Java has it -/
def byI (x : Nat) : Int32 := if x < 128 then nI x else nI x - nI 256
def RC (S : St) (c : Cx) : Prop :=
  ((gR S 0 1 = 3 ∧ gR S 0 2 = 9) ∨ (gR S 0 1 = 9 ∧ gR S 0 2 = 3)) ∧ ((gR S 33 0 = 34 ∧ gR S 33 1 = 35) ∨ (gR S 33 0 = 35 ∧ gR S 33 1 = 34)) ∧
  SkC S (gR S 0 1) (xK c) ∧ SdC S 15 (xK c) (xS c) ∧ ((x0 c).1 = true → SdC S 19 (xK c) (x0 c).2) ∧ ((x1 c).1 = true → SdC S 21 (xK c) (x1 c).2) ∧
  gN S 0 7 = nI ((if (x0 c).1 = true then 1 else 0) + (if (x1 c).1 = true then 2 else 0)) ∧
  (gN S 1 1 = nI (xL c) ∧ (∀ i, i < xL c → gN S 2 i = byI (xT c i)) ∧ gN S 1 2 = xF c) ∧
  gN S 0 9 = nI (xN c) ∧ ∀ i, i < xN c → gN S 23 i = nI (6 * xP c i + xU c i)
def RM (S : St) (c : Cx) : Prop :=
  SkM S (xK c) ∧ SdM S (xK c) (xS c) ∧
  (gN S 68 0 = bI (x0 c).1 ∧ gN S 68 1 = bI (x1 c).1) ∧
  ((x0 c).1 = true → (∀ p t, p < np (xK c) → t < nt (xK c) → gN S 67 (6 * p + t) = nI (dl (x0 c).2 p t)) ∧ gN S 67 36 = bI (dG (x0 c).2) ∧ gN S 67 37 = nI (dS (x0 c).2) ∧ gN S 67 38 = nI (dT (x0 c).2)) ∧
  ((x1 c).1 = true → (∀ p t, p < np (xK c) → t < nt (xK c) → gN S 67 (40 + (6 * p + t)) = nI (dl (x1 c).2 p t)) ∧ gN S 67 76 = bI (dG (x1 c).2) ∧ gN S 67 77 = nI (dS (x1 c).2) ∧ gN S 67 78 = nI (dT (x1 c).2)) ∧
  (gN S 44 8 = nI (xL c) ∧ (∀ i, i < xL c → gN S 48 i = nI (xT c i)) ∧ gN S 44 9 = xF c) ∧
  gN S 44 35 = nI (xN c) ∧ ∀ i, i < xN c → gN S 64 i = nI (xP c i) ∧ gN S 65 i = nI (xU c i)
