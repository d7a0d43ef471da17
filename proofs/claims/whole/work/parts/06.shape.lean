/-! ===== words of the functions ===== -/
def FU : Nat := 1000000
def gd {α : Type} (b : Bool) (k : Option α) : Option α := if b = true then k else none
def bd {α β : Type} (o : Option (α × St)) (k : α → St → Option β) : Option β := match o with
  | none => none
  | some x => k x.1 x.2
theorem gd_e {α : Type} {b : Bool} {k : Option α} {q : α} (h : gd b k = some q) : b = true ∧ k = some q := by
  cases b with
  | false => cases h
  | true => exact ⟨rfl, h⟩
theorem bd_e {α β : Type} {o : Option (α × St)} {k : α → St → Option β} {q : β} (h : bd o k = some q) : ∃ x, o = some x ∧ k x.1 x.2 = some q := by
  cases o with
  | none => cases h
  | some x => exact ⟨x, rfl, h⟩
theorem it_t {α : Type} {c : Prop} {dc : Decidable c} {a b : Option α} {q : α} (hc : c) (h : @ite _ c dc a b = some q) : a = some q := by rwa [if_pos hc] at h
theorem it_f {α : Type} {c : Prop} {dc : Decidable c} {a b : Option α} {q : α} (hc : ¬ c) (h : @ite _ c dc a b = some q) : b = some q := by rwa [if_neg hc] at h
theorem cs_e {α : Type} {c : Prop} {dc : Decidable c} {a b : Option α} {q : α} {Z : Prop} (h : @ite _ c dc a b = some q) (kt : c → a = some q → Z) (kf : ¬ c → b = some q → Z) : Z := by
  cases dc with
  | isTrue hc => exact kt hc h
  | isFalse hc => exact kf hc h
def nzI (x : Int32) : Bool := decide (¬ x = 0)
theorem nzI_e {x : Int32} (h : nzI x = true) : ¬ x = 0 := of_decide_eq_true h
def nzL (x : Int64) : Bool := decide (¬ x = 0)
theorem nzL_e {x : Int64} (h : nzL x = true) : ¬ x = 0 := of_decide_eq_true h
theorem tab_outN (n : Nat) (hn : n < 2 ^ 31) {x : Int32} (h : ∀ j : Nat, j < n + 1 → ¬ x = nI j) : x.toInt < 0 ∨ (n : Int) < x.toInt := by
  by_cases hx : x.toInt < 0
  · exact Or.inl hx
  · refine Or.inr (Int.not_le.mp fun hle => ?_)
    have h0 : ¬ x < 0 := fun q => hx (by simpa [Int32.lt_iff_toInt_lt] using q)
    obtain ⟨j, hj, e⟩ := nI_of h0
    rw [e, nI_toInt hj] at hle
    exact h j (by omega) e

theorem tab_out4 {x : Int32} (h0 : ¬ x = 0) (h1 : ¬ x = 1) (h2 : ¬ x = 2) (h3 : ¬ x = 3) : x.toInt < 0 ∨ (3 : Int) < x.toInt := tab_outN 3 (by decide) (fun j hj => by
  match j, hj with
  | 0, _ => exact h0
  | 1, _ => exact h1
  | 2, _ => exact h2
  | 3, _ => exact h3
  | j + 4, hj => omega)
theorem tab_out5 {x : Int32} (h0 : ¬ x = 0) (h1 : ¬ x = 1) (h2 : ¬ x = 2) (h3 : ¬ x = 3) (h4 : ¬ x = 4) : x.toInt < 0 ∨ (4 : Int) < x.toInt := tab_outN 4 (by decide) (fun j hj => by
  match j, hj with
  | 0, _ => exact h0
  | 1, _ => exact h1
  | 2, _ => exact h2
  | 3, _ => exact h3
  | 4, _ => exact h4
  | j + 5, hj => omega)
theorem tab_out6 {x : Int32} (h0 : ¬ x = 0) (h1 : ¬ x = 1) (h2 : ¬ x = 2) (h3 : ¬ x = 3) (h4 : ¬ x = 4) (h5 : ¬ x = 5) : x.toInt < 0 ∨ (5 : Int) < x.toInt := tab_outN 5 (by decide) (fun j hj => by
  match j, hj with
  | 0, _ => exact h0
  | 1, _ => exact h1
  | 2, _ => exact h2
  | 3, _ => exact h3
  | 4, _ => exact h4
  | 5, _ => exact h5
  | j + 6, hj => omega)
theorem tab_out31 {x : Int32} (h0 : ¬ x = 0) (h1 : ¬ x = 1) (h2 : ¬ x = 2) (h3 : ¬ x = 3) (h4 : ¬ x = 4) (h5 : ¬ x = 5) (h6 : ¬ x = 6) (h7 : ¬ x = 7) (h8 : ¬ x = 8) (h9 : ¬ x = 9) (h10 : ¬ x = 10) (h11 : ¬ x = 11) (h12 : ¬ x = 12) (h13 : ¬ x = 13) (h14 : ¬ x = 14) (h15 : ¬ x = 15) (h16 : ¬ x = 16) (h17 : ¬ x = 17) (h18 : ¬ x = 18) (h19 : ¬ x = 19) (h20 : ¬ x = 20) (h21 : ¬ x = 21) (h22 : ¬ x = 22) (h23 : ¬ x = 23) (h24 : ¬ x = 24) (h25 : ¬ x = 25) (h26 : ¬ x = 26) (h27 : ¬ x = 27) (h28 : ¬ x = 28) (h29 : ¬ x = 29) (h30 : ¬ x = 30) : x.toInt < 0 ∨ (30 : Int) < x.toInt := tab_outN 30 (by decide) (fun j hj => by
  match j, hj with
  | 0, _ => exact h0
  | 1, _ => exact h1
  | 2, _ => exact h2
  | 3, _ => exact h3
  | 4, _ => exact h4
  | 5, _ => exact h5
  | 6, _ => exact h6
  | 7, _ => exact h7
  | 8, _ => exact h8
  | 9, _ => exact h9
  | 10, _ => exact h10
  | 11, _ => exact h11
  | 12, _ => exact h12
  | 13, _ => exact h13
  | 14, _ => exact h14
  | 15, _ => exact h15
  | 16, _ => exact h16
  | 17, _ => exact h17
  | 18, _ => exact h18
  | 19, _ => exact h19
  | 20, _ => exact h20
  | 21, _ => exact h21
  | 22, _ => exact h22
  | 23, _ => exact h23
  | 24, _ => exact h24
  | 25, _ => exact h25
  | 26, _ => exact h26
  | 27, _ => exact h27
  | 28, _ => exact h28
  | 29, _ => exact h29
  | 30, _ => exact h30
  | j + 31, hj => omega)
def isSch (t : Nat) : Bool := t == 3 || t == 9
theorem isSch_or {t : Nat} (h : isSch t = true) : t = 3 ∨ t = 9 := by simpa [isSch, or_assoc] using h
theorem fk_Sch_0 {t : Nat} (h : isSch t = true) : FI t 0 3 0 0 := by rcases isSch_or h with rfl | rfl <;> exact ⟨by decide, rfl, by decide, rfl⟩
theorem fk_Sch_1 {t : Nat} (h : isSch t = true) : FI t 1 3 0 0 := by rcases isSch_or h with rfl | rfl <;> exact ⟨by decide, rfl, by decide, rfl⟩
theorem fk_Sch_2 {t : Nat} (h : isSch t = true) : FI t 2 3 1 (t + 1) := by rcases isSch_or h with rfl | rfl <;> exact ⟨by decide, rfl, by decide, rfl⟩
theorem ak_Sch_1 {t : Nat} (h : isSch t = true) : AI (t + 1) 9 6 := by rcases isSch_or h with rfl | rfl <;> exact ⟨by decide, rfl, by decide, rfl⟩
theorem fk_Sch_3 {t : Nat} (h : isSch t = true) : FI t 3 3 1 (t + 2) := by rcases isSch_or h with rfl | rfl <;> exact ⟨by decide, rfl, by decide, rfl⟩
theorem ak_Sch_2 {t : Nat} (h : isSch t = true) : AI (t + 2) 9 6 := by rcases isSch_or h with rfl | rfl <;> exact ⟨by decide, rfl, by decide, rfl⟩
theorem fk_Sch_4 {t : Nat} (h : isSch t = true) : FI t 4 3 1 (t + 3) := by rcases isSch_or h with rfl | rfl <;> exact ⟨by decide, rfl, by decide, rfl⟩
theorem ak_Sch_3 {t : Nat} (h : isSch t = true) : AI (t + 3) 9 6 := by rcases isSch_or h with rfl | rfl <;> exact ⟨by decide, rfl, by decide, rfl⟩
theorem fk_Sch_5 {t : Nat} (h : isSch t = true) : FI t 5 3 1 (t + 4) := by rcases isSch_or h with rfl | rfl <;> exact ⟨by decide, rfl, by decide, rfl⟩
theorem ak_Sch_4 {t : Nat} (h : isSch t = true) : AI (t + 4) 9 6 := by rcases isSch_or h with rfl | rfl <;> exact ⟨by decide, rfl, by decide, rfl⟩
theorem fk_Sch_6 {t : Nat} (h : isSch t = true) : FI t 6 3 1 (t + 5) := by rcases isSch_or h with rfl | rfl <;> exact ⟨by decide, rfl, by decide, rfl⟩
theorem ak_Sch_5 {t : Nat} (h : isSch t = true) : AI (t + 5) 9 36 := by rcases isSch_or h with rfl | rfl <;> exact ⟨by decide, rfl, by decide, rfl⟩
theorem oc_Sch {t : Nat} (h : isSch t = true) : OC t RX3 := by rcases isSch_or h with rfl | rfl <;> exact ⟨3, _, by decide, rfl, by decide, rfl, rfl⟩
theorem ne99_Sch {t : Nat} (h : isSch t = true) : t ≠ 99 := by rcases isSch_or h with rfl | rfl <;> decide
def isStd (t : Nat) : Bool := t == 15 || t == 17 || t == 19 || t == 21
theorem isStd_or {t : Nat} (h : isStd t = true) : t = 15 ∨ t = 17 ∨ t = 19 ∨ t = 21 := by simpa [isStd, or_assoc] using h
theorem fk_Std_0 {t : Nat} (h : isStd t = true) : FI t 0 5 1 (t + 1) := by rcases isStd_or h with rfl | rfl | rfl | rfl <;> exact ⟨by decide, rfl, by decide, rfl⟩
theorem ak_Std_1 {t : Nat} (h : isStd t = true) : AI (t + 1) 9 36 := by rcases isStd_or h with rfl | rfl | rfl | rfl <;> exact ⟨by decide, rfl, by decide, rfl⟩
theorem fk_Std_1 {t : Nat} (h : isStd t = true) : FI t 1 5 0 0 := by rcases isStd_or h with rfl | rfl | rfl | rfl <;> exact ⟨by decide, rfl, by decide, rfl⟩
theorem fk_Std_2 {t : Nat} (h : isStd t = true) : FI t 2 5 0 0 := by rcases isStd_or h with rfl | rfl | rfl | rfl <;> exact ⟨by decide, rfl, by decide, rfl⟩
theorem fk_Std_3 {t : Nat} (h : isStd t = true) : FI t 3 5 0 0 := by rcases isStd_or h with rfl | rfl | rfl | rfl <;> exact ⟨by decide, rfl, by decide, rfl⟩
theorem oc_Std {t : Nat} (h : isStd t = true) : OC t RX5 := by rcases isStd_or h with rfl | rfl | rfl | rfl <;> exact ⟨5, _, by decide, rfl, by decide, rfl, rfl⟩
theorem ne99_Std {t : Nat} (h : isStd t = true) : t ≠ 99 := by rcases isStd_or h with rfl | rfl | rfl | rfl <;> decide
def isSea (t : Nat) : Bool := t == 38 || t == 40
theorem isSea_or {t : Nat} (h : isSea t = true) : t = 38 ∨ t = 40 := by simpa [isSea, or_assoc] using h
theorem fk_Sea_0 {t : Nat} (h : isSea t = true) : FI t 0 4 1 (t + 1) := by rcases isSea_or h with rfl | rfl <;> exact ⟨by decide, rfl, by decide, rfl⟩
theorem ak_Sea_1 {t : Nat} (h : isSea t = true) : AI (t + 1) 9 10000 := by rcases isSea_or h with rfl | rfl <;> exact ⟨by decide, rfl, by decide, rfl⟩
theorem fk_Sea_1 {t : Nat} (h : isSea t = true) : FI t 1 4 0 0 := by rcases isSea_or h with rfl | rfl <;> exact ⟨by decide, rfl, by decide, rfl⟩
theorem oc_Sea {t : Nat} (h : isSea t = true) : OC t RX4 := by rcases isSea_or h with rfl | rfl <;> exact ⟨4, _, by decide, rfl, by decide, rfl, rfl⟩
theorem ne99_Sea {t : Nat} (h : isSea t = true) : t ≠ 99 := by rcases isSea_or h with rfl | rfl <;> decide
def isLA (t : Nat) : Bool := t == 34 || t == 35
theorem isLA_or {t : Nat} (h : isLA t = true) : t = 34 ∨ t = 35 := by simpa [isLA, or_assoc] using h
theorem ak_LA {t : Nat} (h : isLA t = true) : AI t 10 1000 := by rcases isLA_or h with rfl | rfl <;> exact ⟨by decide, rfl, by decide, rfl⟩
def isFA (t : Nat) : Bool := t == 39 || t == 41
theorem isFA_or {t : Nat} (h : isFA t = true) : t = 39 ∨ t = 41 := by simpa [isFA, or_assoc] using h
theorem ak_FA {t : Nat} (h : isFA t = true) : AI t 9 10000 := by rcases isFA_or h with rfl | rfl <;> exact ⟨by decide, rfl, by decide, rfl⟩
def isLev (t : Nat) : Bool := t == 16 || t == 18 || t == 20 || t == 22
theorem isLev_or {t : Nat} (h : isLev t = true) : t = 16 ∨ t = 18 ∨ t = 20 ∨ t = 22 := by simpa [isLev, or_assoc] using h
theorem ak_Lev {t : Nat} (h : isLev t = true) : AI t 9 36 := by rcases isLev_or h with rfl | rfl | rfl | rfl <;> exact ⟨by decide, rfl, by decide, rfl⟩
def isFst (t : Nat) : Bool := t == 8 || t == 14
theorem isFst_or {t : Nat} (h : isFst t = true) : t = 8 ∨ t = 14 := by simpa [isFst, or_assoc] using h
theorem ak_Fst {t : Nat} (h : isFst t = true) : AI t 9 36 := by rcases isFst_or h with rfl | rfl <;> exact ⟨by decide, rfl, by decide, rfl⟩
theorem Lev_of_Std {t : Nat} (h : isStd t = true) : isLev (t + 1) = true := by rcases isStd_or h with rfl | rfl | rfl | rfl <;> rfl
theorem Fst_of_Sch {t : Nat} (h : isSch t = true) : isFst (t + 5) = true := by rcases isSch_or h with rfl | rfl <;> rfl
theorem FA_of_Sea {t : Nat} (h : isSea t = true) : isFA (t + 1) = true := by rcases isSea_or h with rfl | rfl <;> rfl
theorem fk_0_0 : FI 0 0 6 1 1 := ⟨by decide, rfl, by decide, rfl⟩
theorem fk_0_1 : FI 0 1 6 2 0 := ⟨by decide, rfl, by decide, rfl⟩
theorem fk_0_2 : FI 0 2 6 2 0 := ⟨by decide, rfl, by decide, rfl⟩
theorem fk_0_3 : FI 0 3 6 1 15 := ⟨by decide, rfl, by decide, rfl⟩
theorem fk_0_4 : FI 0 4 6 1 17 := ⟨by decide, rfl, by decide, rfl⟩
theorem fk_0_5 : FI 0 5 6 1 19 := ⟨by decide, rfl, by decide, rfl⟩
theorem fk_0_6 : FI 0 6 6 1 21 := ⟨by decide, rfl, by decide, rfl⟩
theorem fk_0_7 : FI 0 7 6 0 0 := ⟨by decide, rfl, by decide, rfl⟩
theorem fk_0_8 : FI 0 8 6 1 23 := ⟨by decide, rfl, by decide, rfl⟩
theorem fk_0_9 : FI 0 9 6 0 0 := ⟨by decide, rfl, by decide, rfl⟩
theorem fk_0_10 : FI 0 10 6 1 25 := ⟨by decide, rfl, by decide, rfl⟩
theorem fk_0_11 : FI 0 11 6 1 33 := ⟨by decide, rfl, by decide, rfl⟩
theorem fk_0_12 : FI 0 12 6 1 38 := ⟨by decide, rfl, by decide, rfl⟩
theorem fk_0_13 : FI 0 13 6 1 40 := ⟨by decide, rfl, by decide, rfl⟩
theorem oc_0 : OC 0 RX6 := ⟨6, _, by decide, rfl, by decide, rfl, rfl⟩
theorem fk_1_0 : FI 1 0 2 1 2 := ⟨by decide, rfl, by decide, rfl⟩
theorem fk_1_1 : FI 1 1 2 0 0 := ⟨by decide, rfl, by decide, rfl⟩
theorem fk_1_2 : FI 1 2 2 0 0 := ⟨by decide, rfl, by decide, rfl⟩
theorem fk_1_3 : FI 1 3 2 0 0 := ⟨by decide, rfl, by decide, rfl⟩
theorem fk_1_4 : FI 1 4 2 3 0 := ⟨by decide, rfl, by decide, rfl⟩
theorem fk_1_5 : FI 1 5 2 0 0 := ⟨by decide, rfl, by decide, rfl⟩
theorem fk_1_6 : FI 1 6 2 0 0 := ⟨by decide, rfl, by decide, rfl⟩
theorem fk_1_7 : FI 1 7 2 0 0 := ⟨by decide, rfl, by decide, rfl⟩
theorem oc_1 : OC 1 RX2 := ⟨2, _, by decide, rfl, by decide, rfl, rfl⟩
theorem ak_2 : AI 2 8 400 := ⟨by decide, rfl, by decide, rfl⟩
theorem fk_3_0 : FI 3 0 3 0 0 := ⟨by decide, rfl, by decide, rfl⟩
theorem fk_3_1 : FI 3 1 3 0 0 := ⟨by decide, rfl, by decide, rfl⟩
theorem fk_3_2 : FI 3 2 3 1 4 := ⟨by decide, rfl, by decide, rfl⟩
theorem fk_3_3 : FI 3 3 3 1 5 := ⟨by decide, rfl, by decide, rfl⟩
theorem fk_3_4 : FI 3 4 3 1 6 := ⟨by decide, rfl, by decide, rfl⟩
theorem fk_3_5 : FI 3 5 3 1 7 := ⟨by decide, rfl, by decide, rfl⟩
theorem fk_3_6 : FI 3 6 3 1 8 := ⟨by decide, rfl, by decide, rfl⟩
theorem oc_3 : OC 3 RX3 := ⟨3, _, by decide, rfl, by decide, rfl, rfl⟩
theorem ak_4 : AI 4 9 6 := ⟨by decide, rfl, by decide, rfl⟩
theorem ak_5 : AI 5 9 6 := ⟨by decide, rfl, by decide, rfl⟩
theorem ak_6 : AI 6 9 6 := ⟨by decide, rfl, by decide, rfl⟩
theorem ak_7 : AI 7 9 6 := ⟨by decide, rfl, by decide, rfl⟩
theorem ak_8 : AI 8 9 36 := ⟨by decide, rfl, by decide, rfl⟩
theorem fk_9_0 : FI 9 0 3 0 0 := ⟨by decide, rfl, by decide, rfl⟩
theorem fk_9_1 : FI 9 1 3 0 0 := ⟨by decide, rfl, by decide, rfl⟩
theorem fk_9_2 : FI 9 2 3 1 10 := ⟨by decide, rfl, by decide, rfl⟩
theorem fk_9_3 : FI 9 3 3 1 11 := ⟨by decide, rfl, by decide, rfl⟩
theorem fk_9_4 : FI 9 4 3 1 12 := ⟨by decide, rfl, by decide, rfl⟩
theorem fk_9_5 : FI 9 5 3 1 13 := ⟨by decide, rfl, by decide, rfl⟩
theorem fk_9_6 : FI 9 6 3 1 14 := ⟨by decide, rfl, by decide, rfl⟩
theorem oc_9 : OC 9 RX3 := ⟨3, _, by decide, rfl, by decide, rfl, rfl⟩
theorem ak_10 : AI 10 9 6 := ⟨by decide, rfl, by decide, rfl⟩
theorem ak_11 : AI 11 9 6 := ⟨by decide, rfl, by decide, rfl⟩
theorem ak_12 : AI 12 9 6 := ⟨by decide, rfl, by decide, rfl⟩
theorem ak_13 : AI 13 9 6 := ⟨by decide, rfl, by decide, rfl⟩
theorem ak_14 : AI 14 9 36 := ⟨by decide, rfl, by decide, rfl⟩
theorem fk_15_0 : FI 15 0 5 1 16 := ⟨by decide, rfl, by decide, rfl⟩
theorem fk_15_1 : FI 15 1 5 0 0 := ⟨by decide, rfl, by decide, rfl⟩
theorem fk_15_2 : FI 15 2 5 0 0 := ⟨by decide, rfl, by decide, rfl⟩
theorem fk_15_3 : FI 15 3 5 0 0 := ⟨by decide, rfl, by decide, rfl⟩
theorem oc_15 : OC 15 RX5 := ⟨5, _, by decide, rfl, by decide, rfl, rfl⟩
theorem ak_16 : AI 16 9 36 := ⟨by decide, rfl, by decide, rfl⟩
theorem fk_17_0 : FI 17 0 5 1 18 := ⟨by decide, rfl, by decide, rfl⟩
theorem fk_17_1 : FI 17 1 5 0 0 := ⟨by decide, rfl, by decide, rfl⟩
theorem fk_17_2 : FI 17 2 5 0 0 := ⟨by decide, rfl, by decide, rfl⟩
theorem fk_17_3 : FI 17 3 5 0 0 := ⟨by decide, rfl, by decide, rfl⟩
theorem oc_17 : OC 17 RX5 := ⟨5, _, by decide, rfl, by decide, rfl, rfl⟩
theorem ak_18 : AI 18 9 36 := ⟨by decide, rfl, by decide, rfl⟩
theorem fk_19_0 : FI 19 0 5 1 20 := ⟨by decide, rfl, by decide, rfl⟩
theorem fk_19_1 : FI 19 1 5 0 0 := ⟨by decide, rfl, by decide, rfl⟩
theorem fk_19_2 : FI 19 2 5 0 0 := ⟨by decide, rfl, by decide, rfl⟩
theorem fk_19_3 : FI 19 3 5 0 0 := ⟨by decide, rfl, by decide, rfl⟩
theorem oc_19 : OC 19 RX5 := ⟨5, _, by decide, rfl, by decide, rfl, rfl⟩
theorem ak_20 : AI 20 9 36 := ⟨by decide, rfl, by decide, rfl⟩
theorem fk_21_0 : FI 21 0 5 1 22 := ⟨by decide, rfl, by decide, rfl⟩
theorem fk_21_1 : FI 21 1 5 0 0 := ⟨by decide, rfl, by decide, rfl⟩
theorem fk_21_2 : FI 21 2 5 0 0 := ⟨by decide, rfl, by decide, rfl⟩
theorem fk_21_3 : FI 21 3 5 0 0 := ⟨by decide, rfl, by decide, rfl⟩
theorem oc_21 : OC 21 RX5 := ⟨5, _, by decide, rfl, by decide, rfl, rfl⟩
theorem ak_22 : AI 22 9 36 := ⟨by decide, rfl, by decide, rfl⟩
theorem ak_23 : AI 23 9 40 := ⟨by decide, rfl, by decide, rfl⟩
theorem fk_25_0 : FI 25 0 0 0 0 := ⟨by decide, rfl, by decide, rfl⟩
theorem fk_25_1 : FI 25 1 0 0 0 := ⟨by decide, rfl, by decide, rfl⟩
theorem fk_25_2 : FI 25 2 0 0 0 := ⟨by decide, rfl, by decide, rfl⟩
theorem fk_25_3 : FI 25 3 0 0 0 := ⟨by decide, rfl, by decide, rfl⟩
theorem fk_25_4 : FI 25 4 0 1 26 := ⟨by decide, rfl, by decide, rfl⟩
theorem fk_25_5 : FI 25 5 0 1 27 := ⟨by decide, rfl, by decide, rfl⟩
theorem fk_25_6 : FI 25 6 0 1 28 := ⟨by decide, rfl, by decide, rfl⟩
theorem fk_25_7 : FI 25 7 0 1 29 := ⟨by decide, rfl, by decide, rfl⟩
theorem fk_25_8 : FI 25 8 0 1 30 := ⟨by decide, rfl, by decide, rfl⟩
theorem fk_25_9 : FI 25 9 0 1 31 := ⟨by decide, rfl, by decide, rfl⟩
theorem fk_25_10 : FI 25 10 0 1 32 := ⟨by decide, rfl, by decide, rfl⟩
theorem oc_25 : OC 25 RX0 := ⟨0, _, by decide, rfl, by decide, rfl, rfl⟩
theorem ak_26 : AI 26 9 6 := ⟨by decide, rfl, by decide, rfl⟩
theorem ak_27 : AI 27 9 6 := ⟨by decide, rfl, by decide, rfl⟩
theorem ak_28 : AI 28 9 6 := ⟨by decide, rfl, by decide, rfl⟩
theorem ak_29 : AI 29 9 6 := ⟨by decide, rfl, by decide, rfl⟩
theorem ak_30 : AI 30 9 6 := ⟨by decide, rfl, by decide, rfl⟩
theorem ak_31 : AI 31 9 6 := ⟨by decide, rfl, by decide, rfl⟩
theorem ak_32 : AI 32 11 6 := ⟨by decide, rfl, by decide, rfl⟩
theorem fk_33_0 : FI 33 0 1 2 0 := ⟨by decide, rfl, by decide, rfl⟩
theorem fk_33_1 : FI 33 1 1 2 0 := ⟨by decide, rfl, by decide, rfl⟩
theorem fk_33_2 : FI 33 2 1 1 36 := ⟨by decide, rfl, by decide, rfl⟩
theorem fk_33_3 : FI 33 3 1 0 0 := ⟨by decide, rfl, by decide, rfl⟩
theorem fk_33_4 : FI 33 4 1 1 37 := ⟨by decide, rfl, by decide, rfl⟩
theorem fk_33_5 : FI 33 5 1 0 0 := ⟨by decide, rfl, by decide, rfl⟩
theorem oc_33 : OC 33 RX1 := ⟨1, _, by decide, rfl, by decide, rfl, rfl⟩
theorem ak_34 : AI 34 10 1000 := ⟨by decide, rfl, by decide, rfl⟩
theorem ak_35 : AI 35 10 1000 := ⟨by decide, rfl, by decide, rfl⟩
theorem ak_36 : AI 36 10 16 := ⟨by decide, rfl, by decide, rfl⟩
theorem ak_37 : AI 37 9 4 := ⟨by decide, rfl, by decide, rfl⟩
theorem fk_38_0 : FI 38 0 4 1 39 := ⟨by decide, rfl, by decide, rfl⟩
theorem fk_38_1 : FI 38 1 4 0 0 := ⟨by decide, rfl, by decide, rfl⟩
theorem oc_38 : OC 38 RX4 := ⟨4, _, by decide, rfl, by decide, rfl, rfl⟩
theorem ak_39 : AI 39 9 10000 := ⟨by decide, rfl, by decide, rfl⟩
theorem fk_40_0 : FI 40 0 4 1 41 := ⟨by decide, rfl, by decide, rfl⟩
theorem fk_40_1 : FI 40 1 4 0 0 := ⟨by decide, rfl, by decide, rfl⟩
theorem oc_40 : OC 40 RX4 := ⟨4, _, by decide, rfl, by decide, rfl, rfl⟩
theorem ak_41 : AI 41 9 10000 := ⟨by decide, rfl, by decide, rfl⟩
theorem fk_44_0 : FI 44 0 7 0 0 := ⟨by decide, rfl, by decide, rfl⟩
theorem fk_44_1 : FI 44 1 7 0 0 := ⟨by decide, rfl, by decide, rfl⟩
theorem fk_44_2 : FI 44 2 7 1 45 := ⟨by decide, rfl, by decide, rfl⟩
theorem fk_44_3 : FI 44 3 7 1 46 := ⟨by decide, rfl, by decide, rfl⟩
theorem fk_44_4 : FI 44 4 7 1 47 := ⟨by decide, rfl, by decide, rfl⟩
theorem fk_44_5 : FI 44 5 7 0 0 := ⟨by decide, rfl, by decide, rfl⟩
theorem fk_44_6 : FI 44 6 7 0 0 := ⟨by decide, rfl, by decide, rfl⟩
theorem fk_44_7 : FI 44 7 7 1 48 := ⟨by decide, rfl, by decide, rfl⟩
theorem fk_44_8 : FI 44 8 7 0 0 := ⟨by decide, rfl, by decide, rfl⟩
theorem fk_44_9 : FI 44 9 7 0 0 := ⟨by decide, rfl, by decide, rfl⟩
theorem fk_44_10 : FI 44 10 7 0 0 := ⟨by decide, rfl, by decide, rfl⟩
theorem fk_44_11 : FI 44 11 7 4 0 := ⟨by decide, rfl, by decide, rfl⟩
theorem fk_44_12 : FI 44 12 7 0 0 := ⟨by decide, rfl, by decide, rfl⟩
theorem fk_44_13 : FI 44 13 7 0 0 := ⟨by decide, rfl, by decide, rfl⟩
theorem fk_44_14 : FI 44 14 7 0 0 := ⟨by decide, rfl, by decide, rfl⟩
theorem fk_44_15 : FI 44 15 7 0 0 := ⟨by decide, rfl, by decide, rfl⟩
theorem fk_44_16 : FI 44 16 7 0 0 := ⟨by decide, rfl, by decide, rfl⟩
theorem fk_44_17 : FI 44 17 7 1 49 := ⟨by decide, rfl, by decide, rfl⟩
theorem fk_44_18 : FI 44 18 7 1 50 := ⟨by decide, rfl, by decide, rfl⟩
theorem fk_44_19 : FI 44 19 7 1 51 := ⟨by decide, rfl, by decide, rfl⟩
theorem fk_44_20 : FI 44 20 7 1 52 := ⟨by decide, rfl, by decide, rfl⟩
theorem fk_44_21 : FI 44 21 7 1 53 := ⟨by decide, rfl, by decide, rfl⟩
theorem fk_44_22 : FI 44 22 7 1 54 := ⟨by decide, rfl, by decide, rfl⟩
theorem fk_44_23 : FI 44 23 7 0 0 := ⟨by decide, rfl, by decide, rfl⟩
theorem fk_44_24 : FI 44 24 7 1 55 := ⟨by decide, rfl, by decide, rfl⟩
theorem fk_44_25 : FI 44 25 7 1 56 := ⟨by decide, rfl, by decide, rfl⟩
theorem fk_44_26 : FI 44 26 7 1 57 := ⟨by decide, rfl, by decide, rfl⟩
theorem fk_44_27 : FI 44 27 7 1 58 := ⟨by decide, rfl, by decide, rfl⟩
theorem fk_44_28 : FI 44 28 7 0 0 := ⟨by decide, rfl, by decide, rfl⟩
theorem fk_44_29 : FI 44 29 7 1 59 := ⟨by decide, rfl, by decide, rfl⟩
theorem fk_44_30 : FI 44 30 7 1 60 := ⟨by decide, rfl, by decide, rfl⟩
theorem fk_44_31 : FI 44 31 7 1 61 := ⟨by decide, rfl, by decide, rfl⟩
theorem fk_44_32 : FI 44 32 7 1 62 := ⟨by decide, rfl, by decide, rfl⟩
theorem fk_44_33 : FI 44 33 7 1 63 := ⟨by decide, rfl, by decide, rfl⟩
theorem fk_44_34 : FI 44 34 7 0 0 := ⟨by decide, rfl, by decide, rfl⟩
theorem fk_44_35 : FI 44 35 7 0 0 := ⟨by decide, rfl, by decide, rfl⟩
theorem fk_44_36 : FI 44 36 7 1 64 := ⟨by decide, rfl, by decide, rfl⟩
theorem fk_44_37 : FI 44 37 7 1 65 := ⟨by decide, rfl, by decide, rfl⟩
theorem fk_44_38 : FI 44 38 7 1 66 := ⟨by decide, rfl, by decide, rfl⟩
theorem fk_44_39 : FI 44 39 7 1 67 := ⟨by decide, rfl, by decide, rfl⟩
theorem fk_44_40 : FI 44 40 7 1 68 := ⟨by decide, rfl, by decide, rfl⟩
theorem oc_44 : OC 44 RX7 := ⟨7, _, by decide, rfl, by decide, rfl, rfl⟩
theorem ak_45 : AI 45 9 6 := ⟨by decide, rfl, by decide, rfl⟩
theorem ak_46 : AI 46 9 18 := ⟨by decide, rfl, by decide, rfl⟩
theorem ak_47 : AI 47 9 36 := ⟨by decide, rfl, by decide, rfl⟩
theorem ak_48 : AI 48 9 400 := ⟨by decide, rfl, by decide, rfl⟩
theorem ak_49 : AI 49 9 6 := ⟨by decide, rfl, by decide, rfl⟩
theorem ak_50 : AI 50 9 18 := ⟨by decide, rfl, by decide, rfl⟩
theorem ak_51 : AI 51 9 36 := ⟨by decide, rfl, by decide, rfl⟩
theorem ak_52 : AI 52 9 6 := ⟨by decide, rfl, by decide, rfl⟩
theorem ak_53 : AI 53 9 6 := ⟨by decide, rfl, by decide, rfl⟩
theorem ak_54 : AI 54 9 6 := ⟨by decide, rfl, by decide, rfl⟩
theorem ak_55 : AI 55 9 100000 := ⟨by decide, rfl, by decide, rfl⟩
theorem ak_56 : AI 56 9 100000 := ⟨by decide, rfl, by decide, rfl⟩
theorem ak_57 : AI 57 9 100000 := ⟨by decide, rfl, by decide, rfl⟩
theorem ak_58 : AI 58 11 100000 := ⟨by decide, rfl, by decide, rfl⟩
theorem ak_59 : AI 59 9 384 := ⟨by decide, rfl, by decide, rfl⟩
theorem ak_60 : AI 60 9 64 := ⟨by decide, rfl, by decide, rfl⟩
theorem ak_61 : AI 61 10 1000 := ⟨by decide, rfl, by decide, rfl⟩
theorem ak_62 : AI 62 10 1000 := ⟨by decide, rfl, by decide, rfl⟩
theorem ak_63 : AI 63 9 4 := ⟨by decide, rfl, by decide, rfl⟩
theorem ak_64 : AI 64 9 40 := ⟨by decide, rfl, by decide, rfl⟩
theorem ak_65 : AI 65 9 40 := ⟨by decide, rfl, by decide, rfl⟩
theorem ak_66 : AI 66 9 36 := ⟨by decide, rfl, by decide, rfl⟩
theorem ak_67 : AI 67 9 80 := ⟨by decide, rfl, by decide, rfl⟩
theorem ak_68 : AI 68 11 2 := ⟨by decide, rfl, by decide, rfl⟩
theorem clX0 : Cl 0 RX0 TX0 11 tyX0 := ⟨rfl, fun w h => mem_tb ((by decide +kernel : ∀ w ∈ u_ws RX0 TX0 11, w ∈ lw_tbl) w h) ((by decide +kernel : ∀ w ∈ u_ws RX0 TX0 11, goodWord w = true) w h), tyX0_ok, nmX0⟩
theorem clX1 : Cl 1 RX1 TX1 6 tyX1 := ⟨rfl, fun w h => mem_tb ((by decide +kernel : ∀ w ∈ u_ws RX1 TX1 6, w ∈ lw_tbl) w h) ((by decide +kernel : ∀ w ∈ u_ws RX1 TX1 6, goodWord w = true) w h), tyX1_ok, nmX1⟩
theorem clX2 : Cl 2 RX2 TX2 8 tyX2 := ⟨rfl, fun w h => mem_tb ((by decide +kernel : ∀ w ∈ u_ws RX2 TX2 8, w ∈ lw_tbl) w h) ((by decide +kernel : ∀ w ∈ u_ws RX2 TX2 8, goodWord w = true) w h), tyX2_ok, nmX2⟩
theorem clX3 : Cl 3 RX3 TX3 7 tyX3 := ⟨rfl, fun w h => mem_tb ((by decide +kernel : ∀ w ∈ u_ws RX3 TX3 7, w ∈ lw_tbl) w h) ((by decide +kernel : ∀ w ∈ u_ws RX3 TX3 7, goodWord w = true) w h), tyX3_ok, nmX3⟩
theorem clX4 : Cl 4 RX4 TX4 2 tyX4 := ⟨rfl, fun w h => mem_tb ((by decide +kernel : ∀ w ∈ u_ws RX4 TX4 2, w ∈ lw_tbl) w h) ((by decide +kernel : ∀ w ∈ u_ws RX4 TX4 2, goodWord w = true) w h), tyX4_ok, nmX4⟩
theorem clX5 : Cl 5 RX5 TX5 4 tyX5 := ⟨rfl, fun w h => mem_tb ((by decide +kernel : ∀ w ∈ u_ws RX5 TX5 4, w ∈ lw_tbl) w h) ((by decide +kernel : ∀ w ∈ u_ws RX5 TX5 4, goodWord w = true) w h), tyX5_ok, nmX5⟩
theorem clX6 : Cl 6 RX6 TX6 14 tyX6 := ⟨rfl, fun w h => mem_tb ((by decide +kernel : ∀ w ∈ u_ws RX6 TX6 14, w ∈ lw_tbl) w h) ((by decide +kernel : ∀ w ∈ u_ws RX6 TX6 14, goodWord w = true) w h), tyX6_ok, nmX6⟩
theorem clX7 : Cl 7 RX7 TX7 41 tyX7 := ⟨rfl, fun w h => mem_tb ((by decide +kernel : ∀ w ∈ u_ws RX7 TX7 41, w ∈ lw_tbl) w h) ((by decide +kernel : ∀ w ∈ u_ws RX7 TX7 41, goodWord w = true) w h), tyX7_ok, nmX7⟩
