/-! ===== what each function leaves as it was ===== -/
/-- S' is S but for the listed places (place 99: the whole row) -/
def Un (la lb lc : List (Nat × Nat)) (S S' : St) : Prop := (∀ c j, (c, 99) ∉ la → (c, j) ∉ la → S'.1 c j = S.1 c j) ∧ (∀ c j, (c, 99) ∉ lb → (c, j) ∉ lb → S'.2.1 c j = S.2.1 c j) ∧ ∀ c j, (c, j) ∉ lc → S'.2.2 c j = S.2.2 c j
section
variable {la lb lc la' lb' lc' : List (Nat × Nat)} {S S' S'' : St}
theorem Un.refl (S : St) : Un la lb lc S S := ⟨fun _ _ _ _ => rfl, fun _ _ _ _ => rfl, fun _ _ _ => rfl⟩
theorem Un.trans (h : Un la lb lc S S') (k : Un la lb lc S' S'') : Un la lb lc S S'' := ⟨fun c j a b => (k.1 c j a b).trans (h.1 c j a b), fun c j a b => (k.2.1 c j a b).trans (h.2.1 c j a b), fun c j a => (k.2.2 c j a).trans (h.2.2 c j a)⟩
theorem Un.mono (h : Un la lb lc S S') (ha : ∀ x ∈ la, x ∈ la') (hb : ∀ x ∈ lb, x ∈ lb') (hc : ∀ x ∈ lc, x ∈ lc') : Un la' lb' lc' S S' := ⟨fun c j a b => h.1 c j (fun q => a (ha _ q)) (fun q => b (ha _ q)), fun c j a b => h.2.1 c j (fun q => a (hb _ q)) (fun q => b (hb _ q)), fun c j a => h.2.2 c j (fun q => a (hc _ q))⟩
theorem Un.nS {c j : Nat} {v : Int32} (h : Un la lb lc S S') (hm : (c, j) ∈ la) : Un la lb lc S (sN S' c j v) := by
  refine ⟨fun c' j' a b => ?_, h.2.1, h.2.2⟩
  rw [← h.1 c' j' a b]
  show va_up S'.1 c (va_up (S'.1 c) j v) c' j' = S'.1 c' j'
  by_cases hc : c' = c
  · subst hc
    rw [up_eq]
    exact up_ne (fun q => b (by rw [q]; exact hm))
  · rw [up_ne hc]
theorem Un.nA {c j : Nat} {v : Int32} (h : Un la lb lc S S') (hm : (c, 99) ∈ la) : Un la lb lc S (sN S' c j v) := by
  refine ⟨fun c' j' a b => ?_, h.2.1, h.2.2⟩
  rw [← h.1 c' j' a b]
  show va_up S'.1 c (va_up (S'.1 c) j v) c' j' = S'.1 c' j'
  rw [up_ne (fun q => a (by rw [q]; exact hm))]
theorem Un.nP {c : Nat} {f : Nat → Int32} (h : Un la lb lc S S') (hm : (c, 99) ∈ la) : Un la lb lc S (pN S' c f) := by
  refine ⟨fun c' j' a b => ?_, h.2.1, h.2.2⟩
  rw [← h.1 c' j' a b]
  show va_up S'.1 c f c' j' = S'.1 c' j'
  rw [up_ne (fun q => a (by rw [q]; exact hm))]
theorem Un.jS {c j : Nat} {v : Int64} (h : Un la lb lc S S') (hm : (c, j) ∈ lb) : Un la lb lc S (sJ S' c j v) := by
  refine ⟨h.1, fun c' j' a b => ?_, h.2.2⟩
  rw [← h.2.1 c' j' a b]
  show va_up S'.2.1 c (va_up (S'.2.1 c) j v) c' j' = S'.2.1 c' j'
  by_cases hc : c' = c
  · subst hc
    rw [up_eq]
    exact up_ne (fun q => b (by rw [q]; exact hm))
  · rw [up_ne hc]
theorem Un.jA {c j : Nat} {v : Int64} (h : Un la lb lc S S') (hm : (c, 99) ∈ lb) : Un la lb lc S (sJ S' c j v) := by
  refine ⟨h.1, fun c' j' a b => ?_, h.2.2⟩
  rw [← h.2.1 c' j' a b]
  show va_up S'.2.1 c (va_up (S'.2.1 c) j v) c' j' = S'.2.1 c' j'
  rw [up_ne (fun q => a (by rw [q]; exact hm))]
theorem Un.rS {c j v : Nat} (h : Un la lb lc S S') (hm : (c, j) ∈ lc) : Un la lb lc S (sR S' c j v) := by
  refine ⟨h.1, h.2.1, fun c' j' a => ?_⟩
  rw [← h.2.2 c' j' a]
  show va_up S'.2.2 c (va_up (S'.2.2 c) j v) c' j' = S'.2.2 c' j'
  by_cases hc : c' = c
  · subst hc
    rw [up_eq]
    exact up_ne (fun q => a (by rw [q]; exact hm))
  · rw [up_ne hc]
theorem sub_k (ks : List Nat) (h : ks.map (fun i => la'[i]?) = la.map some) : ∀ x ∈ la, x ∈ la' := by
  intro x hx
  have h1 : some x ∈ la.map some := List.mem_map.mpr ⟨x, hx, rfl⟩
  rw [← h] at h1
  obtain ⟨i, -, hi⟩ := List.mem_map.mp h1
  exact List.mem_of_getElem? hi
end
set_option maxRecDepth 4000 in
theorem wX0_leave_2 {q : Unit × St} {t1 : Nat} : ∀ (n : Nat) {l2 : Int32} {l3 : Int32} {S : St}, FX0_leave_2 n t1 l2 l3 S = some q → Un [(t1, 2), (t1 + 1, 99)] [] [] S q.2 := by
  intro n
  induction n with
  | zero => intro _ _ _ h; cases h
  | succ n ih =>
    intro l2 l3 S h
    rw [FX0_leave_2] at h
    refine cs_e h (fun _ h => ?_) (fun _ h => ?_)
    · skip
      have h := Option.some.inj h
      subst h
      refine Un.nS ?_ (List.mem_of_getElem? (i := 0) rfl)
      exact Un.refl _
    · skip
      obtain ⟨g3, h⟩ := gd_e h
      obtain ⟨g4, h⟩ := gd_e h
      obtain ⟨g6, h⟩ := gd_e h
      refine Un.trans ?_ (ih h)
      refine Un.nA ?_ (List.mem_of_getElem? (i := 1) rfl)
      exact Un.refl _
set_option maxRecDepth 4000 in
theorem wX0_leave {q : Unit × St} {t1 : Nat} {l2 : Int32} {S : St} (h : fX0_leave t1 l2 S = some q) : Un [(t1, 2), (t1 + 1, 99)] [] [] S q.2 := by
  unfold fX0_leave at h
  refine Un.trans ?_ (wX0_leave_2  _ h)
  exact Un.refl _
set_option maxRecDepth 4000 in
theorem wX0_code_9 {q : Int32 × St}  : ∀ (n : Nat) {l1 : Int32} {l2 : Int32} {S : St}, FX0_code_9 n l1 l2 S = some q → Un [] [] [] S q.2 := by
  intro n
  induction n with
  | zero => intro _ _ _ h; cases h
  | succ n ih =>
    intro l1 l2 S h
    rw [FX0_code_9] at h
    refine cs_e h (fun _ h => ?_) (fun _ h => ?_)
    · skip
      have h := Option.some.inj h
      subst h
      exact Un.refl _
    · skip
      obtain ⟨g3, h⟩ := gd_e h
      refine Un.trans ?_ (ih h)
      exact Un.refl _
set_option maxRecDepth 4000 in
theorem wX0_code {q : Int32 × St}  {S : St} (h : fX0_code  S = some q) : Un [] [] [] S q.2 := by
  unfold fX0_code at h
  refine Un.trans ?_ (wX0_code_9  _ h)
  exact Un.refl _
set_option maxRecDepth 4000 in
theorem wX0_setLevels_4 {q : Unit × St}  : ∀ (n : Nat) {l2 : Int32} {l3 : Int32} {S : St}, FX0_setLevels_4 n l2 l3 S = some q → Un [(27, 99)] [] [] S q.2 := by
  intro n
  induction n with
  | zero => intro _ _ _ h; cases h
  | succ n ih =>
    intro l2 l3 S h
    rw [FX0_setLevels_4] at h
    refine cs_e h (fun _ h => ?_) (fun _ h => ?_)
    · skip
      have h := Option.some.inj h
      subst h
      exact Un.refl _
    · skip
      obtain ⟨g2, h⟩ := gd_e h
      refine Un.trans ?_ (ih h)
      refine Un.nA ?_ (List.mem_of_getElem? (i := 0) rfl)
      exact Un.refl _
set_option maxRecDepth 4000 in
theorem wX0_setLevels {q : Unit × St} {l1 : Int32} {S : St} (h : fX0_setLevels l1 S = some q) : Un [(27, 99)] [] [] S q.2 := by
  unfold fX0_setLevels at h
  refine Un.trans ?_ (wX0_setLevels_4  _ h)
  exact Un.refl _
set_option maxRecDepth 4000 in
theorem wX0_room {q : Int32 × St} {l1 : Int32} {S : St} (h : fX0_room l1 S = some q) : Un [] [] [] S q.2 := by
  unfold fX0_room at h
  obtain ⟨g1, h⟩ := gd_e h
  obtain ⟨g2, h⟩ := gd_e h
  have h := Option.some.inj h
  subst h
  exact Un.refl _
set_option maxRecDepth 4000 in
theorem wX0_rise_54 {q : Unit × St}  {s0 : Int32} {s1 : Int32} {S : St} (h : FX0_rise_54 s0 s1 S = some q) : Un [(27, 99)] [] [] S q.2 := by
  unfold FX0_rise_54 at h
  obtain ⟨g9, h⟩ := gd_e h
  have h := Option.some.inj h
  subst h
  refine Un.nA ?_ (List.mem_of_getElem? (i := 0) rfl)
  exact Un.refl _
set_option maxRecDepth 4000 in
theorem wX0_rise {q : Unit × St} {l1 : Int32} {l2 : Int32} {S : St} (h : fX0_rise l1 l2 S = some q) : Un [(27, 99)] [] [] S q.2 := by
  unfold fX0_rise at h
  obtain ⟨g1, h⟩ := gd_e h
  obtain ⟨g2, h⟩ := gd_e h
  refine cs_e h (fun _ h => ?_) (fun _ h => ?_)
  · skip
    have h := Option.some.inj h
    subst h
    exact Un.refl _
  · skip
    obtain ⟨g4, h⟩ := gd_e h
    obtain ⟨g5, h⟩ := gd_e h
    refine cs_e h (fun _ h => ?_) (fun _ h => ?_)
    · skip
      obtain ⟨g7, h⟩ := gd_e h
      refine Un.trans ?_ (wX0_rise_54  h)
      exact Un.refl _
    · skip
      obtain ⟨g8, h⟩ := gd_e h
      refine Un.trans ?_ (wX0_rise_54  h)
      exact Un.refl _
set_option maxRecDepth 4000 in
theorem wX0_knowing_29 {q : Int32 × St}  {k4 : Int32 → Int32 → St → Option (Int32 × St)} (hk4 : ∀ {l1 : Int32} {l2 : Int32} {S : St}, k4 l1 l2 S = some q → Un [] [] [] S q.2) {l2 : Int32} {s0 : Int32} {s1 : Int32} {S : St} (h : FX0_knowing_29 k4 l2 s0 s1 S = some q) : Un [] [] [] S q.2 := by
  unfold FX0_knowing_29 at h
  refine Un.trans ?_ (hk4 h)
  exact Un.refl _
set_option maxRecDepth 4000 in
theorem wX0_knowing_4 {q : Int32 × St}  : ∀ (n : Nat) {l1 : Int32} {l2 : Int32} {S : St}, FX0_knowing_4 n l1 l2 S = some q → Un [] [] [] S q.2 := by
  intro n
  induction n with
  | zero => intro _ _ _ h; cases h
  | succ n ih =>
    intro l1 l2 S h
    rw [FX0_knowing_4] at h
    refine cs_e h (fun _ h => ?_) (fun _ h => ?_)
    · skip
      have h := Option.some.inj h
      subst h
      exact Un.refl _
    · skip
      obtain ⟨g2, h⟩ := gd_e h
      refine cs_e h (fun _ h => ?_) (fun _ h => ?_)
      · skip
        refine Un.trans ?_ (wX0_knowing_29 (fun h => ih h) h)
        exact Un.refl _
      · skip
        refine Un.trans ?_ (wX0_knowing_29 (fun h => ih h) h)
        exact Un.refl _
set_option maxRecDepth 4000 in
theorem wX0_knowing {q : Int32 × St}  {S : St} (h : fX0_knowing  S = some q) : Un [] [] [] S q.2 := by
  unfold fX0_knowing at h
  refine Un.trans ?_ (wX0_knowing_4  _ h)
  exact Un.refl _
set_option maxRecDepth 4000 in
theorem wX0_isBarred_34 {q : Int32 × St}  {k2 : Int32 → St → Option (Int32 × St)} (hk2 : ∀ {l1 : Int32} {S : St}, k2 l1 S = some q → Un [] [] [] S q.2) {l1 : Int32} {S : St} (h : FX0_isBarred_34 k2 l1 S = some q) : Un [] [] [] S q.2 := by
  unfold FX0_isBarred_34 at h
  refine Un.trans ?_ (hk2 h)
  exact Un.refl _
set_option maxRecDepth 4000 in
theorem wX0_isBarred_2 {q : Int32 × St}  : ∀ (n : Nat) {l1 : Int32} {S : St}, FX0_isBarred_2 n l1 S = some q → Un [] [] [] S q.2 := by
  intro n
  induction n with
  | zero => intro _ _ h; cases h
  | succ n ih =>
    intro l1 S h
    rw [FX0_isBarred_2] at h
    refine cs_e h (fun _ h => ?_) (fun _ h => ?_)
    · skip
      have h := Option.some.inj h
      subst h
      exact Un.refl _
    · skip
      obtain ⟨g2, h⟩ := gd_e h
      refine cs_e h (fun _ h => ?_) (fun _ h => ?_)
      · skip
        refine Un.trans ?_ (wX0_isBarred_34 (fun h => ih h) h)
        exact Un.refl _
      · skip
        obtain ⟨g4, h⟩ := gd_e h
        refine cs_e h (fun _ h => ?_) (fun _ h => ?_)
        · skip
          refine Un.trans ?_ (wX0_isBarred_34 (fun h => ih h) h)
          exact Un.refl _
        · skip
          have h := Option.some.inj h
          subst h
          exact Un.refl _
set_option maxRecDepth 4000 in
theorem wX0_isBarred {q : Int32 × St}  {S : St} (h : fX0_isBarred  S = some q) : Un [] [] [] S q.2 := by
  unfold fX0_isBarred at h
  refine Un.trans ?_ (wX0_isBarred_2  _ h)
  exact Un.refl _
set_option maxRecDepth 4000 in
theorem wX0_after {q : Int32 × St} {l1 : Int32} {S : St} (h : fX0_after l1 S = some q) : Un [] [] [] S q.2 := by
  unfold fX0_after at h
  refine cs_e h (fun _ h => ?_) (fun _ h => ?_)
  · skip
    have h := Option.some.inj h
    subst h
    exact Un.refl _
  · skip
    have h := Option.some.inj h
    subst h
    exact Un.refl _
set_option maxRecDepth 4000 in
theorem wX0_least_59 {q : Int32 × St}  {k9 : Int32 → Int32 → Int32 → Int32 → Int32 → St → Option (Int32 × St)} (hk9 : ∀ {l1 : Int32} {l2 : Int32} {l3 : Int32} {l4 : Int32} {l5 : Int32} {S : St}, k9 l1 l2 l3 l4 l5 S = some q → Un [] [] [] S q.2) {l1 : Int32} {l2 : Int32} {l3 : Int32} {l4 : Int32} {l5 : Int32} {S : St} (h : FX0_least_59 k9 l1 l2 l3 l4 l5 S = some q) : Un [] [] [] S q.2 := by
  unfold FX0_least_59 at h
  refine Un.trans ?_ (hk9 h)
  exact Un.refl _
set_option maxRecDepth 4000 in
theorem wX0_least_43 {q : Int32 × St}  {k9 : Int32 → Int32 → Int32 → Int32 → Int32 → St → Option (Int32 × St)} (hk9 : ∀ {l1 : Int32} {l2 : Int32} {l3 : Int32} {l4 : Int32} {l5 : Int32} {S : St}, k9 l1 l2 l3 l4 l5 S = some q → Un [] [] [] S q.2) {l1 : Int32} {l2 : Int32} {l3 : Int32} {l4 : Int32} {l5 : Int32} {s0 : Int32} {S : St} (h : FX0_least_43 k9 l1 l2 l3 l4 l5 s0 S = some q) : Un [] [] [] S q.2 := by
  unfold FX0_least_43 at h
  refine cs_e h (fun _ h => ?_) (fun _ h => ?_)
  · skip
    refine Un.trans ?_ (wX0_least_59 hk9 h)
    exact Un.refl _
  · skip
    refine Un.trans ?_ (wX0_least_59 hk9 h)
    exact Un.refl _
set_option maxRecDepth 4000 in
theorem wX0_least_9 {q : Int32 × St}  : ∀ (n : Nat) {l1 : Int32} {l2 : Int32} {l3 : Int32} {l4 : Int32} {l5 : Int32} {S : St}, FX0_least_9 n l1 l2 l3 l4 l5 S = some q → Un [] [] [] S q.2 := by
  intro n
  induction n with
  | zero => intro _ _ _ _ _ _ h; cases h
  | succ n ih =>
    intro l1 l2 l3 l4 l5 S h
    rw [FX0_least_9] at h
    refine cs_e h (fun _ h => ?_) (fun _ h => ?_)
    · skip
      have h := Option.some.inj h
      subst h
      exact Un.refl _
    · skip
      refine cs_e h (fun _ h => ?_) (fun _ h => ?_)
      · skip
        obtain ⟨g4, h⟩ := gd_e h
        refine Un.trans ?_ (wX0_least_43 (fun h => ih h) h)
        exact Un.refl _
      · skip
        obtain ⟨g3, h⟩ := gd_e h
        refine Un.trans ?_ (wX0_least_43 (fun h => ih h) h)
        exact Un.refl _
set_option maxRecDepth 4000 in
theorem wX0_least {q : Int32 × St} {l1 : Int32} {l2 : Int32} {S : St} (h : fX0_least l1 l2 S = some q) : Un [] [] [] S q.2 := by
  unfold fX0_least at h
  refine Un.trans ?_ (wX0_least_9  _ h)
  exact Un.refl _
set_option maxRecDepth 4000 in
theorem wX0_greatestBelow_49 {q : Int32 × St}  {k7 : Int32 → Int32 → Int32 → Int32 → St → Option (Int32 × St)} (hk7 : ∀ {l1 : Int32} {l2 : Int32} {l3 : Int32} {l4 : Int32} {S : St}, k7 l1 l2 l3 l4 S = some q → Un [] [] [] S q.2) {l1 : Int32} {l2 : Int32} {l3 : Int32} {l4 : Int32} {S : St} (h : FX0_greatestBelow_49 k7 l1 l2 l3 l4 S = some q) : Un [] [] [] S q.2 := by
  unfold FX0_greatestBelow_49 at h
  refine Un.trans ?_ (hk7 h)
  exact Un.refl _
set_option maxRecDepth 4000 in
theorem wX0_greatestBelow_7 {q : Int32 × St}  : ∀ (n : Nat) {l1 : Int32} {l2 : Int32} {l3 : Int32} {l4 : Int32} {S : St}, FX0_greatestBelow_7 n l1 l2 l3 l4 S = some q → Un [] [] [] S q.2 := by
  intro n
  induction n with
  | zero => intro _ _ _ _ _ h; cases h
  | succ n ih =>
    intro l1 l2 l3 l4 S h
    rw [FX0_greatestBelow_7] at h
    refine cs_e h (fun _ h => ?_) (fun _ h => ?_)
    · skip
      have h := Option.some.inj h
      subst h
      exact Un.refl _
    · skip
      obtain ⟨g2, h⟩ := gd_e h
      refine cs_e h (fun _ h => ?_) (fun _ h => ?_)
      · skip
        refine Un.trans ?_ (wX0_greatestBelow_49 (fun h => ih h) h)
        exact Un.refl _
      · skip
        obtain ⟨g4, h⟩ := gd_e h
        refine cs_e h (fun _ h => ?_) (fun _ h => ?_)
        · skip
          refine Un.trans ?_ (wX0_greatestBelow_49 (fun h => ih h) h)
          exact Un.refl _
        · skip
          obtain ⟨g6, h⟩ := gd_e h
          refine Un.trans ?_ (wX0_greatestBelow_49 (fun h => ih h) h)
          exact Un.refl _
set_option maxRecDepth 4000 in
theorem wX0_greatestBelow {q : Int32 × St} {l1 : Int32} {S : St} (h : fX0_greatestBelow l1 S = some q) : Un [] [] [] S q.2 := by
  unfold fX0_greatestBelow at h
  refine Un.trans ?_ (wX0_greatestBelow_7  _ h)
  exact Un.refl _
set_option maxRecDepth 4000 in
theorem wX0_rightChance {q : Int32 × St} {l1 : Int32} {S : St} (h : fX0_rightChance l1 S = some q) : Un [] [] [] S q.2 := by
  unfold fX0_rightChance at h
  obtain ⟨g1, h⟩ := gd_e h
  have h := Option.some.inj h
  subst h
  exact Un.refl _
set_option maxRecDepth 4000 in
theorem wX0_isSurer_24 {q : Int32 × St}   {S : St} (h : FX0_isSurer_24  S = some q) : Un [] [] [] S q.2 := by
  unfold FX0_isSurer_24 at h
  have h := Option.some.inj h
  subst h
  exact Un.refl _
set_option maxRecDepth 4000 in
theorem wX0_isSurer {q : Int32 × St} {l1 : Int32} {l2 : Int32} {S : St} (h : fX0_isSurer l1 l2 S = some q) : Un [] [] [] S q.2 := by
  unfold fX0_isSurer at h
  refine cs_e h (fun _ h => ?_) (fun _ h => ?_)
  · skip
    refine Un.trans ?_ (wX0_isSurer_24  h)
    exact Un.refl _
  · skip
    obtain ⟨g2, h⟩ := gd_e h
    obtain ⟨g3, h⟩ := gd_e h
    refine cs_e h (fun _ h => ?_) (fun _ h => ?_)
    · skip
      refine Un.trans ?_ (wX0_isSurer_24  h)
      exact Un.refl _
    · skip
      have h := Option.some.inj h
      subst h
      exact Un.refl _
set_option maxRecDepth 4000 in
theorem wX0_isGuestSurer_22 {q : Int32 × St}   {S : St} (h : FX0_isGuestSurer_22  S = some q) : Un [] [] [] S q.2 := by
  unfold FX0_isGuestSurer_22 at h
  have h := Option.some.inj h
  subst h
  exact Un.refl _
set_option maxRecDepth 4000 in
theorem wX0_isGuestSurer {q : Int32 × St} {l1 : Int32} {S : St} (h : fX0_isGuestSurer l1 S = some q) : Un [] [] [] S q.2 := by
  unfold fX0_isGuestSurer at h
  refine cs_e h (fun _ h => ?_) (fun _ h => ?_)
  · skip
    refine Un.trans ?_ (wX0_isGuestSurer_22  h)
    exact Un.refl _
  · skip
    obtain ⟨g2, h⟩ := gd_e h
    refine cs_e h (fun _ h => ?_) (fun _ h => ?_)
    · skip
      refine Un.trans ?_ (wX0_isGuestSurer_22  h)
      exact Un.refl _
    · skip
      have h := Option.some.inj h
      subst h
      exact Un.refl _
set_option maxRecDepth 4000 in
theorem wX0_noChance {q : Int32 × St} {l1 : Int32} {l2 : Int32} {S : St} (h : fX0_noChance l1 l2 S = some q) : Un [] [] [] S q.2 := by
  unfold fX0_noChance at h
  refine cs_e h (fun _ h => ?_) (fun _ h => ?_)
  · skip
    have h := Option.some.inj h
    subst h
    exact Un.refl _
  · skip
    have h := Option.some.inj h
    subst h
    exact Un.refl _
set_option maxRecDepth 4000 in
theorem wX0_mayBelieve_30 {q : Int32 × St}   {S : St} (h : FX0_mayBelieve_30  S = some q) : Un [] [] [] S q.2 := by
  unfold FX0_mayBelieve_30 at h
  have h := Option.some.inj h
  subst h
  exact Un.refl _
set_option maxRecDepth 4000 in
theorem wX0_mayBelieve {q : Int32 × St} {l1 : Int32} {l2 : Int32} {S : St} (h : fX0_mayBelieve l1 l2 S = some q) : Un [] [] [] S q.2 := by
  unfold fX0_mayBelieve at h
  refine cs_e h (fun _ h => ?_) (fun _ h => ?_)
  · skip
    refine Un.trans ?_ (wX0_mayBelieve_30  h)
    exact Un.refl _
  · skip
    obtain ⟨g2, h⟩ := gd_e h
    refine cs_e h (fun _ h => ?_) (fun _ h => ?_)
    · skip
      refine Un.trans ?_ (wX0_mayBelieve_30  h)
      exact Un.refl _
    · skip
      obtain ⟨g4, h⟩ := gd_e h
      refine cs_e h (fun _ h => ?_) (fun _ h => ?_)
      · skip
        refine Un.trans ?_ (wX0_mayBelieve_30  h)
        exact Un.refl _
      · skip
        have h := Option.some.inj h
        subst h
        exact Un.refl _
set_option maxRecDepth 4000 in
theorem wX0_comes {q : Int32 × St} {l1 : Int32} {l2 : Int32} {S : St} (h : fX0_comes l1 l2 S = some q) : Un [(25, 3)] [] [] S q.2 := by
  unfold fX0_comes at h
  refine cs_e h (fun _ h => ?_) (fun _ h => ?_)
  · skip
    refine cs_e h (fun _ h => ?_) (fun _ h => ?_)
    · skip
      have h := Option.some.inj h
      subst h
      exact Un.refl _
    · skip
      have h := Option.some.inj h
      subst h
      exact Un.refl _
  · skip
    refine cs_e h (fun _ h => ?_) (fun _ h => ?_)
    · skip
      have h := Option.some.inj h
      subst h
      refine Un.nS ?_ (List.mem_of_getElem? (i := 0) rfl)
      exact Un.refl _
    · skip
      have h := Option.some.inj h
      subst h
      refine Un.nS ?_ (List.mem_of_getElem? (i := 0) rfl)
      exact Un.refl _
set_option maxRecDepth 4000 in
theorem wX0_share {q : Int64 × St} {l1 : Int64} {l3 : Int32} {l4 : Int32} {S : St} (h : fX0_share l1 l3 l4 S = some q) : Un [] [] [] S q.2 := by
  unfold fX0_share at h
  have h := Option.some.inj h
  subst h
  exact Un.refl _
set_option maxRecDepth 4000 in
theorem wX1_begin {q : Unit × St} {l1 : Int64} {S : St} (h : fX1_begin l1 S = some q) : Un [(33, 3), (33, 5)] [(36, 99)] [] S q.2 := by
  unfold fX1_begin at h
  obtain ⟨g1, h⟩ := gd_e h
  have h := Option.some.inj h
  subst h
  refine Un.nS ?_ (List.mem_of_getElem? (i := 1) rfl)
  refine Un.nS ?_ (List.mem_of_getElem? (i := 0) rfl)
  refine Un.jA ?_ (List.mem_of_getElem? (i := 0) rfl)
  exact Un.refl _
set_option maxRecDepth 4000 in
theorem wX1_split_35 {q : Unit × St}  : ∀ (n : Nat) {l2 : Int32} {l3 : Int32} {S : St}, FX1_split_35 n l2 l3 S = some q → Un [(33, 3), (33, 5), (37, 99)] [(36, 99)] [] S q.2 := by
  intro n
  induction n with
  | zero => intro _ _ _ h; cases h
  | succ n ih =>
    intro l2 l3 S h
    rw [FX1_split_35] at h
    refine cs_e h (fun _ h => ?_) (fun _ h => ?_)
    · skip
      have h := Option.some.inj h
      subst h
      refine Un.nS ?_ (List.mem_of_getElem? (i := 0) rfl)
      exact Un.refl _
    · skip
      obtain ⟨g8, h⟩ := gd_e h
      obtain ⟨g11, h⟩ := gd_e h
      obtain ⟨g13, h⟩ := gd_e h
      obtain ⟨g14, h⟩ := gd_e h
      refine Un.trans ?_ (ih h)
      refine Un.jA ?_ (List.mem_of_getElem? (i := 0) rfl)
      refine Un.jA ?_ (List.mem_of_getElem? (i := 0) rfl)
      exact Un.refl _
set_option maxRecDepth 4000 in
theorem wX1_split {q : Unit × St} {l1 : Int32} {l2 : Int32} {S : St} (h : fX1_split l1 l2 S = some q) : Un [(33, 3), (33, 5), (37, 99)] [(36, 99)] [] S q.2 := by
  unfold fX1_split at h
  refine cs_e h (fun _ h => ?_) (fun _ h => ?_)
  · skip
    obtain ⟨g3, h⟩ := gd_e h
    refine Un.trans ?_ (wX1_split_35  _ h)
    refine Un.nS ?_ (List.mem_of_getElem? (i := 1) rfl)
    refine Un.nA ?_ (List.mem_of_getElem? (i := 2) rfl)
    exact Un.refl _
  · skip
    have h := Option.some.inj h
    subst h
    exact Un.refl _
set_option maxRecDepth 4000 in
theorem wX1_thatAllKnow {q : Int32 × St} {l1 : Int32} {S : St} (h : fX1_thatAllKnow l1 S = some q) : Un [] [] [] S q.2 := by
  unfold fX1_thatAllKnow at h
  obtain ⟨g1, h⟩ := gd_e h
  obtain ⟨g2, h⟩ := gd_e h
  obtain ⟨g4, h⟩ := gd_e h
  have h := Option.some.inj h
  subst h
  exact Un.refl _
set_option maxRecDepth 4000 in
theorem wX1_thatNobodyKnows_79 {q : Int32 × St}  {k5 : Int32 → Int64 → Int32 → St → Option (Int32 × St)} (hk5 : ∀ {l1 : Int32} {l2 : Int64} {l4 : Int32} {S : St}, k5 l1 l2 l4 S = some q → Un [] [] [] S q.2) {l1 : Int32} {l4 : Int32} {s0 : Int64} {s1 : Int64} {S : St} (h : FX1_thatNobodyKnows_79 k5 l1 l4 s0 s1 S = some q) : Un [] [] [] S q.2 := by
  unfold FX1_thatNobodyKnows_79 at h
  refine Un.trans ?_ (hk5 h)
  exact Un.refl _
set_option maxRecDepth 4000 in
theorem wX1_thatNobodyKnows_54 {q : Int32 × St}  {k21 : Int32 → Int64 → Int32 → Int32 → Int32 → St → Option (Int32 × St)} (hk21 : ∀ {l1 : Int32} {l2 : Int64} {l4 : Int32} {l5 : Int32} {l6 : Int32} {S : St}, k21 l1 l2 l4 l5 l6 S = some q → Un [] [] [] S q.2) {l1 : Int32} {l2 : Int64} {l4 : Int32} {l6 : Int32} {s0 : Int32} {S : St} (h : FX1_thatNobodyKnows_54 k21 l1 l2 l4 l6 s0 S = some q) : Un [] [] [] S q.2 := by
  unfold FX1_thatNobodyKnows_54 at h
  refine Un.trans ?_ (hk21 h)
  exact Un.refl _
set_option maxRecDepth 4000 in
theorem wX1_thatNobodyKnows_49 {q : Int32 × St}  {k21 : Int32 → Int64 → Int32 → Int32 → Int32 → St → Option (Int32 × St)} (hk21 : ∀ {l1 : Int32} {l2 : Int64} {l4 : Int32} {l5 : Int32} {l6 : Int32} {S : St}, k21 l1 l2 l4 l5 l6 S = some q → Un [] [] [] S q.2) {l1 : Int32} {l2 : Int64} {l4 : Int32} {l6 : Int32} {S : St} (h : FX1_thatNobodyKnows_49 k21 l1 l2 l4 l6 S = some q) : Un [] [] [] S q.2 := by
  unfold FX1_thatNobodyKnows_49 at h
  refine Un.trans ?_ (wX1_thatNobodyKnows_54 hk21 h)
  exact Un.refl _
set_option maxRecDepth 4000 in
theorem wX1_thatNobodyKnows_21 {q : Int32 × St}  {k5 : Int32 → Int64 → Int32 → St → Option (Int32 × St)} (hk5 : ∀ {l1 : Int32} {l2 : Int64} {l4 : Int32} {S : St}, k5 l1 l2 l4 S = some q → Un [] [] [] S q.2) : ∀ (n : Nat) {l1 : Int32} {l2 : Int64} {l4 : Int32} {l5 : Int32} {l6 : Int32} {S : St}, FX1_thatNobodyKnows_21 k5 n l1 l2 l4 l5 l6 S = some q → Un [] [] [] S q.2 := by
  intro n
  induction n with
  | zero => intro _ _ _ _ _ _ h; cases h
  | succ n ih =>
    intro l1 l2 l4 l5 l6 S h
    rw [FX1_thatNobodyKnows_21] at h
    refine cs_e h (fun _ h => ?_) (fun _ h => ?_)
    · skip
      refine cs_e h (fun _ h => ?_) (fun _ h => ?_)
      · skip
        obtain ⟨g5, h⟩ := gd_e h
        obtain ⟨g6, h⟩ := gd_e h
        refine Un.trans ?_ (wX1_thatNobodyKnows_79 hk5 h)
        exact Un.refl _
      · skip
        refine Un.trans ?_ (wX1_thatNobodyKnows_79 hk5 h)
        exact Un.refl _
    · skip
      refine cs_e h (fun _ h => ?_) (fun _ h => ?_)
      · skip
        obtain ⟨g8, h⟩ := gd_e h
        obtain ⟨g9, h⟩ := gd_e h
        refine cs_e h (fun _ h => ?_) (fun _ h => ?_)
        · skip
          refine Un.trans ?_ (wX1_thatNobodyKnows_49 (fun h => ih h) h)
          exact Un.refl _
        · skip
          refine Un.trans ?_ (wX1_thatNobodyKnows_54 (fun h => ih h) h)
          exact Un.refl _
      · skip
        refine Un.trans ?_ (wX1_thatNobodyKnows_49 (fun h => ih h) h)
        exact Un.refl _
set_option maxRecDepth 4000 in
theorem wX1_thatNobodyKnows_5 {q : Int32 × St}  : ∀ (n : Nat) {l1 : Int32} {l2 : Int64} {l4 : Int32} {S : St}, FX1_thatNobodyKnows_5 n l1 l2 l4 S = some q → Un [] [] [] S q.2 := by
  intro n
  induction n with
  | zero => intro _ _ _ _ h; cases h
  | succ n ih =>
    intro l1 l2 l4 S h
    rw [FX1_thatNobodyKnows_5] at h
    obtain ⟨g1, h⟩ := gd_e h
    refine cs_e h (fun _ h => ?_) (fun _ h => ?_)
    · skip
      have h := Option.some.inj h
      subst h
      exact Un.refl _
    · skip
      refine Un.trans ?_ (wX1_thatNobodyKnows_21 (fun h => ih h) _ h)
      exact Un.refl _
set_option maxRecDepth 4000 in
theorem wX1_thatNobodyKnows {q : Int32 × St} {l1 : Int32} {S : St} (h : fX1_thatNobodyKnows l1 S = some q) : Un [] [] [] S q.2 := by
  unfold fX1_thatNobodyKnows at h
  refine Un.trans ?_ (wX1_thatNobodyKnows_5  _ h)
  exact Un.refl _
set_option maxRecDepth 4000 in
theorem wX1_meanLevel_5 {q : Int32 × St}  : ∀ (n : Nat) {l1 : Int32} {l2 : Int32} {l3 : Int64} {l5 : Int32} {S : St}, FX1_meanLevel_5 n l1 l2 l3 l5 S = some q → Un [] [] [] S q.2 := by
  intro n
  induction n with
  | zero => intro _ _ _ _ _ h; cases h
  | succ n ih =>
    intro l1 l2 l3 l5 S h
    rw [FX1_meanLevel_5] at h
    obtain ⟨g1, h⟩ := gd_e h
    refine cs_e h (fun _ h => ?_) (fun _ h => ?_)
    · skip
      have h := Option.some.inj h
      subst h
      exact Un.refl _
    · skip
      obtain ⟨g3, h⟩ := gd_e h
      obtain ⟨g4, h⟩ := gd_e h
      obtain ⟨g5, h⟩ := gd_e h
      obtain ⟨g6, h⟩ := gd_e h
      refine Un.trans ?_ (ih h)
      exact Un.refl _
set_option maxRecDepth 4000 in
theorem wX1_meanLevel {q : Int32 × St} {l1 : Int32} {l2 : Int32} {S : St} (h : fX1_meanLevel l1 l2 S = some q) : Un [] [] [] S q.2 := by
  unfold fX1_meanLevel at h
  refine Un.trans ?_ (wX1_meanLevel_5  _ h)
  exact Un.refl _
set_option maxRecDepth 4000 in
theorem wX2_add {q : Unit × St} {l1 : Int32} {S : St} (h : fX2_add l1 S = some q) : Un [(1, 1), (2, 99)] [] [] S q.2 := by
  unfold fX2_add at h
  refine cs_e h (fun _ h => ?_) (fun _ h => ?_)
  · skip
    have h := Option.some.inj h
    subst h
    exact Un.refl _
  · skip
    obtain ⟨g3, h⟩ := gd_e h
    have h := Option.some.inj h
    subst h
    refine Un.nS ?_ (List.mem_of_getElem? (i := 0) rfl)
    refine Un.nA ?_ (List.mem_of_getElem? (i := 1) rfl)
    exact Un.refl _
set_option maxRecDepth 4000 in
theorem wX2_isSign_25 {q : Int32 × St}   {S : St} (h : FX2_isSign_25  S = some q) : Un [] [] [] S q.2 := by
  unfold FX2_isSign_25 at h
  have h := Option.some.inj h
  subst h
  exact Un.refl _
set_option maxRecDepth 4000 in
theorem wX2_isSign {q : Int32 × St} {l1 : Int32} {S : St} (h : fX2_isSign l1 S = some q) : Un [] [] [] S q.2 := by
  unfold fX2_isSign at h
  refine cs_e h (fun _ h => ?_) (fun _ h => ?_)
  · skip
    obtain ⟨g3, h⟩ := gd_e h
    refine cs_e h (fun _ h => ?_) (fun _ h => ?_)
    · skip
      have h := Option.some.inj h
      subst h
      exact Un.refl _
    · skip
      refine Un.trans ?_ (wX2_isSign_25  h)
      exact Un.refl _
  · skip
    refine Un.trans ?_ (wX2_isSign_25  h)
    exact Un.refl _
set_option maxRecDepth 4000 in
theorem wX2_refuse {q : Unit × St} {l1 : Int32} {l2 : Int32} {S : St} (h : fX2_refuse l1 l2 S = some q) : Un [(1, 2), (1, 3)] [] [] S q.2 := by
  unfold fX2_refuse at h
  refine cs_e h (fun _ h => ?_) (fun _ h => ?_)
  · skip
    have h := Option.some.inj h
    subst h
    refine Un.nS ?_ (List.mem_of_getElem? (i := 0) rfl)
    refine Un.nS ?_ (List.mem_of_getElem? (i := 1) rfl)
    exact Un.refl _
  · skip
    have h := Option.some.inj h
    subst h
    exact Un.refl _
set_option maxRecDepth 4000 in
theorem wX2_kindAt_60 {q : Int32 × St}   {S : St} (h : FX2_kindAt_60  S = some q) : Un [] [] [] S q.2 := by
  unfold FX2_kindAt_60 at h
  have h := Option.some.inj h
  subst h
  exact Un.refl _
set_option maxRecDepth 4000 in
theorem wX2_kindAt_34 {q : Int32 × St}  {l1 : Int32} {S : St} (h : FX2_kindAt_34 l1 S = some q) : Un [] [] [] S q.2 := by
  unfold FX2_kindAt_34 at h
  obtain ⟨g6, h⟩ := gd_e h
  refine cs_e h (fun _ h => ?_) (fun _ h => ?_)
  · skip
    refine Un.trans ?_ (wX2_kindAt_60  h)
    exact Un.refl _
  · skip
    obtain ⟨g8, h⟩ := gd_e h
    refine cs_e h (fun _ h => ?_) (fun _ h => ?_)
    · skip
      refine Un.trans ?_ (wX2_kindAt_60  h)
      exact Un.refl _
    · skip
      have h := Option.some.inj h
      subst h
      exact Un.refl _
set_option maxRecDepth 4000 in
theorem wX2_kindAt {q : Int32 × St} {l1 : Int32} {S : St} (h : fX2_kindAt l1 S = some q) : Un [] [] [] S q.2 := by
  unfold fX2_kindAt at h
  refine cs_e h (fun _ h => ?_) (fun _ h => ?_)
  · skip
    obtain ⟨g2, h⟩ := gd_e h
    refine cs_e h (fun _ h => ?_) (fun _ h => ?_)
    · skip
      refine Un.trans ?_ (wX2_kindAt_34  h)
      exact Un.refl _
    · skip
      obtain ⟨g4, h⟩ := gd_e h
      refine cs_e h (fun _ h => ?_) (fun _ h => ?_)
      · skip
        refine Un.trans ?_ (wX2_kindAt_34  h)
        exact Un.refl _
      · skip
        have h := Option.some.inj h
        subst h
        exact Un.refl _
  · skip
    have h := Option.some.inj h
    subst h
    exact Un.refl _
set_option maxRecDepth 4000 in
theorem wX3_topOf_39 {q : Int32 × St}  {k3 : Nat → Nat → Int32 → Int32 → Int32 → St → Option (Int32 × St)} (hk3 : ∀ {t0 : Nat} {t1 : Nat} {l2 : Int32} {l3 : Int32} {l4 : Int32} {S : St}, k3 t0 t1 l2 l3 l4 S = some q → Un [] [] [] S q.2) {t0 : Nat} {t1 : Nat} {l2 : Int32} {l3 : Int32} {l4 : Int32} {S : St} (h : FX3_topOf_39 k3 t0 t1 l2 l3 l4 S = some q) : Un [] [] [] S q.2 := by
  unfold FX3_topOf_39 at h
  refine Un.trans ?_ (hk3 h)
  exact Un.refl _
set_option maxRecDepth 4000 in
theorem wX3_topOf_3 {q : Int32 × St}  : ∀ (n : Nat) {t0 : Nat} {t1 : Nat} {l2 : Int32} {l3 : Int32} {l4 : Int32} {S : St}, FX3_topOf_3 n t0 t1 l2 l3 l4 S = some q → Un [] [] [] S q.2 := by
  intro n
  induction n with
  | zero => intro _ _ _ _ _ _ h; cases h
  | succ n ih =>
    intro t0 t1 l2 l3 l4 S h
    rw [FX3_topOf_3] at h
    refine cs_e h (fun _ h => ?_) (fun _ h => ?_)
    · skip
      have h := Option.some.inj h
      subst h
      exact Un.refl _
    · skip
      obtain ⟨g2, h⟩ := gd_e h
      refine cs_e h (fun _ h => ?_) (fun _ h => ?_)
      · skip
        obtain ⟨g5, h⟩ := gd_e h
        refine cs_e h (fun _ h => ?_) (fun _ h => ?_)
        · skip
          refine Un.trans ?_ (wX3_topOf_39 (fun h => ih h) h)
          exact Un.refl _
        · skip
          have h := Option.some.inj h
          subst h
          exact Un.refl _
      · skip
        refine Un.trans ?_ (wX3_topOf_39 (fun h => ih h) h)
        exact Un.refl _
set_option maxRecDepth 4000 in
theorem wX3_topOf {q : Int32 × St} {t0 : Nat} {t1 : Nat} {l2 : Int32} {l3 : Int32} {S : St} (h : fX3_topOf t0 t1 l2 l3 S = some q) : Un [] [] [] S q.2 := by
  unfold fX3_topOf at h
  refine Un.trans ?_ (wX3_topOf_3  _ h)
  exact Un.refl _
set_option maxRecDepth 4000 in
theorem wX4_forget {q : Unit × St} {t0 : Nat} {S : St} (h : fX4_forget t0 S = some q) : Un [(t0, 1)] [] [] S q.2 := by
  unfold fX4_forget at h
  have h := Option.some.inj h
  subst h
  refine Un.nS ?_ (List.mem_of_getElem? (i := 0) rfl)
  exact Un.refl _
set_option maxRecDepth 4000 in
theorem wX5_begin {q : Unit × St} {t0 : Nat} {t1 : Nat} {S : St} (h : fX5_begin t0 t1 S = some q) : Un [(t0, 1), (t0, 3), (t0 + 1, 99)] [] [] S q.2 := by
  unfold fX5_begin at h
  obtain ⟨g1, h⟩ := gd_e h
  obtain ⟨g4, h⟩ := gd_e h
  have h := Option.some.inj h
  subst h
  refine Un.nS ?_ (List.mem_of_getElem? (i := 1) rfl)
  refine Un.nS ?_ (List.mem_of_getElem? (i := 0) rfl)
  refine Un.nP ?_ (List.mem_of_getElem? (i := 2) rfl)
  exact Un.refl _
set_option maxRecDepth 4000 in
theorem wX5_take {q : Unit × St} {t0 : Nat} {t1 : Nat} {S : St} (h : fX5_take t0 t1 S = some q) : Un [(t0, 1), (t0, 2), (t0, 3), (t0 + 1, 99)] [] [] S q.2 := by
  unfold fX5_take at h
  obtain ⟨g1, h⟩ := gd_e h
  obtain ⟨g5, h⟩ := gd_e h
  have h := Option.some.inj h
  subst h
  refine Un.nS ?_ (List.mem_of_getElem? (i := 2) rfl)
  refine Un.nS ?_ (List.mem_of_getElem? (i := 1) rfl)
  refine Un.nS ?_ (List.mem_of_getElem? (i := 0) rfl)
  refine Un.nP ?_ (List.mem_of_getElem? (i := 3) rfl)
  exact Un.refl _
set_option maxRecDepth 4000 in
theorem wX6_fault {q : Int32 × St}  {S : St} (h : fX6_fault  S = some q) : Un [] [] [] S q.2 := by
  unfold fX6_fault at h
  have h := Option.some.inj h
  subst h
  exact Un.refl _
set_option maxRecDepth 4000 in
theorem wX6_count {q : Int32 × St} {l1 : Int32} {S : St} (h : fX6_count l1 S = some q) : Un [] [] [] S q.2 := by
  unfold fX6_count at h
  refine cs_e h (fun _ h => ?_) (fun _ h => ?_)
  · skip
    obtain ⟨g1, h⟩ := gd_e h
    have h := Option.some.inj h
    subst h
    exact Un.refl _
  · skip
    refine cs_e h (fun _ h => ?_) (fun _ h => ?_)
    · skip
      obtain ⟨g3, h⟩ := gd_e h
      have h := Option.some.inj h
      subst h
      exact Un.refl _
    · skip
      refine cs_e h (fun _ h => ?_) (fun _ h => ?_)
      · skip
        have h := Option.some.inj h
        subst h
        exact Un.refl _
      · skip
        refine cs_e h (fun _ h => ?_) (fun _ h => ?_)
        · skip
          have h := Option.some.inj h
          subst h
          exact Un.refl _
        · skip
          refine cs_e h (fun _ h => ?_) (fun _ h => ?_)
          · skip
            refine cs_e h (fun _ h => ?_) (fun _ h => ?_)
            · skip
              have h := Option.some.inj h
              subst h
              exact Un.refl _
            · skip
              have h := Option.some.inj h
              subst h
              exact Un.refl _
          · skip
            refine cs_e h (fun _ h => ?_) (fun _ h => ?_)
            · skip
              have h := Option.some.inj h
              subst h
              exact Un.refl _
            · skip
              have h := Option.some.inj h
              subst h
              exact Un.refl _
set_option maxRecDepth 4000 in
theorem wX6_guest_15 {q : Int32 × St}  {l1 : Int32} {s0 : Int32} {S : St} (h : FX6_guest_15 l1 s0 S = some q) : Un [(15, 1)] [] [] S q.2 := by
  unfold FX6_guest_15 at h
  obtain ⟨g3, h⟩ := gd_e h
  have h := Option.some.inj h
  subst h
  refine Un.nS ?_ (List.mem_of_getElem? (i := 0) rfl)
  exact Un.refl _
set_option maxRecDepth 4000 in
theorem wX6_guest {q : Int32 × St} {l1 : Int32} {S : St} (h : fX6_guest l1 S = some q) : Un [(15, 1)] [] [] S q.2 := by
  unfold fX6_guest at h
  refine cs_e h (fun _ h => ?_) (fun _ h => ?_)
  · skip
    refine Un.trans ?_ (wX6_guest_15  h)
    exact Un.refl _
  · skip
    refine Un.trans ?_ (wX6_guest_15  h)
    exact Un.refl _
set_option maxRecDepth 4000 in
theorem wX6_summer_10 {q : Int32 × St}   {S : St} (h : FX6_summer_10  S = some q) : Un [(16, 99)] [] [] S q.2 := by
  unfold FX6_summer_10 at h
  have h := Option.some.inj h
  subst h
  exact Un.refl _
set_option maxRecDepth 4000 in
theorem wX6_summer_106 {q : Int32 × St}  {k31 : Int32 → Int32 → Int32 → Int32 → St → Option (Int32 × St)} (hk31 : ∀ {l1 : Int32} {l2 : Int32} {l3 : Int32} {l4 : Int32} {S : St}, k31 l1 l2 l3 l4 S = some q → Un [(16, 99)] [] [] S q.2) {l1 : Int32} {l3 : Int32} {l4 : Int32} {s0 : Int32} {s1 : Int32} {S : St} (h : FX6_summer_106 k31 l1 l3 l4 s0 s1 S = some q) : Un [(16, 99)] [] [] S q.2 := by
  unfold FX6_summer_106 at h
  refine Un.trans ?_ (hk31 h)
  exact Un.refl _
set_option maxRecDepth 4000 in
theorem wX6_summer_74 {q : Int32 × St}  {k31 : Int32 → Int32 → Int32 → Int32 → St → Option (Int32 × St)} (hk31 : ∀ {l1 : Int32} {l2 : Int32} {l3 : Int32} {l4 : Int32} {S : St}, k31 l1 l2 l3 l4 S = some q → Un [(16, 99)] [] [] S q.2) {l1 : Int32} {l2 : Int32} {l3 : Int32} {l4 : Int32} {l5 : Int32} {s0 : Int32} {S : St} (h : FX6_summer_74 k31 l1 l2 l3 l4 l5 s0 S = some q) : Un [(16, 99)] [] [] S q.2 := by
  unfold FX6_summer_74 at h
  obtain ⟨g13, h⟩ := gd_e h
  refine cs_e h (fun _ h => ?_) (fun _ h => ?_)
  · skip
    refine Un.trans ?_ (wX6_summer_106 hk31 h)
    refine Un.nA ?_ (List.mem_of_getElem? (i := 0) rfl)
    exact Un.refl _
  · skip
    refine Un.trans ?_ (wX6_summer_106 hk31 h)
    refine Un.nA ?_ (List.mem_of_getElem? (i := 0) rfl)
    exact Un.refl _
set_option maxRecDepth 4000 in
theorem wX6_summer_31 {q : Int32 × St}  {k17 : Int32 → Int32 → Int32 → St → Option (Int32 × St)} (hk17 : ∀ {l1 : Int32} {l2 : Int32} {l3 : Int32} {S : St}, k17 l1 l2 l3 S = some q → Un [(16, 99)] [] [] S q.2) : ∀ (n : Nat) {l1 : Int32} {l2 : Int32} {l3 : Int32} {l4 : Int32} {S : St}, FX6_summer_31 k17 n l1 l2 l3 l4 S = some q → Un [(16, 99)] [] [] S q.2 := by
  intro n
  induction n with
  | zero => intro _ _ _ _ _ h; cases h
  | succ n ih =>
    intro l1 l2 l3 l4 S h
    rw [FX6_summer_31] at h
    obtain ⟨g5, h⟩ := gd_e h
    refine cs_e h (fun _ h => ?_) (fun _ h => ?_)
    · skip
      refine Un.trans ?_ (hk17 h)
      exact Un.refl _
    · skip
      obtain ⟨g9, h⟩ := gd_e h
      refine cs_e h (fun _ h => ?_) (fun _ h => ?_)
      · skip
        refine Un.trans ?_ (wX6_summer_74 (fun h => ih h) h)
        exact Un.refl _
      · skip
        refine Un.trans ?_ (wX6_summer_74 (fun h => ih h) h)
        exact Un.refl _
set_option maxRecDepth 4000 in
theorem wX6_summer_17 {q : Int32 × St}  : ∀ (n : Nat) {l1 : Int32} {l2 : Int32} {l3 : Int32} {S : St}, FX6_summer_17 n l1 l2 l3 S = some q → Un [(16, 99)] [] [] S q.2 := by
  intro n
  induction n with
  | zero => intro _ _ _ _ h; cases h
  | succ n ih =>
    intro l1 l2 l3 S h
    rw [FX6_summer_17] at h
    obtain ⟨g3, h⟩ := gd_e h
    refine cs_e h (fun _ h => ?_) (fun _ h => ?_)
    · skip
      have h := Option.some.inj h
      subst h
      exact Un.refl _
    · skip
      refine Un.trans ?_ (wX6_summer_31 (fun h => ih h) _ h)
      exact Un.refl _
set_option maxRecDepth 4000 in
theorem wX6_summer {q : Int32 × St} {l1 : Int32} {S : St} (h : fX6_summer l1 S = some q) : Un [(16, 99)] [] [] S q.2 := by
  unfold fX6_summer at h
  refine cs_e h (fun _ h => ?_) (fun _ h => ?_)
  · skip
    refine Un.trans ?_ (wX6_summer_10  h)
    exact Un.refl _
  · skip
    refine cs_e h (fun _ h => ?_) (fun _ h => ?_)
    · skip
      refine Un.trans ?_ (wX6_summer_17  _ h)
      exact Un.refl _
    · skip
      refine Un.trans ?_ (wX6_summer_10  h)
      exact Un.refl _
set_option maxRecDepth 4000 in
theorem wX6_clear {q : Int32 × St}  {S : St} (h : fX6_clear  S = some q) : Un [(0, 9)] [] [] S q.2 := by
  unfold fX6_clear at h
  have h := Option.some.inj h
  subst h
  refine Un.nS ?_ (List.mem_of_getElem? (i := 0) rfl)
  exact Un.refl _
set_option maxRecDepth 4000 in
theorem wX6_seed {q : Int32 × St} {l1 : Int32} {S : St} (h : fX6_seed l1 S = some q) : Un [(15, 2)] [] [] S q.2 := by
  unfold fX6_seed at h
  refine cs_e h (fun _ h => ?_) (fun _ h => ?_)
  · skip
    have h := Option.some.inj h
    subst h
    refine Un.nS ?_ (List.mem_of_getElem? (i := 0) rfl)
    exact Un.refl _
  · skip
    have h := Option.some.inj h
    subst h
    exact Un.refl _
set_option maxRecDepth 4000 in
theorem wX6_isPupil_19 {q : Int32 × St}   {S : St} (h : FX6_isPupil_19  S = some q) : Un [] [] [] S q.2 := by
  unfold FX6_isPupil_19 at h
  have h := Option.some.inj h
  subst h
  exact Un.refl _
set_option maxRecDepth 4000 in
theorem wX6_isPupil {q : Int32 × St} {l1 : Int32} {S : St} (h : fX6_isPupil l1 S = some q) : Un [] [] [] S q.2 := by
  unfold fX6_isPupil at h
  refine cs_e h (fun _ h => ?_) (fun _ h => ?_)
  · skip
    refine Un.trans ?_ (wX6_isPupil_19  h)
    exact Un.refl _
  · skip
    obtain ⟨g2, h⟩ := gd_e h
    refine cs_e h (fun _ h => ?_) (fun _ h => ?_)
    · skip
      refine Un.trans ?_ (wX6_isPupil_19  h)
      exact Un.refl _
    · skip
      have h := Option.some.inj h
      subst h
      exact Un.refl _
set_option maxRecDepth 4000 in
theorem wX6_isThing_19 {q : Int32 × St}   {S : St} (h : FX6_isThing_19  S = some q) : Un [] [] [] S q.2 := by
  unfold FX6_isThing_19 at h
  have h := Option.some.inj h
  subst h
  exact Un.refl _
set_option maxRecDepth 4000 in
theorem wX6_isThing {q : Int32 × St} {l1 : Int32} {S : St} (h : fX6_isThing l1 S = some q) : Un [] [] [] S q.2 := by
  unfold fX6_isThing at h
  refine cs_e h (fun _ h => ?_) (fun _ h => ?_)
  · skip
    refine Un.trans ?_ (wX6_isThing_19  h)
    exact Un.refl _
  · skip
    obtain ⟨g2, h⟩ := gd_e h
    refine cs_e h (fun _ h => ?_) (fun _ h => ?_)
    · skip
      refine Un.trans ?_ (wX6_isThing_19  h)
      exact Un.refl _
    · skip
      have h := Option.some.inj h
      subst h
      exact Un.refl _
set_option maxRecDepth 4000 in
theorem wX6_isRule_13 {q : Int32 × St}   {S : St} (h : FX6_isRule_13  S = some q) : Un [] [] [] S q.2 := by
  unfold FX6_isRule_13 at h
  have h := Option.some.inj h
  subst h
  exact Un.refl _
set_option maxRecDepth 4000 in
theorem wX6_isRule {q : Int32 × St} {l1 : Int32} {S : St} (h : fX6_isRule l1 S = some q) : Un [] [] [] S q.2 := by
  unfold fX6_isRule at h
  refine cs_e h (fun _ h => ?_) (fun _ h => ?_)
  · skip
    refine Un.trans ?_ (wX6_isRule_13  h)
    exact Un.refl _
  · skip
    refine cs_e h (fun _ h => ?_) (fun _ h => ?_)
    · skip
      refine Un.trans ?_ (wX6_isRule_13  h)
      exact Un.refl _
    · skip
      have h := Option.some.inj h
      subst h
      exact Un.refl _
set_option maxRecDepth 4000 in
theorem wX6_knownThings_40 {q : Int32 × St}  {k4 : Int32 → Int32 → Int32 → St → Option (Int32 × St)} (hk4 : ∀ {l1 : Int32} {l2 : Int32} {l3 : Int32} {S : St}, k4 l1 l2 l3 S = some q → Un [] [] [] S q.2) {l1 : Int32} {l3 : Int32} {s0 : Int32} {s1 : Int32} {S : St} (h : FX6_knownThings_40 k4 l1 l3 s0 s1 S = some q) : Un [] [] [] S q.2 := by
  unfold FX6_knownThings_40 at h
  refine Un.trans ?_ (hk4 h)
  exact Un.refl _
set_option maxRecDepth 4000 in
theorem wX6_knownThings_4 {q : Int32 × St}  : ∀ (n : Nat) {l1 : Int32} {l2 : Int32} {l3 : Int32} {S : St}, FX6_knownThings_4 n l1 l2 l3 S = some q → Un [] [] [] S q.2 := by
  intro n
  induction n with
  | zero => intro _ _ _ _ h; cases h
  | succ n ih =>
    intro l1 l2 l3 S h
    rw [FX6_knownThings_4] at h
    obtain ⟨g1, h⟩ := gd_e h
    refine cs_e h (fun _ h => ?_) (fun _ h => ?_)
    · skip
      have h := Option.some.inj h
      subst h
      exact Un.refl _
    · skip
      obtain ⟨g4, h⟩ := gd_e h
      refine cs_e h (fun _ h => ?_) (fun _ h => ?_)
      · skip
        refine Un.trans ?_ (wX6_knownThings_40 (fun h => ih h) h)
        exact Un.refl _
      · skip
        refine Un.trans ?_ (wX6_knownThings_40 (fun h => ih h) h)
        exact Un.refl _
set_option maxRecDepth 4000 in
theorem wX6_knownThings {q : Int32 × St} {l1 : Int32} {S : St} (h : fX6_knownThings l1 S = some q) : Un [] [] [] S q.2 := by
  unfold fX6_knownThings at h
  refine Un.trans ?_ (wX6_knownThings_4  _ h)
  exact Un.refl _
set_option maxRecDepth 4000 in
theorem wX6_allLevels_4 {q : Int32 × St}  : ∀ (n : Nat) {l1 : Int32} {l2 : Int32} {l3 : Int32} {S : St}, FX6_allLevels_4 n l1 l2 l3 S = some q → Un [] [] [] S q.2 := by
  intro n
  induction n with
  | zero => intro _ _ _ _ h; cases h
  | succ n ih =>
    intro l1 l2 l3 S h
    rw [FX6_allLevels_4] at h
    obtain ⟨g1, h⟩ := gd_e h
    refine cs_e h (fun _ h => ?_) (fun _ h => ?_)
    · skip
      have h := Option.some.inj h
      subst h
      exact Un.refl _
    · skip
      obtain ⟨g4, h⟩ := gd_e h
      refine Un.trans ?_ (ih h)
      exact Un.refl _
set_option maxRecDepth 4000 in
theorem wX6_allLevels {q : Int32 × St} {l1 : Int32} {S : St} (h : fX6_allLevels l1 S = some q) : Un [] [] [] S q.2 := by
  unfold fX6_allLevels at h
  refine Un.trans ?_ (wX6_allLevels_4  _ h)
  exact Un.refl _
set_option maxRecDepth 4000 in
theorem wX6_imageOf {q : Nat × St} {l1 : Int32} {S : St} (h : fX6_imageOf l1 S = some q) : Un [] [] [] S q.2 := by
  unfold fX6_imageOf at h
  refine cs_e h (fun _ h => ?_) (fun _ h => ?_)
  · skip
    have h := Option.some.inj h
    subst h
    exact Un.refl _
  · skip
    have h := Option.some.inj h
    subst h
    exact Un.refl _
set_option maxRecDepth 4000 in
theorem wX6_searchFor {q : Nat × St} {l1 : Int32} {S : St} (h : fX6_searchFor l1 S = some q) : Un [] [] [] S q.2 := by
  unfold fX6_searchFor at h
  refine cs_e h (fun _ h => ?_) (fun _ h => ?_)
  · skip
    have h := Option.some.inj h
    subst h
    exact Un.refl _
  · skip
    have h := Option.some.inj h
    subst h
    exact Un.refl _
set_option maxRecDepth 4000 in
theorem wX7_in_17 {q : Int32 × St}   {S : St} (h : FX7_in_17  S = some q) : Un [] [] [] S q.2 := by
  unfold FX7_in_17 at h
  have h := Option.some.inj h
  subst h
  exact Un.refl _
set_option maxRecDepth 4000 in
theorem wX7_in {q : Int32 × St} {l0 : Int64} {l2 : Int64} {l4 : Int64} {S : St} (h : fX7_in l0 l2 l4 S = some q) : Un [] [] [] S q.2 := by
  unfold fX7_in at h
  refine cs_e h (fun _ h => ?_) (fun _ h => ?_)
  · skip
    refine Un.trans ?_ (wX7_in_17  h)
    exact Un.refl _
  · skip
    refine cs_e h (fun _ h => ?_) (fun _ h => ?_)
    · skip
      refine Un.trans ?_ (wX7_in_17  h)
      exact Un.refl _
    · skip
      have h := Option.some.inj h
      subst h
      exact Un.refl _
set_option maxRecDepth 4000 in
theorem wX7_has {q : Int32 × St} {l0 : Int32} {l1 : Int32} {S : St} (h : fX7_has l0 l1 S = some q) : Un [] [] [] S q.2 := by
  unfold fX7_has at h
  refine cs_e h (fun _ h => ?_) (fun _ h => ?_)
  · skip
    have h := Option.some.inj h
    subst h
    exact Un.refl _
  · skip
    have h := Option.some.inj h
    subst h
    exact Un.refl _
set_option maxRecDepth 4000 in
theorem wX7_here_38 {q : Int32 × St}   {S : St} (h : FX7_here_38  S = some q) : Un [(44, 10)] [] [] S q.2 := by
  unfold FX7_here_38 at h
  refine cs_e h (fun _ h => ?_) (fun _ h => ?_)
  · skip
    have h := Option.some.inj h
    subst h
    exact Un.refl _
  · skip
    obtain ⟨g8, h⟩ := gd_e h
    have h := Option.some.inj h
    subst h
    exact Un.refl _
set_option maxRecDepth 4000 in
theorem wX7_here_0 {q : Int32 × St}  : ∀ (n : Nat)  {S : St}, FX7_here_0 n  S = some q → Un [(44, 10)] [] [] S q.2 := by
  intro n
  induction n with
  | zero => intro _ h; cases h
  | succ n ih =>
    intro S h
    rw [FX7_here_0] at h
    refine cs_e h (fun _ h => ?_) (fun _ h => ?_)
    · skip
      refine Un.trans ?_ (wX7_here_38  h)
      exact Un.refl _
    · skip
      obtain ⟨g3, h⟩ := gd_e h
      refine cs_e h (fun _ h => ?_) (fun _ h => ?_)
      · skip
        refine Un.trans ?_ (ih h)
        refine Un.nS ?_ (List.mem_of_getElem? (i := 0) rfl)
        exact Un.refl _
      · skip
        refine Un.trans ?_ (wX7_here_38  h)
        exact Un.refl _
set_option maxRecDepth 4000 in
theorem wX7_here {q : Int32 × St}  {S : St} (h : fX7_here  S = some q) : Un [(44, 10)] [] [] S q.2 := by
  unfold fX7_here at h
  refine Un.trans ?_ (wX7_here_0  _ h)
  exact Un.refl _
set_option maxRecDepth 4000 in
theorem wX7_fails {q : Int32 × St} {l1 : Int32} {l2 : Int32} {S : St} (h : fX7_fails l1 l2 S = some q) : Un [(44, 9)] [] [] S q.2 := by
  unfold fX7_fails at h
  have h := Option.some.inj h
  subst h
  refine Un.nS ?_ (List.mem_of_getElem? (i := 0) rfl)
  exact Un.refl _
set_option maxRecDepth 4000 in
theorem wX7_code {q : Int64 × St} {l0 : Int32} {l1 : Int32} {l2 : Int32} {l3 : Int32} {l4 : Int32} {S : St} (h : fX7_code l0 l1 l2 l3 l4 S = some q) : Un [] [] [] S q.2 := by
  unfold fX7_code at h
  have h := Option.some.inj h
  subst h
  exact Un.refl _
set_option maxRecDepth 4000 in
theorem wX7_fault {q : Int32 × St}  {S : St} (h : fX7_fault  S = some q) : Un [] [] [] S q.2 := by
  unfold fX7_fault at h
  have h := Option.some.inj h
  subst h
  exact Un.refl _
set_option maxRecDepth 4000 in
theorem wX7_count {q : Int32 × St} {l1 : Int32} {S : St} (h : fX7_count l1 S = some q) : Un [] [] [] S q.2 := by
  unfold fX7_count at h
  refine cs_e h (fun _ h => ?_) (fun _ h => ?_)
  · skip
    have h := Option.some.inj h
    subst h
    exact Un.refl _
  · skip
    refine cs_e h (fun _ h => ?_) (fun _ h => ?_)
    · skip
      have h := Option.some.inj h
      subst h
      exact Un.refl _
    · skip
      refine cs_e h (fun _ h => ?_) (fun _ h => ?_)
      · skip
        have h := Option.some.inj h
        subst h
        exact Un.refl _
      · skip
        refine cs_e h (fun _ h => ?_) (fun _ h => ?_)
        · skip
          have h := Option.some.inj h
          subst h
          exact Un.refl _
        · skip
          refine cs_e h (fun _ h => ?_) (fun _ h => ?_)
          · skip
            refine cs_e h (fun _ h => ?_) (fun _ h => ?_)
            · skip
              have h := Option.some.inj h
              subst h
              exact Un.refl _
            · skip
              have h := Option.some.inj h
              subst h
              exact Un.refl _
          · skip
            refine cs_e h (fun _ h => ?_) (fun _ h => ?_)
            · skip
              have h := Option.some.inj h
              subst h
              exact Un.refl _
            · skip
              have h := Option.some.inj h
              subst h
              exact Un.refl _
set_option maxRecDepth 4000 in
theorem wX7_guest_12 {q : Int32 × St}  {l1 : Int32} {s0 : Int32} {S : St} (h : FX7_guest_12 l1 s0 S = some q) : Un [(44, 5)] [] [] S q.2 := by
  unfold FX7_guest_12 at h
  obtain ⟨g3, h⟩ := gd_e h
  have h := Option.some.inj h
  subst h
  refine Un.nS ?_ (List.mem_of_getElem? (i := 0) rfl)
  exact Un.refl _
set_option maxRecDepth 4000 in
theorem wX7_guest {q : Int32 × St} {l1 : Int32} {S : St} (h : fX7_guest l1 S = some q) : Un [(44, 5)] [] [] S q.2 := by
  unfold fX7_guest at h
  refine cs_e h (fun _ h => ?_) (fun _ h => ?_)
  · skip
    refine Un.trans ?_ (wX7_guest_12  h)
    exact Un.refl _
  · skip
    refine Un.trans ?_ (wX7_guest_12  h)
    exact Un.refl _
set_option maxRecDepth 4000 in
theorem wX7_draw {q : Int32 × St} {l1 : Int32} {S : St} (h : fX7_draw l1 S = some q) : Un [(44, 23)] [] [] S q.2 := by
  unfold fX7_draw at h
  obtain ⟨g3, h⟩ := gd_e h
  have h := Option.some.inj h
  subst h
  refine Un.nS ?_ (List.mem_of_getElem? (i := 0) rfl)
  exact Un.refl _
set_option maxRecDepth 4000 in
theorem wX7_put_2 {q : Unit × St}  : ∀ (n : Nat) {l1 : Int32} {l2 : Int32} {S : St}, FX7_put_2 n l1 l2 S = some q → Un [(47, 99)] [] [] S q.2 := by
  intro n
  induction n with
  | zero => intro _ _ _ h; cases h
  | succ n ih =>
    intro l1 l2 S h
    rw [FX7_put_2] at h
    refine cs_e h (fun _ h => ?_) (fun _ h => ?_)
    · skip
      have h := Option.some.inj h
      subst h
      exact Un.refl _
    · skip
      obtain ⟨g2, h⟩ := gd_e h
      obtain ⟨g4, h⟩ := gd_e h
      refine Un.trans ?_ (ih h)
      refine Un.nA ?_ (List.mem_of_getElem? (i := 0) rfl)
      exact Un.refl _
set_option maxRecDepth 4000 in
theorem wX7_put {q : Unit × St} {l1 : Int32} {S : St} (h : fX7_put l1 S = some q) : Un [(47, 99)] [] [] S q.2 := by
  unfold fX7_put at h
  refine Un.trans ?_ (wX7_put_2  _ h)
  exact Un.refl _
set_option maxRecDepth 4000 in
theorem wX7_rise_60 {q : Unit × St}  {s0 : Int32} {s1 : Int32} {S : St} (h : FX7_rise_60 s0 s1 S = some q) : Un [(54, 99)] [] [] S q.2 := by
  unfold FX7_rise_60 at h
  obtain ⟨g9, h⟩ := gd_e h
  have h := Option.some.inj h
  subst h
  refine Un.nA ?_ (List.mem_of_getElem? (i := 0) rfl)
  exact Un.refl _
set_option maxRecDepth 4000 in
theorem wX7_rise_34 {q : Unit × St}  {l1 : Int32} {s0 : Int32} {S : St} (h : FX7_rise_34 l1 s0 S = some q) : Un [(54, 99)] [] [] S q.2 := by
  unfold FX7_rise_34 at h
  obtain ⟨g6, h⟩ := gd_e h
  refine cs_e h (fun _ h => ?_) (fun _ h => ?_)
  · skip
    obtain ⟨g8, h⟩ := gd_e h
    refine Un.trans ?_ (wX7_rise_60  h)
    exact Un.refl _
  · skip
    refine Un.trans ?_ (wX7_rise_60  h)
    exact Un.refl _
set_option maxRecDepth 4000 in
theorem wX7_rise {q : Unit × St} {l1 : Int32} {l2 : Int32} {S : St} (h : fX7_rise l1 l2 S = some q) : Un [(54, 99)] [] [] S q.2 := by
  unfold fX7_rise at h
  obtain ⟨g1, h⟩ := gd_e h
  obtain ⟨g2, h⟩ := gd_e h
  refine cs_e h (fun _ h => ?_) (fun _ h => ?_)
  · skip
    obtain ⟨g4, h⟩ := gd_e h
    refine Un.trans ?_ (wX7_rise_34  h)
    exact Un.refl _
  · skip
    obtain ⟨g5, h⟩ := gd_e h
    refine Un.trans ?_ (wX7_rise_34  h)
    exact Un.refl _
set_option maxRecDepth 4000 in
theorem wX7_noChance {q : Int32 × St} {l0 : Int32} {l1 : Int32} {S : St} (h : fX7_noChance l0 l1 S = some q) : Un [] [] [] S q.2 := by
  unfold fX7_noChance at h
  refine cs_e h (fun _ h => ?_) (fun _ h => ?_)
  · skip
    have h := Option.some.inj h
    subst h
    exact Un.refl _
  · skip
    have h := Option.some.inj h
    subst h
    exact Un.refl _
set_option maxRecDepth 4000 in
theorem wX7_everybody {q : Int32 × St}  {S : St} (h : fX7_everybody  S = some q) : Un [] [] [] S q.2 := by
  unfold fX7_everybody at h
  have h := Option.some.inj h
  subst h
  exact Un.refl _
set_option maxRecDepth 4000 in
theorem wX7_part {q : Int64 × St} {l0 : Int32} {l1 : Int32} {l2 : Int32} {S : St} (h : fX7_part l0 l1 l2 S = some q) : Un [] [] [] S q.2 := by
  unfold fX7_part at h
  have h := Option.some.inj h
  subst h
  exact Un.refl _
set_option maxRecDepth 4000 in
theorem wX7_leastOf_67 {q : Int32 × St}  {k5 : Int32 → Int32 → Int32 → Int32 → St → Option (Int32 × St)} (hk5 : ∀ {l1 : Int32} {l2 : Int32} {l3 : Int32} {l4 : Int32} {S : St}, k5 l1 l2 l3 l4 S = some q → Un [] [] [] S q.2) {l1 : Int32} {l2 : Int32} {l4 : Int32} {s0 : Int32} {S : St} (h : FX7_leastOf_67 k5 l1 l2 l4 s0 S = some q) : Un [] [] [] S q.2 := by
  unfold FX7_leastOf_67 at h
  refine Un.trans ?_ (hk5 h)
  exact Un.refl _
set_option maxRecDepth 4000 in
theorem wX7_leastOf_51 {q : Int32 × St}  {k5 : Int32 → Int32 → Int32 → Int32 → St → Option (Int32 × St)} (hk5 : ∀ {l1 : Int32} {l2 : Int32} {l3 : Int32} {l4 : Int32} {S : St}, k5 l1 l2 l3 l4 S = some q → Un [] [] [] S q.2) {l1 : Int32} {l2 : Int32} {l3 : Int32} {l4 : Int32} {l5 : Int32} {s0 : Int32} {s1 : Int32} {S : St} (h : FX7_leastOf_51 k5 l1 l2 l3 l4 l5 s0 s1 S = some q) : Un [] [] [] S q.2 := by
  unfold FX7_leastOf_51 at h
  refine cs_e h (fun _ h => ?_) (fun _ h => ?_)
  · skip
    refine Un.trans ?_ (wX7_leastOf_67 hk5 h)
    exact Un.refl _
  · skip
    refine Un.trans ?_ (wX7_leastOf_67 hk5 h)
    exact Un.refl _
set_option maxRecDepth 4000 in
theorem wX7_leastOf_32 {q : Int32 × St}  {k5 : Int32 → Int32 → Int32 → Int32 → St → Option (Int32 × St)} (hk5 : ∀ {l1 : Int32} {l2 : Int32} {l3 : Int32} {l4 : Int32} {S : St}, k5 l1 l2 l3 l4 S = some q → Un [] [] [] S q.2) {l1 : Int32} {l2 : Int32} {l3 : Int32} {l4 : Int32} {s0 : Int32} {s1 : Int32} {S : St} (h : FX7_leastOf_32 k5 l1 l2 l3 l4 s0 s1 S = some q) : Un [] [] [] S q.2 := by
  unfold FX7_leastOf_32 at h
  obtain ⟨g5, h⟩ := gd_e h
  refine cs_e h (fun _ h => ?_) (fun _ h => ?_)
  · skip
    refine Un.trans ?_ (wX7_leastOf_51 hk5 h)
    exact Un.refl _
  · skip
    refine Un.trans ?_ (wX7_leastOf_51 hk5 h)
    exact Un.refl _
set_option maxRecDepth 4000 in
theorem wX7_leastOf_5 {q : Int32 × St}  : ∀ (n : Nat) {l1 : Int32} {l2 : Int32} {l3 : Int32} {l4 : Int32} {S : St}, FX7_leastOf_5 n l1 l2 l3 l4 S = some q → Un [] [] [] S q.2 := by
  intro n
  induction n with
  | zero => intro _ _ _ _ _ h; cases h
  | succ n ih =>
    intro l1 l2 l3 l4 S h
    rw [FX7_leastOf_5] at h
    refine cs_e h (fun _ h => ?_) (fun _ h => ?_)
    · skip
      have h := Option.some.inj h
      subst h
      exact Un.refl _
    · skip
      obtain ⟨g2, h⟩ := gd_e h
      refine cs_e h (fun _ h => ?_) (fun _ h => ?_)
      · skip
        refine Un.trans ?_ (wX7_leastOf_32 (fun h => ih h) h)
        exact Un.refl _
      · skip
        refine Un.trans ?_ (wX7_leastOf_32 (fun h => ih h) h)
        exact Un.refl _
set_option maxRecDepth 4000 in
theorem wX7_leastOf {q : Int32 × St} {l1 : Int32} {l2 : Int32} {S : St} (h : fX7_leastOf l1 l2 S = some q) : Un [] [] [] S q.2 := by
  unfold fX7_leastOf at h
  refine Un.trans ?_ (wX7_leastOf_5  _ h)
  exact Un.refl _
set_option maxRecDepth 4000 in
theorem wX7_greatestBelow_47 {q : Int32 × St}  {k4 : Int32 → Int32 → St → Option (Int32 × St)} (hk4 : ∀ {l1 : Int32} {l2 : Int32} {S : St}, k4 l1 l2 S = some q → Un [] [] [] S q.2) {l2 : Int32} {s0 : Int32} {S : St} (h : FX7_greatestBelow_47 k4 l2 s0 S = some q) : Un [] [] [] S q.2 := by
  unfold FX7_greatestBelow_47 at h
  refine Un.trans ?_ (hk4 h)
  exact Un.refl _
set_option maxRecDepth 4000 in
theorem wX7_greatestBelow_42 {q : Int32 × St}  {k4 : Int32 → Int32 → St → Option (Int32 × St)} (hk4 : ∀ {l1 : Int32} {l2 : Int32} {S : St}, k4 l1 l2 S = some q → Un [] [] [] S q.2) {l2 : Int32} {S : St} (h : FX7_greatestBelow_42 k4 l2 S = some q) : Un [] [] [] S q.2 := by
  unfold FX7_greatestBelow_42 at h
  refine Un.trans ?_ (wX7_greatestBelow_47 hk4 h)
  exact Un.refl _
set_option maxRecDepth 4000 in
theorem wX7_greatestBelow_46 {q : Int32 × St}  {k4 : Int32 → Int32 → St → Option (Int32 × St)} (hk4 : ∀ {l1 : Int32} {l2 : Int32} {S : St}, k4 l1 l2 S = some q → Un [] [] [] S q.2) {l1 : Int32} {l2 : Int32} {S : St} (h : FX7_greatestBelow_46 k4 l1 l2 S = some q) : Un [] [] [] S q.2 := by
  unfold FX7_greatestBelow_46 at h
  refine Un.trans ?_ (wX7_greatestBelow_47 hk4 h)
  exact Un.refl _
set_option maxRecDepth 4000 in
theorem wX7_greatestBelow_4 {q : Int32 × St}  : ∀ (n : Nat) {l1 : Int32} {l2 : Int32} {S : St}, FX7_greatestBelow_4 n l1 l2 S = some q → Un [] [] [] S q.2 := by
  intro n
  induction n with
  | zero => intro _ _ _ h; cases h
  | succ n ih =>
    intro l1 l2 S h
    rw [FX7_greatestBelow_4] at h
    refine cs_e h (fun _ h => ?_) (fun _ h => ?_)
    · skip
      refine cs_e h (fun _ h => ?_) (fun _ h => ?_)
      · skip
        have h := Option.some.inj h
        subst h
        exact Un.refl _
      · skip
        have h := Option.some.inj h
        subst h
        exact Un.refl _
    · skip
      obtain ⟨g3, h⟩ := gd_e h
      refine cs_e h (fun _ h => ?_) (fun _ h => ?_)
      · skip
        refine Un.trans ?_ (wX7_greatestBelow_46 (fun h => ih h) h)
        exact Un.refl _
      · skip
        refine cs_e h (fun _ h => ?_) (fun _ h => ?_)
        · skip
          refine Un.trans ?_ (wX7_greatestBelow_42 (fun h => ih h) h)
          exact Un.refl _
        · skip
          obtain ⟨g6, h⟩ := gd_e h
          obtain ⟨g7, h⟩ := gd_e h
          refine cs_e h (fun _ h => ?_) (fun _ h => ?_)
          · skip
            refine Un.trans ?_ (wX7_greatestBelow_46 (fun h => ih h) h)
            exact Un.refl _
          · skip
            refine Un.trans ?_ (wX7_greatestBelow_42 (fun h => ih h) h)
            exact Un.refl _
set_option maxRecDepth 4000 in
theorem wX7_greatestBelow {q : Int32 × St}  {S : St} (h : fX7_greatestBelow  S = some q) : Un [] [] [] S q.2 := by
  unfold fX7_greatestBelow at h
  refine Un.trans ?_ (wX7_greatestBelow_4  _ h)
  exact Un.refl _
set_option maxRecDepth 4000 in
theorem wX7_knownNow_29 {q : Int32 × St}  {k4 : Int32 → Int32 → St → Option (Int32 × St)} (hk4 : ∀ {l1 : Int32} {l2 : Int32} {S : St}, k4 l1 l2 S = some q → Un [] [] [] S q.2) {l2 : Int32} {s0 : Int32} {s1 : Int32} {S : St} (h : FX7_knownNow_29 k4 l2 s0 s1 S = some q) : Un [] [] [] S q.2 := by
  unfold FX7_knownNow_29 at h
  refine Un.trans ?_ (hk4 h)
  exact Un.refl _
set_option maxRecDepth 4000 in
theorem wX7_knownNow_4 {q : Int32 × St}  : ∀ (n : Nat) {l1 : Int32} {l2 : Int32} {S : St}, FX7_knownNow_4 n l1 l2 S = some q → Un [] [] [] S q.2 := by
  intro n
  induction n with
  | zero => intro _ _ _ h; cases h
  | succ n ih =>
    intro l1 l2 S h
    rw [FX7_knownNow_4] at h
    refine cs_e h (fun _ h => ?_) (fun _ h => ?_)
    · skip
      have h := Option.some.inj h
      subst h
      exact Un.refl _
    · skip
      obtain ⟨g2, h⟩ := gd_e h
      refine cs_e h (fun _ h => ?_) (fun _ h => ?_)
      · skip
        refine Un.trans ?_ (wX7_knownNow_29 (fun h => ih h) h)
        exact Un.refl _
      · skip
        refine Un.trans ?_ (wX7_knownNow_29 (fun h => ih h) h)
        exact Un.refl _
set_option maxRecDepth 4000 in
theorem wX7_knownNow {q : Int32 × St}  {S : St} (h : fX7_knownNow  S = some q) : Un [] [] [] S q.2 := by
  unfold fX7_knownNow at h
  refine Un.trans ?_ (wX7_knownNow_4  _ h)
  exact Un.refl _
set_option maxRecDepth 4000 in
theorem wX7_bits_4 {q : Int32 × St}  : ∀ (n : Nat) {l0 : Int32} {l1 : Int32} {l2 : Int32} {S : St}, FX7_bits_4 n l0 l1 l2 S = some q → Un [] [] [] S q.2 := by
  intro n
  induction n with
  | zero => intro _ _ _ _ h; cases h
  | succ n ih =>
    intro l0 l1 l2 S h
    rw [FX7_bits_4] at h
    refine cs_e h (fun _ h => ?_) (fun _ h => ?_)
    · skip
      have h := Option.some.inj h
      subst h
      exact Un.refl _
    · skip
      refine Un.trans ?_ (ih h)
      exact Un.refl _
set_option maxRecDepth 4000 in
theorem wX7_bits {q : Int32 × St} {l0 : Int32} {S : St} (h : fX7_bits l0 S = some q) : Un [] [] [] S q.2 := by
  unfold fX7_bits at h
  refine Un.trans ?_ (wX7_bits_4  _ h)
  exact Un.refl _
set_option maxRecDepth 4000 in
theorem wX7_isSmall {q : Int32 × St}  {S : St} (h : fX7_isSmall  S = some q) : Un [] [] [] S q.2 := by
  unfold fX7_isSmall at h
  refine cs_e h (fun _ h => ?_) (fun _ h => ?_)
  · skip
    have h := Option.some.inj h
    subst h
    exact Un.refl _
  · skip
    have h := Option.some.inj h
    subst h
    exact Un.refl _
set_option maxRecDepth 4000 in
theorem wX7_come_5 {q : Unit × St}  : ∀ (n : Nat) {l1 : Int64} {l3 : Int32} {l4 : Int32} {S : St}, FX7_come_5 n l1 l3 l4 S = some q → Un [] [(62, 99)] [] S q.2 := by
  intro n
  induction n with
  | zero => intro _ _ _ _ h; cases h
  | succ n ih =>
    intro l1 l3 l4 S h
    rw [FX7_come_5] at h
    refine cs_e h (fun _ h => ?_) (fun _ h => ?_)
    · skip
      obtain ⟨g2, h⟩ := gd_e h
      obtain ⟨g3, h⟩ := gd_e h
      have h := Option.some.inj h
      subst h
      refine Un.jA ?_ (List.mem_of_getElem? (i := 0) rfl)
      exact Un.refl _
    · skip
      obtain ⟨g5, h⟩ := gd_e h
      refine Un.trans ?_ (ih h)
      exact Un.refl _
set_option maxRecDepth 4000 in
theorem wX7_come {q : Unit × St} {l1 : Int64} {S : St} (h : fX7_come l1 S = some q) : Un [] [(62, 99)] [] S q.2 := by
  unfold fX7_come at h
  refine Un.trans ?_ (wX7_come_5  _ h)
  exact Un.refl _
set_option maxRecDepth 4000 in
theorem wX7_asNow_2 {q : Unit × St}  : ∀ (n : Nat) {l1 : Int32} {S : St}, FX7_asNow_2 n l1 S = some q → Un [(54, 99)] [] [] S q.2 := by
  intro n
  induction n with
  | zero => intro _ _ h; cases h
  | succ n ih =>
    intro l1 S h
    rw [FX7_asNow_2] at h
    refine cs_e h (fun _ h => ?_) (fun _ h => ?_)
    · skip
      have h := Option.some.inj h
      subst h
      exact Un.refl _
    · skip
      obtain ⟨g2, h⟩ := gd_e h
      obtain ⟨g3, h⟩ := gd_e h
      refine Un.trans ?_ (ih h)
      refine Un.nA ?_ (List.mem_of_getElem? (i := 0) rfl)
      exact Un.refl _
set_option maxRecDepth 4000 in
theorem wX7_asNow {q : Unit × St}  {S : St} (h : fX7_asNow  S = some q) : Un [(54, 99)] [] [] S q.2 := by
  unfold fX7_asNow at h
  refine Un.trans ?_ (wX7_asNow_2  _ h)
  exact Un.refl _
set_option maxRecDepth 4000 in
theorem wX7_listSurer_55 {q : Unit × St}  {k7 : Int32 → Int32 → St → Option (Unit × St)} (hk7 : ∀ {l1 : Int32} {l2 : Int32} {S : St}, k7 l1 l2 S = some q → Un [(44, 34), (63, 99)] [] [] S q.2) {l1 : Int32} {l2 : Int32} {S : St} (h : FX7_listSurer_55 k7 l1 l2 S = some q) : Un [(44, 34), (63, 99)] [] [] S q.2 := by
  unfold FX7_listSurer_55 at h
  refine Un.trans ?_ (hk7 h)
  exact Un.refl _
set_option maxRecDepth 4000 in
theorem wX7_listSurer_7 {q : Unit × St}  : ∀ (n : Nat) {l1 : Int32} {l2 : Int32} {S : St}, FX7_listSurer_7 n l1 l2 S = some q → Un [(44, 34), (63, 99)] [] [] S q.2 := by
  intro n
  induction n with
  | zero => intro _ _ _ h; cases h
  | succ n ih =>
    intro l1 l2 S h
    rw [FX7_listSurer_7] at h
    refine cs_e h (fun _ h => ?_) (fun _ h => ?_)
    · skip
      refine cs_e h (fun _ h => ?_) (fun _ h => ?_)
      · skip
        have h := Option.some.inj h
        subst h
        exact Un.refl _
      · skip
        obtain ⟨g4, h⟩ := gd_e h
        refine cs_e h (fun _ h => ?_) (fun _ h => ?_)
        · skip
          have h := Option.some.inj h
          subst h
          exact Un.refl _
        · skip
          obtain ⟨g7, h⟩ := gd_e h
          have h := Option.some.inj h
          subst h
          refine Un.nS ?_ (List.mem_of_getElem? (i := 0) rfl)
          refine Un.nA ?_ (List.mem_of_getElem? (i := 1) rfl)
          exact Un.refl _
    · skip
      refine cs_e h (fun _ h => ?_) (fun _ h => ?_)
      · skip
        refine Un.trans ?_ (wX7_listSurer_55 (fun h => ih h) h)
        exact Un.refl _
      · skip
        obtain ⟨g11, h⟩ := gd_e h
        obtain ⟨g12, h⟩ := gd_e h
        refine cs_e h (fun _ h => ?_) (fun _ h => ?_)
        · skip
          refine Un.trans ?_ (wX7_listSurer_55 (fun h => ih h) h)
          exact Un.refl _
        · skip
          obtain ⟨g15, h⟩ := gd_e h
          refine Un.trans ?_ (wX7_listSurer_55 (fun h => ih h) h)
          refine Un.nS ?_ (List.mem_of_getElem? (i := 0) rfl)
          refine Un.nA ?_ (List.mem_of_getElem? (i := 1) rfl)
          exact Un.refl _
set_option maxRecDepth 4000 in
theorem wX7_listSurer {q : Unit × St} {l1 : Int32} {S : St} (h : fX7_listSurer l1 S = some q) : Un [(44, 34), (63, 99)] [] [] S q.2 := by
  unfold fX7_listSurer at h
  refine Un.trans ?_ (wX7_listSurer_7  _ h)
  refine Un.nS ?_ (List.mem_of_getElem? (i := 0) rfl)
  exact Un.refl _
set_option maxRecDepth 4000 in
theorem wX7_clear {q : Int32 × St}  {S : St} (h : fX7_clear  S = some q) : Un [(44, 35)] [] [] S q.2 := by
  unfold fX7_clear at h
  have h := Option.some.inj h
  subst h
  refine Un.nS ?_ (List.mem_of_getElem? (i := 0) rfl)
  exact Un.refl _
set_option maxRecDepth 4000 in
theorem wX7_seed {q : Int32 × St} {l1 : Int32} {S : St} (h : fX7_seed l1 S = some q) : Un [(44, 23)] [] [] S q.2 := by
  unfold fX7_seed at h
  refine cs_e h (fun _ h => ?_) (fun _ h => ?_)
  · skip
    have h := Option.some.inj h
    subst h
    refine Un.nS ?_ (List.mem_of_getElem? (i := 0) rfl)
    exact Un.refl _
  · skip
    have h := Option.some.inj h
    subst h
    exact Un.refl _
set_option maxRecDepth 4000 in
theorem wJ7_fill_d0a16_6 {q : Unit × St} {t0 : Nat} : ∀ (n : Nat) {l1 : Int64} {l3 : Int32} {l4 : Int32} {S : St}, FJ7_fill_d0a16_6 n t0 l1 l3 l4 S = some q → Un [] [(t0, 99)] [] S q.2 := by
  intro n
  induction n with
  | zero => intro _ _ _ _ h; cases h
  | succ n ih =>
    intro l1 l3 l4 S h
    rw [FJ7_fill_d0a16_6] at h
    refine cs_e h (fun _ h => ?_) (fun _ h => ?_)
    · skip
      have h := Option.some.inj h
      subst h
      exact Un.refl _
    · skip
      obtain ⟨g2, h⟩ := gd_e h
      refine Un.trans ?_ (ih h)
      refine Un.jA ?_ (List.mem_of_getElem? (i := 0) rfl)
      exact Un.refl _
set_option maxRecDepth 4000 in
theorem wJ7_fill_d0a16 {q : Unit × St} {t0 : Nat} {l1 : Int64} {S : St} (h : fJ7_fill_d0a16 t0 l1 S = some q) : Un [] [(t0, 99)] [] S q.2 := by
  unfold fJ7_fill_d0a16 at h
  refine Un.trans ?_ (wJ7_fill_d0a16_6  _ h)
  exact Un.refl _
set_option maxRecDepth 4000 in
theorem wJ7_rangeCheck_23922 {q : Unit × St} {l0 : Int32} {l1 : Int32} {l2 : Int32} {S : St} (h : fJ7_rangeCheck_23922 l0 l1 l2 S = some q) : Un [] [] [] S q.2 := by
  unfold fJ7_rangeCheck_23922 at h
  refine cs_e h (fun _ h => ?_) (fun _ h => ?_)
  · skip
    refine cs_e h (fun _ h => ?_) (fun _ h => ?_)
    · skip
      refine cs_e h (fun _ h => ?_) (fun _ h => ?_)
      · skip
        have h := Option.some.inj h
        subst h
        exact Un.refl _
      · skip
        cases h
    · skip
      cases h
  · skip
    cases h
set_option maxRecDepth 4000 in
theorem wX0_sit_160 {q : Unit × St}  {k29 : Nat → Nat → Int32 → Int32 → Int32 → St → Option (Unit × St)} (hk29 : ∀ {t1 : Nat} {t2 : Nat} {l3 : Int32} {l4 : Int32} {l5 : Int32} {S : St}, k29 t1 t2 l3 l4 l5 S = some q → Un [(25, 0), (25, 1), (25, 2), (25, 3), (26, 99), (27, 99), (28, 99), (29, 99), (30, 99), (31, 99)] [] [] S q.2) {t1 : Nat} {t2 : Nat} {l3 : Int32} {l4 : Int32} {l5 : Int32} {S : St} (h : FX0_sit_160 k29 t1 t2 l3 l4 l5 S = some q) : Un [(25, 0), (25, 1), (25, 2), (25, 3), (26, 99), (27, 99), (28, 99), (29, 99), (30, 99), (31, 99)] [] [] S q.2 := by
  unfold FX0_sit_160 at h
  refine Un.trans ?_ (hk29 h)
  exact Un.refl _
set_option maxRecDepth 4000 in
theorem wX0_sit_29 {q : Unit × St}  : ∀ (n : Nat) {t1 : Nat} {t2 : Nat} {l3 : Int32} {l4 : Int32} {l5 : Int32} {S : St}, FX0_sit_29 n t1 t2 l3 l4 l5 S = some q → Un [(25, 0), (25, 1), (25, 2), (25, 3), (26, 99), (27, 99), (28, 99), (29, 99), (30, 99), (31, 99)] [] [] S q.2 := by
  intro n
  induction n with
  | zero => intro _ _ _ _ _ _ h; cases h
  | succ n ih =>
    intro t1 t2 l3 l4 l5 S h
    rw [FX0_sit_29] at h
    refine cs_e h (fun _ h => ?_) (fun _ h => ?_)
    · skip
      have h := Option.some.inj h
      subst h
      exact Un.refl _
    · skip
      refine cs_e h (fun _ h => ?_) (fun _ h => ?_)
      · skip
        obtain ⟨g10, h⟩ := gd_e h
        obtain ⟨g13, h⟩ := gd_e h
        obtain ⟨g15, h⟩ := gd_e h
        obtain ⟨q19, hq20, h⟩ := bd_e h
        obtain ⟨g22, h⟩ := gd_e h
        obtain ⟨g24, h⟩ := gd_e h
        obtain ⟨g26, h⟩ := gd_e h
        obtain ⟨g28, h⟩ := gd_e h
        obtain ⟨g30, h⟩ := gd_e h
        obtain ⟨g32, h⟩ := gd_e h
        obtain ⟨g34, h⟩ := gd_e h
        refine Un.trans ?_ (wX0_sit_160 (fun h => ih h) h)
        refine Un.nS ?_ (List.mem_of_getElem? (i := 0) rfl)
        refine Un.nA ?_ (List.mem_of_getElem? (i := 9) rfl)
        refine Un.nA ?_ (List.mem_of_getElem? (i := 8) rfl)
        refine Un.nA ?_ (List.mem_of_getElem? (i := 7) rfl)
        refine Un.nA ?_ (List.mem_of_getElem? (i := 6) rfl)
        refine Un.trans ?_ ((wX3_topOf hq20).mono (sub_k [] rfl) (sub_k [] rfl) (sub_k [] rfl))
        refine Un.nA ?_ (List.mem_of_getElem? (i := 5) rfl)
        refine Un.nA ?_ (List.mem_of_getElem? (i := 4) rfl)
        exact Un.refl _
      · skip
        refine Un.trans ?_ (wX0_sit_160 (fun h => ih h) h)
        exact Un.refl _
set_option maxRecDepth 4000 in
theorem wX0_sit {q : Unit × St} {t1 : Nat} {t2 : Nat} {l3 : Int32} {l4 : Int32} {S : St} (h : fX0_sit t1 t2 l3 l4 S = some q) : Un [(25, 0), (25, 1), (25, 2), (25, 3), (26, 99), (27, 99), (28, 99), (29, 99), (30, 99), (31, 99)] [] [] S q.2 := by
  unfold fX0_sit at h
  obtain ⟨g5, h⟩ := gd_e h
  refine Un.trans ?_ (wX0_sit_29  _ h)
  refine Un.nS ?_ (List.mem_of_getElem? (i := 3) rfl)
  refine Un.nS ?_ (List.mem_of_getElem? (i := 2) rfl)
  refine Un.nS ?_ (List.mem_of_getElem? (i := 1) rfl)
  refine Un.nS ?_ (List.mem_of_getElem? (i := 0) rfl)
  exact Un.refl _
set_option maxRecDepth 4000 in
theorem wX0_chosen {q : Int32 × St} {l1 : Int32} {l2 : Int32} {S : St} (h : fX0_chosen l1 l2 S = some q) : Un [] [] [] S q.2 := by
  unfold fX0_chosen at h
  refine cs_e h (fun _ h => ?_) (fun _ h => ?_)
  · skip
    obtain ⟨q9, hq10, h⟩ := bd_e h
    have h := Option.some.inj h
    subst h
    refine Un.trans ?_ ((wX0_least hq10).mono (sub_k [] rfl) (sub_k [] rfl) (sub_k [] rfl))
    exact Un.refl _
  · skip
    refine cs_e h (fun _ h => ?_) (fun _ h => ?_)
    · skip
      have h := Option.some.inj h
      subst h
      exact Un.refl _
    · skip
      obtain ⟨q5, hq6, h⟩ := bd_e h
      have h := Option.some.inj h
      subst h
      refine Un.trans ?_ ((wX0_greatestBelow hq6).mono (sub_k [] rfl) (sub_k [] rfl) (sub_k [] rfl))
      exact Un.refl _
set_option maxRecDepth 4000 in
theorem wX0_tell_55 {q : Int32 × St}  {k16 : Int32 → Int32 → Int32 → St → Option (Int32 × St)} (hk16 : ∀ {l1 : Int32} {l2 : Int32} {l3 : Int32} {S : St}, k16 l1 l2 l3 S = some q → Un [(27, 99)] [] [] S q.2) {l1 : Int32} {l2 : Int32} {l3 : Int32} {S : St} (h : FX0_tell_55 k16 l1 l2 l3 S = some q) : Un [(27, 99)] [] [] S q.2 := by
  unfold FX0_tell_55 at h
  refine Un.trans ?_ (hk16 h)
  exact Un.refl _
set_option maxRecDepth 4000 in
theorem wX0_tell_16 {q : Int32 × St}  : ∀ (n : Nat) {l1 : Int32} {l2 : Int32} {l3 : Int32} {S : St}, FX0_tell_16 n l1 l2 l3 S = some q → Un [(27, 99)] [] [] S q.2 := by
  intro n
  induction n with
  | zero => intro _ _ _ _ h; cases h
  | succ n ih =>
    intro l1 l2 l3 S h
    rw [FX0_tell_16] at h
    refine cs_e h (fun _ h => ?_) (fun _ h => ?_)
    · skip
      have h := Option.some.inj h
      subst h
      exact Un.refl _
    · skip
      obtain ⟨g8, h⟩ := gd_e h
      refine cs_e h (fun _ h => ?_) (fun _ h => ?_)
      · skip
        refine Un.trans ?_ (wX0_tell_55 (fun h => ih h) h)
        exact Un.refl _
      · skip
        obtain ⟨q12, hq13, h⟩ := bd_e h
        refine cs_e h (fun _ h => ?_) (fun _ h => ?_)
        · skip
          refine Un.trans ?_ (wX0_tell_55 (fun h => ih h) h)
          refine Un.trans ?_ ((wX0_room hq13).mono (sub_k [] rfl) (sub_k [] rfl) (sub_k [] rfl))
          exact Un.refl _
        · skip
          obtain ⟨g15, h⟩ := gd_e h
          obtain ⟨g16, h⟩ := gd_e h
          refine Un.trans ?_ (wX0_tell_55 (fun h => ih h) h)
          refine Un.nA ?_ (List.mem_of_getElem? (i := 0) rfl)
          refine Un.trans ?_ ((wX0_room hq13).mono (sub_k [] rfl) (sub_k [] rfl) (sub_k [] rfl))
          exact Un.refl _
set_option maxRecDepth 4000 in
theorem wX0_tell {q : Int32 × St}  {S : St} (h : fX0_tell  S = some q) : Un [(27, 99)] [] [] S q.2 := by
  unfold fX0_tell at h
  obtain ⟨q3, hq4, h⟩ := bd_e h
  obtain ⟨g5, h⟩ := gd_e h
  refine Un.trans ?_ (wX0_tell_16  _ h)
  refine Un.trans ?_ ((wX0_greatestBelow hq4).mono (sub_k [] rfl) (sub_k [] rfl) (sub_k [] rfl))
  exact Un.refl _
set_option maxRecDepth 4000 in
theorem wX0_endCorrected_36 {q : Int32 × St}  {k13 : Int32 → St → Option (Int32 × St)} (hk13 : ∀ {l2 : Int32} {S : St}, k13 l2 S = some q → Un [(27, 99)] [] [] S q.2) {l2 : Int32} {S : St} (h : FX0_endCorrected_36 k13 l2 S = some q) : Un [(27, 99)] [] [] S q.2 := by
  unfold FX0_endCorrected_36 at h
  refine Un.trans ?_ (hk13 h)
  exact Un.refl _
set_option maxRecDepth 4000 in
theorem wX0_endCorrected_13 {q : Int32 × St}  : ∀ (n : Nat) {l2 : Int32} {S : St}, FX0_endCorrected_13 n l2 S = some q → Un [(27, 99)] [] [] S q.2 := by
  intro n
  induction n with
  | zero => intro _ _ h; cases h
  | succ n ih =>
    intro l2 S h
    rw [FX0_endCorrected_13] at h
    refine cs_e h (fun _ h => ?_) (fun _ h => ?_)
    · skip
      have h := Option.some.inj h
      subst h
      exact Un.refl _
    · skip
      obtain ⟨g7, h⟩ := gd_e h
      refine cs_e h (fun _ h => ?_) (fun _ h => ?_)
      · skip
        refine Un.trans ?_ (wX0_endCorrected_36 (fun h => ih h) h)
        exact Un.refl _
      · skip
        obtain ⟨q11, hq12, h⟩ := bd_e h
        refine Un.trans ?_ (wX0_endCorrected_36 (fun h => ih h) h)
        refine Un.trans ?_ ((wX0_rise hq12).mono (sub_k [0] rfl) (sub_k [] rfl) (sub_k [] rfl))
        exact Un.refl _
set_option maxRecDepth 4000 in
theorem wX0_endCorrected {q : Int32 × St} {l1 : Int32} {S : St} (h : fX0_endCorrected l1 S = some q) : Un [(27, 99)] [] [] S q.2 := by
  unfold fX0_endCorrected at h
  obtain ⟨g1, h⟩ := gd_e h
  obtain ⟨q4, hq5, h⟩ := bd_e h
  refine Un.trans ?_ (wX0_endCorrected_13  _ h)
  refine Un.trans ?_ ((wX0_rise hq5).mono (sub_k [0] rfl) (sub_k [] rfl) (sub_k [] rfl))
  exact Un.refl _
set_option maxRecDepth 4000 in
theorem wX0_endMisled_43 {q : Int32 × St}  {k2 : Int32 → Int32 → Int32 → St → Option (Int32 × St)} (hk2 : ∀ {l1 : Int32} {l2 : Int32} {l3 : Int32} {S : St}, k2 l1 l2 l3 S = some q → Un [(25, 3), (27, 99)] [] [] S q.2) {l1 : Int32} {l2 : Int32} {l3 : Int32} {S : St} (h : FX0_endMisled_43 k2 l1 l2 l3 S = some q) : Un [(25, 3), (27, 99)] [] [] S q.2 := by
  unfold FX0_endMisled_43 at h
  refine Un.trans ?_ (hk2 h)
  exact Un.refl _
set_option maxRecDepth 4000 in
theorem wX0_endMisled_2 {q : Int32 × St}  : ∀ (n : Nat) {l1 : Int32} {l2 : Int32} {l3 : Int32} {S : St}, FX0_endMisled_2 n l1 l2 l3 S = some q → Un [(25, 3), (27, 99)] [] [] S q.2 := by
  intro n
  induction n with
  | zero => intro _ _ _ _ h; cases h
  | succ n ih =>
    intro l1 l2 l3 S h
    rw [FX0_endMisled_2] at h
    refine cs_e h (fun _ h => ?_) (fun _ h => ?_)
    · skip
      have h := Option.some.inj h
      subst h
      exact Un.refl _
    · skip
      obtain ⟨q4, hq5, h⟩ := bd_e h
      refine cs_e h (fun _ h => ?_) (fun _ h => ?_)
      · skip
        refine Un.trans ?_ (wX0_endMisled_43 (fun h => ih h) h)
        refine Un.trans ?_ ((wX0_mayBelieve hq5).mono (sub_k [] rfl) (sub_k [] rfl) (sub_k [] rfl))
        exact Un.refl _
      · skip
        obtain ⟨g7, h⟩ := gd_e h
        obtain ⟨q10, hq11, h⟩ := bd_e h
        refine cs_e h (fun _ h => ?_) (fun _ h => ?_)
        · skip
          refine Un.trans ?_ (wX0_endMisled_43 (fun h => ih h) h)
          refine Un.trans ?_ ((wX0_comes hq11).mono (sub_k [0] rfl) (sub_k [] rfl) (sub_k [] rfl))
          refine Un.trans ?_ ((wX0_mayBelieve hq5).mono (sub_k [] rfl) (sub_k [] rfl) (sub_k [] rfl))
          exact Un.refl _
        · skip
          obtain ⟨g13, h⟩ := gd_e h
          obtain ⟨g14, h⟩ := gd_e h
          refine Un.trans ?_ (wX0_endMisled_43 (fun h => ih h) h)
          refine Un.nA ?_ (List.mem_of_getElem? (i := 1) rfl)
          refine Un.trans ?_ ((wX0_comes hq11).mono (sub_k [0] rfl) (sub_k [] rfl) (sub_k [] rfl))
          refine Un.trans ?_ ((wX0_mayBelieve hq5).mono (sub_k [] rfl) (sub_k [] rfl) (sub_k [] rfl))
          exact Un.refl _
set_option maxRecDepth 4000 in
theorem wX0_endMisled {q : Int32 × St} {l1 : Int32} {l2 : Int32} {S : St} (h : fX0_endMisled l1 l2 S = some q) : Un [(25, 3), (27, 99)] [] [] S q.2 := by
  unfold fX0_endMisled at h
  refine Un.trans ?_ (wX0_endMisled_2  _ h)
  exact Un.refl _
set_option maxRecDepth 4000 in
theorem wX0_endShaken_33 {q : Int32 × St}   {S : St} (h : FX0_endShaken_33  S = some q) : Un [(25, 3), (27, 99)] [] [] S q.2 := by
  unfold FX0_endShaken_33 at h
  have h := Option.some.inj h
  subst h
  exact Un.refl _
set_option maxRecDepth 4000 in
theorem wX0_endShaken {q : Int32 × St} {l1 : Int32} {l2 : Int32} {S : St} (h : fX0_endShaken l1 l2 S = some q) : Un [(25, 3), (27, 99)] [] [] S q.2 := by
  unfold fX0_endShaken at h
  obtain ⟨g1, h⟩ := gd_e h
  obtain ⟨q4, hq5, h⟩ := bd_e h
  refine cs_e h (fun _ h => ?_) (fun _ h => ?_)
  · skip
    obtain ⟨g7, h⟩ := gd_e h
    refine cs_e h (fun _ h => ?_) (fun _ h => ?_)
    · skip
      refine Un.trans ?_ (wX0_endShaken_33  h)
      refine Un.trans ?_ ((wX0_comes hq5).mono (sub_k [0] rfl) (sub_k [] rfl) (sub_k [] rfl))
      exact Un.refl _
    · skip
      obtain ⟨g9, h⟩ := gd_e h
      obtain ⟨g10, h⟩ := gd_e h
      refine Un.trans ?_ (wX0_endShaken_33  h)
      refine Un.nA ?_ (List.mem_of_getElem? (i := 1) rfl)
      refine Un.trans ?_ ((wX0_comes hq5).mono (sub_k [0] rfl) (sub_k [] rfl) (sub_k [] rfl))
      exact Un.refl _
  · skip
    refine Un.trans ?_ (wX0_endShaken_33  h)
    refine Un.trans ?_ ((wX0_comes hq5).mono (sub_k [0] rfl) (sub_k [] rfl) (sub_k [] rfl))
    exact Un.refl _
set_option maxRecDepth 4000 in
theorem wX0_endAgreed_33 {q : Int32 × St}  {k9 : Int32 → Int32 → St → Option (Int32 × St)} (hk9 : ∀ {l2 : Int32} {l3 : Int32} {S : St}, k9 l2 l3 S = some q → Un [(27, 99)] [] [] S q.2) {l2 : Int32} {l3 : Int32} {S : St} (h : FX0_endAgreed_33 k9 l2 l3 S = some q) : Un [(27, 99)] [] [] S q.2 := by
  unfold FX0_endAgreed_33 at h
  refine Un.trans ?_ (hk9 h)
  exact Un.refl _
set_option maxRecDepth 4000 in
theorem wX0_endAgreed_9 {q : Int32 × St}  : ∀ (n : Nat) {l2 : Int32} {l3 : Int32} {S : St}, FX0_endAgreed_9 n l2 l3 S = some q → Un [(27, 99)] [] [] S q.2 := by
  intro n
  induction n with
  | zero => intro _ _ _ h; cases h
  | succ n ih =>
    intro l2 l3 S h
    rw [FX0_endAgreed_9] at h
    refine cs_e h (fun _ h => ?_) (fun _ h => ?_)
    · skip
      have h := Option.some.inj h
      subst h
      exact Un.refl _
    · skip
      obtain ⟨g4, h⟩ := gd_e h
      refine cs_e h (fun _ h => ?_) (fun _ h => ?_)
      · skip
        refine Un.trans ?_ (wX0_endAgreed_33 (fun h => ih h) h)
        exact Un.refl _
      · skip
        obtain ⟨q8, hq9, h⟩ := bd_e h
        refine Un.trans ?_ (wX0_endAgreed_33 (fun h => ih h) h)
        refine Un.trans ?_ ((wX0_rise hq9).mono (sub_k [0] rfl) (sub_k [] rfl) (sub_k [] rfl))
        exact Un.refl _
set_option maxRecDepth 4000 in
theorem wX0_endAgreed {q : Int32 × St} {l1 : Int32} {S : St} (h : fX0_endAgreed l1 S = some q) : Un [(27, 99)] [] [] S q.2 := by
  unfold fX0_endAgreed at h
  obtain ⟨g1, h⟩ := gd_e h
  refine Un.trans ?_ (wX0_endAgreed_9  _ h)
  exact Un.refl _
set_option maxRecDepth 4000 in
theorem wX0_someNo_81 {q : Int32 × St}  {l3 : Int64} {S : St} (h : FX0_someNo_81 l3 S = some q) : Un [] [] [] S q.2 := by
  unfold FX0_someNo_81 at h
  have h := Option.some.inj h
  subst h
  exact Un.refl _
set_option maxRecDepth 4000 in
theorem wX0_someNo_49 {q : Int32 × St}  {k7 : Int32 → Int32 → Int64 → Int32 → St → Option (Int32 × St)} (hk7 : ∀ {l1 : Int32} {l2 : Int32} {l3 : Int64} {l5 : Int32} {S : St}, k7 l1 l2 l3 l5 S = some q → Un [] [] [] S q.2) {l1 : Int32} {l2 : Int32} {l3 : Int64} {l5 : Int32} {S : St} (h : FX0_someNo_49 k7 l1 l2 l3 l5 S = some q) : Un [] [] [] S q.2 := by
  unfold FX0_someNo_49 at h
  refine Un.trans ?_ (hk7 h)
  exact Un.refl _
set_option maxRecDepth 4000 in
theorem wX0_someNo_7 {q : Int32 × St}  : ∀ (n : Nat) {l1 : Int32} {l2 : Int32} {l3 : Int64} {l5 : Int32} {S : St}, FX0_someNo_7 n l1 l2 l3 l5 S = some q → Un [] [] [] S q.2 := by
  intro n
  induction n with
  | zero => intro _ _ _ _ _ h; cases h
  | succ n ih =>
    intro l1 l2 l3 l5 S h
    rw [FX0_someNo_7] at h
    refine cs_e h (fun _ h => ?_) (fun _ h => ?_)
    · skip
      obtain ⟨q4, hq5, h⟩ := bd_e h
      refine cs_e h (fun _ h => ?_) (fun _ h => ?_)
      · skip
        refine Un.trans ?_ (wX0_someNo_81  h)
        refine Un.trans ?_ ((wX0_isGuestSurer hq5).mono (sub_k [] rfl) (sub_k [] rfl) (sub_k [] rfl))
        exact Un.refl _
      · skip
        obtain ⟨q9, hq10, h⟩ := bd_e h
        refine Un.trans ?_ (wX0_someNo_81  h)
        refine Un.trans ?_ ((wX0_noChance hq10).mono (sub_k [] rfl) (sub_k [] rfl) (sub_k [] rfl))
        refine Un.trans ?_ ((wX0_isGuestSurer hq5).mono (sub_k [] rfl) (sub_k [] rfl) (sub_k [] rfl))
        exact Un.refl _
    · skip
      obtain ⟨q14, hq15, h⟩ := bd_e h
      refine cs_e h (fun _ h => ?_) (fun _ h => ?_)
      · skip
        refine Un.trans ?_ (wX0_someNo_49 (fun h => ih h) h)
        refine Un.trans ?_ ((wX0_isSurer hq15).mono (sub_k [] rfl) (sub_k [] rfl) (sub_k [] rfl))
        exact Un.refl _
      · skip
        obtain ⟨g17, h⟩ := gd_e h
        obtain ⟨q20, hq21, h⟩ := bd_e h
        refine Un.trans ?_ (wX0_someNo_49 (fun h => ih h) h)
        refine Un.trans ?_ ((wX0_noChance hq21).mono (sub_k [] rfl) (sub_k [] rfl) (sub_k [] rfl))
        refine Un.trans ?_ ((wX0_isSurer hq15).mono (sub_k [] rfl) (sub_k [] rfl) (sub_k [] rfl))
        exact Un.refl _
set_option maxRecDepth 4000 in
theorem wX0_someNo {q : Int32 × St} {l1 : Int32} {l2 : Int32} {S : St} (h : fX0_someNo l1 l2 S = some q) : Un [] [] [] S q.2 := by
  unfold fX0_someNo at h
  refine Un.trans ?_ (wX0_someNo_7  _ h)
  exact Un.refl _
set_option maxRecDepth 4000 in
theorem wX1_partByNo_46 {q : Unit × St}  {k8 : Int32 → Int32 → Int32 → St → Option (Unit × St)} (hk8 : ∀ {l2 : Int32} {l5 : Int32} {l6 : Int32} {S : St}, k8 l2 l5 l6 S = some q → Un [(33, 3), (33, 5), (37, 99)] [(36, 99)] [] S q.2) {l2 : Int32} {l5 : Int32} {l6 : Int32} {S : St} (h : FX1_partByNo_46 k8 l2 l5 l6 S = some q) : Un [(33, 3), (33, 5), (37, 99)] [(36, 99)] [] S q.2 := by
  unfold FX1_partByNo_46 at h
  refine Un.trans ?_ (hk8 h)
  exact Un.refl _
set_option maxRecDepth 4000 in
theorem wX1_partByNo_8 {q : Unit × St}  : ∀ (n : Nat) {l2 : Int32} {l5 : Int32} {l6 : Int32} {S : St}, FX1_partByNo_8 n l2 l5 l6 S = some q → Un [(33, 3), (33, 5), (37, 99)] [(36, 99)] [] S q.2 := by
  intro n
  induction n with
  | zero => intro _ _ _ _ h; cases h
  | succ n ih =>
    intro l2 l5 l6 S h
    rw [FX1_partByNo_8] at h
    refine cs_e h (fun _ h => ?_) (fun _ h => ?_)
    · skip
      obtain ⟨q8, hq9, h⟩ := bd_e h
      refine cs_e h (fun _ h => ?_) (fun _ h => ?_)
      · skip
        have h := Option.some.inj h
        subst h
        refine Un.trans ?_ ((wX0_isGuestSurer hq9).mono (sub_k [] rfl) (sub_k [] rfl) (sub_k [] rfl))
        exact Un.refl _
      · skip
        obtain ⟨q13, hq14, h⟩ := bd_e h
        obtain ⟨q17, hq18, h⟩ := bd_e h
        have h := Option.some.inj h
        subst h
        refine Un.trans ?_ ((wX1_split hq18).mono (sub_k [0, 1, 2] rfl) (sub_k [0] rfl) (sub_k [] rfl))
        refine Un.trans ?_ ((wX0_noChance hq14).mono (sub_k [] rfl) (sub_k [] rfl) (sub_k [] rfl))
        refine Un.trans ?_ ((wX0_isGuestSurer hq9).mono (sub_k [] rfl) (sub_k [] rfl) (sub_k [] rfl))
        exact Un.refl _
    · skip
      obtain ⟨q21, hq22, h⟩ := bd_e h
      refine cs_e h (fun _ h => ?_) (fun _ h => ?_)
      · skip
        refine Un.trans ?_ (wX1_partByNo_46 (fun h => ih h) h)
        refine Un.trans ?_ ((wX0_isSurer hq22).mono (sub_k [] rfl) (sub_k [] rfl) (sub_k [] rfl))
        exact Un.refl _
      · skip
        obtain ⟨g24, h⟩ := gd_e h
        obtain ⟨q27, hq28, h⟩ := bd_e h
        obtain ⟨q31, hq32, h⟩ := bd_e h
        refine Un.trans ?_ (wX1_partByNo_46 (fun h => ih h) h)
        refine Un.trans ?_ ((wX1_split hq32).mono (sub_k [0, 1, 2] rfl) (sub_k [0] rfl) (sub_k [] rfl))
        refine Un.trans ?_ ((wX0_noChance hq28).mono (sub_k [] rfl) (sub_k [] rfl) (sub_k [] rfl))
        refine Un.trans ?_ ((wX0_isSurer hq22).mono (sub_k [] rfl) (sub_k [] rfl) (sub_k [] rfl))
        exact Un.refl _
set_option maxRecDepth 4000 in
theorem wX1_partByNo {q : Unit × St} {l2 : Int32} {l3 : Int64} {l5 : Int32} {S : St} (h : fX1_partByNo l2 l3 l5 S = some q) : Un [(33, 3), (33, 5), (37, 99)] [(36, 99)] [] S q.2 := by
  unfold fX1_partByNo at h
  obtain ⟨q3, hq4, h⟩ := bd_e h
  refine Un.trans ?_ (wX1_partByNo_8  _ h)
  refine Un.trans ?_ ((wX1_begin hq4).mono (sub_k [0, 1] rfl) (sub_k [0] rfl) (sub_k [] rfl))
  exact Un.refl _
set_option maxRecDepth 4000 in
theorem wX1_endRight_143 {q : Unit × St}  {k98 : Int32 → Int32 → Int32 → St → Option (Unit × St)} (hk98 : ∀ {l2 : Int32} {l5 : Int32} {l6 : Int32} {S : St}, k98 l2 l5 l6 S = some q → Un [] [(34, 99), (35, 99)] [] S q.2) {l2 : Int32} {l5 : Int32} {l6 : Int32} {S : St} (h : FX1_endRight_143 k98 l2 l5 l6 S = some q) : Un [] [(34, 99), (35, 99)] [] S q.2 := by
  unfold FX1_endRight_143 at h
  refine Un.trans ?_ (hk98 h)
  exact Un.refl _
set_option maxRecDepth 4000 in
theorem wX1_endRight_98 {q : Unit × St}  : ∀ (n : Nat) {l2 : Int32} {l5 : Int32} {l6 : Int32} {S : St}, FX1_endRight_98 n l2 l5 l6 S = some q → Un [] [(34, 99), (35, 99)] [] S q.2 := by
  intro n
  induction n with
  | zero => intro _ _ _ _ h; cases h
  | succ n ih =>
    intro l2 l5 l6 S h
    rw [FX1_endRight_98] at h
    refine cs_e h (fun _ h => ?_) (fun _ h => ?_)
    · skip
      obtain ⟨g19, h⟩ := gd_e h
      obtain ⟨g20, h⟩ := gd_e h
      obtain ⟨g21, h⟩ := gd_e h
      obtain ⟨g22, h⟩ := gd_e h
      have h := Option.some.inj h
      subst h
      refine Un.jA ?_ (by rcases isLA_or g19 with e | e <;> rw [e] <;> decide)
      exact Un.refl _
    · skip
      obtain ⟨g24, h⟩ := gd_e h
      obtain ⟨g25, h⟩ := gd_e h
      refine cs_e h (fun _ h => ?_) (fun _ h => ?_)
      · skip
        refine Un.trans ?_ (wX1_endRight_143 (fun h => ih h) h)
        exact Un.refl _
      · skip
        obtain ⟨q29, hq30, h⟩ := bd_e h
        refine cs_e h (fun _ h => ?_) (fun _ h => ?_)
        · skip
          refine Un.trans ?_ (wX1_endRight_143 (fun h => ih h) h)
          refine Un.trans ?_ ((wX0_room hq30).mono (sub_k [] rfl) (sub_k [] rfl) (sub_k [] rfl))
          exact Un.refl _
        · skip
          obtain ⟨g32, h⟩ := gd_e h
          refine Un.trans ?_ (wX1_endRight_143 (fun h => ih h) h)
          refine Un.trans ?_ ((wX0_room hq30).mono (sub_k [] rfl) (sub_k [] rfl) (sub_k [] rfl))
          exact Un.refl _
set_option maxRecDepth 4000 in
theorem wX1_endRight_25 {q : Unit × St}  : ∀ (n : Nat) {l2 : Int32} {l3 : Int32} {l4 : Int32} {l5 : Int32} {S : St}, FX1_endRight_25 n l2 l3 l4 l5 S = some q → Un [] [(34, 99), (35, 99)] [] S q.2 := by
  intro n
  induction n with
  | zero => intro _ _ _ _ _ h; cases h
  | succ n ih =>
    intro l2 l3 l4 l5 S h
    rw [FX1_endRight_25] at h
    refine cs_e h (fun _ h => ?_) (fun _ h => ?_)
    · skip
      refine Un.trans ?_ (wX1_endRight_98  _ h)
      exact Un.refl _
    · skip
      obtain ⟨g5, h⟩ := gd_e h
      obtain ⟨g6, h⟩ := gd_e h
      obtain ⟨g8, h⟩ := gd_e h
      obtain ⟨g9, h⟩ := gd_e h
      obtain ⟨g10, h⟩ := gd_e h
      obtain ⟨g12, h⟩ := gd_e h
      obtain ⟨g13, h⟩ := gd_e h
      obtain ⟨g14, h⟩ := gd_e h
      obtain ⟨g15, h⟩ := gd_e h
      refine Un.trans ?_ (ih h)
      refine Un.jA ?_ (by rcases isLA_or g12 with e | e <;> rw [e] <;> decide)
      refine Un.jA ?_ (by rcases isLA_or g8 with e | e <;> rw [e] <;> decide)
      exact Un.refl _
set_option maxRecDepth 4000 in
theorem wX1_endRight_20 {q : Unit × St}  {l2 : Int32} {l3 : Int32} {s0 : Int32} {S : St} (h : FX1_endRight_20 l2 l3 s0 S = some q) : Un [] [(34, 99), (35, 99)] [] S q.2 := by
  unfold FX1_endRight_20 at h
  refine Un.trans ?_ (wX1_endRight_25  _ h)
  exact Un.refl _
set_option maxRecDepth 4000 in
theorem wX1_endRight {q : Unit × St} {l2 : Int32} {l3 : Int32} {S : St} (h : fX1_endRight l2 l3 S = some q) : Un [] [(34, 99), (35, 99)] [] S q.2 := by
  unfold fX1_endRight at h
  obtain ⟨g1, h⟩ := gd_e h
  refine cs_e h (fun _ h => ?_) (fun _ h => ?_)
  · skip
    refine Un.trans ?_ (wX1_endRight_20  h)
    exact Un.refl _
  · skip
    obtain ⟨g3, h⟩ := gd_e h
    refine Un.trans ?_ (wX1_endRight_20  h)
    exact Un.refl _
set_option maxRecDepth 4000 in
theorem wX1_endMisled_45 {q : Unit × St}  {k13 : Int32 → Int32 → Int32 → St → Option (Unit × St)} (hk13 : ∀ {l2 : Int32} {l3 : Int32} {l4 : Int32} {S : St}, k13 l2 l3 l4 S = some q → Un [(33, 3), (33, 5), (37, 99)] [(34, 99), (35, 99), (36, 99)] [] S q.2) {l2 : Int32} {l3 : Int32} {l4 : Int32} {S : St} (h : FX1_endMisled_45 k13 l2 l3 l4 S = some q) : Un [(33, 3), (33, 5), (37, 99)] [(34, 99), (35, 99), (36, 99)] [] S q.2 := by
  unfold FX1_endMisled_45 at h
  refine Un.trans ?_ (hk13 h)
  exact Un.refl _
set_option maxRecDepth 4000 in
theorem wX1_endMisled_69 {q : Unit × St}  {k54 : Int32 → Int32 → St → Option (Unit × St)} (hk54 : ∀ {l3 : Int32} {l4 : Int32} {S : St}, k54 l3 l4 S = some q → Un [(33, 3), (33, 5), (37, 99)] [(34, 99), (35, 99), (36, 99)] [] S q.2) : ∀ (n : Nat) {l3 : Int32} {l4 : Int32} {l5 : Int32} {l6 : Int32} {S : St}, FX1_endMisled_69 k54 n l3 l4 l5 l6 S = some q → Un [(33, 3), (33, 5), (37, 99)] [(34, 99), (35, 99), (36, 99)] [] S q.2 := by
  intro n
  induction n with
  | zero => intro _ _ _ _ _ h; cases h
  | succ n ih =>
    intro l3 l4 l5 l6 S h
    rw [FX1_endMisled_69] at h
    refine cs_e h (fun _ h => ?_) (fun _ h => ?_)
    · skip
      obtain ⟨g20, h⟩ := gd_e h
      obtain ⟨g21, h⟩ := gd_e h
      obtain ⟨g22, h⟩ := gd_e h
      obtain ⟨g23, h⟩ := gd_e h
      refine Un.trans ?_ (hk54 h)
      refine Un.jA ?_ (by rcases isLA_or g20 with e | e <;> rw [e] <;> decide)
      exact Un.refl _
    · skip
      obtain ⟨g26, h⟩ := gd_e h
      obtain ⟨g28, h⟩ := gd_e h
      refine Un.trans ?_ (ih h)
      exact Un.refl _
set_option maxRecDepth 4000 in
theorem wX1_endMisled_54 {q : Unit × St}  : ∀ (n : Nat) {l3 : Int32} {l4 : Int32} {S : St}, FX1_endMisled_54 n l3 l4 S = some q → Un [(33, 3), (33, 5), (37, 99)] [(34, 99), (35, 99), (36, 99)] [] S q.2 := by
  intro n
  induction n with
  | zero => intro _ _ _ h; cases h
  | succ n ih =>
    intro l3 l4 S h
    rw [FX1_endMisled_54] at h
    refine cs_e h (fun _ h => ?_) (fun _ h => ?_)
    · skip
      have h := Option.some.inj h
      subst h
      exact Un.refl _
    · skip
      refine Un.trans ?_ (wX1_endMisled_69 (fun h => ih h) _ h)
      exact Un.refl _
set_option maxRecDepth 4000 in
theorem wX1_endMisled_13 {q : Unit × St}  : ∀ (n : Nat) {l2 : Int32} {l3 : Int32} {l4 : Int32} {S : St}, FX1_endMisled_13 n l2 l3 l4 S = some q → Un [(33, 3), (33, 5), (37, 99)] [(34, 99), (35, 99), (36, 99)] [] S q.2 := by
  intro n
  induction n with
  | zero => intro _ _ _ _ h; cases h
  | succ n ih =>
    intro l2 l3 l4 S h
    rw [FX1_endMisled_13] at h
    refine cs_e h (fun _ h => ?_) (fun _ h => ?_)
    · skip
      refine Un.trans ?_ (wX1_endMisled_54  _ h)
      exact Un.refl _
    · skip
      obtain ⟨q9, hq10, h⟩ := bd_e h
      refine cs_e h (fun _ h => ?_) (fun _ h => ?_)
      · skip
        refine Un.trans ?_ (wX1_endMisled_45 (fun h => ih h) h)
        refine Un.trans ?_ ((wX0_mayBelieve hq10).mono (sub_k [] rfl) (sub_k [] rfl) (sub_k [] rfl))
        exact Un.refl _
      · skip
        obtain ⟨g12, h⟩ := gd_e h
        obtain ⟨q15, hq16, h⟩ := bd_e h
        refine Un.trans ?_ (wX1_endMisled_45 (fun h => ih h) h)
        refine Un.trans ?_ ((wX1_split hq16).mono (sub_k [0, 1, 2] rfl) (sub_k [2] rfl) (sub_k [] rfl))
        refine Un.trans ?_ ((wX0_mayBelieve hq10).mono (sub_k [] rfl) (sub_k [] rfl) (sub_k [] rfl))
        exact Un.refl _
set_option maxRecDepth 4000 in
theorem wX1_endMisled {q : Unit × St} {l2 : Int32} {l3 : Int32} {S : St} (h : fX1_endMisled l2 l3 S = some q) : Un [(33, 3), (33, 5), (37, 99)] [(34, 99), (35, 99), (36, 99)] [] S q.2 := by
  unfold fX1_endMisled at h
  obtain ⟨g1, h⟩ := gd_e h
  obtain ⟨q4, hq5, h⟩ := bd_e h
  refine Un.trans ?_ (wX1_endMisled_13  _ h)
  refine Un.trans ?_ ((wX1_begin hq5).mono (sub_k [0, 1] rfl) (sub_k [2] rfl) (sub_k [] rfl))
  exact Un.refl _
set_option maxRecDepth 4000 in
theorem wX2_advance_86 {q : Unit × St}  : ∀ (n : Nat)  {S : St}, FX2_advance_86 n  S = some q → Un [(1, 5), (1, 6), (1, 7)] [] [] S q.2 := by
  intro n
  induction n with
  | zero => intro _ h; cases h
  | succ n ih =>
    intro S h
    rw [FX2_advance_86] at h
    refine cs_e h (fun _ h => ?_) (fun _ h => ?_)
    · skip
      have h := Option.some.inj h
      subst h
      exact Un.refl _
    · skip
      obtain ⟨q18, hq19, h⟩ := bd_e h
      refine cs_e h (fun _ h => ?_) (fun _ h => ?_)
      · skip
        refine Un.trans ?_ (ih h)
        refine Un.nS ?_ (List.mem_of_getElem? (i := 0) rfl)
        refine Un.trans ?_ ((wX2_kindAt hq19).mono (sub_k [] rfl) (sub_k [] rfl) (sub_k [] rfl))
        exact Un.refl _
      · skip
        have h := Option.some.inj h
        subst h
        refine Un.trans ?_ ((wX2_kindAt hq19).mono (sub_k [] rfl) (sub_k [] rfl) (sub_k [] rfl))
        exact Un.refl _
set_option maxRecDepth 4000 in
theorem wX2_advance_38 {q : Unit × St}   {S : St} (h : FX2_advance_38  S = some q) : Un [(1, 5), (1, 6), (1, 7)] [] [] S q.2 := by
  unfold FX2_advance_38 at h
  obtain ⟨q9, hq10, h⟩ := bd_e h
  refine cs_e h (fun _ h => ?_) (fun _ h => ?_)
  · skip
    have h := Option.some.inj h
    subst h
    refine Un.nS ?_ (List.mem_of_getElem? (i := 0) rfl)
    refine Un.nS ?_ (List.mem_of_getElem? (i := 2) rfl)
    refine Un.trans ?_ ((wX2_kindAt hq10).mono (sub_k [] rfl) (sub_k [] rfl) (sub_k [] rfl))
    refine Un.nS ?_ (List.mem_of_getElem? (i := 1) rfl)
    exact Un.refl _
  · skip
    refine cs_e h (fun _ h => ?_) (fun _ h => ?_)
    · skip
      have h := Option.some.inj h
      subst h
      refine Un.nS ?_ (List.mem_of_getElem? (i := 2) rfl)
      refine Un.trans ?_ ((wX2_kindAt hq10).mono (sub_k [] rfl) (sub_k [] rfl) (sub_k [] rfl))
      refine Un.nS ?_ (List.mem_of_getElem? (i := 1) rfl)
      exact Un.refl _
    · skip
      refine Un.trans ?_ (wX2_advance_86  _ h)
      refine Un.nS ?_ (List.mem_of_getElem? (i := 2) rfl)
      refine Un.trans ?_ ((wX2_kindAt hq10).mono (sub_k [] rfl) (sub_k [] rfl) (sub_k [] rfl))
      refine Un.nS ?_ (List.mem_of_getElem? (i := 1) rfl)
      exact Un.refl _
set_option maxRecDepth 4000 in
theorem wX2_advance_0 {q : Unit × St}  : ∀ (n : Nat)  {S : St}, FX2_advance_0 n  S = some q → Un [(1, 5), (1, 6), (1, 7)] [] [] S q.2 := by
  intro n
  induction n with
  | zero => intro _ h; cases h
  | succ n ih =>
    intro S h
    rw [FX2_advance_0] at h
    refine cs_e h (fun _ h => ?_) (fun _ h => ?_)
    · skip
      refine Un.trans ?_ (wX2_advance_38  h)
      exact Un.refl _
    · skip
      obtain ⟨g3, h⟩ := gd_e h
      refine cs_e h (fun _ h => ?_) (fun _ h => ?_)
      · skip
        refine Un.trans ?_ (ih h)
        refine Un.nS ?_ (List.mem_of_getElem? (i := 0) rfl)
        exact Un.refl _
      · skip
        refine Un.trans ?_ (wX2_advance_38  h)
        exact Un.refl _
set_option maxRecDepth 4000 in
theorem wX2_advance {q : Unit × St}  {S : St} (h : fX2_advance  S = some q) : Un [(1, 5), (1, 6), (1, 7)] [] [] S q.2 := by
  unfold fX2_advance at h
  refine Un.trans ?_ (wX2_advance_0  _ h)
  exact Un.refl _
set_option maxRecDepth 4000 in
theorem wX6_feed_11 {q : Int32 × St}   {S : St} (h : FX6_feed_11  S = some q) : Un [(1, 1), (2, 99)] [] [] S q.2 := by
  unfold FX6_feed_11 at h
  have h := Option.some.inj h
  subst h
  exact Un.refl _
set_option maxRecDepth 4000 in
theorem wX6_feed_37 {q : Int32 × St}  : ∀ (n : Nat) {l2 : Int64} {l4 : Int32} {S : St}, FX6_feed_37 n l2 l4 S = some q → Un [(1, 1), (2, 99)] [] [] S q.2 := by
  intro n
  induction n with
  | zero => intro _ _ _ h; cases h
  | succ n ih =>
    intro l2 l4 S h
    rw [FX6_feed_37] at h
    refine cs_e h (fun _ h => ?_) (fun _ h => ?_)
    · skip
      have h := Option.some.inj h
      subst h
      exact Un.refl _
    · skip
      obtain ⟨q8, hq9, h⟩ := bd_e h
      refine Un.trans ?_ (ih h)
      refine Un.trans ?_ ((wX2_add hq9).mono (sub_k [0, 1] rfl) (sub_k [] rfl) (sub_k [] rfl))
      exact Un.refl _
set_option maxRecDepth 4000 in
theorem wX6_feed {q : Int32 × St} {l1 : Int32} {l2 : Int64} {S : St} (h : fX6_feed l1 l2 S = some q) : Un [(1, 1), (2, 99)] [] [] S q.2 := by
  unfold fX6_feed at h
  refine cs_e h (fun _ h => ?_) (fun _ h => ?_)
  · skip
    refine Un.trans ?_ (wX6_feed_11  h)
    exact Un.refl _
  · skip
    refine cs_e h (fun _ h => ?_) (fun _ h => ?_)
    · skip
      refine cs_e h (fun _ h => ?_) (fun _ h => ?_)
      · skip
        refine Un.trans ?_ (wX6_feed_37  _ h)
        exact Un.refl _
      · skip
        have h := Option.some.inj h
        subst h
        exact Un.refl _
    · skip
      refine Un.trans ?_ (wX6_feed_11  h)
      exact Un.refl _
set_option maxRecDepth 4000 in
theorem wX6_pupil {q : Int32 × St} {l1 : Int32} {l2 : Int32} {S : St} (h : fX6_pupil l1 l2 S = some q) : Un [] [] [] S q.2 := by
  unfold fX6_pupil at h
  obtain ⟨q3, hq4, h⟩ := bd_e h
  refine cs_e h (fun _ h => ?_) (fun _ h => ?_)
  · skip
    have h := Option.some.inj h
    subst h
    refine Un.trans ?_ ((wX6_isPupil hq4).mono (sub_k [] rfl) (sub_k [] rfl) (sub_k [] rfl))
    exact Un.refl _
  · skip
    refine cs_e h (fun _ h => ?_) (fun _ h => ?_)
    · skip
      obtain ⟨g6, h⟩ := gd_e h
      obtain ⟨g7, h⟩ := gd_e h
      have h := Option.some.inj h
      subst h
      refine Un.trans ?_ ((wX6_isPupil hq4).mono (sub_k [] rfl) (sub_k [] rfl) (sub_k [] rfl))
      exact Un.refl _
    · skip
      refine cs_e h (fun _ h => ?_) (fun _ h => ?_)
      · skip
        obtain ⟨g9, h⟩ := gd_e h
        obtain ⟨g10, h⟩ := gd_e h
        have h := Option.some.inj h
        subst h
        refine Un.trans ?_ ((wX6_isPupil hq4).mono (sub_k [] rfl) (sub_k [] rfl) (sub_k [] rfl))
        exact Un.refl _
      · skip
        refine cs_e h (fun _ h => ?_) (fun _ h => ?_)
        · skip
          obtain ⟨g12, h⟩ := gd_e h
          obtain ⟨g13, h⟩ := gd_e h
          have h := Option.some.inj h
          subst h
          refine Un.trans ?_ ((wX6_isPupil hq4).mono (sub_k [] rfl) (sub_k [] rfl) (sub_k [] rfl))
          exact Un.refl _
        · skip
          refine cs_e h (fun _ h => ?_) (fun _ h => ?_)
          · skip
            obtain ⟨q17, hq18, h⟩ := bd_e h
            have h := Option.some.inj h
            subst h
            refine Un.trans ?_ ((wX6_knownThings hq18).mono (sub_k [] rfl) (sub_k [] rfl) (sub_k [] rfl))
            refine Un.trans ?_ ((wX6_isPupil hq4).mono (sub_k [] rfl) (sub_k [] rfl) (sub_k [] rfl))
            exact Un.refl _
          · skip
            refine cs_e h (fun _ h => ?_) (fun _ h => ?_)
            · skip
              obtain ⟨q22, hq23, h⟩ := bd_e h
              have h := Option.some.inj h
              subst h
              refine Un.trans ?_ ((wX6_allLevels hq23).mono (sub_k [] rfl) (sub_k [] rfl) (sub_k [] rfl))
              refine Un.trans ?_ ((wX6_isPupil hq4).mono (sub_k [] rfl) (sub_k [] rfl) (sub_k [] rfl))
              exact Un.refl _
            · skip
              have h := Option.some.inj h
              subst h
              refine Un.trans ?_ ((wX6_isPupil hq4).mono (sub_k [] rfl) (sub_k [] rfl) (sub_k [] rfl))
              exact Un.refl _
set_option maxRecDepth 4000 in
theorem wX6_leans {q : Int32 × St} {l1 : Int32} {S : St} (h : fX6_leans l1 S = some q) : Un [] [] [] S q.2 := by
  unfold fX6_leans at h
  obtain ⟨q3, hq4, h⟩ := bd_e h
  refine cs_e h (fun _ h => ?_) (fun _ h => ?_)
  · skip
    have h := Option.some.inj h
    subst h
    refine Un.trans ?_ ((wX6_isThing hq4).mono (sub_k [] rfl) (sub_k [] rfl) (sub_k [] rfl))
    exact Un.refl _
  · skip
    obtain ⟨g6, h⟩ := gd_e h
    obtain ⟨g7, h⟩ := gd_e h
    have h := Option.some.inj h
    subst h
    refine Un.trans ?_ ((wX6_isThing hq4).mono (sub_k [] rfl) (sub_k [] rfl) (sub_k [] rfl))
    exact Un.refl _
set_option maxRecDepth 4000 in
theorem wX6_level_33 {q : Int32 × St}   {S : St} (h : FX6_level_33  S = some q) : Un [] [] [] S q.2 := by
  unfold FX6_level_33 at h
  have h := Option.some.inj h
  subst h
  exact Un.refl _
set_option maxRecDepth 4000 in
theorem wX6_level {q : Int32 × St} {l1 : Int32} {l2 : Int32} {S : St} (h : fX6_level l1 l2 S = some q) : Un [] [] [] S q.2 := by
  unfold fX6_level at h
  obtain ⟨q3, hq4, h⟩ := bd_e h
  refine cs_e h (fun _ h => ?_) (fun _ h => ?_)
  · skip
    refine Un.trans ?_ (wX6_level_33  h)
    refine Un.trans ?_ ((wX6_isPupil hq4).mono (sub_k [] rfl) (sub_k [] rfl) (sub_k [] rfl))
    exact Un.refl _
  · skip
    obtain ⟨q8, hq9, h⟩ := bd_e h
    refine cs_e h (fun _ h => ?_) (fun _ h => ?_)
    · skip
      refine Un.trans ?_ (wX6_level_33  h)
      refine Un.trans ?_ ((wX6_isThing hq9).mono (sub_k [] rfl) (sub_k [] rfl) (sub_k [] rfl))
      refine Un.trans ?_ ((wX6_isPupil hq4).mono (sub_k [] rfl) (sub_k [] rfl) (sub_k [] rfl))
      exact Un.refl _
    · skip
      obtain ⟨g12, h⟩ := gd_e h
      have h := Option.some.inj h
      subst h
      refine Un.trans ?_ ((wX6_isThing hq9).mono (sub_k [] rfl) (sub_k [] rfl) (sub_k [] rfl))
      refine Un.trans ?_ ((wX6_isPupil hq4).mono (sub_k [] rfl) (sub_k [] rfl) (sub_k [] rfl))
      exact Un.refl _
set_option maxRecDepth 4000 in
theorem wX6_log_16 {q : Int32 × St}   {S : St} (h : FX6_log_16  S = some q) : Un [(0, 9), (23, 99)] [] [] S q.2 := by
  unfold FX6_log_16 at h
  have h := Option.some.inj h
  subst h
  exact Un.refl _
set_option maxRecDepth 4000 in
theorem wX6_log {q : Int32 × St} {l1 : Int32} {l2 : Int32} {S : St} (h : fX6_log l1 l2 S = some q) : Un [(0, 9), (23, 99)] [] [] S q.2 := by
  unfold fX6_log at h
  obtain ⟨q3, hq4, h⟩ := bd_e h
  refine cs_e h (fun _ h => ?_) (fun _ h => ?_)
  · skip
    refine Un.trans ?_ (wX6_log_16  h)
    refine Un.trans ?_ ((wX6_isPupil hq4).mono (sub_k [] rfl) (sub_k [] rfl) (sub_k [] rfl))
    exact Un.refl _
  · skip
    obtain ⟨q8, hq9, h⟩ := bd_e h
    refine cs_e h (fun _ h => ?_) (fun _ h => ?_)
    · skip
      refine Un.trans ?_ (wX6_log_16  h)
      refine Un.trans ?_ ((wX6_isThing hq9).mono (sub_k [] rfl) (sub_k [] rfl) (sub_k [] rfl))
      refine Un.trans ?_ ((wX6_isPupil hq4).mono (sub_k [] rfl) (sub_k [] rfl) (sub_k [] rfl))
      exact Un.refl _
    · skip
      refine cs_e h (fun _ h => ?_) (fun _ h => ?_)
      · skip
        obtain ⟨g13, h⟩ := gd_e h
        have h := Option.some.inj h
        subst h
        refine Un.nS ?_ (List.mem_of_getElem? (i := 0) rfl)
        refine Un.nA ?_ (List.mem_of_getElem? (i := 1) rfl)
        refine Un.trans ?_ ((wX6_isThing hq9).mono (sub_k [] rfl) (sub_k [] rfl) (sub_k [] rfl))
        refine Un.trans ?_ ((wX6_isPupil hq4).mono (sub_k [] rfl) (sub_k [] rfl) (sub_k [] rfl))
        exact Un.refl _
      · skip
        have h := Option.some.inj h
        subst h
        refine Un.trans ?_ ((wX6_isThing hq9).mono (sub_k [] rfl) (sub_k [] rfl) (sub_k [] rfl))
        refine Un.trans ?_ ((wX6_isPupil hq4).mono (sub_k [] rfl) (sub_k [] rfl) (sub_k [] rfl))
        exact Un.refl _
set_option maxRecDepth 4000 in
theorem wX6_keep_9 {q : Int32 × St}   {S : St} (h : FX6_keep_9  S = some q) : Un [(0, 7), (15, 1), (15, 2), (15, 3), (16, 99), (17, 1), (17, 2), (17, 3), (18, 99), (19, 1), (19, 2), (19, 3), (20, 99), (21, 1), (21, 2), (21, 3), (22, 99)] [] [] S q.2 := by
  unfold FX6_keep_9 at h
  have h := Option.some.inj h
  subst h
  exact Un.refl _
set_option maxRecDepth 4000 in
theorem wX6_keep {q : Int32 × St} {l1 : Int32} {S : St} (h : fX6_keep l1 S = some q) : Un [(0, 7), (15, 1), (15, 2), (15, 3), (16, 99), (17, 1), (17, 2), (17, 3), (18, 99), (19, 1), (19, 2), (19, 3), (20, 99), (21, 1), (21, 2), (21, 3), (22, 99)] [] [] S q.2 := by
  unfold fX6_keep at h
  refine cs_e h (fun _ h => ?_) (fun _ h => ?_)
  · skip
    refine Un.trans ?_ (wX6_keep_9  h)
    exact Un.refl _
  · skip
    refine cs_e h (fun _ h => ?_) (fun _ h => ?_)
    · skip
      obtain ⟨q5, hq6, h⟩ := bd_e h
      obtain ⟨g7, h⟩ := gd_e h
      obtain ⟨q10, hq11, h⟩ := bd_e h
      have h := Option.some.inj h
      subst h
      refine Un.nS ?_ (List.mem_of_getElem? (i := 0) rfl)
      refine Un.trans ?_ ((wX5_take hq11).mono (by rcases isStd_or g7 with e | e | e | e <;> rw [e] <;> decide) (sub_k [] rfl) (sub_k [] rfl))
      refine Un.trans ?_ ((wX6_imageOf hq6).mono (sub_k [] rfl) (sub_k [] rfl) (sub_k [] rfl))
      exact Un.refl _
    · skip
      refine Un.trans ?_ (wX6_keep_9  h)
      exact Un.refl _
set_option maxRecDepth 4000 in
theorem wX6_goBack_9 {q : Int32 × St}   {S : St} (h : FX6_goBack_9  S = some q) : Un [(15, 1), (15, 2), (15, 3), (16, 99)] [] [] S q.2 := by
  unfold FX6_goBack_9 at h
  have h := Option.some.inj h
  subst h
  exact Un.refl _
set_option maxRecDepth 4000 in
theorem wX6_goBack {q : Int32 × St} {l1 : Int32} {S : St} (h : fX6_goBack l1 S = some q) : Un [(15, 1), (15, 2), (15, 3), (16, 99)] [] [] S q.2 := by
  unfold fX6_goBack at h
  refine cs_e h (fun _ h => ?_) (fun _ h => ?_)
  · skip
    refine Un.trans ?_ (wX6_goBack_9  h)
    exact Un.refl _
  · skip
    refine cs_e h (fun _ h => ?_) (fun _ h => ?_)
    · skip
      refine cs_e h (fun _ h => ?_) (fun _ h => ?_)
      · skip
        have h := Option.some.inj h
        subst h
        exact Un.refl _
      · skip
        obtain ⟨q6, hq7, h⟩ := bd_e h
        obtain ⟨g8, h⟩ := gd_e h
        obtain ⟨q11, hq12, h⟩ := bd_e h
        have h := Option.some.inj h
        subst h
        refine Un.trans ?_ ((wX5_take hq12).mono (sub_k [0, 1, 2, 3] rfl) (sub_k [] rfl) (sub_k [] rfl))
        refine Un.trans ?_ ((wX6_imageOf hq7).mono (sub_k [] rfl) (sub_k [] rfl) (sub_k [] rfl))
        exact Un.refl _
    · skip
      refine Un.trans ?_ (wX6_goBack_9  h)
      exact Un.refl _
set_option maxRecDepth 4000 in
theorem wX7_isThing {q : Int32 × St} {l1 : Int32} {S : St} (h : fX7_isThing l1 S = some q) : Un [] [] [] S q.2 := by
  unfold fX7_isThing at h
  obtain ⟨q3, hq4, h⟩ := bd_e h
  obtain ⟨g5, h⟩ := gd_e h
  have h := Option.some.inj h
  subst h
  refine Un.trans ?_ ((wX7_in hq4).mono (sub_k [] rfl) (sub_k [] rfl) (sub_k [] rfl))
  exact Un.refl _
set_option maxRecDepth 4000 in
theorem wX7_isPupil {q : Int32 × St} {l1 : Int32} {S : St} (h : fX7_isPupil l1 S = some q) : Un [] [] [] S q.2 := by
  unfold fX7_isPupil at h
  obtain ⟨q3, hq4, h⟩ := bd_e h
  obtain ⟨g5, h⟩ := gd_e h
  have h := Option.some.inj h
  subst h
  refine Un.trans ?_ ((wX7_in hq4).mono (sub_k [] rfl) (sub_k [] rfl) (sub_k [] rfl))
  exact Un.refl _
set_option maxRecDepth 4000 in
theorem wX7_feed_35 {q : Int32 × St}  : ∀ (n : Nat) {l2 : Int64} {l4 : Int32} {S : St}, FX7_feed_35 n l2 l4 S = some q → Un [(44, 8), (48, 99)] [] [] S q.2 := by
  intro n
  induction n with
  | zero => intro _ _ _ h; cases h
  | succ n ih =>
    intro l2 l4 S h
    rw [FX7_feed_35] at h
    refine cs_e h (fun _ h => ?_) (fun _ h => ?_)
    · skip
      have h := Option.some.inj h
      subst h
      exact Un.refl _
    · skip
      obtain ⟨g10, h⟩ := gd_e h
      refine Un.trans ?_ (ih h)
      refine Un.nS ?_ (List.mem_of_getElem? (i := 0) rfl)
      refine Un.nA ?_ (List.mem_of_getElem? (i := 1) rfl)
      exact Un.refl _
set_option maxRecDepth 4000 in
theorem wX7_feed {q : Int32 × St} {l1 : Int32} {l2 : Int64} {S : St} (h : fX7_feed l1 l2 S = some q) : Un [(44, 8), (48, 99)] [] [] S q.2 := by
  unfold fX7_feed at h
  obtain ⟨q3, hq4, h⟩ := bd_e h
  refine cs_e h (fun _ h => ?_) (fun _ h => ?_)
  · skip
    have h := Option.some.inj h
    subst h
    refine Un.trans ?_ ((wX7_in hq4).mono (sub_k [] rfl) (sub_k [] rfl) (sub_k [] rfl))
    exact Un.refl _
  · skip
    refine cs_e h (fun _ h => ?_) (fun _ h => ?_)
    · skip
      refine Un.trans ?_ (wX7_feed_35  _ h)
      refine Un.trans ?_ ((wX7_in hq4).mono (sub_k [] rfl) (sub_k [] rfl) (sub_k [] rfl))
      exact Un.refl _
    · skip
      have h := Option.some.inj h
      subst h
      refine Un.trans ?_ ((wX7_in hq4).mono (sub_k [] rfl) (sub_k [] rfl) (sub_k [] rfl))
      exact Un.refl _
set_option maxRecDepth 4000 in
theorem wX7_readWord_92 {q : Unit × St}  {k18 : St → Option (Unit × St)} (hk18 : ∀  {S : St}, k18  S = some q → Un [(44, 10), (44, 12)] [(44, 11)] [] S q.2) {s0 : Int64} {S : St} (h : FX7_readWord_92 k18 s0 S = some q) : Un [(44, 10), (44, 12)] [(44, 11)] [] S q.2 := by
  unfold FX7_readWord_92 at h
  refine Un.trans ?_ (hk18 h)
  refine Un.nS ?_ (List.mem_of_getElem? (i := 1) rfl)
  refine Un.jS ?_ (List.mem_of_getElem? (i := 0) rfl)
  exact Un.refl _
set_option maxRecDepth 4000 in
theorem wX7_readWord_18 {q : Unit × St}  : ∀ (n : Nat)  {S : St}, FX7_readWord_18 n  S = some q → Un [(44, 10), (44, 12)] [(44, 11)] [] S q.2 := by
  intro n
  induction n with
  | zero => intro _ h; cases h
  | succ n ih =>
    intro S h
    rw [FX7_readWord_18] at h
    refine cs_e h (fun _ h => ?_) (fun _ h => ?_)
    · skip
      have h := Option.some.inj h
      subst h
      exact Un.refl _
    · skip
      obtain ⟨g9, h⟩ := gd_e h
      obtain ⟨q12, hq13, h⟩ := bd_e h
      refine cs_e h (fun _ h => ?_) (fun _ h => ?_)
      · skip
        have h := Option.some.inj h
        subst h
        refine Un.trans ?_ ((wX7_in hq13).mono (sub_k [] rfl) (sub_k [] rfl) (sub_k [] rfl))
        exact Un.refl _
      · skip
        refine cs_e h (fun _ h => ?_) (fun _ h => ?_)
        · skip
          obtain ⟨g17, h⟩ := gd_e h
          refine Un.trans ?_ (wX7_readWord_92 (fun h => ih h) h)
          refine Un.trans ?_ ((wX7_in hq13).mono (sub_k [] rfl) (sub_k [] rfl) (sub_k [] rfl))
          exact Un.refl _
        · skip
          refine Un.trans ?_ (wX7_readWord_92 (fun h => ih h) h)
          refine Un.trans ?_ ((wX7_in hq13).mono (sub_k [] rfl) (sub_k [] rfl) (sub_k [] rfl))
          exact Un.refl _
set_option maxRecDepth 4000 in
theorem wX7_readWord {q : Unit × St}  {S : St} (h : fX7_readWord  S = some q) : Un [(44, 10), (44, 12)] [(44, 11)] [] S q.2 := by
  unfold fX7_readWord at h
  obtain ⟨q3, hq4, h⟩ := bd_e h
  refine Un.trans ?_ (wX7_readWord_18  _ h)
  refine Un.nS ?_ (List.mem_of_getElem? (i := 1) rfl)
  refine Un.jS ?_ (List.mem_of_getElem? (i := 0) rfl)
  refine Un.trans ?_ ((wX7_here hq4).mono (sub_k [0] rfl) (sub_k [] rfl) (sub_k [] rfl))
  exact Un.refl _
set_option maxRecDepth 4000 in
theorem wX7_takeNumber_157 {q : Int32 × St}   {S : St} (h : FX7_takeNumber_157  S = some q) : Un [(44, 9), (44, 10), (44, 13), (44, 14)] [] [] S q.2 := by
  unfold FX7_takeNumber_157 at h
  obtain ⟨q37, hq38, h⟩ := bd_e h
  have h := Option.some.inj h
  subst h
  refine Un.trans ?_ ((wX7_fails hq38).mono (sub_k [0] rfl) (sub_k [] rfl) (sub_k [] rfl))
  exact Un.refl _
set_option maxRecDepth 4000 in
theorem wX7_takeNumber_129 {q : Int32 × St}  {l1 : Int32} {l2 : Int32} {S : St} (h : FX7_takeNumber_129 l1 l2 S = some q) : Un [(44, 9), (44, 10), (44, 13), (44, 14)] [] [] S q.2 := by
  unfold FX7_takeNumber_129 at h
  refine cs_e h (fun _ h => ?_) (fun _ h => ?_)
  · skip
    refine Un.trans ?_ (wX7_takeNumber_157  h)
    exact Un.refl _
  · skip
    obtain ⟨q32, hq33, h⟩ := bd_e h
    refine cs_e h (fun _ h => ?_) (fun _ h => ?_)
    · skip
      refine Un.trans ?_ (wX7_takeNumber_157  h)
      refine Un.trans ?_ ((wX7_in hq33).mono (sub_k [] rfl) (sub_k [] rfl) (sub_k [] rfl))
      exact Un.refl _
    · skip
      have h := Option.some.inj h
      subst h
      refine Un.trans ?_ ((wX7_in hq33).mono (sub_k [] rfl) (sub_k [] rfl) (sub_k [] rfl))
      exact Un.refl _
set_option maxRecDepth 4000 in
theorem wX7_takeNumber_113 {q : Int32 × St}  {k42 : Int32 → Int32 → St → Option (Int32 × St)} (hk42 : ∀ {l1 : Int32} {l2 : Int32} {S : St}, k42 l1 l2 S = some q → Un [(44, 9), (44, 10), (44, 13), (44, 14)] [] [] S q.2) {l1 : Int32} {l2 : Int32} {s0 : Int32} {S : St} (h : FX7_takeNumber_113 k42 l1 l2 s0 S = some q) : Un [(44, 9), (44, 10), (44, 13), (44, 14)] [] [] S q.2 := by
  unfold FX7_takeNumber_113 at h
  refine Un.trans ?_ (hk42 h)
  refine Un.nS ?_ (List.mem_of_getElem? (i := 1) rfl)
  refine Un.nS ?_ (List.mem_of_getElem? (i := 2) rfl)
  exact Un.refl _
set_option maxRecDepth 4000 in
theorem wX7_takeNumber_42 {q : Int32 × St}  : ∀ (n : Nat) {l1 : Int32} {l2 : Int32} {S : St}, FX7_takeNumber_42 n l1 l2 S = some q → Un [(44, 9), (44, 10), (44, 13), (44, 14)] [] [] S q.2 := by
  intro n
  induction n with
  | zero => intro _ _ _ h; cases h
  | succ n ih =>
    intro l1 l2 S h
    rw [FX7_takeNumber_42] at h
    refine cs_e h (fun _ h => ?_) (fun _ h => ?_)
    · skip
      refine Un.trans ?_ (wX7_takeNumber_129  h)
      exact Un.refl _
    · skip
      obtain ⟨g18, h⟩ := gd_e h
      obtain ⟨q21, hq22, h⟩ := bd_e h
      refine cs_e h (fun _ h => ?_) (fun _ h => ?_)
      · skip
        refine Un.trans ?_ (wX7_takeNumber_129  h)
        refine Un.trans ?_ ((wX7_in hq22).mono (sub_k [] rfl) (sub_k [] rfl) (sub_k [] rfl))
        exact Un.refl _
      · skip
        refine cs_e h (fun _ h => ?_) (fun _ h => ?_)
        · skip
          obtain ⟨g26, h⟩ := gd_e h
          refine Un.trans ?_ (wX7_takeNumber_113 (fun h => ih h) h)
          refine Un.trans ?_ ((wX7_in hq22).mono (sub_k [] rfl) (sub_k [] rfl) (sub_k [] rfl))
          exact Un.refl _
        · skip
          refine Un.trans ?_ (wX7_takeNumber_113 (fun h => ih h) h)
          refine Un.trans ?_ ((wX7_in hq22).mono (sub_k [] rfl) (sub_k [] rfl) (sub_k [] rfl))
          exact Un.refl _
set_option maxRecDepth 4000 in
theorem wX7_takeNumber {q : Int32 × St} {l1 : Int32} {l2 : Int32} {S : St} (h : fX7_takeNumber l1 l2 S = some q) : Un [(44, 9), (44, 10), (44, 13), (44, 14)] [] [] S q.2 := by
  unfold fX7_takeNumber at h
  obtain ⟨q3, hq4, h⟩ := bd_e h
  obtain ⟨q7, hq8, h⟩ := bd_e h
  refine cs_e h (fun _ h => ?_) (fun _ h => ?_)
  · skip
    obtain ⟨q14, hq15, h⟩ := bd_e h
    have h := Option.some.inj h
    subst h
    refine Un.trans ?_ ((wX7_fails hq15).mono (sub_k [0] rfl) (sub_k [] rfl) (sub_k [] rfl))
    refine Un.trans ?_ ((wX7_in hq8).mono (sub_k [] rfl) (sub_k [] rfl) (sub_k [] rfl))
    refine Un.trans ?_ ((wX7_here hq4).mono (sub_k [1] rfl) (sub_k [] rfl) (sub_k [] rfl))
    exact Un.refl _
  · skip
    refine Un.trans ?_ (wX7_takeNumber_42  _ h)
    refine Un.nS ?_ (List.mem_of_getElem? (i := 2) rfl)
    refine Un.nS ?_ (List.mem_of_getElem? (i := 3) rfl)
    refine Un.trans ?_ ((wX7_in hq8).mono (sub_k [] rfl) (sub_k [] rfl) (sub_k [] rfl))
    refine Un.trans ?_ ((wX7_here hq4).mono (sub_k [1] rfl) (sub_k [] rfl) (sub_k [] rfl))
    exact Un.refl _
set_option maxRecDepth 4000 in
theorem wX7_isComma_29 {q : Int32 × St}  {l1 : Int32} {s0 : Int32} {s1 : Int32} {S : St} (h : FX7_isComma_29 l1 s0 s1 S = some q) : Un [(44, 10)] [] [] S q.2 := by
  unfold FX7_isComma_29 at h
  obtain ⟨g8, h⟩ := gd_e h
  have h := Option.some.inj h
  subst h
  refine Un.nS ?_ (List.mem_of_getElem? (i := 0) rfl)
  exact Un.refl _
set_option maxRecDepth 4000 in
theorem wX7_isComma_14 {q : Int32 × St}  {s0 : Int32} {S : St} (h : FX7_isComma_14 s0 S = some q) : Un [(44, 10)] [] [] S q.2 := by
  unfold FX7_isComma_14 at h
  refine cs_e h (fun _ h => ?_) (fun _ h => ?_)
  · skip
    refine Un.trans ?_ (wX7_isComma_29  h)
    exact Un.refl _
  · skip
    refine Un.trans ?_ (wX7_isComma_29  h)
    exact Un.refl _
set_option maxRecDepth 4000 in
theorem wX7_isComma {q : Int32 × St}  {S : St} (h : fX7_isComma  S = some q) : Un [(44, 10)] [] [] S q.2 := by
  unfold fX7_isComma at h
  obtain ⟨q3, hq4, h⟩ := bd_e h
  refine cs_e h (fun _ h => ?_) (fun _ h => ?_)
  · skip
    refine Un.trans ?_ (wX7_isComma_14  h)
    refine Un.trans ?_ ((wX7_here hq4).mono (sub_k [0] rfl) (sub_k [] rfl) (sub_k [] rfl))
    exact Un.refl _
  · skip
    refine Un.trans ?_ (wX7_isComma_14  h)
    refine Un.trans ?_ ((wX7_here hq4).mono (sub_k [0] rfl) (sub_k [] rfl) (sub_k [] rfl))
    exact Un.refl _
set_option maxRecDepth 4000 in
theorem wX7_capOf_64 {q : Int32 × St}  {k6 : Int32 → Int32 → Int32 → Int32 → Int32 → St → Option (Int32 × St)} (hk6 : ∀ {l1 : Int32} {l2 : Int32} {l3 : Int32} {l4 : Int32} {l5 : Int32} {S : St}, k6 l1 l2 l3 l4 l5 S = some q → Un [] [] [] S q.2) {l1 : Int32} {l2 : Int32} {l3 : Int32} {l5 : Int32} {s0 : Int32} {S : St} (h : FX7_capOf_64 k6 l1 l2 l3 l5 s0 S = some q) : Un [] [] [] S q.2 := by
  unfold FX7_capOf_64 at h
  refine Un.trans ?_ (hk6 h)
  exact Un.refl _
set_option maxRecDepth 4000 in
theorem wX7_capOf_63 {q : Int32 × St}  {k6 : Int32 → Int32 → Int32 → Int32 → Int32 → St → Option (Int32 × St)} (hk6 : ∀ {l1 : Int32} {l2 : Int32} {l3 : Int32} {l4 : Int32} {l5 : Int32} {S : St}, k6 l1 l2 l3 l4 l5 S = some q → Un [] [] [] S q.2) {l1 : Int32} {l2 : Int32} {l3 : Int32} {l5 : Int32} {S : St} (h : FX7_capOf_63 k6 l1 l2 l3 l5 S = some q) : Un [] [] [] S q.2 := by
  unfold FX7_capOf_63 at h
  refine Un.trans ?_ (wX7_capOf_64 hk6 h)
  exact Un.refl _
set_option maxRecDepth 4000 in
theorem wX7_capOf_59 {q : Int32 × St}  {k6 : Int32 → Int32 → Int32 → Int32 → Int32 → St → Option (Int32 × St)} (hk6 : ∀ {l1 : Int32} {l2 : Int32} {l3 : Int32} {l4 : Int32} {l5 : Int32} {S : St}, k6 l1 l2 l3 l4 l5 S = some q → Un [] [] [] S q.2) {l1 : Int32} {l2 : Int32} {l3 : Int32} {l5 : Int32} {S : St} (h : FX7_capOf_59 k6 l1 l2 l3 l5 S = some q) : Un [] [] [] S q.2 := by
  unfold FX7_capOf_59 at h
  refine Un.trans ?_ (wX7_capOf_64 hk6 h)
  exact Un.refl _
set_option maxRecDepth 4000 in
theorem wX7_capOf_6 {q : Int32 × St}  : ∀ (n : Nat) {l1 : Int32} {l2 : Int32} {l3 : Int32} {l4 : Int32} {l5 : Int32} {S : St}, FX7_capOf_6 n l1 l2 l3 l4 l5 S = some q → Un [] [] [] S q.2 := by
  intro n
  induction n with
  | zero => intro _ _ _ _ _ _ h; cases h
  | succ n ih =>
    intro l1 l2 l3 l4 l5 S h
    rw [FX7_capOf_6] at h
    refine cs_e h (fun _ h => ?_) (fun _ h => ?_)
    · skip
      refine cs_e h (fun _ h => ?_) (fun _ h => ?_)
      · skip
        have h := Option.some.inj h
        subst h
        exact Un.refl _
      · skip
        have h := Option.some.inj h
        subst h
        exact Un.refl _
    · skip
      refine cs_e h (fun _ h => ?_) (fun _ h => ?_)
      · skip
        refine Un.trans ?_ (wX7_capOf_63 (fun h => ih h) h)
        exact Un.refl _
      · skip
        obtain ⟨g4, h⟩ := gd_e h
        obtain ⟨q7, hq8, h⟩ := bd_e h
        refine cs_e h (fun _ h => ?_) (fun _ h => ?_)
        · skip
          refine Un.trans ?_ (wX7_capOf_59 (fun h => ih h) h)
          refine Un.trans ?_ ((wX7_has hq8).mono (sub_k [] rfl) (sub_k [] rfl) (sub_k [] rfl))
          exact Un.refl _
        · skip
          obtain ⟨q12, hq13, h⟩ := bd_e h
          refine cs_e h (fun _ h => ?_) (fun _ h => ?_)
          · skip
            obtain ⟨g16, h⟩ := gd_e h
            refine cs_e h (fun _ h => ?_) (fun _ h => ?_)
            · skip
              refine Un.trans ?_ (wX7_capOf_63 (fun h => ih h) h)
              refine Un.trans ?_ ((wX7_has hq13).mono (sub_k [] rfl) (sub_k [] rfl) (sub_k [] rfl))
              refine Un.trans ?_ ((wX7_has hq8).mono (sub_k [] rfl) (sub_k [] rfl) (sub_k [] rfl))
              exact Un.refl _
            · skip
              refine Un.trans ?_ (wX7_capOf_59 (fun h => ih h) h)
              refine Un.trans ?_ ((wX7_has hq13).mono (sub_k [] rfl) (sub_k [] rfl) (sub_k [] rfl))
              refine Un.trans ?_ ((wX7_has hq8).mono (sub_k [] rfl) (sub_k [] rfl) (sub_k [] rfl))
              exact Un.refl _
          · skip
            refine Un.trans ?_ (wX7_capOf_59 (fun h => ih h) h)
            refine Un.trans ?_ ((wX7_has hq13).mono (sub_k [] rfl) (sub_k [] rfl) (sub_k [] rfl))
            refine Un.trans ?_ ((wX7_has hq8).mono (sub_k [] rfl) (sub_k [] rfl) (sub_k [] rfl))
            exact Un.refl _
set_option maxRecDepth 4000 in
theorem wX7_capOf {q : Int32 × St} {l1 : Int32} {l2 : Int32} {l3 : Int32} {S : St} (h : fX7_capOf l1 l2 l3 S = some q) : Un [] [] [] S q.2 := by
  unfold fX7_capOf at h
  refine Un.trans ?_ (wX7_capOf_6  _ h)
  exact Un.refl _
set_option maxRecDepth 4000 in
theorem wX7_isSo {q : Int32 × St} {l1 : Int32} {l2 : Int32} {S : St} (h : fX7_isSo l1 l2 S = some q) : Un [(44, 23)] [] [] S q.2 := by
  unfold fX7_isSo at h
  refine cs_e h (fun _ h => ?_) (fun _ h => ?_)
  · skip
    refine cs_e h (fun _ h => ?_) (fun _ h => ?_)
    · skip
      have h := Option.some.inj h
      subst h
      exact Un.refl _
    · skip
      have h := Option.some.inj h
      subst h
      exact Un.refl _
  · skip
    obtain ⟨q5, hq6, h⟩ := bd_e h
    refine cs_e h (fun _ h => ?_) (fun _ h => ?_)
    · skip
      have h := Option.some.inj h
      subst h
      refine Un.trans ?_ ((wX7_draw hq6).mono (sub_k [0] rfl) (sub_k [] rfl) (sub_k [] rfl))
      exact Un.refl _
    · skip
      have h := Option.some.inj h
      subst h
      refine Un.trans ?_ ((wX7_draw hq6).mono (sub_k [0] rfl) (sub_k [] rfl) (sub_k [] rfl))
      exact Un.refl _
set_option maxRecDepth 4000 in
theorem wX7_follow_39 {q : Unit × St}  {k2 : Int32 → Int32 → Int32 → St → Option (Unit × St)} (hk2 : ∀ {l1 : Int32} {l2 : Int32} {l3 : Int32} {S : St}, k2 l1 l2 l3 S = some q → Un [(54, 99)] [] [] S q.2) {l1 : Int32} {l2 : Int32} {l3 : Int32} {S : St} (h : FX7_follow_39 k2 l1 l2 l3 S = some q) : Un [(54, 99)] [] [] S q.2 := by
  unfold FX7_follow_39 at h
  refine Un.trans ?_ (hk2 h)
  exact Un.refl _
set_option maxRecDepth 4000 in
theorem wX7_follow_2 {q : Unit × St}  : ∀ (n : Nat) {l1 : Int32} {l2 : Int32} {l3 : Int32} {S : St}, FX7_follow_2 n l1 l2 l3 S = some q → Un [(54, 99)] [] [] S q.2 := by
  intro n
  induction n with
  | zero => intro _ _ _ _ h; cases h
  | succ n ih =>
    intro l1 l2 l3 S h
    rw [FX7_follow_2] at h
    refine cs_e h (fun _ h => ?_) (fun _ h => ?_)
    · skip
      have h := Option.some.inj h
      subst h
      exact Un.refl _
    · skip
      obtain ⟨q4, hq5, h⟩ := bd_e h
      refine cs_e h (fun _ h => ?_) (fun _ h => ?_)
      · skip
        refine Un.trans ?_ (wX7_follow_39 (fun h => ih h) h)
        refine Un.trans ?_ ((wX7_has hq5).mono (sub_k [] rfl) (sub_k [] rfl) (sub_k [] rfl))
        exact Un.refl _
      · skip
        obtain ⟨g7, h⟩ := gd_e h
        obtain ⟨g8, h⟩ := gd_e h
        refine cs_e h (fun _ h => ?_) (fun _ h => ?_)
        · skip
          refine Un.trans ?_ (wX7_follow_39 (fun h => ih h) h)
          refine Un.trans ?_ ((wX7_has hq5).mono (sub_k [] rfl) (sub_k [] rfl) (sub_k [] rfl))
          exact Un.refl _
        · skip
          obtain ⟨q12, hq13, h⟩ := bd_e h
          refine Un.trans ?_ (wX7_follow_39 (fun h => ih h) h)
          refine Un.trans ?_ ((wX7_rise hq13).mono (sub_k [0] rfl) (sub_k [] rfl) (sub_k [] rfl))
          refine Un.trans ?_ ((wX7_has hq5).mono (sub_k [] rfl) (sub_k [] rfl) (sub_k [] rfl))
          exact Un.refl _
set_option maxRecDepth 4000 in
theorem wX7_follow {q : Unit × St} {l1 : Int32} {l2 : Int32} {S : St} (h : fX7_follow l1 l2 S = some q) : Un [(54, 99)] [] [] S q.2 := by
  unfold fX7_follow at h
  refine Un.trans ?_ (wX7_follow_2  _ h)
  exact Un.refl _
set_option maxRecDepth 4000 in
theorem wX7_noOdds_79 {q : Int32 × St}  {k21 : Int32 → Int32 → Int32 → Int32 → Int64 → Int32 → St → Option (Int32 × St)} (hk21 : ∀ {l1 : Int32} {l2 : Int32} {l3 : Int32} {l4 : Int32} {l5 : Int64} {l7 : Int32} {S : St}, k21 l1 l2 l3 l4 l5 l7 S = some q → Un [] [] [] S q.2) {l1 : Int32} {l2 : Int32} {l3 : Int32} {l4 : Int32} {l7 : Int32} {s0 : Int64} {S : St} (h : FX7_noOdds_79 k21 l1 l2 l3 l4 l7 s0 S = some q) : Un [] [] [] S q.2 := by
  unfold FX7_noOdds_79 at h
  refine Un.trans ?_ (hk21 h)
  exact Un.refl _
set_option maxRecDepth 4000 in
theorem wX7_noOdds_77 {q : Int32 × St}  {k21 : Int32 → Int32 → Int32 → Int32 → Int64 → Int32 → St → Option (Int32 × St)} (hk21 : ∀ {l1 : Int32} {l2 : Int32} {l3 : Int32} {l4 : Int32} {l5 : Int64} {l7 : Int32} {S : St}, k21 l1 l2 l3 l4 l5 l7 S = some q → Un [] [] [] S q.2) {l1 : Int32} {l2 : Int32} {l3 : Int32} {l4 : Int32} {l5 : Int64} {l7 : Int32} {S : St} (h : FX7_noOdds_77 k21 l1 l2 l3 l4 l5 l7 S = some q) : Un [] [] [] S q.2 := by
  unfold FX7_noOdds_77 at h
  refine Un.trans ?_ (wX7_noOdds_79 hk21 h)
  exact Un.refl _
set_option maxRecDepth 4000 in
theorem wX7_noOdds_123 {q : Int32 × St}  {s0 : Int64} {S : St} (h : FX7_noOdds_123 s0 S = some q) : Un [] [] [] S q.2 := by
  unfold FX7_noOdds_123 at h
  have h := Option.some.inj h
  subst h
  exact Un.refl _
set_option maxRecDepth 4000 in
theorem wX7_noOdds_121 {q : Int32 × St}  {l5 : Int64} {S : St} (h : FX7_noOdds_121 l5 S = some q) : Un [] [] [] S q.2 := by
  unfold FX7_noOdds_121 at h
  refine Un.trans ?_ (wX7_noOdds_123  h)
  exact Un.refl _
set_option maxRecDepth 4000 in
theorem wX7_noOdds_21 {q : Int32 × St}  : ∀ (n : Nat) {l1 : Int32} {l2 : Int32} {l3 : Int32} {l4 : Int32} {l5 : Int64} {l7 : Int32} {S : St}, FX7_noOdds_21 n l1 l2 l3 l4 l5 l7 S = some q → Un [] [] [] S q.2 := by
  intro n
  induction n with
  | zero => intro _ _ _ _ _ _ _ h; cases h
  | succ n ih =>
    intro l1 l2 l3 l4 l5 l7 S h
    rw [FX7_noOdds_21] at h
    refine cs_e h (fun _ h => ?_) (fun _ h => ?_)
    · skip
      refine cs_e h (fun _ h => ?_) (fun _ h => ?_)
      · skip
        refine Un.trans ?_ (wX7_noOdds_121  h)
        exact Un.refl _
      · skip
        refine cs_e h (fun _ h => ?_) (fun _ h => ?_)
        · skip
          refine Un.trans ?_ (wX7_noOdds_121  h)
          exact Un.refl _
        · skip
          obtain ⟨q9, hq10, h⟩ := bd_e h
          refine Un.trans ?_ (wX7_noOdds_123  h)
          refine Un.trans ?_ ((wX7_noChance hq10).mono (sub_k [] rfl) (sub_k [] rfl) (sub_k [] rfl))
          exact Un.refl _
    · skip
      obtain ⟨g12, h⟩ := gd_e h
      refine cs_e h (fun _ h => ?_) (fun _ h => ?_)
      · skip
        refine Un.trans ?_ (wX7_noOdds_77 (fun h => ih h) h)
        exact Un.refl _
      · skip
        refine cs_e h (fun _ h => ?_) (fun _ h => ?_)
        · skip
          refine Un.trans ?_ (wX7_noOdds_77 (fun h => ih h) h)
          exact Un.refl _
        · skip
          obtain ⟨q18, hq19, h⟩ := bd_e h
          refine Un.trans ?_ (wX7_noOdds_79 (fun h => ih h) h)
          refine Un.trans ?_ ((wX7_noChance hq19).mono (sub_k [] rfl) (sub_k [] rfl) (sub_k [] rfl))
          exact Un.refl _
set_option maxRecDepth 4000 in
theorem wX7_noOdds {q : Int32 × St} {l1 : Int32} {l2 : Int32} {l3 : Int32} {S : St} (h : fX7_noOdds l1 l2 l3 S = some q) : Un [] [] [] S q.2 := by
  unfold fX7_noOdds at h
  obtain ⟨g2, h⟩ := gd_e h
  refine Un.trans ?_ (wX7_noOdds_21  _ h)
  exact Un.refl _
set_option maxRecDepth 4000 in
theorem wX7_upBy {q : Int32 × St} {l1 : Int32} {l2 : Int32} {S : St} (h : fX7_upBy l1 l2 S = some q) : Un [] [] [] S q.2 := by
  unfold fX7_upBy at h
  refine cs_e h (fun _ h => ?_) (fun _ h => ?_)
  · skip
    obtain ⟨q9, hq10, h⟩ := bd_e h
    have h := Option.some.inj h
    subst h
    refine Un.trans ?_ ((wX7_leastOf hq10).mono (sub_k [] rfl) (sub_k [] rfl) (sub_k [] rfl))
    exact Un.refl _
  · skip
    refine cs_e h (fun _ h => ?_) (fun _ h => ?_)
    · skip
      have h := Option.some.inj h
      subst h
      exact Un.refl _
    · skip
      obtain ⟨q5, hq6, h⟩ := bd_e h
      have h := Option.some.inj h
      subst h
      refine Un.trans ?_ ((wX7_greatestBelow hq6).mono (sub_k [] rfl) (sub_k [] rfl) (sub_k [] rfl))
      exact Un.refl _
set_option maxRecDepth 4000 in
theorem wX7_isRule {q : Int32 × St} {l0 : Int32} {S : St} (h : fX7_isRule l0 S = some q) : Un [] [] [] S q.2 := by
  unfold fX7_isRule at h
  obtain ⟨q3, hq4, h⟩ := bd_e h
  obtain ⟨g5, h⟩ := gd_e h
  have h := Option.some.inj h
  subst h
  refine Un.trans ?_ ((wX7_in hq4).mono (sub_k [] rfl) (sub_k [] rfl) (sub_k [] rfl))
  exact Un.refl _
set_option maxRecDepth 4000 in
theorem wX7_tellNow_115 {q : Int32 × St}  : ∀ (n : Nat) {l2 : Int32} {l3 : Int32} {S : St}, FX7_tellNow_115 n l2 l3 S = some q → Un [(52, 99), (54, 99)] [] [] S q.2 := by
  intro n
  induction n with
  | zero => intro _ _ _ h; cases h
  | succ n ih =>
    intro l2 l3 S h
    rw [FX7_tellNow_115] at h
    refine cs_e h (fun _ h => ?_) (fun _ h => ?_)
    · skip
      have h := Option.some.inj h
      subst h
      exact Un.refl _
    · skip
      obtain ⟨g23, h⟩ := gd_e h
      obtain ⟨g24, h⟩ := gd_e h
      refine Un.trans ?_ (ih h)
      refine Un.nA ?_ (List.mem_of_getElem? (i := 0) rfl)
      exact Un.refl _
set_option maxRecDepth 4000 in
theorem wX7_tellNow_105 {q : Int32 × St}  {k43 : Int32 → Int32 → Int32 → St → Option (Int32 × St)} (hk43 : ∀ {l1 : Int32} {l2 : Int32} {l3 : Int32} {S : St}, k43 l1 l2 l3 S = some q → Un [(52, 99), (54, 99)] [] [] S q.2) {l1 : Int32} {l3 : Int32} {s0 : Int32} {s1 : Int32} {S : St} (h : FX7_tellNow_105 k43 l1 l3 s0 s1 S = some q) : Un [(52, 99), (54, 99)] [] [] S q.2 := by
  unfold FX7_tellNow_105 at h
  refine Un.trans ?_ (hk43 h)
  exact Un.refl _
set_option maxRecDepth 4000 in
theorem wX7_tellNow_84 {q : Int32 × St}  {k43 : Int32 → Int32 → Int32 → St → Option (Int32 × St)} (hk43 : ∀ {l1 : Int32} {l2 : Int32} {l3 : Int32} {S : St}, k43 l1 l2 l3 S = some q → Un [(52, 99), (54, 99)] [] [] S q.2) {l1 : Int32} {l2 : Int32} {l3 : Int32} {S : St} (h : FX7_tellNow_84 k43 l1 l2 l3 S = some q) : Un [(52, 99), (54, 99)] [] [] S q.2 := by
  unfold FX7_tellNow_84 at h
  obtain ⟨g17, h⟩ := gd_e h
  obtain ⟨g18, h⟩ := gd_e h
  refine cs_e h (fun _ h => ?_) (fun _ h => ?_)
  · skip
    refine Un.trans ?_ (wX7_tellNow_105 hk43 h)
    exact Un.refl _
  · skip
    refine Un.trans ?_ (wX7_tellNow_105 hk43 h)
    exact Un.refl _
set_option maxRecDepth 4000 in
theorem wX7_tellNow_43 {q : Int32 × St}  : ∀ (n : Nat) {l1 : Int32} {l2 : Int32} {l3 : Int32} {S : St}, FX7_tellNow_43 n l1 l2 l3 S = some q → Un [(52, 99), (54, 99)] [] [] S q.2 := by
  intro n
  induction n with
  | zero => intro _ _ _ _ h; cases h
  | succ n ih =>
    intro l1 l2 l3 S h
    rw [FX7_tellNow_43] at h
    refine cs_e h (fun _ h => ?_) (fun _ h => ?_)
    · skip
      refine Un.trans ?_ (wX7_tellNow_115  _ h)
      exact Un.refl _
    · skip
      obtain ⟨g7, h⟩ := gd_e h
      obtain ⟨g8, h⟩ := gd_e h
      obtain ⟨g10, h⟩ := gd_e h
      obtain ⟨g11, h⟩ := gd_e h
      refine cs_e h (fun _ h => ?_) (fun _ h => ?_)
      · skip
        refine Un.trans ?_ (wX7_tellNow_84 (fun h => ih h) h)
        refine Un.nA ?_ (List.mem_of_getElem? (i := 1) rfl)
        exact Un.refl _
      · skip
        obtain ⟨q15, hq16, h⟩ := bd_e h
        refine Un.trans ?_ (wX7_tellNow_84 (fun h => ih h) h)
        refine Un.trans ?_ ((wX7_rise hq16).mono (sub_k [1] rfl) (sub_k [] rfl) (sub_k [] rfl))
        refine Un.nA ?_ (List.mem_of_getElem? (i := 1) rfl)
        exact Un.refl _
set_option maxRecDepth 4000 in
theorem wX7_tellNow_32 {q : Int32 × St}  {k4 : Int32 → Int32 → St → Option (Int32 × St)} (hk4 : ∀ {l1 : Int32} {l2 : Int32} {S : St}, k4 l1 l2 S = some q → Un [(52, 99), (54, 99)] [] [] S q.2) {l2 : Int32} {s0 : Int32} {S : St} (h : FX7_tellNow_32 k4 l2 s0 S = some q) : Un [(52, 99), (54, 99)] [] [] S q.2 := by
  unfold FX7_tellNow_32 at h
  refine Un.trans ?_ (hk4 h)
  exact Un.refl _
set_option maxRecDepth 4000 in
theorem wX7_tellNow_4 {q : Int32 × St}  : ∀ (n : Nat) {l1 : Int32} {l2 : Int32} {S : St}, FX7_tellNow_4 n l1 l2 S = some q → Un [(52, 99), (54, 99)] [] [] S q.2 := by
  intro n
  induction n with
  | zero => intro _ _ _ h; cases h
  | succ n ih =>
    intro l1 l2 S h
    rw [FX7_tellNow_4] at h
    refine cs_e h (fun _ h => ?_) (fun _ h => ?_)
    · skip
      refine Un.trans ?_ (wX7_tellNow_43  _ h)
      exact Un.refl _
    · skip
      obtain ⟨g2, h⟩ := gd_e h
      obtain ⟨g3, h⟩ := gd_e h
      refine cs_e h (fun _ h => ?_) (fun _ h => ?_)
      · skip
        refine Un.trans ?_ (wX7_tellNow_32 (fun h => ih h) h)
        exact Un.refl _
      · skip
        refine Un.trans ?_ (wX7_tellNow_32 (fun h => ih h) h)
        exact Un.refl _
set_option maxRecDepth 4000 in
theorem wX7_tellNow {q : Int32 × St}  {S : St} (h : fX7_tellNow  S = some q) : Un [(52, 99), (54, 99)] [] [] S q.2 := by
  unfold fX7_tellNow at h
  refine Un.trans ?_ (wX7_tellNow_4  _ h)
  exact Un.refl _
set_option maxRecDepth 4000 in
theorem wX7_summer_91 {q : Int32 × St}  {k30 : Int32 → Int32 → Int32 → Int32 → St → Option (Int32 × St)} (hk30 : ∀ {l1 : Int32} {l2 : Int32} {l3 : Int32} {l4 : Int32} {S : St}, k30 l1 l2 l3 l4 S = some q → Un [(47, 99)] [] [] S q.2) {l1 : Int32} {l3 : Int32} {l4 : Int32} {l5 : Int32} {s0 : Int32} {s1 : Int32} {S : St} (h : FX7_summer_91 k30 l1 l3 l4 l5 s0 s1 S = some q) : Un [(47, 99)] [] [] S q.2 := by
  unfold FX7_summer_91 at h
  obtain ⟨g18, h⟩ := gd_e h
  refine Un.trans ?_ (hk30 h)
  refine Un.nA ?_ (List.mem_of_getElem? (i := 0) rfl)
  exact Un.refl _
set_option maxRecDepth 4000 in
theorem wX7_summer_66 {q : Int32 × St}  {k30 : Int32 → Int32 → Int32 → Int32 → St → Option (Int32 × St)} (hk30 : ∀ {l1 : Int32} {l2 : Int32} {l3 : Int32} {l4 : Int32} {S : St}, k30 l1 l2 l3 l4 S = some q → Un [(47, 99)] [] [] S q.2) {l1 : Int32} {l2 : Int32} {l3 : Int32} {l4 : Int32} {s0 : Int32} {S : St} (h : FX7_summer_66 k30 l1 l2 l3 l4 s0 S = some q) : Un [(47, 99)] [] [] S q.2 := by
  unfold FX7_summer_66 at h
  obtain ⟨g14, h⟩ := gd_e h
  refine cs_e h (fun _ h => ?_) (fun _ h => ?_)
  · skip
    refine Un.trans ?_ (wX7_summer_91 hk30 h)
    exact Un.refl _
  · skip
    refine Un.trans ?_ (wX7_summer_91 hk30 h)
    exact Un.refl _
set_option maxRecDepth 4000 in
theorem wX7_summer_30 {q : Int32 × St}  {k19 : Int32 → Int32 → Int32 → St → Option (Int32 × St)} (hk19 : ∀ {l1 : Int32} {l2 : Int32} {l3 : Int32} {S : St}, k19 l1 l2 l3 S = some q → Un [(47, 99)] [] [] S q.2) : ∀ (n : Nat) {l1 : Int32} {l2 : Int32} {l3 : Int32} {l4 : Int32} {S : St}, FX7_summer_30 k19 n l1 l2 l3 l4 S = some q → Un [(47, 99)] [] [] S q.2 := by
  intro n
  induction n with
  | zero => intro _ _ _ _ _ h; cases h
  | succ n ih =>
    intro l1 l2 l3 l4 S h
    rw [FX7_summer_30] at h
    refine cs_e h (fun _ h => ?_) (fun _ h => ?_)
    · skip
      refine Un.trans ?_ (hk19 h)
      exact Un.refl _
    · skip
      obtain ⟨g10, h⟩ := gd_e h
      refine cs_e h (fun _ h => ?_) (fun _ h => ?_)
      · skip
        refine Un.trans ?_ (wX7_summer_66 (fun h => ih h) h)
        exact Un.refl _
      · skip
        refine Un.trans ?_ (wX7_summer_66 (fun h => ih h) h)
        exact Un.refl _
set_option maxRecDepth 4000 in
theorem wX7_summer_19 {q : Int32 × St}  : ∀ (n : Nat) {l1 : Int32} {l2 : Int32} {l3 : Int32} {S : St}, FX7_summer_19 n l1 l2 l3 S = some q → Un [(47, 99)] [] [] S q.2 := by
  intro n
  induction n with
  | zero => intro _ _ _ _ h; cases h
  | succ n ih =>
    intro l1 l2 l3 S h
    rw [FX7_summer_19] at h
    refine cs_e h (fun _ h => ?_) (fun _ h => ?_)
    · skip
      have h := Option.some.inj h
      subst h
      exact Un.refl _
    · skip
      refine Un.trans ?_ (wX7_summer_30 (fun h => ih h) _ h)
      exact Un.refl _
set_option maxRecDepth 4000 in
theorem wX7_summer {q : Int32 × St} {l1 : Int32} {S : St} (h : fX7_summer l1 S = some q) : Un [(47, 99)] [] [] S q.2 := by
  unfold fX7_summer at h
  obtain ⟨q3, hq4, h⟩ := bd_e h
  refine cs_e h (fun _ h => ?_) (fun _ h => ?_)
  · skip
    have h := Option.some.inj h
    subst h
    refine Un.trans ?_ ((wX7_in hq4).mono (sub_k [] rfl) (sub_k [] rfl) (sub_k [] rfl))
    exact Un.refl _
  · skip
    refine Un.trans ?_ (wX7_summer_19  _ h)
    refine Un.trans ?_ ((wX7_in hq4).mono (sub_k [] rfl) (sub_k [] rfl) (sub_k [] rfl))
    exact Un.refl _
set_option maxRecDepth 4000 in
theorem wX7_stateNow_35 {q : Int32 × St}  {k4 : Int32 → Int32 → Int32 → St → Option (Int32 × St)} (hk4 : ∀ {l1 : Int32} {l2 : Int32} {l3 : Int32} {S : St}, k4 l1 l2 l3 S = some q → Un [] [] [] S q.2) {l1 : Int32} {l3 : Int32} {s0 : Int32} {S : St} (h : FX7_stateNow_35 k4 l1 l3 s0 S = some q) : Un [] [] [] S q.2 := by
  unfold FX7_stateNow_35 at h
  refine Un.trans ?_ (hk4 h)
  exact Un.refl _
set_option maxRecDepth 4000 in
theorem wX7_stateNow_4 {q : Int32 × St}  : ∀ (n : Nat) {l1 : Int32} {l2 : Int32} {l3 : Int32} {S : St}, FX7_stateNow_4 n l1 l2 l3 S = some q → Un [] [] [] S q.2 := by
  intro n
  induction n with
  | zero => intro _ _ _ _ h; cases h
  | succ n ih =>
    intro l1 l2 l3 S h
    rw [FX7_stateNow_4] at h
    refine cs_e h (fun _ h => ?_) (fun _ h => ?_)
    · skip
      have h := Option.some.inj h
      subst h
      exact Un.refl _
    · skip
      obtain ⟨q4, hq5, h⟩ := bd_e h
      refine cs_e h (fun _ h => ?_) (fun _ h => ?_)
      · skip
        refine Un.trans ?_ (wX7_stateNow_35 (fun h => ih h) h)
        refine Un.trans ?_ ((wX7_has hq5).mono (sub_k [] rfl) (sub_k [] rfl) (sub_k [] rfl))
        exact Un.refl _
      · skip
        obtain ⟨g7, h⟩ := gd_e h
        refine Un.trans ?_ (wX7_stateNow_35 (fun h => ih h) h)
        refine Un.trans ?_ ((wX7_has hq5).mono (sub_k [] rfl) (sub_k [] rfl) (sub_k [] rfl))
        exact Un.refl _
set_option maxRecDepth 4000 in
theorem wX7_stateNow {q : Int32 × St} {l1 : Int32} {S : St} (h : fX7_stateNow l1 S = some q) : Un [] [] [] S q.2 := by
  unfold fX7_stateNow at h
  refine Un.trans ?_ (wX7_stateNow_4  _ h)
  exact Un.refl _
set_option maxRecDepth 4000 in
theorem wX7_setState_40 {q : Unit × St}  {k10 : Int32 → Int32 → Int32 → St → Option (Unit × St)} (hk10 : ∀ {l1 : Int32} {l3 : Int32} {l4 : Int32} {S : St}, k10 l1 l3 l4 S = some q → Un [(52, 99)] [] [] S q.2) {l1 : Int32} {l3 : Int32} {l4 : Int32} {S : St} (h : FX7_setState_40 k10 l1 l3 l4 S = some q) : Un [(52, 99)] [] [] S q.2 := by
  unfold FX7_setState_40 at h
  refine Un.trans ?_ (hk10 h)
  exact Un.refl _
set_option maxRecDepth 4000 in
theorem wX7_setState_10 {q : Unit × St}  : ∀ (n : Nat) {l1 : Int32} {l3 : Int32} {l4 : Int32} {S : St}, FX7_setState_10 n l1 l3 l4 S = some q → Un [(52, 99)] [] [] S q.2 := by
  intro n
  induction n with
  | zero => intro _ _ _ _ h; cases h
  | succ n ih =>
    intro l1 l3 l4 S h
    rw [FX7_setState_10] at h
    refine cs_e h (fun _ h => ?_) (fun _ h => ?_)
    · skip
      have h := Option.some.inj h
      subst h
      exact Un.refl _
    · skip
      obtain ⟨q5, hq6, h⟩ := bd_e h
      refine cs_e h (fun _ h => ?_) (fun _ h => ?_)
      · skip
        refine Un.trans ?_ (wX7_setState_40 (fun h => ih h) h)
        refine Un.trans ?_ ((wX7_has hq6).mono (sub_k [] rfl) (sub_k [] rfl) (sub_k [] rfl))
        exact Un.refl _
      · skip
        obtain ⟨g8, h⟩ := gd_e h
        refine Un.trans ?_ (wX7_setState_40 (fun h => ih h) h)
        refine Un.nA ?_ (List.mem_of_getElem? (i := 0) rfl)
        refine Un.trans ?_ ((wX7_has hq6).mono (sub_k [] rfl) (sub_k [] rfl) (sub_k [] rfl))
        exact Un.refl _
set_option maxRecDepth 4000 in
theorem wX7_setState {q : Unit × St} {l1 : Int32} {l2 : Int32} {S : St} (h : fX7_setState l1 l2 S = some q) : Un [(52, 99)] [] [] S q.2 := by
  unfold fX7_setState at h
  refine Un.trans ?_ (wX7_setState_10  _ h)
  exact Un.refl _
set_option maxRecDepth 4000 in
theorem wX7_goal_4 {q : Int32 × St}  : ∀ (n : Nat) {l1 : Int32} {l2 : Int32} {l3 : Int32} {S : St}, FX7_goal_4 n l1 l2 l3 S = some q → Un [] [] [] S q.2 := by
  intro n
  induction n with
  | zero => intro _ _ _ _ h; cases h
  | succ n ih =>
    intro l1 l2 l3 S h
    rw [FX7_goal_4] at h
    obtain ⟨q3, hq4, h⟩ := bd_e h
    refine cs_e h (fun _ h => ?_) (fun _ h => ?_)
    · skip
      have h := Option.some.inj h
      subst h
      refine Un.trans ?_ ((wX7_bits hq4).mono (sub_k [] rfl) (sub_k [] rfl) (sub_k [] rfl))
      exact Un.refl _
    · skip
      refine Un.trans ?_ (ih h)
      refine Un.trans ?_ ((wX7_bits hq4).mono (sub_k [] rfl) (sub_k [] rfl) (sub_k [] rfl))
      exact Un.refl _
set_option maxRecDepth 4000 in
theorem wX7_goal {q : Int32 × St} {l1 : Int32} {S : St} (h : fX7_goal l1 S = some q) : Un [] [] [] S q.2 := by
  unfold fX7_goal at h
  refine Un.trans ?_ (wX7_goal_4  _ h)
  exact Un.refl _
set_option maxRecDepth 4000 in
theorem wX7_chanceOf_27 {q : Int32 × St}  {l2 : Int32} {s0 : Int32} {S : St} (h : FX7_chanceOf_27 l2 s0 S = some q) : Un [] [] [] S q.2 := by
  unfold FX7_chanceOf_27 at h
  obtain ⟨q8, hq9, h⟩ := bd_e h
  have h := Option.some.inj h
  subst h
  refine Un.trans ?_ ((wX7_noChance hq9).mono (sub_k [] rfl) (sub_k [] rfl) (sub_k [] rfl))
  exact Un.refl _
set_option maxRecDepth 4000 in
theorem wX7_chanceOf {q : Int32 × St} {l1 : Int32} {l2 : Int32} {S : St} (h : fX7_chanceOf l1 l2 S = some q) : Un [] [] [] S q.2 := by
  unfold fX7_chanceOf at h
  obtain ⟨g1, h⟩ := gd_e h
  refine cs_e h (fun _ h => ?_) (fun _ h => ?_)
  · skip
    refine Un.trans ?_ (wX7_chanceOf_27  h)
    exact Un.refl _
  · skip
    obtain ⟨g3, h⟩ := gd_e h
    obtain ⟨g5, h⟩ := gd_e h
    refine Un.trans ?_ (wX7_chanceOf_27  h)
    exact Un.refl _
set_option maxRecDepth 4000 in
theorem wX7_partBelief_177 {q : Unit × St}  {k92 : Int64 → Int32 → Int64 → Int32 → St → Option (Unit × St)} (hk92 : ∀ {l2 : Int64} {l4 : Int32} {l5 : Int64} {l7 : Int32} {S : St}, k92 l2 l4 l5 l7 S = some q → Un [(44, 34), (54, 99), (63, 99)] [(62, 99)] [] S q.2) {l2 : Int64} {l4 : Int32} {l5 : Int64} {l7 : Int32} {s0 : Int32} {s1 : Int32} {s2 : Int32} {S : St} (h : FX7_partBelief_177 k92 l2 l4 l5 l7 s0 s1 s2 S = some q) : Un [(44, 34), (54, 99), (63, 99)] [(62, 99)] [] S q.2 := by
  unfold FX7_partBelief_177 at h
  obtain ⟨g43, h⟩ := gd_e h
  refine Un.trans ?_ (hk92 h)
  refine Un.nA ?_ (List.mem_of_getElem? (i := 1) rfl)
  exact Un.refl _
set_option maxRecDepth 4000 in
theorem wX7_partBelief_147 {q : Unit × St}  {k92 : Int64 → Int32 → Int64 → Int32 → St → Option (Unit × St)} (hk92 : ∀ {l2 : Int64} {l4 : Int32} {l5 : Int64} {l7 : Int32} {S : St}, k92 l2 l4 l5 l7 S = some q → Un [(44, 34), (54, 99), (63, 99)] [(62, 99)] [] S q.2) {l2 : Int64} {l4 : Int32} {l7 : Int32} {s0 : Int64} {S : St} (h : FX7_partBelief_147 k92 l2 l4 l7 s0 S = some q) : Un [(44, 34), (54, 99), (63, 99)] [(62, 99)] [] S q.2 := by
  unfold FX7_partBelief_147 at h
  obtain ⟨g35, h⟩ := gd_e h
  obtain ⟨g37, h⟩ := gd_e h
  obtain ⟨q40, hq41, h⟩ := bd_e h
  refine cs_e h (fun _ h => ?_) (fun _ h => ?_)
  · skip
    refine Un.trans ?_ (wX7_partBelief_177 hk92 h)
    refine Un.trans ?_ ((wX7_has hq41).mono (sub_k [] rfl) (sub_k [] rfl) (sub_k [] rfl))
    exact Un.refl _
  · skip
    refine Un.trans ?_ (wX7_partBelief_177 hk92 h)
    refine Un.trans ?_ ((wX7_has hq41).mono (sub_k [] rfl) (sub_k [] rfl) (sub_k [] rfl))
    exact Un.refl _
set_option maxRecDepth 4000 in
theorem wX7_partBelief_92 {q : Unit × St}  {k71 : Int64 → Int32 → St → Option (Unit × St)} (hk71 : ∀ {l2 : Int64} {l4 : Int32} {S : St}, k71 l2 l4 S = some q → Un [(44, 34), (54, 99), (63, 99)] [(62, 99)] [] S q.2) : ∀ (n : Nat) {l2 : Int64} {l4 : Int32} {l5 : Int64} {l7 : Int32} {S : St}, FX7_partBelief_92 k71 n l2 l4 l5 l7 S = some q → Un [(44, 34), (54, 99), (63, 99)] [(62, 99)] [] S q.2 := by
  intro n
  induction n with
  | zero => intro _ _ _ _ _ h; cases h
  | succ n ih =>
    intro l2 l4 l5 l7 S h
    rw [FX7_partBelief_92] at h
    refine cs_e h (fun _ h => ?_) (fun _ h => ?_)
    · skip
      obtain ⟨q23, hq24, h⟩ := bd_e h
      refine Un.trans ?_ (hk71 h)
      refine Un.trans ?_ ((wX7_come hq24).mono (sub_k [] rfl) (sub_k [0] rfl) (sub_k [] rfl))
      exact Un.refl _
    · skip
      obtain ⟨g26, h⟩ := gd_e h
      obtain ⟨g28, h⟩ := gd_e h
      obtain ⟨q32, hq33, h⟩ := bd_e h
      refine cs_e h (fun _ h => ?_) (fun _ h => ?_)
      · skip
        refine Un.trans ?_ (wX7_partBelief_147 (fun h => ih h) h)
        refine Un.trans ?_ ((wX7_has hq33).mono (sub_k [] rfl) (sub_k [] rfl) (sub_k [] rfl))
        exact Un.refl _
      · skip
        refine Un.trans ?_ (wX7_partBelief_147 (fun h => ih h) h)
        refine Un.trans ?_ ((wX7_has hq33).mono (sub_k [] rfl) (sub_k [] rfl) (sub_k [] rfl))
        exact Un.refl _
set_option maxRecDepth 4000 in
theorem wX7_partBelief_71 {q : Unit × St}  : ∀ (n : Nat) {l2 : Int64} {l4 : Int32} {S : St}, FX7_partBelief_71 n l2 l4 S = some q → Un [(44, 34), (54, 99), (63, 99)] [(62, 99)] [] S q.2 := by
  intro n
  induction n with
  | zero => intro _ _ _ h; cases h
  | succ n ih =>
    intro l2 l4 S h
    rw [FX7_partBelief_71] at h
    refine cs_e h (fun _ h => ?_) (fun _ h => ?_)
    · skip
      have h := Option.some.inj h
      subst h
      exact Un.refl _
    · skip
      obtain ⟨q18, hq19, h⟩ := bd_e h
      refine Un.trans ?_ (wX7_partBelief_92 (fun h => ih h) _ h)
      refine Un.trans ?_ ((wX7_asNow hq19).mono (sub_k [1] rfl) (sub_k [] rfl) (sub_k [] rfl))
      exact Un.refl _
set_option maxRecDepth 4000 in
theorem wX7_partBelief_62 {q : Unit × St}  {k8 : Int32 → Int64 → Int32 → St → Option (Unit × St)} (hk8 : ∀ {l1 : Int32} {l2 : Int64} {l4 : Int32} {S : St}, k8 l1 l2 l4 S = some q → Un [(44, 34), (54, 99), (63, 99)] [(62, 99)] [] S q.2) {l1 : Int32} {l2 : Int64} {l4 : Int32} {S : St} (h : FX7_partBelief_62 k8 l1 l2 l4 S = some q) : Un [(44, 34), (54, 99), (63, 99)] [(62, 99)] [] S q.2 := by
  unfold FX7_partBelief_62 at h
  refine Un.trans ?_ (hk8 h)
  exact Un.refl _
set_option maxRecDepth 4000 in
theorem wX7_partBelief_8 {q : Unit × St}  : ∀ (n : Nat) {l1 : Int32} {l2 : Int64} {l4 : Int32} {S : St}, FX7_partBelief_8 n l1 l2 l4 S = some q → Un [(44, 34), (54, 99), (63, 99)] [(62, 99)] [] S q.2 := by
  intro n
  induction n with
  | zero => intro _ _ _ _ h; cases h
  | succ n ih =>
    intro l1 l2 l4 S h
    rw [FX7_partBelief_8] at h
    refine cs_e h (fun _ h => ?_) (fun _ h => ?_)
    · skip
      refine Un.trans ?_ (wX7_partBelief_71  _ h)
      exact Un.refl _
    · skip
      refine cs_e h (fun _ h => ?_) (fun _ h => ?_)
      · skip
        refine Un.trans ?_ (wX7_partBelief_62 (fun h => ih h) h)
        exact Un.refl _
      · skip
        obtain ⟨g4, h⟩ := gd_e h
        obtain ⟨q7, hq8, h⟩ := bd_e h
        refine cs_e h (fun _ h => ?_) (fun _ h => ?_)
        · skip
          refine Un.trans ?_ (wX7_partBelief_62 (fun h => ih h) h)
          refine Un.trans ?_ ((wX7_in hq8).mono (sub_k [] rfl) (sub_k [] rfl) (sub_k [] rfl))
          exact Un.refl _
        · skip
          obtain ⟨g11, h⟩ := gd_e h
          refine Un.trans ?_ (wX7_partBelief_62 (fun h => ih h) h)
          refine Un.nS ?_ (List.mem_of_getElem? (i := 0) rfl)
          refine Un.nA ?_ (List.mem_of_getElem? (i := 2) rfl)
          refine Un.trans ?_ ((wX7_in hq8).mono (sub_k [] rfl) (sub_k [] rfl) (sub_k [] rfl))
          exact Un.refl _
set_option maxRecDepth 4000 in
theorem wX7_partBelief {q : Unit × St} {l1 : Int32} {l2 : Int64} {S : St} (h : fX7_partBelief l1 l2 S = some q) : Un [(44, 34), (54, 99), (63, 99)] [(62, 99)] [] S q.2 := by
  unfold fX7_partBelief at h
  refine Un.trans ?_ (wX7_partBelief_8  _ h)
  refine Un.nS ?_ (List.mem_of_getElem? (i := 0) rfl)
  exact Un.refl _
set_option maxRecDepth 4000 in
theorem wX7_keep_67 {q : Int32 × St}  {l1 : Int32} {s0 : Int32} {s1 : Int32} {S : St} (h : FX7_keep_67 l1 s0 s1 S = some q) : Un [(67, 99), (68, 99)] [] [] S q.2 := by
  unfold FX7_keep_67 at h
  obtain ⟨g13, h⟩ := gd_e h
  obtain ⟨g16, h⟩ := gd_e h
  obtain ⟨g19, h⟩ := gd_e h
  obtain ⟨g21, h⟩ := gd_e h
  have h := Option.some.inj h
  subst h
  refine Un.nA ?_ (List.mem_of_getElem? (i := 1) rfl)
  refine Un.nA ?_ (List.mem_of_getElem? (i := 0) rfl)
  refine Un.nA ?_ (List.mem_of_getElem? (i := 0) rfl)
  refine Un.nA ?_ (List.mem_of_getElem? (i := 0) rfl)
  exact Un.refl _
set_option maxRecDepth 4000 in
theorem wX7_keep_15 {q : Int32 × St}  : ∀ (n : Nat) {l1 : Int32} {l2 : Int32} {S : St}, FX7_keep_15 n l1 l2 S = some q → Un [(67, 99), (68, 99)] [] [] S q.2 := by
  intro n
  induction n with
  | zero => intro _ _ _ h; cases h
  | succ n ih =>
    intro l1 l2 S h
    rw [FX7_keep_15] at h
    refine cs_e h (fun _ h => ?_) (fun _ h => ?_)
    · skip
      refine cs_e h (fun _ h => ?_) (fun _ h => ?_)
      · skip
        refine Un.trans ?_ (wX7_keep_67  h)
        exact Un.refl _
      · skip
        refine Un.trans ?_ (wX7_keep_67  h)
        exact Un.refl _
    · skip
      obtain ⟨g8, h⟩ := gd_e h
      obtain ⟨g10, h⟩ := gd_e h
      refine Un.trans ?_ (ih h)
      refine Un.nA ?_ (List.mem_of_getElem? (i := 0) rfl)
      exact Un.refl _
set_option maxRecDepth 4000 in
theorem wX7_keep {q : Int32 × St} {l1 : Int32} {S : St} (h : fX7_keep l1 S = some q) : Un [(67, 99), (68, 99)] [] [] S q.2 := by
  unfold fX7_keep at h
  obtain ⟨q3, hq4, h⟩ := bd_e h
  refine cs_e h (fun _ h => ?_) (fun _ h => ?_)
  · skip
    have h := Option.some.inj h
    subst h
    refine Un.trans ?_ ((wX7_in hq4).mono (sub_k [] rfl) (sub_k [] rfl) (sub_k [] rfl))
    exact Un.refl _
  · skip
    refine Un.trans ?_ (wX7_keep_15  _ h)
    refine Un.trans ?_ ((wX7_in hq4).mono (sub_k [] rfl) (sub_k [] rfl) (sub_k [] rfl))
    exact Un.refl _
set_option maxRecDepth 4000 in
theorem wX7_goBack_79 {q : Int32 × St}  {l1 : Int32} {s0 : Int32} {S : St} (h : FX7_goBack_79 l1 s0 S = some q) : Un [(44, 5), (44, 6), (44, 23), (47, 99)] [] [] S q.2 := by
  unfold FX7_goBack_79 at h
  obtain ⟨g18, h⟩ := gd_e h
  obtain ⟨g20, h⟩ := gd_e h
  obtain ⟨g23, h⟩ := gd_e h
  have h := Option.some.inj h
  subst h
  refine Un.nS ?_ (List.mem_of_getElem? (i := 1) rfl)
  refine Un.nS ?_ (List.mem_of_getElem? (i := 2) rfl)
  refine Un.nS ?_ (List.mem_of_getElem? (i := 0) rfl)
  exact Un.refl _
set_option maxRecDepth 4000 in
theorem wX7_goBack_28 {q : Int32 × St}  : ∀ (n : Nat) {l1 : Int32} {l2 : Int32} {S : St}, FX7_goBack_28 n l1 l2 S = some q → Un [(44, 5), (44, 6), (44, 23), (47, 99)] [] [] S q.2 := by
  intro n
  induction n with
  | zero => intro _ _ _ h; cases h
  | succ n ih =>
    intro l1 l2 S h
    rw [FX7_goBack_28] at h
    refine cs_e h (fun _ h => ?_) (fun _ h => ?_)
    · skip
      obtain ⟨g10, h⟩ := gd_e h
      refine cs_e h (fun _ h => ?_) (fun _ h => ?_)
      · skip
        refine Un.trans ?_ (wX7_goBack_79  h)
        exact Un.refl _
      · skip
        refine Un.trans ?_ (wX7_goBack_79  h)
        exact Un.refl _
    · skip
      obtain ⟨g13, h⟩ := gd_e h
      obtain ⟨g14, h⟩ := gd_e h
      refine Un.trans ?_ (ih h)
      refine Un.nA ?_ (List.mem_of_getElem? (i := 3) rfl)
      exact Un.refl _
set_option maxRecDepth 4000 in
theorem wX7_goBack {q : Int32 × St} {l1 : Int32} {S : St} (h : fX7_goBack l1 S = some q) : Un [(44, 5), (44, 6), (44, 23), (47, 99)] [] [] S q.2 := by
  unfold fX7_goBack at h
  obtain ⟨q3, hq4, h⟩ := bd_e h
  refine cs_e h (fun _ h => ?_) (fun _ h => ?_)
  · skip
    have h := Option.some.inj h
    subst h
    refine Un.trans ?_ ((wX7_in hq4).mono (sub_k [] rfl) (sub_k [] rfl) (sub_k [] rfl))
    exact Un.refl _
  · skip
    obtain ⟨g6, h⟩ := gd_e h
    refine cs_e h (fun _ h => ?_) (fun _ h => ?_)
    · skip
      have h := Option.some.inj h
      subst h
      refine Un.trans ?_ ((wX7_in hq4).mono (sub_k [] rfl) (sub_k [] rfl) (sub_k [] rfl))
      exact Un.refl _
    · skip
      refine Un.trans ?_ (wX7_goBack_28  _ h)
      refine Un.trans ?_ ((wX7_in hq4).mono (sub_k [] rfl) (sub_k [] rfl) (sub_k [] rfl))
      exact Un.refl _
set_option maxRecDepth 4000 in
theorem wJ7_fill_fda19_10 {q : Unit × St} {t0 : Nat} : ∀ (n : Nat) {l2 : Int32} {l3 : Int32} {l4 : Int32} {S : St}, FJ7_fill_fda19_10 n t0 l2 l3 l4 S = some q → Un [(t0, 99)] [] [] S q.2 := by
  intro n
  induction n with
  | zero => intro _ _ _ _ h; cases h
  | succ n ih =>
    intro l2 l3 l4 S h
    rw [FJ7_fill_fda19_10] at h
    refine cs_e h (fun _ h => ?_) (fun _ h => ?_)
    · skip
      have h := Option.some.inj h
      subst h
      exact Un.refl _
    · skip
      obtain ⟨g6, h⟩ := gd_e h
      refine Un.trans ?_ (ih h)
      refine Un.nA ?_ (List.mem_of_getElem? (i := 0) rfl)
      exact Un.refl _
set_option maxRecDepth 4000 in
theorem wJ7_fill_fda19 {q : Unit × St} {t0 : Nat} {l1 : Int32} {l2 : Int32} {l3 : Int32} {S : St} (h : fJ7_fill_fda19 t0 l1 l2 l3 S = some q) : Un [(t0, 99)] [] [] S q.2 := by
  unfold fJ7_fill_fda19 at h
  obtain ⟨q3, hq4, h⟩ := bd_e h
  refine Un.trans ?_ (wJ7_fill_fda19_10  _ h)
  refine Un.trans ?_ ((wJ7_rangeCheck_23922 hq4).mono (sub_k [] rfl) (sub_k [] rfl) (sub_k [] rfl))
  exact Un.refl _
set_option maxRecDepth 4000 in
theorem wX0_hold_88 {q : Int32 × St}  {k17 : Int32 → Int32 → Int32 → Int32 → Int32 → St → Option (Int32 × St)} (hk17 : ∀ {l1 : Int32} {l2 : Int32} {l3 : Int32} {l4 : Int32} {l5 : Int32} {S : St}, k17 l1 l2 l3 l4 l5 S = some q → Un [(25, 3), (27, 99), (32, 99)] [] [] S q.2) {l1 : Int32} {l2 : Int32} {l3 : Int32} {l5 : Int32} {s0 : Int32} {S : St} (h : FX0_hold_88 k17 l1 l2 l3 l5 s0 S = some q) : Un [(25, 3), (27, 99), (32, 99)] [] [] S q.2 := by
  unfold FX0_hold_88 at h
  refine Un.trans ?_ (hk17 h)
  exact Un.refl _
set_option maxRecDepth 4000 in
theorem wX0_hold_83 {q : Int32 × St}  {k17 : Int32 → Int32 → Int32 → Int32 → Int32 → St → Option (Int32 × St)} (hk17 : ∀ {l1 : Int32} {l2 : Int32} {l3 : Int32} {l4 : Int32} {l5 : Int32} {S : St}, k17 l1 l2 l3 l4 l5 S = some q → Un [(25, 3), (27, 99), (32, 99)] [] [] S q.2) {l1 : Int32} {l2 : Int32} {l3 : Int32} {l5 : Int32} {S : St} (h : FX0_hold_83 k17 l1 l2 l3 l5 S = some q) : Un [(25, 3), (27, 99), (32, 99)] [] [] S q.2 := by
  unfold FX0_hold_83 at h
  refine Un.trans ?_ (wX0_hold_88 hk17 h)
  exact Un.refl _
set_option maxRecDepth 4000 in
theorem wX0_hold_67 {q : Int32 × St}  {k17 : Int32 → Int32 → Int32 → Int32 → Int32 → St → Option (Int32 × St)} (hk17 : ∀ {l1 : Int32} {l2 : Int32} {l3 : Int32} {l4 : Int32} {l5 : Int32} {S : St}, k17 l1 l2 l3 l4 l5 S = some q → Un [(25, 3), (27, 99), (32, 99)] [] [] S q.2) {l1 : Int32} {l2 : Int32} {l3 : Int32} {l4 : Int32} {l5 : Int32} {s0 : Int32} {s1 : Int32} {S : St} (h : FX0_hold_67 k17 l1 l2 l3 l4 l5 s0 s1 S = some q) : Un [(25, 3), (27, 99), (32, 99)] [] [] S q.2 := by
  unfold FX0_hold_67 at h
  obtain ⟨g39, h⟩ := gd_e h
  refine cs_e h (fun _ h => ?_) (fun _ h => ?_)
  · skip
    obtain ⟨g42, h⟩ := gd_e h
    refine cs_e h (fun _ h => ?_) (fun _ h => ?_)
    · skip
      refine Un.trans ?_ (wX0_hold_88 hk17 h)
      refine Un.nA ?_ (List.mem_of_getElem? (i := 2) rfl)
      exact Un.refl _
    · skip
      refine Un.trans ?_ (wX0_hold_83 hk17 h)
      refine Un.nA ?_ (List.mem_of_getElem? (i := 2) rfl)
      exact Un.refl _
  · skip
    refine Un.trans ?_ (wX0_hold_83 hk17 h)
    refine Un.nA ?_ (List.mem_of_getElem? (i := 2) rfl)
    exact Un.refl _
set_option maxRecDepth 4000 in
theorem wX0_hold_66 {q : Int32 × St}  {k17 : Int32 → Int32 → Int32 → Int32 → Int32 → St → Option (Int32 × St)} (hk17 : ∀ {l1 : Int32} {l2 : Int32} {l3 : Int32} {l4 : Int32} {l5 : Int32} {S : St}, k17 l1 l2 l3 l4 l5 S = some q → Un [(25, 3), (27, 99), (32, 99)] [] [] S q.2) {l1 : Int32} {l2 : Int32} {l3 : Int32} {l4 : Int32} {l5 : Int32} {s0 : Int32} {S : St} (h : FX0_hold_66 k17 l1 l2 l3 l4 l5 s0 S = some q) : Un [(25, 3), (27, 99), (32, 99)] [] [] S q.2 := by
  unfold FX0_hold_66 at h
  refine Un.trans ?_ (wX0_hold_67 hk17 h)
  exact Un.refl _
set_option maxRecDepth 4000 in
theorem wX0_hold_122 {q : Int32 × St}  {l1 : Int32} {l2 : Int32} {l3 : Int32} {l4 : Int32} {S : St} (h : FX0_hold_122 l1 l2 l3 l4 S = some q) : Un [(25, 3), (27, 99), (32, 99)] [] [] S q.2 := by
  unfold FX0_hold_122 at h
  refine cs_e h (fun _ h => ?_) (fun _ h => ?_)
  · skip
    refine cs_e h (fun _ h => ?_) (fun _ h => ?_)
    · skip
      obtain ⟨q49, hq50, h⟩ := bd_e h
      have h := Option.some.inj h
      subst h
      refine Un.trans ?_ ((wX0_endMisled hq50).mono (sub_k [0, 1] rfl) (sub_k [] rfl) (sub_k [] rfl))
      exact Un.refl _
    · skip
      obtain ⟨q53, hq54, h⟩ := bd_e h
      have h := Option.some.inj h
      subst h
      refine Un.trans ?_ ((wX0_endCorrected hq54).mono (sub_k [1] rfl) (sub_k [] rfl) (sub_k [] rfl))
      exact Un.refl _
  · skip
    refine cs_e h (fun _ h => ?_) (fun _ h => ?_)
    · skip
      obtain ⟨q58, hq59, h⟩ := bd_e h
      have h := Option.some.inj h
      subst h
      refine Un.trans ?_ ((wX0_endAgreed hq59).mono (sub_k [1] rfl) (sub_k [] rfl) (sub_k [] rfl))
      exact Un.refl _
    · skip
      obtain ⟨q62, hq63, h⟩ := bd_e h
      have h := Option.some.inj h
      subst h
      refine Un.trans ?_ ((wX0_endShaken hq63).mono (sub_k [0, 1] rfl) (sub_k [] rfl) (sub_k [] rfl))
      exact Un.refl _
set_option maxRecDepth 4000 in
theorem wX0_hold_17 {q : Int32 × St}  : ∀ (n : Nat) {l1 : Int32} {l2 : Int32} {l3 : Int32} {l4 : Int32} {l5 : Int32} {S : St}, FX0_hold_17 n l1 l2 l3 l4 l5 S = some q → Un [(25, 3), (27, 99), (32, 99)] [] [] S q.2 := by
  intro n
  induction n with
  | zero => intro _ _ _ _ _ _ h; cases h
  | succ n ih =>
    intro l1 l2 l3 l4 l5 S h
    rw [FX0_hold_17] at h
    refine cs_e h (fun _ h => ?_) (fun _ h => ?_)
    · skip
      obtain ⟨q12, hq13, h⟩ := bd_e h
      refine cs_e h (fun _ h => ?_) (fun _ h => ?_)
      · skip
        refine Un.trans ?_ (wX0_hold_122  h)
        refine Un.trans ?_ ((wX0_isGuestSurer hq13).mono (sub_k [] rfl) (sub_k [] rfl) (sub_k [] rfl))
        exact Un.refl _
      · skip
        obtain ⟨q17, hq18, h⟩ := bd_e h
        obtain ⟨q21, hq22, h⟩ := bd_e h
        refine cs_e h (fun _ h => ?_) (fun _ h => ?_)
        · skip
          refine Un.trans ?_ (wX0_hold_122  h)
          refine Un.trans ?_ ((wX0_comes hq22).mono (sub_k [0] rfl) (sub_k [] rfl) (sub_k [] rfl))
          refine Un.trans ?_ ((wX0_noChance hq18).mono (sub_k [] rfl) (sub_k [] rfl) (sub_k [] rfl))
          refine Un.trans ?_ ((wX0_isGuestSurer hq13).mono (sub_k [] rfl) (sub_k [] rfl) (sub_k [] rfl))
          exact Un.refl _
        · skip
          refine Un.trans ?_ (wX0_hold_122  h)
          refine Un.trans ?_ ((wX0_comes hq22).mono (sub_k [0] rfl) (sub_k [] rfl) (sub_k [] rfl))
          refine Un.trans ?_ ((wX0_noChance hq18).mono (sub_k [] rfl) (sub_k [] rfl) (sub_k [] rfl))
          refine Un.trans ?_ ((wX0_isGuestSurer hq13).mono (sub_k [] rfl) (sub_k [] rfl) (sub_k [] rfl))
          exact Un.refl _
    · skip
      obtain ⟨q26, hq27, h⟩ := bd_e h
      refine cs_e h (fun _ h => ?_) (fun _ h => ?_)
      · skip
        refine Un.trans ?_ (wX0_hold_66 (fun h => ih h) h)
        refine Un.trans ?_ ((wX0_isSurer hq27).mono (sub_k [] rfl) (sub_k [] rfl) (sub_k [] rfl))
        exact Un.refl _
      · skip
        obtain ⟨g29, h⟩ := gd_e h
        obtain ⟨q32, hq33, h⟩ := bd_e h
        obtain ⟨q36, hq37, h⟩ := bd_e h
        refine cs_e h (fun _ h => ?_) (fun _ h => ?_)
        · skip
          refine Un.trans ?_ (wX0_hold_66 (fun h => ih h) h)
          refine Un.trans ?_ ((wX0_comes hq37).mono (sub_k [0] rfl) (sub_k [] rfl) (sub_k [] rfl))
          refine Un.trans ?_ ((wX0_noChance hq33).mono (sub_k [] rfl) (sub_k [] rfl) (sub_k [] rfl))
          refine Un.trans ?_ ((wX0_isSurer hq27).mono (sub_k [] rfl) (sub_k [] rfl) (sub_k [] rfl))
          exact Un.refl _
        · skip
          refine Un.trans ?_ (wX0_hold_67 (fun h => ih h) h)
          refine Un.trans ?_ ((wX0_comes hq37).mono (sub_k [0] rfl) (sub_k [] rfl) (sub_k [] rfl))
          refine Un.trans ?_ ((wX0_noChance hq33).mono (sub_k [] rfl) (sub_k [] rfl) (sub_k [] rfl))
          refine Un.trans ?_ ((wX0_isSurer hq27).mono (sub_k [] rfl) (sub_k [] rfl) (sub_k [] rfl))
          exact Un.refl _
set_option maxRecDepth 4000 in
theorem wX0_hold {q : Int32 × St} {l1 : Int32} {l2 : Int32} {S : St} (h : fX0_hold l1 l2 S = some q) : Un [(25, 3), (27, 99), (32, 99)] [] [] S q.2 := by
  unfold fX0_hold at h
  obtain ⟨q3, hq4, h⟩ := bd_e h
  obtain ⟨q7, hq8, h⟩ := bd_e h
  refine Un.trans ?_ (wX0_hold_17  _ h)
  refine Un.trans ?_ ((wX0_comes hq8).mono (sub_k [0] rfl) (sub_k [] rfl) (sub_k [] rfl))
  refine Un.trans ?_ ((wX0_rightChance hq4).mono (sub_k [] rfl) (sub_k [] rfl) (sub_k [] rfl))
  exact Un.refl _
set_option maxRecDepth 4000 in
theorem wX0_mean_99 {q : Int32 × St}  {l2 : Int32} {l4 : Int32} {l5 : Int64} {l7 : Int64} {s0 : Int64} {S : St} (h : FX0_mean_99 l2 l4 l5 l7 s0 S = some q) : Un [] [] [] S q.2 := by
  unfold FX0_mean_99 at h
  obtain ⟨q38, hq39, h⟩ := bd_e h
  have h := Option.some.inj h
  subst h
  refine Un.trans ?_ ((wX0_share hq39).mono (sub_k [] rfl) (sub_k [] rfl) (sub_k [] rfl))
  exact Un.refl _
set_option maxRecDepth 4000 in
theorem wX0_mean_62 {q : Int32 × St}  {l1 : Int32} {l2 : Int32} {l4 : Int32} {l5 : Int64} {s0 : Int64} {S : St} (h : FX0_mean_62 l1 l2 l4 l5 s0 S = some q) : Un [] [] [] S q.2 := by
  unfold FX0_mean_62 at h
  obtain ⟨q27, hq28, h⟩ := bd_e h
  obtain ⟨g29, h⟩ := gd_e h
  obtain ⟨q33, hq34, h⟩ := bd_e h
  refine cs_e h (fun _ h => ?_) (fun _ h => ?_)
  · skip
    refine Un.trans ?_ (wX0_mean_99  h)
    refine Un.trans ?_ ((wX0_room hq34).mono (sub_k [] rfl) (sub_k [] rfl) (sub_k [] rfl))
    refine Un.trans ?_ ((wX0_share hq28).mono (sub_k [] rfl) (sub_k [] rfl) (sub_k [] rfl))
    exact Un.refl _
  · skip
    refine Un.trans ?_ (wX0_mean_99  h)
    refine Un.trans ?_ ((wX0_room hq34).mono (sub_k [] rfl) (sub_k [] rfl) (sub_k [] rfl))
    refine Un.trans ?_ ((wX0_share hq28).mono (sub_k [] rfl) (sub_k [] rfl) (sub_k [] rfl))
    exact Un.refl _
set_option maxRecDepth 4000 in
theorem wX0_mean {q : Int32 × St} {l1 : Int32} {S : St} (h : fX0_mean l1 S = some q) : Un [] [] [] S q.2 := by
  unfold fX0_mean at h
  obtain ⟨q3, hq4, h⟩ := bd_e h
  obtain ⟨q7, hq8, h⟩ := bd_e h
  obtain ⟨q11, hq12, h⟩ := bd_e h
  obtain ⟨g13, h⟩ := gd_e h
  obtain ⟨q16, hq17, h⟩ := bd_e h
  obtain ⟨q21, hq22, h⟩ := bd_e h
  obtain ⟨g23, h⟩ := gd_e h
  refine cs_e h (fun _ h => ?_) (fun _ h => ?_)
  · skip
    refine Un.trans ?_ (wX0_mean_62  h)
    refine Un.trans ?_ ((wX0_share hq22).mono (sub_k [] rfl) (sub_k [] rfl) (sub_k [] rfl))
    refine Un.trans ?_ ((wX0_room hq17).mono (sub_k [] rfl) (sub_k [] rfl) (sub_k [] rfl))
    refine Un.trans ?_ ((wX0_someNo hq12).mono (sub_k [] rfl) (sub_k [] rfl) (sub_k [] rfl))
    refine Un.trans ?_ ((wX0_someNo hq8).mono (sub_k [] rfl) (sub_k [] rfl) (sub_k [] rfl))
    refine Un.trans ?_ ((wX0_rightChance hq4).mono (sub_k [] rfl) (sub_k [] rfl) (sub_k [] rfl))
    exact Un.refl _
  · skip
    refine Un.trans ?_ (wX0_mean_62  h)
    refine Un.trans ?_ ((wX0_share hq22).mono (sub_k [] rfl) (sub_k [] rfl) (sub_k [] rfl))
    refine Un.trans ?_ ((wX0_room hq17).mono (sub_k [] rfl) (sub_k [] rfl) (sub_k [] rfl))
    refine Un.trans ?_ ((wX0_someNo hq12).mono (sub_k [] rfl) (sub_k [] rfl) (sub_k [] rfl))
    refine Un.trans ?_ ((wX0_someNo hq8).mono (sub_k [] rfl) (sub_k [] rfl) (sub_k [] rfl))
    refine Un.trans ?_ ((wX0_rightChance hq4).mono (sub_k [] rfl) (sub_k [] rfl) (sub_k [] rfl))
    exact Un.refl _
set_option maxRecDepth 4000 in
theorem wX1_endWrong_98 {q : Unit × St}  {k43 : Int32 → Int32 → Int32 → Int32 → Int32 → Int32 → St → Option (Unit × St)} (hk43 : ∀ {l2 : Int32} {l3 : Int32} {l4 : Int32} {l5 : Int32} {l6 : Int32} {l7 : Int32} {S : St}, k43 l2 l3 l4 l5 l6 l7 S = some q → Un [(33, 3), (33, 5), (37, 99)] [(34, 99), (35, 99), (36, 99)] [] S q.2) {l2 : Int32} {l3 : Int32} {l4 : Int32} {l5 : Int32} {l6 : Int32} {l7 : Int32} {S : St} (h : FX1_endWrong_98 k43 l2 l3 l4 l5 l6 l7 S = some q) : Un [(33, 3), (33, 5), (37, 99)] [(34, 99), (35, 99), (36, 99)] [] S q.2 := by
  unfold FX1_endWrong_98 at h
  refine Un.trans ?_ (hk43 h)
  exact Un.refl _
set_option maxRecDepth 4000 in
theorem wX1_endWrong_43 {q : Unit × St}  {k27 : Int32 → Int32 → Int32 → Int32 → St → Option (Unit × St)} (hk27 : ∀ {l2 : Int32} {l3 : Int32} {l4 : Int32} {l5 : Int32} {S : St}, k27 l2 l3 l4 l5 S = some q → Un [(33, 3), (33, 5), (37, 99)] [(34, 99), (35, 99), (36, 99)] [] S q.2) : ∀ (n : Nat) {l2 : Int32} {l3 : Int32} {l4 : Int32} {l5 : Int32} {l6 : Int32} {l7 : Int32} {S : St}, FX1_endWrong_43 k27 n l2 l3 l4 l5 l6 l7 S = some q → Un [(33, 3), (33, 5), (37, 99)] [(34, 99), (35, 99), (36, 99)] [] S q.2 := by
  intro n
  induction n with
  | zero => intro _ _ _ _ _ _ _ h; cases h
  | succ n ih =>
    intro l2 l3 l4 l5 l6 l7 S h
    rw [FX1_endWrong_43] at h
    refine cs_e h (fun _ h => ?_) (fun _ h => ?_)
    · skip
      obtain ⟨g15, h⟩ := gd_e h
      obtain ⟨g16, h⟩ := gd_e h
      obtain ⟨g17, h⟩ := gd_e h
      obtain ⟨g18, h⟩ := gd_e h
      refine Un.trans ?_ (hk27 h)
      refine Un.jA ?_ (by rcases isLA_or g15 with e | e <;> rw [e] <;> decide)
      exact Un.refl _
    · skip
      obtain ⟨g21, h⟩ := gd_e h
      refine cs_e h (fun _ h => ?_) (fun _ h => ?_)
      · skip
        refine cs_e h (fun _ h => ?_) (fun _ h => ?_)
        · skip
          refine Un.trans ?_ (wX1_endWrong_98 (fun h => ih h) h)
          exact Un.refl _
        · skip
          obtain ⟨q27, hq28, h⟩ := bd_e h
          refine cs_e h (fun _ h => ?_) (fun _ h => ?_)
          · skip
            refine Un.trans ?_ (wX1_endWrong_98 (fun h => ih h) h)
            refine Un.trans ?_ ((wX0_room hq28).mono (sub_k [] rfl) (sub_k [] rfl) (sub_k [] rfl))
            exact Un.refl _
          · skip
            obtain ⟨g30, h⟩ := gd_e h
            refine Un.trans ?_ (wX1_endWrong_98 (fun h => ih h) h)
            refine Un.trans ?_ ((wX0_room hq28).mono (sub_k [] rfl) (sub_k [] rfl) (sub_k [] rfl))
            exact Un.refl _
      · skip
        refine Un.trans ?_ (wX1_endWrong_98 (fun h => ih h) h)
        exact Un.refl _
set_option maxRecDepth 4000 in
theorem wX1_endWrong_27 {q : Unit × St}  : ∀ (n : Nat) {l2 : Int32} {l3 : Int32} {l4 : Int32} {l5 : Int32} {S : St}, FX1_endWrong_27 n l2 l3 l4 l5 S = some q → Un [(33, 3), (33, 5), (37, 99)] [(34, 99), (35, 99), (36, 99)] [] S q.2 := by
  intro n
  induction n with
  | zero => intro _ _ _ _ _ h; cases h
  | succ n ih =>
    intro l2 l3 l4 l5 S h
    rw [FX1_endWrong_27] at h
    refine cs_e h (fun _ h => ?_) (fun _ h => ?_)
    · skip
      obtain ⟨q12, hq13, h⟩ := bd_e h
      have h := Option.some.inj h
      subst h
      refine Un.trans ?_ ((wX1_endMisled hq13).mono (sub_k [0, 1, 2] rfl) (sub_k [0, 1, 2] rfl) (sub_k [] rfl))
      exact Un.refl _
    · skip
      refine Un.trans ?_ (wX1_endWrong_43 (fun h => ih h) _ h)
      exact Un.refl _
set_option maxRecDepth 4000 in
theorem wX1_endWrong {q : Unit × St} {l2 : Int32} {l3 : Int32} {S : St} (h : fX1_endWrong l2 l3 S = some q) : Un [(33, 3), (33, 5), (37, 99)] [(34, 99), (35, 99), (36, 99)] [] S q.2 := by
  unfold fX1_endWrong at h
  obtain ⟨g1, h⟩ := gd_e h
  obtain ⟨q4, hq5, h⟩ := bd_e h
  obtain ⟨g7, h⟩ := gd_e h
  refine Un.trans ?_ (wX1_endWrong_27  _ h)
  refine Un.trans ?_ ((wX0_room hq5).mono (sub_k [] rfl) (sub_k [] rfl) (sub_k [] rfl))
  exact Un.refl _
set_option maxRecDepth 4000 in
theorem wX2_takeNumber_101 {q : Int32 × St}   {S : St} (h : FX2_takeNumber_101  S = some q) : Un [(1, 2), (1, 3), (1, 5), (1, 6), (1, 7)] [] [] S q.2 := by
  unfold FX2_takeNumber_101 at h
  obtain ⟨q22, hq23, h⟩ := bd_e h
  have h := Option.some.inj h
  subst h
  refine Un.trans ?_ ((wX2_refuse hq23).mono (sub_k [0, 1] rfl) (sub_k [] rfl) (sub_k [] rfl))
  exact Un.refl _
set_option maxRecDepth 4000 in
theorem wX2_takeNumber_78 {q : Int32 × St}  {l1 : Int32} {l2 : Int32} {l3 : Int32} {S : St} (h : FX2_takeNumber_78 l1 l2 l3 S = some q) : Un [(1, 2), (1, 3), (1, 5), (1, 6), (1, 7)] [] [] S q.2 := by
  unfold FX2_takeNumber_78 at h
  refine cs_e h (fun _ h => ?_) (fun _ h => ?_)
  · skip
    refine Un.trans ?_ (wX2_takeNumber_101  h)
    exact Un.refl _
  · skip
    refine cs_e h (fun _ h => ?_) (fun _ h => ?_)
    · skip
      refine Un.trans ?_ (wX2_takeNumber_101  h)
      exact Un.refl _
    · skip
      refine cs_e h (fun _ h => ?_) (fun _ h => ?_)
      · skip
        obtain ⟨q18, hq19, h⟩ := bd_e h
        have h := Option.some.inj h
        subst h
        refine Un.trans ?_ ((wX2_advance hq19).mono (sub_k [2, 3, 4] rfl) (sub_k [] rfl) (sub_k [] rfl))
        exact Un.refl _
      · skip
        refine Un.trans ?_ (wX2_takeNumber_101  h)
        exact Un.refl _
set_option maxRecDepth 4000 in
theorem wX2_takeNumber_36 {q : Int32 × St}  : ∀ (n : Nat) {l1 : Int32} {l2 : Int32} {l3 : Int32} {l4 : Int32} {S : St}, FX2_takeNumber_36 n l1 l2 l3 l4 S = some q → Un [(1, 2), (1, 3), (1, 5), (1, 6), (1, 7)] [] [] S q.2 := by
  intro n
  induction n with
  | zero => intro _ _ _ _ _ h; cases h
  | succ n ih =>
    intro l1 l2 l3 l4 S h
    rw [FX2_takeNumber_36] at h
    refine cs_e h (fun _ h => ?_) (fun _ h => ?_)
    · skip
      refine Un.trans ?_ (wX2_takeNumber_78  h)
      exact Un.refl _
    · skip
      refine cs_e h (fun _ h => ?_) (fun _ h => ?_)
      · skip
        refine Un.trans ?_ (wX2_takeNumber_78  h)
        exact Un.refl _
      · skip
        obtain ⟨g10, h⟩ := gd_e h
        refine Un.trans ?_ (ih h)
        exact Un.refl _
set_option maxRecDepth 4000 in
theorem wX2_takeNumber {q : Int32 × St} {l1 : Int32} {l2 : Int32} {S : St} (h : fX2_takeNumber l1 l2 S = some q) : Un [(1, 2), (1, 3), (1, 5), (1, 6), (1, 7)] [] [] S q.2 := by
  unfold fX2_takeNumber at h
  refine cs_e h (fun _ h => ?_) (fun _ h => ?_)
  · skip
    refine cs_e h (fun _ h => ?_) (fun _ h => ?_)
    · skip
      refine Un.trans ?_ (wX2_takeNumber_36  _ h)
      exact Un.refl _
    · skip
      obtain ⟨q6, hq7, h⟩ := bd_e h
      have h := Option.some.inj h
      subst h
      refine Un.trans ?_ ((wX2_refuse hq7).mono (sub_k [0, 1] rfl) (sub_k [] rfl) (sub_k [] rfl))
      exact Un.refl _
  · skip
    have h := Option.some.inj h
    subst h
    exact Un.refl _
set_option maxRecDepth 4000 in
theorem wX2_takeSign {q : Unit × St} {l1 : Int32} {S : St} (h : fX2_takeSign l1 S = some q) : Un [(1, 2), (1, 3), (1, 5), (1, 6), (1, 7)] [] [] S q.2 := by
  unfold fX2_takeSign at h
  refine cs_e h (fun _ h => ?_) (fun _ h => ?_)
  · skip
    obtain ⟨q4, hq5, h⟩ := bd_e h
    refine cs_e h (fun _ h => ?_) (fun _ h => ?_)
    · skip
      obtain ⟨q13, hq14, h⟩ := bd_e h
      have h := Option.some.inj h
      subst h
      refine Un.trans ?_ ((wX2_refuse hq14).mono (sub_k [0, 1] rfl) (sub_k [] rfl) (sub_k [] rfl))
      refine Un.trans ?_ ((wX2_isSign hq5).mono (sub_k [] rfl) (sub_k [] rfl) (sub_k [] rfl))
      exact Un.refl _
    · skip
      obtain ⟨q9, hq10, h⟩ := bd_e h
      have h := Option.some.inj h
      subst h
      refine Un.trans ?_ ((wX2_advance hq10).mono (sub_k [2, 3, 4] rfl) (sub_k [] rfl) (sub_k [] rfl))
      refine Un.trans ?_ ((wX2_isSign hq5).mono (sub_k [] rfl) (sub_k [] rfl) (sub_k [] rfl))
      exact Un.refl _
  · skip
    have h := Option.some.inj h
    subst h
    exact Un.refl _
set_option maxRecDepth 4000 in
theorem wX6_sitAll {q : Unit × St} {l1 : Int32} {S : St} (h : fX6_sitAll l1 S = some q) : Un [(25, 0), (25, 1), (25, 2), (25, 3), (26, 99), (27, 99), (28, 99), (29, 99), (30, 99), (31, 99)] [] [] S q.2 := by
  unfold fX6_sitAll at h
  obtain ⟨g1, h⟩ := gd_e h
  obtain ⟨q4, hq5, h⟩ := bd_e h
  have h := Option.some.inj h
  subst h
  refine Un.trans ?_ ((wX0_sit hq5).mono (sub_k [0, 1, 2, 3, 4, 5, 6, 7, 8, 9] rfl) (sub_k [] rfl) (sub_k [] rfl))
  exact Un.refl _
set_option maxRecDepth 4000 in
theorem wX7_takeThing_120 {q : Int32 × St}   {S : St} (h : FX7_takeThing_120  S = some q) : Un [(44, 9), (44, 10), (44, 12), (44, 13), (44, 14), (44, 15), (49, 99)] [(44, 11)] [] S q.2 := by
  unfold FX7_takeThing_120 at h
  have h := Option.some.inj h
  subst h
  refine Un.nS ?_ (List.mem_of_getElem? (i := 5) rfl)
  exact Un.refl _
set_option maxRecDepth 4000 in
theorem wX7_takeThing_87 {q : Int32 × St}  {k35 : Int32 → St → Option (Int32 × St)} (hk35 : ∀ {l1 : Int32} {S : St}, k35 l1 S = some q → Un [(44, 9), (44, 10), (44, 12), (44, 13), (44, 14), (44, 15), (49, 99)] [(44, 11)] [] S q.2) {s0 : Int32} {S : St} (h : FX7_takeThing_87 k35 s0 S = some q) : Un [(44, 9), (44, 10), (44, 12), (44, 13), (44, 14), (44, 15), (49, 99)] [(44, 11)] [] S q.2 := by
  unfold FX7_takeThing_87 at h
  refine cs_e h (fun _ h => ?_) (fun _ h => ?_)
  · skip
    obtain ⟨g29, h⟩ := gd_e h
    obtain ⟨g30, h⟩ := gd_e h
    obtain ⟨q34, hq35, h⟩ := bd_e h
    refine Un.trans ?_ (hk35 h)
    refine Un.trans ?_ ((wX7_isComma hq35).mono (sub_k [1] rfl) (sub_k [] rfl) (sub_k [] rfl))
    refine Un.nA ?_ (List.mem_of_getElem? (i := 6) rfl)
    exact Un.refl _
  · skip
    have h := Option.some.inj h
    subst h
    exact Un.refl _
set_option maxRecDepth 4000 in
theorem wX7_takeThing_86 {q : Int32 × St}  {k35 : Int32 → St → Option (Int32 × St)} (hk35 : ∀ {l1 : Int32} {S : St}, k35 l1 S = some q → Un [(44, 9), (44, 10), (44, 12), (44, 13), (44, 14), (44, 15), (49, 99)] [(44, 11)] [] S q.2) {l2 : Int32} {S : St} (h : FX7_takeThing_86 k35 l2 S = some q) : Un [(44, 9), (44, 10), (44, 12), (44, 13), (44, 14), (44, 15), (49, 99)] [(44, 11)] [] S q.2 := by
  unfold FX7_takeThing_86 at h
  refine Un.trans ?_ (wX7_takeThing_87 hk35 h)
  exact Un.refl _
set_option maxRecDepth 4000 in
theorem wX7_takeThing_35 {q : Int32 × St}  : ∀ (n : Nat) {l1 : Int32} {S : St}, FX7_takeThing_35 n l1 S = some q → Un [(44, 9), (44, 10), (44, 12), (44, 13), (44, 14), (44, 15), (49, 99)] [(44, 11)] [] S q.2 := by
  intro n
  induction n with
  | zero => intro _ _ h; cases h
  | succ n ih =>
    intro l1 S h
    rw [FX7_takeThing_35] at h
    refine cs_e h (fun _ h => ?_) (fun _ h => ?_)
    · skip
      refine Un.trans ?_ (wX7_takeThing_120  h)
      exact Un.refl _
    · skip
      obtain ⟨q13, hq14, h⟩ := bd_e h
      refine cs_e h (fun _ h => ?_) (fun _ h => ?_)
      · skip
        obtain ⟨g17, h⟩ := gd_e h
        obtain ⟨q20, hq21, h⟩ := bd_e h
        refine cs_e h (fun _ h => ?_) (fun _ h => ?_)
        · skip
          refine Un.trans ?_ (wX7_takeThing_86 (fun h => ih h) h)
          refine Un.trans ?_ ((wX7_has hq21).mono (sub_k [] rfl) (sub_k [] rfl) (sub_k [] rfl))
          refine Un.trans ?_ ((wX7_takeNumber hq14).mono (sub_k [0, 1, 3, 4] rfl) (sub_k [] rfl) (sub_k [] rfl))
          exact Un.refl _
        · skip
          obtain ⟨q25, hq26, h⟩ := bd_e h
          refine Un.trans ?_ (wX7_takeThing_87 (fun h => ih h) h)
          refine Un.trans ?_ ((wX7_fails hq26).mono (sub_k [0] rfl) (sub_k [] rfl) (sub_k [] rfl))
          refine Un.trans ?_ ((wX7_has hq21).mono (sub_k [] rfl) (sub_k [] rfl) (sub_k [] rfl))
          refine Un.trans ?_ ((wX7_takeNumber hq14).mono (sub_k [0, 1, 3, 4] rfl) (sub_k [] rfl) (sub_k [] rfl))
          exact Un.refl _
      · skip
        refine Un.trans ?_ (wX7_takeThing_86 (fun h => ih h) h)
        refine Un.trans ?_ ((wX7_takeNumber hq14).mono (sub_k [0, 1, 3, 4] rfl) (sub_k [] rfl) (sub_k [] rfl))
        exact Un.refl _
set_option maxRecDepth 4000 in
theorem wX7_takeThing {q : Int32 × St}  {S : St} (h : fX7_takeThing  S = some q) : Un [(44, 9), (44, 10), (44, 12), (44, 13), (44, 14), (44, 15), (49, 99)] [(44, 11)] [] S q.2 := by
  unfold fX7_takeThing at h
  obtain ⟨g2, h⟩ := gd_e h
  obtain ⟨q6, hq7, h⟩ := bd_e h
  refine cs_e h (fun _ h => ?_) (fun _ h => ?_)
  · skip
    refine Un.trans ?_ (wX7_takeThing_35  _ h)
    refine Un.nS ?_ (List.mem_of_getElem? (i := 1) rfl)
    refine Un.trans ?_ ((wX7_readWord hq7).mono (sub_k [1, 2] rfl) (sub_k [0] rfl) (sub_k [] rfl))
    refine Un.nA ?_ (List.mem_of_getElem? (i := 6) rfl)
    exact Un.refl _
  · skip
    refine Un.trans ?_ (wX7_takeThing_120  h)
    refine Un.trans ?_ ((wX7_readWord hq7).mono (sub_k [1, 2] rfl) (sub_k [0] rfl) (sub_k [] rfl))
    refine Un.nA ?_ (List.mem_of_getElem? (i := 6) rfl)
    exact Un.refl _
set_option maxRecDepth 4000 in
theorem wX7_takePupil_150 {q : Int32 × St}  {l2 : Int32} {S : St} (h : FX7_takePupil_150 l2 S = some q) : Un [(44, 9), (44, 10), (44, 13), (44, 14), (44, 16), (50, 99), (51, 99)] [] [] S q.2 := by
  unfold FX7_takePupil_150 at h
  have h := Option.some.inj h
  subst h
  refine Un.nS ?_ (List.mem_of_getElem? (i := 4) rfl)
  exact Un.refl _
set_option maxRecDepth 4000 in
theorem wX7_takePupil_128 {q : Int32 × St}  {k86 : Int32 → Int32 → Int32 → St → Option (Int32 × St)} (hk86 : ∀ {l1 : Int32} {l2 : Int32} {l3 : Int32} {S : St}, k86 l1 l2 l3 S = some q → Un [(44, 9), (44, 10), (44, 13), (44, 14), (44, 16), (50, 99), (51, 99)] [] [] S q.2) {l1 : Int32} {l3 : Int32} {s0 : Int32} {S : St} (h : FX7_takePupil_128 k86 l1 l3 s0 S = some q) : Un [(44, 9), (44, 10), (44, 13), (44, 14), (44, 16), (50, 99), (51, 99)] [] [] S q.2 := by
  unfold FX7_takePupil_128 at h
  obtain ⟨g38, h⟩ := gd_e h
  refine Un.trans ?_ (hk86 h)
  refine Un.nA ?_ (List.mem_of_getElem? (i := 6) rfl)
  exact Un.refl _
set_option maxRecDepth 4000 in
theorem wX7_takePupil_121 {q : Int32 × St}  {k86 : Int32 → Int32 → Int32 → St → Option (Int32 × St)} (hk86 : ∀ {l1 : Int32} {l2 : Int32} {l3 : Int32} {S : St}, k86 l1 l2 l3 S = some q → Un [(44, 9), (44, 10), (44, 13), (44, 14), (44, 16), (50, 99), (51, 99)] [] [] S q.2) {l1 : Int32} {l3 : Int32} {S : St} (h : FX7_takePupil_121 k86 l1 l3 S = some q) : Un [(44, 9), (44, 10), (44, 13), (44, 14), (44, 16), (50, 99), (51, 99)] [] [] S q.2 := by
  unfold FX7_takePupil_121 at h
  obtain ⟨q43, hq44, h⟩ := bd_e h
  refine Un.trans ?_ (wX7_takePupil_128 hk86 h)
  refine Un.trans ?_ ((wX7_takeNumber hq44).mono (sub_k [0, 1, 2, 3] rfl) (sub_k [] rfl) (sub_k [] rfl))
  exact Un.refl _
set_option maxRecDepth 4000 in
theorem wX7_takePupil_86 {q : Int32 × St}  : ∀ (n : Nat) {l1 : Int32} {l2 : Int32} {l3 : Int32} {S : St}, FX7_takePupil_86 n l1 l2 l3 S = some q → Un [(44, 9), (44, 10), (44, 13), (44, 14), (44, 16), (50, 99), (51, 99)] [] [] S q.2 := by
  intro n
  induction n with
  | zero => intro _ _ _ _ h; cases h
  | succ n ih =>
    intro l1 l2 l3 S h
    rw [FX7_takePupil_86] at h
    refine cs_e h (fun _ h => ?_) (fun _ h => ?_)
    · skip
      refine Un.trans ?_ (wX7_takePupil_150  h)
      exact Un.refl _
    · skip
      refine cs_e h (fun _ h => ?_) (fun _ h => ?_)
      · skip
        refine cs_e h (fun _ h => ?_) (fun _ h => ?_)
        · skip
          refine Un.trans ?_ (wX7_takePupil_121 (fun h => ih h) h)
          exact Un.refl _
        · skip
          obtain ⟨q30, hq31, h⟩ := bd_e h
          refine cs_e h (fun _ h => ?_) (fun _ h => ?_)
          · skip
            obtain ⟨q35, hq36, h⟩ := bd_e h
            refine Un.trans ?_ (wX7_takePupil_128 (fun h => ih h) h)
            refine Un.trans ?_ ((wX7_fails hq36).mono (sub_k [0] rfl) (sub_k [] rfl) (sub_k [] rfl))
            refine Un.trans ?_ ((wX7_isComma hq31).mono (sub_k [1] rfl) (sub_k [] rfl) (sub_k [] rfl))
            exact Un.refl _
          · skip
            refine Un.trans ?_ (wX7_takePupil_121 (fun h => ih h) h)
            refine Un.trans ?_ ((wX7_isComma hq31).mono (sub_k [1] rfl) (sub_k [] rfl) (sub_k [] rfl))
            exact Un.refl _
      · skip
        refine Un.trans ?_ (wX7_takePupil_150  h)
        exact Un.refl _
set_option maxRecDepth 4000 in
theorem wX7_takePupil_69 {q : Int32 × St}  {l1 : Int32} {s0 : Int32} {S : St} (h : FX7_takePupil_69 l1 s0 S = some q) : Un [(44, 9), (44, 10), (44, 13), (44, 14), (44, 16), (50, 99), (51, 99)] [] [] S q.2 := by
  unfold FX7_takePupil_69 at h
  obtain ⟨g23, h⟩ := gd_e h
  refine Un.trans ?_ (wX7_takePupil_86  _ h)
  refine Un.nA ?_ (List.mem_of_getElem? (i := 5) rfl)
  exact Un.refl _
set_option maxRecDepth 4000 in
theorem wX7_takePupil_39 {q : Int32 × St}  {l1 : Int32} {s0 : Int32} {S : St} (h : FX7_takePupil_39 l1 s0 S = some q) : Un [(44, 9), (44, 10), (44, 13), (44, 14), (44, 16), (50, 99), (51, 99)] [] [] S q.2 := by
  unfold FX7_takePupil_39 at h
  obtain ⟨g15, h⟩ := gd_e h
  refine cs_e h (fun _ h => ?_) (fun _ h => ?_)
  · skip
    obtain ⟨q20, hq21, h⟩ := bd_e h
    refine Un.trans ?_ (wX7_takePupil_69  h)
    refine Un.trans ?_ ((wX7_takeNumber hq21).mono (sub_k [0, 1, 2, 3] rfl) (sub_k [] rfl) (sub_k [] rfl))
    refine Un.nA ?_ (List.mem_of_getElem? (i := 5) rfl)
    exact Un.refl _
  · skip
    refine Un.trans ?_ (wX7_takePupil_69  h)
    refine Un.nA ?_ (List.mem_of_getElem? (i := 5) rfl)
    exact Un.refl _
set_option maxRecDepth 4000 in
theorem wX7_takePupil {q : Int32 × St}  {S : St} (h : fX7_takePupil  S = some q) : Un [(44, 9), (44, 10), (44, 13), (44, 14), (44, 16), (50, 99), (51, 99)] [] [] S q.2 := by
  unfold fX7_takePupil at h
  obtain ⟨q4, hq5, h⟩ := bd_e h
  obtain ⟨g7, h⟩ := gd_e h
  refine cs_e h (fun _ h => ?_) (fun _ h => ?_)
  · skip
    obtain ⟨q12, hq13, h⟩ := bd_e h
    refine Un.trans ?_ (wX7_takePupil_39  h)
    refine Un.trans ?_ ((wX7_takeNumber hq13).mono (sub_k [0, 1, 2, 3] rfl) (sub_k [] rfl) (sub_k [] rfl))
    refine Un.nA ?_ (List.mem_of_getElem? (i := 5) rfl)
    refine Un.trans ?_ ((wX7_takeNumber hq5).mono (sub_k [0, 1, 2, 3] rfl) (sub_k [] rfl) (sub_k [] rfl))
    exact Un.refl _
  · skip
    refine Un.trans ?_ (wX7_takePupil_39  h)
    refine Un.nA ?_ (List.mem_of_getElem? (i := 5) rfl)
    refine Un.trans ?_ ((wX7_takeNumber hq5).mono (sub_k [0, 1, 2, 3] rfl) (sub_k [] rfl) (sub_k [] rfl))
    exact Un.refl _
set_option maxRecDepth 4000 in
theorem wX7_pupil_66 {q : Int32 × St}  {k34 : Int32 → Int32 → Int32 → Int32 → Int32 → St → Option (Int32 × St)} (hk34 : ∀ {l1 : Int32} {l2 : Int32} {l3 : Int32} {l4 : Int32} {l5 : Int32} {S : St}, k34 l1 l2 l3 l4 l5 S = some q → Un [] [] [] S q.2) {l1 : Int32} {l2 : Int32} {l4 : Int32} {l5 : Int32} {s0 : Int32} {s1 : Int32} {S : St} (h : FX7_pupil_66 k34 l1 l2 l4 l5 s0 s1 S = some q) : Un [] [] [] S q.2 := by
  unfold FX7_pupil_66 at h
  obtain ⟨g21, h⟩ := gd_e h
  refine Un.trans ?_ (hk34 h)
  exact Un.refl _
set_option maxRecDepth 4000 in
theorem wX7_pupil_34 {q : Int32 × St}  : ∀ (n : Nat) {l1 : Int32} {l2 : Int32} {l3 : Int32} {l4 : Int32} {l5 : Int32} {S : St}, FX7_pupil_34 n l1 l2 l3 l4 l5 S = some q → Un [] [] [] S q.2 := by
  intro n
  induction n with
  | zero => intro _ _ _ _ _ _ h; cases h
  | succ n ih =>
    intro l1 l2 l3 l4 l5 S h
    rw [FX7_pupil_34] at h
    refine cs_e h (fun _ h => ?_) (fun _ h => ?_)
    · skip
      refine cs_e h (fun _ h => ?_) (fun _ h => ?_)
      · skip
        refine cs_e h (fun _ h => ?_) (fun _ h => ?_)
        · skip
          have h := Option.some.inj h
          subst h
          exact Un.refl _
        · skip
          have h := Option.some.inj h
          subst h
          exact Un.refl _
      · skip
        obtain ⟨g15, h⟩ := gd_e h
        have h := Option.some.inj h
        subst h
        exact Un.refl _
    · skip
      obtain ⟨g17, h⟩ := gd_e h
      refine cs_e h (fun _ h => ?_) (fun _ h => ?_)
      · skip
        refine Un.trans ?_ (wX7_pupil_66 (fun h => ih h) h)
        exact Un.refl _
      · skip
        refine Un.trans ?_ (wX7_pupil_66 (fun h => ih h) h)
        exact Un.refl _
set_option maxRecDepth 4000 in
theorem wX7_pupil {q : Int32 × St} {l1 : Int32} {l2 : Int32} {S : St} (h : fX7_pupil l1 l2 S = some q) : Un [] [] [] S q.2 := by
  unfold fX7_pupil at h
  obtain ⟨q3, hq4, h⟩ := bd_e h
  refine cs_e h (fun _ h => ?_) (fun _ h => ?_)
  · skip
    have h := Option.some.inj h
    subst h
    refine Un.trans ?_ ((wX7_isPupil hq4).mono (sub_k [] rfl) (sub_k [] rfl) (sub_k [] rfl))
    exact Un.refl _
  · skip
    obtain ⟨q8, hq9, h⟩ := bd_e h
    refine cs_e h (fun _ h => ?_) (fun _ h => ?_)
    · skip
      have h := Option.some.inj h
      subst h
      refine Un.trans ?_ ((wX7_in hq9).mono (sub_k [] rfl) (sub_k [] rfl) (sub_k [] rfl))
      refine Un.trans ?_ ((wX7_isPupil hq4).mono (sub_k [] rfl) (sub_k [] rfl) (sub_k [] rfl))
      exact Un.refl _
    · skip
      refine Un.trans ?_ (wX7_pupil_34  _ h)
      refine Un.trans ?_ ((wX7_in hq9).mono (sub_k [] rfl) (sub_k [] rfl) (sub_k [] rfl))
      refine Un.trans ?_ ((wX7_isPupil hq4).mono (sub_k [] rfl) (sub_k [] rfl) (sub_k [] rfl))
      exact Un.refl _
set_option maxRecDepth 4000 in
theorem wX7_leans {q : Int32 × St} {l1 : Int32} {S : St} (h : fX7_leans l1 S = some q) : Un [] [] [] S q.2 := by
  unfold fX7_leans at h
  obtain ⟨q3, hq4, h⟩ := bd_e h
  refine cs_e h (fun _ h => ?_) (fun _ h => ?_)
  · skip
    have h := Option.some.inj h
    subst h
    refine Un.trans ?_ ((wX7_isThing hq4).mono (sub_k [] rfl) (sub_k [] rfl) (sub_k [] rfl))
    exact Un.refl _
  · skip
    obtain ⟨g6, h⟩ := gd_e h
    have h := Option.some.inj h
    subst h
    refine Un.trans ?_ ((wX7_isThing hq4).mono (sub_k [] rfl) (sub_k [] rfl) (sub_k [] rfl))
    exact Un.refl _
set_option maxRecDepth 4000 in
theorem wX7_level_30 {q : Int32 × St}   {S : St} (h : FX7_level_30  S = some q) : Un [] [] [] S q.2 := by
  unfold FX7_level_30 at h
  have h := Option.some.inj h
  subst h
  exact Un.refl _
set_option maxRecDepth 4000 in
theorem wX7_level {q : Int32 × St} {l1 : Int32} {l2 : Int32} {S : St} (h : fX7_level l1 l2 S = some q) : Un [] [] [] S q.2 := by
  unfold fX7_level at h
  obtain ⟨q3, hq4, h⟩ := bd_e h
  refine cs_e h (fun _ h => ?_) (fun _ h => ?_)
  · skip
    refine Un.trans ?_ (wX7_level_30  h)
    refine Un.trans ?_ ((wX7_isPupil hq4).mono (sub_k [] rfl) (sub_k [] rfl) (sub_k [] rfl))
    exact Un.refl _
  · skip
    obtain ⟨q8, hq9, h⟩ := bd_e h
    refine cs_e h (fun _ h => ?_) (fun _ h => ?_)
    · skip
      refine Un.trans ?_ (wX7_level_30  h)
      refine Un.trans ?_ ((wX7_isThing hq9).mono (sub_k [] rfl) (sub_k [] rfl) (sub_k [] rfl))
      refine Un.trans ?_ ((wX7_isPupil hq4).mono (sub_k [] rfl) (sub_k [] rfl) (sub_k [] rfl))
      exact Un.refl _
    · skip
      obtain ⟨g12, h⟩ := gd_e h
      have h := Option.some.inj h
      subst h
      refine Un.trans ?_ ((wX7_isThing hq9).mono (sub_k [] rfl) (sub_k [] rfl) (sub_k [] rfl))
      refine Un.trans ?_ ((wX7_isPupil hq4).mono (sub_k [] rfl) (sub_k [] rfl) (sub_k [] rfl))
      exact Un.refl _
set_option maxRecDepth 4000 in
theorem wX7_rises_16 {q : Int32 × St}   {S : St} (h : FX7_rises_16  S = some q) : Un [] [] [] S q.2 := by
  unfold FX7_rises_16 at h
  have h := Option.some.inj h
  subst h
  exact Un.refl _
set_option maxRecDepth 4000 in
theorem wX7_rises {q : Int32 × St} {l1 : Int32} {l2 : Int32} {S : St} (h : fX7_rises l1 l2 S = some q) : Un [] [] [] S q.2 := by
  unfold fX7_rises at h
  obtain ⟨q3, hq4, h⟩ := bd_e h
  refine cs_e h (fun _ h => ?_) (fun _ h => ?_)
  · skip
    refine Un.trans ?_ (wX7_rises_16  h)
    refine Un.trans ?_ ((wX7_isPupil hq4).mono (sub_k [] rfl) (sub_k [] rfl) (sub_k [] rfl))
    exact Un.refl _
  · skip
    obtain ⟨q8, hq9, h⟩ := bd_e h
    refine cs_e h (fun _ h => ?_) (fun _ h => ?_)
    · skip
      refine Un.trans ?_ (wX7_rises_16  h)
      refine Un.trans ?_ ((wX7_isThing hq9).mono (sub_k [] rfl) (sub_k [] rfl) (sub_k [] rfl))
      refine Un.trans ?_ ((wX7_isPupil hq4).mono (sub_k [] rfl) (sub_k [] rfl) (sub_k [] rfl))
      exact Un.refl _
    · skip
      obtain ⟨q13, hq14, h⟩ := bd_e h
      obtain ⟨g16, h⟩ := gd_e h
      refine cs_e h (fun _ h => ?_) (fun _ h => ?_)
      · skip
        have h := Option.some.inj h
        subst h
        refine Un.trans ?_ ((wX7_capOf hq14).mono (sub_k [] rfl) (sub_k [] rfl) (sub_k [] rfl))
        refine Un.trans ?_ ((wX7_isThing hq9).mono (sub_k [] rfl) (sub_k [] rfl) (sub_k [] rfl))
        refine Un.trans ?_ ((wX7_isPupil hq4).mono (sub_k [] rfl) (sub_k [] rfl) (sub_k [] rfl))
        exact Un.refl _
      · skip
        have h := Option.some.inj h
        subst h
        refine Un.trans ?_ ((wX7_capOf hq14).mono (sub_k [] rfl) (sub_k [] rfl) (sub_k [] rfl))
        refine Un.trans ?_ ((wX7_isThing hq9).mono (sub_k [] rfl) (sub_k [] rfl) (sub_k [] rfl))
        refine Un.trans ?_ ((wX7_isPupil hq4).mono (sub_k [] rfl) (sub_k [] rfl) (sub_k [] rfl))
        exact Un.refl _
set_option maxRecDepth 4000 in
theorem wX7_take_2 {q : Unit × St}  : ∀ (n : Nat) {l1 : Int32} {l2 : Int32} {l3 : Int32} {S : St}, FX7_take_2 n l1 l2 l3 S = some q → Un [(52, 99), (53, 99)] [] [] S q.2 := by
  intro n
  induction n with
  | zero => intro _ _ _ _ h; cases h
  | succ n ih =>
    intro l1 l2 l3 S h
    rw [FX7_take_2] at h
    refine cs_e h (fun _ h => ?_) (fun _ h => ?_)
    · skip
      have h := Option.some.inj h
      subst h
      exact Un.refl _
    · skip
      obtain ⟨g3, h⟩ := gd_e h
      obtain ⟨g4, h⟩ := gd_e h
      obtain ⟨q8, hq9, h⟩ := bd_e h
      obtain ⟨g10, h⟩ := gd_e h
      refine Un.trans ?_ (ih h)
      refine Un.nA ?_ (List.mem_of_getElem? (i := 1) rfl)
      refine Un.trans ?_ ((wX7_capOf hq9).mono (sub_k [] rfl) (sub_k [] rfl) (sub_k [] rfl))
      refine Un.nA ?_ (List.mem_of_getElem? (i := 0) rfl)
      exact Un.refl _
set_option maxRecDepth 4000 in
theorem wX7_take {q : Unit × St} {l1 : Int32} {l2 : Int32} {S : St} (h : fX7_take l1 l2 S = some q) : Un [(52, 99), (53, 99)] [] [] S q.2 := by
  unfold fX7_take at h
  refine Un.trans ?_ (wX7_take_2  _ h)
  exact Un.refl _
set_option maxRecDepth 4000 in
theorem wX7_believe_89 {q : Unit × St}  {k3 : Int32 → Int32 → Int32 → Int32 → St → Option (Unit × St)} (hk3 : ∀ {l1 : Int32} {l2 : Int32} {l3 : Int32} {l4 : Int32} {S : St}, k3 l1 l2 l3 l4 S = some q → Un [(44, 23), (54, 99)] [] [] S q.2) {l1 : Int32} {l2 : Int32} {l3 : Int32} {l4 : Int32} {s0 : Int32} {s1 : Int32} {s2 : Int32} {S : St} (h : FX7_believe_89 k3 l1 l2 l3 l4 s0 s1 s2 S = some q) : Un [(44, 23), (54, 99)] [] [] S q.2 := by
  unfold FX7_believe_89 at h
  obtain ⟨g23, h⟩ := gd_e h
  refine Un.trans ?_ (hk3 h)
  refine Un.nA ?_ (List.mem_of_getElem? (i := 1) rfl)
  exact Un.refl _
set_option maxRecDepth 4000 in
theorem wX7_believe_88 {q : Unit × St}  {k3 : Int32 → Int32 → Int32 → Int32 → St → Option (Unit × St)} (hk3 : ∀ {l1 : Int32} {l2 : Int32} {l3 : Int32} {l4 : Int32} {S : St}, k3 l1 l2 l3 l4 S = some q → Un [(44, 23), (54, 99)] [] [] S q.2) {l1 : Int32} {l2 : Int32} {l3 : Int32} {l4 : Int32} {s0 : Int32} {s1 : Int32} {S : St} (h : FX7_believe_88 k3 l1 l2 l3 l4 s0 s1 S = some q) : Un [(44, 23), (54, 99)] [] [] S q.2 := by
  unfold FX7_believe_88 at h
  refine Un.trans ?_ (wX7_believe_89 hk3 h)
  exact Un.refl _
set_option maxRecDepth 4000 in
theorem wX7_believe_50 {q : Unit × St}  {k3 : Int32 → Int32 → Int32 → Int32 → St → Option (Unit × St)} (hk3 : ∀ {l1 : Int32} {l2 : Int32} {l3 : Int32} {l4 : Int32} {S : St}, k3 l1 l2 l3 l4 S = some q → Un [(44, 23), (54, 99)] [] [] S q.2) {l1 : Int32} {l2 : Int32} {l3 : Int32} {l4 : Int32} {s0 : Int32} {S : St} (h : FX7_believe_50 k3 l1 l2 l3 l4 s0 S = some q) : Un [(44, 23), (54, 99)] [] [] S q.2 := by
  unfold FX7_believe_50 at h
  obtain ⟨g14, h⟩ := gd_e h
  refine cs_e h (fun _ h => ?_) (fun _ h => ?_)
  · skip
    refine Un.trans ?_ (wX7_believe_88 hk3 h)
    exact Un.refl _
  · skip
    obtain ⟨g17, h⟩ := gd_e h
    obtain ⟨q20, hq21, h⟩ := bd_e h
    refine cs_e h (fun _ h => ?_) (fun _ h => ?_)
    · skip
      refine Un.trans ?_ (wX7_believe_88 hk3 h)
      refine Un.trans ?_ ((wX7_isSo hq21).mono (sub_k [0] rfl) (sub_k [] rfl) (sub_k [] rfl))
      exact Un.refl _
    · skip
      refine Un.trans ?_ (wX7_believe_89 hk3 h)
      refine Un.trans ?_ ((wX7_isSo hq21).mono (sub_k [0] rfl) (sub_k [] rfl) (sub_k [] rfl))
      exact Un.refl _
set_option maxRecDepth 4000 in
theorem wX7_believe_49 {q : Unit × St}  {k3 : Int32 → Int32 → Int32 → Int32 → St → Option (Unit × St)} (hk3 : ∀ {l1 : Int32} {l2 : Int32} {l3 : Int32} {l4 : Int32} {S : St}, k3 l1 l2 l3 l4 S = some q → Un [(44, 23), (54, 99)] [] [] S q.2) {l1 : Int32} {l2 : Int32} {l3 : Int32} {l4 : Int32} {S : St} (h : FX7_believe_49 k3 l1 l2 l3 l4 S = some q) : Un [(44, 23), (54, 99)] [] [] S q.2 := by
  unfold FX7_believe_49 at h
  refine Un.trans ?_ (wX7_believe_50 hk3 h)
  exact Un.refl _
set_option maxRecDepth 4000 in
theorem wX7_believe_3 {q : Unit × St}  : ∀ (n : Nat) {l1 : Int32} {l2 : Int32} {l3 : Int32} {l4 : Int32} {S : St}, FX7_believe_3 n l1 l2 l3 l4 S = some q → Un [(44, 23), (54, 99)] [] [] S q.2 := by
  intro n
  induction n with
  | zero => intro _ _ _ _ _ h; cases h
  | succ n ih =>
    intro l1 l2 l3 l4 S h
    rw [FX7_believe_3] at h
    refine cs_e h (fun _ h => ?_) (fun _ h => ?_)
    · skip
      have h := Option.some.inj h
      subst h
      exact Un.refl _
    · skip
      obtain ⟨q4, hq5, h⟩ := bd_e h
      refine cs_e h (fun _ h => ?_) (fun _ h => ?_)
      · skip
        refine Un.trans ?_ (wX7_believe_49 (fun h => ih h) h)
        refine Un.trans ?_ ((wX7_has hq5).mono (sub_k [] rfl) (sub_k [] rfl) (sub_k [] rfl))
        exact Un.refl _
      · skip
        refine cs_e h (fun _ h => ?_) (fun _ h => ?_)
        · skip
          refine Un.trans ?_ (wX7_believe_49 (fun h => ih h) h)
          refine Un.trans ?_ ((wX7_has hq5).mono (sub_k [] rfl) (sub_k [] rfl) (sub_k [] rfl))
          exact Un.refl _
        · skip
          obtain ⟨g8, h⟩ := gd_e h
          obtain ⟨q11, hq12, h⟩ := bd_e h
          refine cs_e h (fun _ h => ?_) (fun _ h => ?_)
          · skip
            refine Un.trans ?_ (wX7_believe_49 (fun h => ih h) h)
            refine Un.trans ?_ ((wX7_in hq12).mono (sub_k [] rfl) (sub_k [] rfl) (sub_k [] rfl))
            refine Un.trans ?_ ((wX7_has hq5).mono (sub_k [] rfl) (sub_k [] rfl) (sub_k [] rfl))
            exact Un.refl _
          · skip
            refine Un.trans ?_ (wX7_believe_50 (fun h => ih h) h)
            refine Un.trans ?_ ((wX7_in hq12).mono (sub_k [] rfl) (sub_k [] rfl) (sub_k [] rfl))
            refine Un.trans ?_ ((wX7_has hq5).mono (sub_k [] rfl) (sub_k [] rfl) (sub_k [] rfl))
            exact Un.refl _
set_option maxRecDepth 4000 in
theorem wX7_believe {q : Unit × St} {l1 : Int32} {l2 : Int32} {l3 : Int32} {S : St} (h : fX7_believe l1 l2 l3 S = some q) : Un [(44, 23), (54, 99)] [] [] S q.2 := by
  unfold fX7_believe at h
  refine Un.trans ?_ (wX7_believe_3  _ h)
  exact Un.refl _
set_option maxRecDepth 4000 in
theorem wX7_partNo_162 {q : Unit × St}  {l4 : Int64} {l6 : Int64} {s0 : Int32} {s1 : Int32} {s2 : Int32} {S : St} (h : FX7_partNo_162 l4 l6 s0 s1 s2 S = some q) : Un [(44, 34), (54, 99), (63, 99)] [(62, 99)] [] S q.2 := by
  unfold FX7_partNo_162 at h
  obtain ⟨g60, h⟩ := gd_e h
  obtain ⟨q64, hq65, h⟩ := bd_e h
  have h := Option.some.inj h
  subst h
  refine Un.trans ?_ ((wX7_come hq65).mono (sub_k [] rfl) (sub_k [0] rfl) (sub_k [] rfl))
  refine Un.nA ?_ (List.mem_of_getElem? (i := 1) rfl)
  exact Un.refl _
set_option maxRecDepth 4000 in
theorem wX7_partNo_111 {q : Unit × St}  {l1 : Int32} {l2 : Int32} {l4 : Int64} {S : St} (h : FX7_partNo_111 l1 l2 l4 S = some q) : Un [(44, 34), (54, 99), (63, 99)] [(62, 99)] [] S q.2 := by
  unfold FX7_partNo_111 at h
  refine cs_e h (fun _ h => ?_) (fun _ h => ?_)
  · skip
    obtain ⟨q48, hq49, h⟩ := bd_e h
    have h := Option.some.inj h
    subst h
    refine Un.trans ?_ ((wX7_partBelief hq49).mono (sub_k [0, 1, 2] rfl) (sub_k [0] rfl) (sub_k [] rfl))
    exact Un.refl _
  · skip
    obtain ⟨g51, h⟩ := gd_e h
    obtain ⟨q55, hq56, h⟩ := bd_e h
    obtain ⟨g57, h⟩ := gd_e h
    obtain ⟨g58, h⟩ := gd_e h
    refine cs_e h (fun _ h => ?_) (fun _ h => ?_)
    · skip
      refine Un.trans ?_ (wX7_partNo_162  h)
      refine Un.trans ?_ ((wX7_come hq56).mono (sub_k [] rfl) (sub_k [0] rfl) (sub_k [] rfl))
      exact Un.refl _
    · skip
      refine Un.trans ?_ (wX7_partNo_162  h)
      refine Un.trans ?_ ((wX7_come hq56).mono (sub_k [] rfl) (sub_k [0] rfl) (sub_k [] rfl))
      exact Un.refl _
set_option maxRecDepth 4000 in
theorem wX7_partNo_85 {q : Unit × St}  {l1 : Int32} {l2 : Int32} {l3 : Int32} {l4 : Int64} {S : St} (h : FX7_partNo_85 l1 l2 l3 l4 S = some q) : Un [(44, 34), (54, 99), (63, 99)] [(62, 99)] [] S q.2 := by
  unfold FX7_partNo_85 at h
  refine cs_e h (fun _ h => ?_) (fun _ h => ?_)
  · skip
    refine Un.trans ?_ (wX7_partNo_111  h)
    exact Un.refl _
  · skip
    refine cs_e h (fun _ h => ?_) (fun _ h => ?_)
    · skip
      obtain ⟨q35, hq36, h⟩ := bd_e h
      obtain ⟨q39, hq40, h⟩ := bd_e h
      obtain ⟨q43, hq44, h⟩ := bd_e h
      have h := Option.some.inj h
      subst h
      refine Un.trans ?_ ((wX7_come hq44).mono (sub_k [] rfl) (sub_k [0] rfl) (sub_k [] rfl))
      refine Un.trans ?_ ((wX7_follow hq40).mono (sub_k [1] rfl) (sub_k [] rfl) (sub_k [] rfl))
      refine Un.trans ?_ ((wX7_everybody hq36).mono (sub_k [] rfl) (sub_k [] rfl) (sub_k [] rfl))
      exact Un.refl _
    · skip
      refine Un.trans ?_ (wX7_partNo_111  h)
      exact Un.refl _
set_option maxRecDepth 4000 in
theorem wX7_partNo_57 {q : Unit × St}  {k15 : Int32 → Int32 → Int64 → Int32 → St → Option (Unit × St)} (hk15 : ∀ {l1 : Int32} {l3 : Int32} {l4 : Int64} {l6 : Int32} {S : St}, k15 l1 l3 l4 l6 S = some q → Un [(44, 34), (54, 99), (63, 99)] [(62, 99)] [] S q.2) {l1 : Int32} {l3 : Int32} {l4 : Int64} {l6 : Int32} {S : St} (h : FX7_partNo_57 k15 l1 l3 l4 l6 S = some q) : Un [(44, 34), (54, 99), (63, 99)] [(62, 99)] [] S q.2 := by
  unfold FX7_partNo_57 at h
  refine Un.trans ?_ (hk15 h)
  exact Un.refl _
set_option maxRecDepth 4000 in
theorem wX7_partNo_15 {q : Unit × St}  : ∀ (n : Nat) {l1 : Int32} {l3 : Int32} {l4 : Int64} {l6 : Int32} {S : St}, FX7_partNo_15 n l1 l3 l4 l6 S = some q → Un [(44, 34), (54, 99), (63, 99)] [(62, 99)] [] S q.2 := by
  intro n
  induction n with
  | zero => intro _ _ _ _ _ h; cases h
  | succ n ih =>
    intro l1 l3 l4 l6 S h
    rw [FX7_partNo_15] at h
    refine cs_e h (fun _ h => ?_) (fun _ h => ?_)
    · skip
      obtain ⟨g9, h⟩ := gd_e h
      obtain ⟨q12, hq13, h⟩ := bd_e h
      obtain ⟨q16, hq17, h⟩ := bd_e h
      have h := Option.some.inj h
      subst h
      refine Un.trans ?_ ((wX7_come hq17).mono (sub_k [] rfl) (sub_k [0] rfl) (sub_k [] rfl))
      refine Un.trans ?_ ((wX7_rise hq13).mono (sub_k [1] rfl) (sub_k [] rfl) (sub_k [] rfl))
      exact Un.refl _
    · skip
      obtain ⟨q20, hq21, h⟩ := bd_e h
      refine cs_e h (fun _ h => ?_) (fun _ h => ?_)
      · skip
        refine Un.trans ?_ (wX7_partNo_57 (fun h => ih h) h)
        refine Un.trans ?_ ((wX7_has hq21).mono (sub_k [] rfl) (sub_k [] rfl) (sub_k [] rfl))
        exact Un.refl _
      · skip
        obtain ⟨g23, h⟩ := gd_e h
        refine cs_e h (fun _ h => ?_) (fun _ h => ?_)
        · skip
          refine Un.trans ?_ (wX7_partNo_57 (fun h => ih h) h)
          refine Un.trans ?_ ((wX7_has hq21).mono (sub_k [] rfl) (sub_k [] rfl) (sub_k [] rfl))
          exact Un.refl _
        · skip
          obtain ⟨g25, h⟩ := gd_e h
          obtain ⟨q28, hq29, h⟩ := bd_e h
          refine Un.trans ?_ (wX7_partNo_57 (fun h => ih h) h)
          refine Un.trans ?_ ((wX7_rise hq29).mono (sub_k [1] rfl) (sub_k [] rfl) (sub_k [] rfl))
          refine Un.trans ?_ ((wX7_has hq21).mono (sub_k [] rfl) (sub_k [] rfl) (sub_k [] rfl))
          exact Un.refl _
set_option maxRecDepth 4000 in
theorem wX7_partNo {q : Unit × St} {l1 : Int32} {l2 : Int32} {l3 : Int32} {l4 : Int64} {S : St} (h : fX7_partNo l1 l2 l3 l4 S = some q) : Un [(44, 34), (54, 99), (63, 99)] [(62, 99)] [] S q.2 := by
  unfold fX7_partNo at h
  obtain ⟨q3, hq4, h⟩ := bd_e h
  refine cs_e h (fun _ h => ?_) (fun _ h => ?_)
  · skip
    refine cs_e h (fun _ h => ?_) (fun _ h => ?_)
    · skip
      refine Un.trans ?_ (wX7_partNo_85  h)
      refine Un.trans ?_ ((wX7_asNow hq4).mono (sub_k [1] rfl) (sub_k [] rfl) (sub_k [] rfl))
      exact Un.refl _
    · skip
      refine Un.trans ?_ (wX7_partNo_15  _ h)
      refine Un.trans ?_ ((wX7_asNow hq4).mono (sub_k [1] rfl) (sub_k [] rfl) (sub_k [] rfl))
      exact Un.refl _
  · skip
    refine Un.trans ?_ (wX7_partNo_85  h)
    refine Un.trans ?_ ((wX7_asNow hq4).mono (sub_k [1] rfl) (sub_k [] rfl) (sub_k [] rfl))
    exact Un.refl _
set_option maxRecDepth 4000 in
theorem wX7_log_16 {q : Int32 × St}   {S : St} (h : FX7_log_16  S = some q) : Un [(44, 35), (64, 99), (65, 99)] [] [] S q.2 := by
  unfold FX7_log_16 at h
  have h := Option.some.inj h
  subst h
  exact Un.refl _
set_option maxRecDepth 4000 in
theorem wX7_log {q : Int32 × St} {l1 : Int32} {l2 : Int32} {S : St} (h : fX7_log l1 l2 S = some q) : Un [(44, 35), (64, 99), (65, 99)] [] [] S q.2 := by
  unfold fX7_log at h
  obtain ⟨q3, hq4, h⟩ := bd_e h
  refine cs_e h (fun _ h => ?_) (fun _ h => ?_)
  · skip
    refine Un.trans ?_ (wX7_log_16  h)
    refine Un.trans ?_ ((wX7_isPupil hq4).mono (sub_k [] rfl) (sub_k [] rfl) (sub_k [] rfl))
    exact Un.refl _
  · skip
    obtain ⟨q8, hq9, h⟩ := bd_e h
    refine cs_e h (fun _ h => ?_) (fun _ h => ?_)
    · skip
      refine Un.trans ?_ (wX7_log_16  h)
      refine Un.trans ?_ ((wX7_isThing hq9).mono (sub_k [] rfl) (sub_k [] rfl) (sub_k [] rfl))
      refine Un.trans ?_ ((wX7_isPupil hq4).mono (sub_k [] rfl) (sub_k [] rfl) (sub_k [] rfl))
      exact Un.refl _
    · skip
      refine cs_e h (fun _ h => ?_) (fun _ h => ?_)
      · skip
        have h := Option.some.inj h
        subst h
        refine Un.trans ?_ ((wX7_isThing hq9).mono (sub_k [] rfl) (sub_k [] rfl) (sub_k [] rfl))
        refine Un.trans ?_ ((wX7_isPupil hq4).mono (sub_k [] rfl) (sub_k [] rfl) (sub_k [] rfl))
        exact Un.refl _
      · skip
        obtain ⟨g13, h⟩ := gd_e h
        obtain ⟨g16, h⟩ := gd_e h
        have h := Option.some.inj h
        subst h
        refine Un.nS ?_ (List.mem_of_getElem? (i := 0) rfl)
        refine Un.nA ?_ (List.mem_of_getElem? (i := 2) rfl)
        refine Un.nA ?_ (List.mem_of_getElem? (i := 1) rfl)
        refine Un.trans ?_ ((wX7_isThing hq9).mono (sub_k [] rfl) (sub_k [] rfl) (sub_k [] rfl))
        refine Un.trans ?_ ((wX7_isPupil hq4).mono (sub_k [] rfl) (sub_k [] rfl) (sub_k [] rfl))
        exact Un.refl _
set_option maxRecDepth 4000 in
theorem wX1_teach {q : Unit × St} {l2 : Int32} {l3 : Int32} {S : St} (h : fX1_teach l2 l3 S = some q) : Un [(33, 3), (33, 5), (37, 99)] [(34, 99), (35, 99), (36, 99)] [] S q.2 := by
  unfold fX1_teach at h
  obtain ⟨g1, h⟩ := gd_e h
  obtain ⟨g2, h⟩ := gd_e h
  obtain ⟨q5, hq6, h⟩ := bd_e h
  obtain ⟨q10, hq11, h⟩ := bd_e h
  obtain ⟨q14, hq15, h⟩ := bd_e h
  obtain ⟨g16, h⟩ := gd_e h
  obtain ⟨g17, h⟩ := gd_e h
  obtain ⟨q20, hq21, h⟩ := bd_e h
  obtain ⟨q24, hq25, h⟩ := bd_e h
  have h := Option.some.inj h
  subst h
  refine Un.trans ?_ ((wX1_endWrong hq25).mono (sub_k [0, 1, 2] rfl) (sub_k [0, 1, 2] rfl) (sub_k [] rfl))
  refine Un.trans ?_ ((wX1_partByNo hq21).mono (sub_k [0, 1, 2] rfl) (sub_k [2] rfl) (sub_k [] rfl))
  refine Un.trans ?_ ((wX1_endRight hq15).mono (sub_k [] rfl) (sub_k [0, 1] rfl) (sub_k [] rfl))
  refine Un.trans ?_ ((wX1_partByNo hq11).mono (sub_k [0, 1, 2] rfl) (sub_k [2] rfl) (sub_k [] rfl))
  refine Un.trans ?_ ((wX0_rightChance hq6).mono (sub_k [] rfl) (sub_k [] rfl) (sub_k [] rfl))
  exact Un.refl _
set_option maxRecDepth 4000 in
theorem wX2_readLeaning_94 {q : Int32 × St}  {k6 : Int32 → Int32 → Int32 → St → Option (Int32 × St)} (hk6 : ∀ {l1 : Int32} {l2 : Int32} {l3 : Int32} {S : St}, k6 l1 l2 l3 S = some q → Un [(1, 2), (1, 3), (1, 5), (1, 6), (1, 7)] [] [] S q.2) {l1 : Int32} {l3 : Int32} {s0 : Int32} {S : St} (h : FX2_readLeaning_94 k6 l1 l3 s0 S = some q) : Un [(1, 2), (1, 3), (1, 5), (1, 6), (1, 7)] [] [] S q.2 := by
  unfold FX2_readLeaning_94 at h
  refine Un.trans ?_ (hk6 h)
  exact Un.refl _
set_option maxRecDepth 4000 in
theorem wX2_readLeaning_93 {q : Int32 × St}  {k6 : Int32 → Int32 → Int32 → St → Option (Int32 × St)} (hk6 : ∀ {l1 : Int32} {l2 : Int32} {l3 : Int32} {S : St}, k6 l1 l2 l3 S = some q → Un [(1, 2), (1, 3), (1, 5), (1, 6), (1, 7)] [] [] S q.2) {l1 : Int32} {l3 : Int32} {S : St} (h : FX2_readLeaning_93 k6 l1 l3 S = some q) : Un [(1, 2), (1, 3), (1, 5), (1, 6), (1, 7)] [] [] S q.2 := by
  unfold FX2_readLeaning_93 at h
  refine Un.trans ?_ (wX2_readLeaning_94 hk6 h)
  exact Un.refl _
set_option maxRecDepth 4000 in
theorem wX2_readLeaning_66 {q : Int32 × St}  {k6 : Int32 → Int32 → Int32 → St → Option (Int32 × St)} (hk6 : ∀ {l1 : Int32} {l2 : Int32} {l3 : Int32} {S : St}, k6 l1 l2 l3 S = some q → Un [(1, 2), (1, 3), (1, 5), (1, 6), (1, 7)] [] [] S q.2) {l1 : Int32} {l3 : Int32} {l5 : Int32} {S : St} (h : FX2_readLeaning_66 k6 l1 l3 l5 S = some q) : Un [(1, 2), (1, 3), (1, 5), (1, 6), (1, 7)] [] [] S q.2 := by
  unfold FX2_readLeaning_66 at h
  refine cs_e h (fun _ h => ?_) (fun _ h => ?_)
  · skip
    obtain ⟨q23, hq24, h⟩ := bd_e h
    refine cs_e h (fun _ h => ?_) (fun _ h => ?_)
    · skip
      refine Un.trans ?_ (wX2_readLeaning_93 hk6 h)
      refine Un.trans ?_ ((wX2_isSign hq24).mono (sub_k [] rfl) (sub_k [] rfl) (sub_k [] rfl))
      exact Un.refl _
    · skip
      refine Un.trans ?_ (wX2_readLeaning_94 hk6 h)
      refine Un.trans ?_ ((wX2_isSign hq24).mono (sub_k [] rfl) (sub_k [] rfl) (sub_k [] rfl))
      exact Un.refl _
  · skip
    refine Un.trans ?_ (wX2_readLeaning_93 hk6 h)
    exact Un.refl _
set_option maxRecDepth 4000 in
theorem wX2_readLeaning_101 {q : Int32 × St}  {l1 : Int32} {S : St} (h : FX2_readLeaning_101 l1 S = some q) : Un [(1, 2), (1, 3), (1, 5), (1, 6), (1, 7)] [] [] S q.2 := by
  unfold FX2_readLeaning_101 at h
  have h := Option.some.inj h
  subst h
  exact Un.refl _
set_option maxRecDepth 4000 in
theorem wX2_readLeaning_6 {q : Int32 × St}  : ∀ (n : Nat) {l1 : Int32} {l2 : Int32} {l3 : Int32} {S : St}, FX2_readLeaning_6 n l1 l2 l3 S = some q → Un [(1, 2), (1, 3), (1, 5), (1, 6), (1, 7)] [] [] S q.2 := by
  intro n
  induction n with
  | zero => intro _ _ _ _ h; cases h
  | succ n ih =>
    intro l1 l2 l3 S h
    rw [FX2_readLeaning_6] at h
    refine cs_e h (fun _ h => ?_) (fun _ h => ?_)
    · skip
      refine Un.trans ?_ (wX2_readLeaning_101  h)
      exact Un.refl _
    · skip
      refine cs_e h (fun _ h => ?_) (fun _ h => ?_)
      · skip
        refine Un.trans ?_ (wX2_readLeaning_101  h)
        exact Un.refl _
      · skip
        obtain ⟨q5, hq6, h⟩ := bd_e h
        obtain ⟨g8, h⟩ := gd_e h
        obtain ⟨q11, hq12, h⟩ := bd_e h
        refine cs_e h (fun _ h => ?_) (fun _ h => ?_)
        · skip
          refine cs_e h (fun _ h => ?_) (fun _ h => ?_)
          · skip
            obtain ⟨q17, hq18, h⟩ := bd_e h
            refine Un.trans ?_ (wX2_readLeaning_66 (fun h => ih h) h)
            refine Un.trans ?_ ((wX2_refuse hq18).mono (sub_k [0, 1] rfl) (sub_k [] rfl) (sub_k [] rfl))
            refine Un.trans ?_ ((wX2_takeNumber hq12).mono (sub_k [0, 1, 2, 3, 4] rfl) (sub_k [] rfl) (sub_k [] rfl))
            refine Un.trans ?_ ((wX2_advance hq6).mono (sub_k [2, 3, 4] rfl) (sub_k [] rfl) (sub_k [] rfl))
            exact Un.refl _
          · skip
            refine Un.trans ?_ (wX2_readLeaning_66 (fun h => ih h) h)
            refine Un.trans ?_ ((wX2_takeNumber hq12).mono (sub_k [0, 1, 2, 3, 4] rfl) (sub_k [] rfl) (sub_k [] rfl))
            refine Un.trans ?_ ((wX2_advance hq6).mono (sub_k [2, 3, 4] rfl) (sub_k [] rfl) (sub_k [] rfl))
            exact Un.refl _
        · skip
          refine Un.trans ?_ (wX2_readLeaning_66 (fun h => ih h) h)
          refine Un.trans ?_ ((wX2_takeNumber hq12).mono (sub_k [0, 1, 2, 3, 4] rfl) (sub_k [] rfl) (sub_k [] rfl))
          refine Un.trans ?_ ((wX2_advance hq6).mono (sub_k [2, 3, 4] rfl) (sub_k [] rfl) (sub_k [] rfl))
          exact Un.refl _
set_option maxRecDepth 4000 in
theorem wX2_readLeaning {q : Int32 × St}  {S : St} (h : fX2_readLeaning  S = some q) : Un [(1, 2), (1, 3), (1, 5), (1, 6), (1, 7)] [] [] S q.2 := by
  unfold fX2_readLeaning at h
  refine Un.trans ?_ (wX2_readLeaning_6  _ h)
  exact Un.refl _
set_option maxRecDepth 4000 in
theorem wX2_readPupil_98 {q : Unit × St}  {k77 : Int32 → Int32 → St → Option (Unit × St)} (hk77 : ∀ {l1 : Int32} {l2 : Int32} {S : St}, k77 l1 l2 S = some q → Un [(1, 2), (1, 3), (1, 5), (1, 6), (1, 7), (3, 1), (5, 99), (6, 99), (7, 99), (8, 99), (9, 1), (11, 99), (12, 99), (13, 99), (14, 99)] [] [] S q.2) {l1 : Int32} {l2 : Int32} {S : St} (h : FX2_readPupil_98 k77 l1 l2 S = some q) : Un [(1, 2), (1, 3), (1, 5), (1, 6), (1, 7), (3, 1), (5, 99), (6, 99), (7, 99), (8, 99), (9, 1), (11, 99), (12, 99), (13, 99), (14, 99)] [] [] S q.2 := by
  unfold FX2_readPupil_98 at h
  obtain ⟨g46, h⟩ := gd_e h
  obtain ⟨q49, hq50, h⟩ := bd_e h
  obtain ⟨g52, h⟩ := gd_e h
  refine Un.trans ?_ (hk77 h)
  refine Un.nA ?_ (by rcases isSch_or g46 with e | e <;> rw [e] <;> decide)
  refine Un.trans ?_ ((wX2_takeNumber hq50).mono (sub_k [0, 1, 2, 3, 4] rfl) (sub_k [] rfl) (sub_k [] rfl))
  exact Un.refl _
set_option maxRecDepth 4000 in
theorem wX2_readPupil_77 {q : Unit × St}  : ∀ (n : Nat) {l1 : Int32} {l2 : Int32} {S : St}, FX2_readPupil_77 n l1 l2 S = some q → Un [(1, 2), (1, 3), (1, 5), (1, 6), (1, 7), (3, 1), (5, 99), (6, 99), (7, 99), (8, 99), (9, 1), (11, 99), (12, 99), (13, 99), (14, 99)] [] [] S q.2 := by
  intro n
  induction n with
  | zero => intro _ _ _ h; cases h
  | succ n ih =>
    intro l1 l2 S h
    rw [FX2_readPupil_77] at h
    obtain ⟨g33, h⟩ := gd_e h
    refine cs_e h (fun _ h => ?_) (fun _ h => ?_)
    · skip
      obtain ⟨q37, hq38, h⟩ := bd_e h
      obtain ⟨g39, h⟩ := gd_e h
      have h := Option.some.inj h
      subst h
      refine Un.nS ?_ (by rcases isSch_or g39 with e | e <;> rw [e] <;> decide)
      refine Un.trans ?_ ((wX2_takeSign hq38).mono (sub_k [0, 1, 2, 3, 4] rfl) (sub_k [] rfl) (sub_k [] rfl))
      exact Un.refl _
    · skip
      refine cs_e h (fun _ h => ?_) (fun _ h => ?_)
      · skip
        refine Un.trans ?_ (wX2_readPupil_98 (fun h => ih h) h)
        exact Un.refl _
      · skip
        obtain ⟨q44, hq45, h⟩ := bd_e h
        refine Un.trans ?_ (wX2_readPupil_98 (fun h => ih h) h)
        refine Un.trans ?_ ((wX2_takeSign hq45).mono (sub_k [0, 1, 2, 3, 4] rfl) (sub_k [] rfl) (sub_k [] rfl))
        exact Un.refl _
set_option maxRecDepth 4000 in
theorem wX2_readPupil {q : Unit × St}  {S : St} (h : fX2_readPupil  S = some q) : Un [(1, 2), (1, 3), (1, 5), (1, 6), (1, 7), (3, 1), (5, 99), (6, 99), (7, 99), (8, 99), (9, 1), (11, 99), (12, 99), (13, 99), (14, 99)] [] [] S q.2 := by
  unfold fX2_readPupil at h
  obtain ⟨g1, h⟩ := gd_e h
  refine cs_e h (fun _ h => ?_) (fun _ h => ?_)
  · skip
    obtain ⟨q6, hq7, h⟩ := bd_e h
    obtain ⟨g8, h⟩ := gd_e h
    obtain ⟨q11, hq12, h⟩ := bd_e h
    obtain ⟨g13, h⟩ := gd_e h
    obtain ⟨g15, h⟩ := gd_e h
    obtain ⟨q18, hq19, h⟩ := bd_e h
    obtain ⟨g20, h⟩ := gd_e h
    obtain ⟨g22, h⟩ := gd_e h
    obtain ⟨q25, hq26, h⟩ := bd_e h
    obtain ⟨g27, h⟩ := gd_e h
    refine Un.trans ?_ (wX2_readPupil_77  _ h)
    refine Un.nA ?_ (by rcases isSch_or g22 with e | e <;> rw [e] <;> decide)
    refine Un.trans ?_ ((wX2_takeNumber hq26).mono (sub_k [0, 1, 2, 3, 4] rfl) (sub_k [] rfl) (sub_k [] rfl))
    refine Un.nA ?_ (by rcases isSch_or g15 with e | e <;> rw [e] <;> decide)
    refine Un.trans ?_ ((wX2_takeNumber hq19).mono (sub_k [0, 1, 2, 3, 4] rfl) (sub_k [] rfl) (sub_k [] rfl))
    refine Un.nA ?_ (by rcases isSch_or g8 with e | e <;> rw [e] <;> decide)
    refine Un.trans ?_ ((wX2_takeNumber hq12).mono (sub_k [0, 1, 2, 3, 4] rfl) (sub_k [] rfl) (sub_k [] rfl))
    refine Un.trans ?_ ((wX2_advance hq7).mono (sub_k [2, 3, 4] rfl) (sub_k [] rfl) (sub_k [] rfl))
    exact Un.refl _
  · skip
    obtain ⟨q31, hq32, h⟩ := bd_e h
    have h := Option.some.inj h
    subst h
    refine Un.trans ?_ ((wX2_refuse hq32).mono (sub_k [0, 1] rfl) (sub_k [] rfl) (sub_k [] rfl))
    exact Un.refl _
set_option maxRecDepth 4000 in
theorem wX4_look_127 {q : Int32 × St} {t0 : Nat} {k50 : Nat → Int32 → Int32 → Int32 → Int32 → St → Option (Int32 × St)} (hk50 : ∀ {l2 : Int32} {l3 : Int32} {l4 : Int32} {l5 : Int32} {S : St}, k50 t0 l2 l3 l4 l5 S = some q → Un [(25, 3), (27, 99), (32, 99), (t0 + 1, 99)] [] [] S q.2) {rc : Nat → Int32 → Int32 → St → Option (Int32 × St)} (hrc : ∀ {l2 : Int32} {l3 : Int32} {S : St} {q : Int32 × St}, rc t0 l2 l3 S = some q → Un [(25, 3), (27, 99), (32, 99), (t0 + 1, 99)] [] [] S q.2) {l2 : Int32} {l3 : Int32} {l4 : Int32} {l5 : Int32} {S : St} (h : FX4_look_127 k50 rc t0 l2 l3 l4 l5 S = some q) : Un [(25, 3), (27, 99), (32, 99), (t0 + 1, 99)] [] [] S q.2 := by
  unfold FX4_look_127 at h
  refine Un.trans ?_ (hk50 h)
  exact Un.refl _
set_option maxRecDepth 4000 in
theorem wX4_look_121 {q : Int32 × St} {t0 : Nat} {k50 : Nat → Int32 → Int32 → Int32 → Int32 → St → Option (Int32 × St)} (hk50 : ∀ {l2 : Int32} {l3 : Int32} {l4 : Int32} {l5 : Int32} {S : St}, k50 t0 l2 l3 l4 l5 S = some q → Un [(25, 3), (27, 99), (32, 99), (t0 + 1, 99)] [] [] S q.2) {rc : Nat → Int32 → Int32 → St → Option (Int32 × St)} (hrc : ∀ {l2 : Int32} {l3 : Int32} {S : St} {q : Int32 × St}, rc t0 l2 l3 S = some q → Un [(25, 3), (27, 99), (32, 99), (t0 + 1, 99)] [] [] S q.2) {l2 : Int32} {l3 : Int32} {l5 : Int32} {l7 : Int32} {S : St} (h : FX4_look_121 k50 rc t0 l2 l3 l5 l7 S = some q) : Un [(25, 3), (27, 99), (32, 99), (t0 + 1, 99)] [] [] S q.2 := by
  unfold FX4_look_121 at h
  refine Un.trans ?_ (wX4_look_127 hk50 hrc h)
  exact Un.refl _
set_option maxRecDepth 4000 in
theorem wX4_look_98 {q : Int32 × St} {t0 : Nat} {k50 : Nat → Int32 → Int32 → Int32 → Int32 → St → Option (Int32 × St)} (hk50 : ∀ {l2 : Int32} {l3 : Int32} {l4 : Int32} {l5 : Int32} {S : St}, k50 t0 l2 l3 l4 l5 S = some q → Un [(25, 3), (27, 99), (32, 99), (t0 + 1, 99)] [] [] S q.2) {rc : Nat → Int32 → Int32 → St → Option (Int32 × St)} (hrc : ∀ {l2 : Int32} {l3 : Int32} {S : St} {q : Int32 × St}, rc t0 l2 l3 S = some q → Un [(25, 3), (27, 99), (32, 99), (t0 + 1, 99)] [] [] S q.2) {l2 : Int32} {l3 : Int32} {l4 : Int32} {l5 : Int32} {s0 : Int32} {S : St} (h : FX4_look_98 k50 rc t0 l2 l3 l4 l5 s0 S = some q) : Un [(25, 3), (27, 99), (32, 99), (t0 + 1, 99)] [] [] S q.2 := by
  unfold FX4_look_98 at h
  refine cs_e h (fun _ h => ?_) (fun _ h => ?_)
  · skip
    refine Un.trans ?_ (wX4_look_127 hk50 hrc h)
    exact Un.refl _
  · skip
    refine cs_e h (fun _ h => ?_) (fun _ h => ?_)
    · skip
      refine Un.trans ?_ (wX4_look_121 hk50 hrc h)
      exact Un.refl _
    · skip
      refine cs_e h (fun _ h => ?_) (fun _ h => ?_)
      · skip
        refine Un.trans ?_ (wX4_look_127 hk50 hrc h)
        exact Un.refl _
      · skip
        refine Un.trans ?_ (wX4_look_121 hk50 hrc h)
        exact Un.refl _
set_option maxRecDepth 4000 in
theorem wX4_look_50 {q : Int32 × St} {t0 : Nat} {rc : Nat → Int32 → Int32 → St → Option (Int32 × St)} (hrc : ∀ {l2 : Int32} {l3 : Int32} {S : St} {q : Int32 × St}, rc t0 l2 l3 S = some q → Un [(25, 3), (27, 99), (32, 99), (t0 + 1, 99)] [] [] S q.2) : ∀ (n : Nat) {l2 : Int32} {l3 : Int32} {l4 : Int32} {l5 : Int32} {S : St}, FX4_look_50 rc n t0 l2 l3 l4 l5 S = some q → Un [(25, 3), (27, 99), (32, 99), (t0 + 1, 99)] [] [] S q.2 := by
  intro n
  induction n with
  | zero => intro _ _ _ _ _ h; cases h
  | succ n ih =>
    intro l2 l3 l4 l5 S h
    rw [FX4_look_50] at h
    refine cs_e h (fun _ h => ?_) (fun _ h => ?_)
    · skip
      obtain ⟨g9, h⟩ := gd_e h
      have h := Option.some.inj h
      subst h
      refine Un.nA ?_ (List.mem_of_getElem? (i := 3) rfl)
      exact Un.refl _
    · skip
      obtain ⟨q13, hq14, h⟩ := bd_e h
      obtain ⟨q17, hq18, h⟩ := bd_e h
      obtain ⟨q21, hq22, h⟩ := bd_e h
      refine cs_e h (fun _ h => ?_) (fun _ h => ?_)
      · skip
        refine Un.trans ?_ (wX4_look_98 (fun h => ih h) hrc h)
        refine Un.trans ?_ ((wX0_code hq22).mono (sub_k [] rfl) (sub_k [] rfl) (sub_k [] rfl))
        refine Un.trans ?_ ((wX0_hold hq18).mono (sub_k [0, 1, 2] rfl) (sub_k [] rfl) (sub_k [] rfl))
        refine Un.trans ?_ ((wX0_setLevels hq14).mono (sub_k [1] rfl) (sub_k [] rfl) (sub_k [] rfl))
        exact Un.refl _
      · skip
        obtain ⟨q26, hq27, h⟩ := bd_e h
        refine Un.trans ?_ (wX4_look_98 (fun h => ih h) hrc h)
        refine Un.trans ?_ (hrc hq27)
        refine Un.trans ?_ ((wX0_code hq22).mono (sub_k [] rfl) (sub_k [] rfl) (sub_k [] rfl))
        refine Un.trans ?_ ((wX0_hold hq18).mono (sub_k [0, 1, 2] rfl) (sub_k [] rfl) (sub_k [] rfl))
        refine Un.trans ?_ ((wX0_setLevels hq14).mono (sub_k [1] rfl) (sub_k [] rfl) (sub_k [] rfl))
        exact Un.refl _
set_option maxRecDepth 4000 in
theorem wX4_look_45 {q : Int32 × St} {t0 : Nat} {rc : Nat → Int32 → Int32 → St → Option (Int32 × St)} (hrc : ∀ {l2 : Int32} {l3 : Int32} {S : St} {q : Int32 × St}, rc t0 l2 l3 S = some q → Un [(25, 3), (27, 99), (32, 99), (t0 + 1, 99)] [] [] S q.2) {l2 : Int32} {l3 : Int32} {s0 : Int32} {S : St} (h : FX4_look_45 rc t0 l2 l3 s0 S = some q) : Un [(25, 3), (27, 99), (32, 99), (t0 + 1, 99)] [] [] S q.2 := by
  unfold FX4_look_45 at h
  refine Un.trans ?_ (wX4_look_50 hrc _ h)
  exact Un.refl _
set_option maxRecDepth 4000 in
theorem wX4_look {t0 : Nat} : ∀ (d : Nat) {l2 : Int32} {l3 : Int32} {S : St} {q : Int32 × St}, fX4_look d t0 l2 l3 S = some q → Un [(25, 3), (27, 99), (32, 99), (t0 + 1, 99)] [] [] S q.2 := by
  intro d
  induction d with
  | zero => intro _ _ _ _ h; cases h
  | succ d ih =>
    intro l2 l3 S q h
    rw [fX4_look] at h
    have hrc : ∀ {l2 : Int32} {l3 : Int32} {S : St} {q : Int32 × St}, (fun t0_ l2_ l3_ S_ => fX4_look d t0_ l2_ l3_ S_) t0 l2 l3 S = some q → Un [(25, 3), (27, 99), (32, 99), (t0 + 1, 99)] [] [] S q.2 := fun h => ih h
    refine cs_e h (fun _ h => ?_) (fun _ h => ?_)
    · skip
      obtain ⟨g2, h⟩ := gd_e h
      refine cs_e h (fun _ h => ?_) (fun _ h => ?_)
      · skip
        obtain ⟨g5, h⟩ := gd_e h
        refine cs_e h (fun _ h => ?_) (fun _ h => ?_)
        · skip
          refine Un.trans ?_ (wX4_look_45 hrc h)
          exact Un.refl _
        · skip
          refine Un.trans ?_ (wX4_look_45 hrc h)
          exact Un.refl _
      · skip
        obtain ⟨g7, h⟩ := gd_e h
        have h := Option.some.inj h
        subst h
        exact Un.refl _
    · skip
      have h := Option.some.inj h
      subst h
      exact Un.refl _
set_option maxRecDepth 4000 in
theorem wX4_standsUp_77 {q : Int32 × St}  {k22 : Nat → Int32 → Int32 → Int32 → Int32 → Int32 → St → Option (Int32 × St)} (hk22 : ∀ {t0 : Nat} {l2 : Int32} {l3 : Int32} {l4 : Int32} {l5 : Int32} {l6 : Int32} {S : St}, k22 t0 l2 l3 l4 l5 l6 S = some q → Un [(25, 3), (27, 99), (32, 99)] [] [] S q.2) {t0 : Nat} {l2 : Int32} {l4 : Int32} {l5 : Int32} {l6 : Int32} {s0 : Int32} {S : St} (h : FX4_standsUp_77 k22 t0 l2 l4 l5 l6 s0 S = some q) : Un [(25, 3), (27, 99), (32, 99)] [] [] S q.2 := by
  unfold FX4_standsUp_77 at h
  refine Un.trans ?_ (hk22 h)
  exact Un.refl _
set_option maxRecDepth 4000 in
theorem wX4_standsUp_84 {q : Int32 × St}  {k5 : Nat → Int32 → Int32 → Int32 → St → Option (Int32 × St)} (hk5 : ∀ {t0 : Nat} {l2 : Int32} {l3 : Int32} {l4 : Int32} {S : St}, k5 t0 l2 l3 l4 S = some q → Un [(25, 3), (27, 99), (32, 99)] [] [] S q.2) {t0 : Nat} {l2 : Int32} {l3 : Int32} {l4 : Int32} {S : St} (h : FX4_standsUp_84 k5 t0 l2 l3 l4 S = some q) : Un [(25, 3), (27, 99), (32, 99)] [] [] S q.2 := by
  unfold FX4_standsUp_84 at h
  refine Un.trans ?_ (hk5 h)
  exact Un.refl _
set_option maxRecDepth 4000 in
theorem wX4_standsUp_22 {q : Int32 × St}  {k5 : Nat → Int32 → Int32 → Int32 → St → Option (Int32 × St)} (hk5 : ∀ {t0 : Nat} {l2 : Int32} {l3 : Int32} {l4 : Int32} {S : St}, k5 t0 l2 l3 l4 S = some q → Un [(25, 3), (27, 99), (32, 99)] [] [] S q.2) : ∀ (n : Nat) {t0 : Nat} {l2 : Int32} {l3 : Int32} {l4 : Int32} {l5 : Int32} {l6 : Int32} {S : St}, FX4_standsUp_22 k5 n t0 l2 l3 l4 l5 l6 S = some q → Un [(25, 3), (27, 99), (32, 99)] [] [] S q.2 := by
  intro n
  induction n with
  | zero => intro _ _ _ _ _ _ _ h; cases h
  | succ n ih =>
    intro t0 l2 l3 l4 l5 l6 S h
    rw [FX4_standsUp_22] at h
    refine cs_e h (fun _ h => ?_) (fun _ h => ?_)
    · skip
      refine Un.trans ?_ (wX4_standsUp_84 hk5 h)
      exact Un.refl _
    · skip
      refine cs_e h (fun _ h => ?_) (fun _ h => ?_)
      · skip
        obtain ⟨q10, hq11, h⟩ := bd_e h
        obtain ⟨q14, hq15, h⟩ := bd_e h
        obtain ⟨q18, hq19, h⟩ := bd_e h
        obtain ⟨g20, h⟩ := gd_e h
        obtain ⟨g21, h⟩ := gd_e h
        refine cs_e h (fun _ h => ?_) (fun _ h => ?_)
        · skip
          refine Un.trans ?_ (wX4_standsUp_77 (fun h => ih h) h)
          refine Un.trans ?_ ((wX0_code hq19).mono (sub_k [] rfl) (sub_k [] rfl) (sub_k [] rfl))
          refine Un.trans ?_ ((wX0_hold hq15).mono (sub_k [0, 1, 2] rfl) (sub_k [] rfl) (sub_k [] rfl))
          refine Un.trans ?_ ((wX0_setLevels hq11).mono (sub_k [1] rfl) (sub_k [] rfl) (sub_k [] rfl))
          exact Un.refl _
        · skip
          refine Un.trans ?_ (wX4_standsUp_77 (fun h => ih h) h)
          refine Un.trans ?_ ((wX0_code hq19).mono (sub_k [] rfl) (sub_k [] rfl) (sub_k [] rfl))
          refine Un.trans ?_ ((wX0_hold hq15).mono (sub_k [0, 1, 2] rfl) (sub_k [] rfl) (sub_k [] rfl))
          refine Un.trans ?_ ((wX0_setLevels hq11).mono (sub_k [1] rfl) (sub_k [] rfl) (sub_k [] rfl))
          exact Un.refl _
      · skip
        refine Un.trans ?_ (wX4_standsUp_84 hk5 h)
        exact Un.refl _
set_option maxRecDepth 4000 in
theorem wX4_standsUp_5 {q : Int32 × St}  : ∀ (n : Nat) {t0 : Nat} {l2 : Int32} {l3 : Int32} {l4 : Int32} {S : St}, FX4_standsUp_5 n t0 l2 l3 l4 S = some q → Un [(25, 3), (27, 99), (32, 99)] [] [] S q.2 := by
  intro n
  induction n with
  | zero => intro _ _ _ _ _ h; cases h
  | succ n ih =>
    intro t0 l2 l3 l4 S h
    rw [FX4_standsUp_5] at h
    refine cs_e h (fun _ h => ?_) (fun _ h => ?_)
    · skip
      have h := Option.some.inj h
      subst h
      exact Un.refl _
    · skip
      obtain ⟨q4, hq5, h⟩ := bd_e h
      refine Un.trans ?_ (wX4_standsUp_22 (fun h => ih h) _ h)
      refine Un.trans ?_ ((wX0_code hq5).mono (sub_k [] rfl) (sub_k [] rfl) (sub_k [] rfl))
      exact Un.refl _
set_option maxRecDepth 4000 in
theorem wX4_standsUp {q : Int32 × St} {t0 : Nat} {l2 : Int32} {S : St} (h : fX4_standsUp t0 l2 S = some q) : Un [(25, 3), (27, 99), (32, 99)] [] [] S q.2 := by
  unfold fX4_standsUp at h
  refine Un.trans ?_ (wX4_standsUp_5  _ h)
  exact Un.refl _
set_option maxRecDepth 4000 in
theorem wX6_rises_16 {q : Int32 × St}   {S : St} (h : FX6_rises_16  S = some q) : Un [(25, 0), (25, 1), (25, 2), (25, 3), (26, 99), (27, 99), (28, 99), (29, 99), (30, 99), (31, 99)] [] [] S q.2 := by
  unfold FX6_rises_16 at h
  have h := Option.some.inj h
  subst h
  exact Un.refl _
set_option maxRecDepth 4000 in
theorem wX6_rises {q : Int32 × St} {l1 : Int32} {l2 : Int32} {S : St} (h : fX6_rises l1 l2 S = some q) : Un [(25, 0), (25, 1), (25, 2), (25, 3), (26, 99), (27, 99), (28, 99), (29, 99), (30, 99), (31, 99)] [] [] S q.2 := by
  unfold fX6_rises at h
  obtain ⟨q3, hq4, h⟩ := bd_e h
  refine cs_e h (fun _ h => ?_) (fun _ h => ?_)
  · skip
    refine Un.trans ?_ (wX6_rises_16  h)
    refine Un.trans ?_ ((wX6_isPupil hq4).mono (sub_k [] rfl) (sub_k [] rfl) (sub_k [] rfl))
    exact Un.refl _
  · skip
    obtain ⟨q8, hq9, h⟩ := bd_e h
    refine cs_e h (fun _ h => ?_) (fun _ h => ?_)
    · skip
      refine Un.trans ?_ (wX6_rises_16  h)
      refine Un.trans ?_ ((wX6_isThing hq9).mono (sub_k [] rfl) (sub_k [] rfl) (sub_k [] rfl))
      refine Un.trans ?_ ((wX6_isPupil hq4).mono (sub_k [] rfl) (sub_k [] rfl) (sub_k [] rfl))
      exact Un.refl _
    · skip
      obtain ⟨q13, hq14, h⟩ := bd_e h
      obtain ⟨q17, hq18, h⟩ := bd_e h
      have h := Option.some.inj h
      subst h
      refine Un.trans ?_ ((wX0_room hq18).mono (sub_k [] rfl) (sub_k [] rfl) (sub_k [] rfl))
      refine Un.trans ?_ ((wX6_sitAll hq14).mono (sub_k [0, 1, 2, 3, 4, 5, 6, 7, 8, 9] rfl) (sub_k [] rfl) (sub_k [] rfl))
      refine Un.trans ?_ ((wX6_isThing hq9).mono (sub_k [] rfl) (sub_k [] rfl) (sub_k [] rfl))
      refine Un.trans ?_ ((wX6_isPupil hq4).mono (sub_k [] rfl) (sub_k [] rfl) (sub_k [] rfl))
      exact Un.refl _
set_option maxRecDepth 4000 in
theorem wX6_lesson_16 {q : Int32 × St}   {S : St} (h : FX6_lesson_16  S = some q) : Un [(15, 2), (16, 99), (25, 0), (25, 1), (25, 2), (25, 3), (26, 99), (27, 99), (28, 99), (29, 99), (30, 99), (31, 99), (32, 99)] [] [] S q.2 := by
  unfold FX6_lesson_16 at h
  have h := Option.some.inj h
  subst h
  exact Un.refl _
set_option maxRecDepth 4000 in
theorem wX6_lesson {q : Int32 × St} {l1 : Int32} {l2 : Int32} {l3 : Int32} {S : St} (h : fX6_lesson l1 l2 l3 S = some q) : Un [(15, 2), (16, 99), (25, 0), (25, 1), (25, 2), (25, 3), (26, 99), (27, 99), (28, 99), (29, 99), (30, 99), (31, 99), (32, 99)] [] [] S q.2 := by
  unfold fX6_lesson at h
  obtain ⟨q3, hq4, h⟩ := bd_e h
  refine cs_e h (fun _ h => ?_) (fun _ h => ?_)
  · skip
    refine Un.trans ?_ (wX6_lesson_16  h)
    refine Un.trans ?_ ((wX6_isPupil hq4).mono (sub_k [] rfl) (sub_k [] rfl) (sub_k [] rfl))
    exact Un.refl _
  · skip
    obtain ⟨q8, hq9, h⟩ := bd_e h
    refine cs_e h (fun _ h => ?_) (fun _ h => ?_)
    · skip
      refine Un.trans ?_ (wX6_lesson_16  h)
      refine Un.trans ?_ ((wX6_isThing hq9).mono (sub_k [] rfl) (sub_k [] rfl) (sub_k [] rfl))
      refine Un.trans ?_ ((wX6_isPupil hq4).mono (sub_k [] rfl) (sub_k [] rfl) (sub_k [] rfl))
      exact Un.refl _
    · skip
      obtain ⟨q13, hq14, h⟩ := bd_e h
      obtain ⟨q17, hq18, h⟩ := bd_e h
      obtain ⟨q21, hq22, h⟩ := bd_e h
      have h := Option.some.inj h
      subst h
      refine Un.trans ?_ ((wX0_leave hq22).mono (sub_k [0, 1] rfl) (sub_k [] rfl) (sub_k [] rfl))
      refine Un.trans ?_ ((wX0_hold hq18).mono (sub_k [5, 7, 12] rfl) (sub_k [] rfl) (sub_k [] rfl))
      refine Un.trans ?_ ((wX6_sitAll hq14).mono (sub_k [2, 3, 4, 5, 6, 7, 8, 9, 10, 11] rfl) (sub_k [] rfl) (sub_k [] rfl))
      refine Un.trans ?_ ((wX6_isThing hq9).mono (sub_k [] rfl) (sub_k [] rfl) (sub_k [] rfl))
      refine Un.trans ?_ ((wX6_isPupil hq4).mono (sub_k [] rfl) (sub_k [] rfl) (sub_k [] rfl))
      exact Un.refl _
set_option maxRecDepth 4000 in
theorem wX6_exact_16 {q : Int32 × St}   {S : St} (h : FX6_exact_16  S = some q) : Un [(25, 0), (25, 1), (25, 2), (25, 3), (26, 99), (27, 99), (28, 99), (29, 99), (30, 99), (31, 99)] [] [] S q.2 := by
  unfold FX6_exact_16 at h
  have h := Option.some.inj h
  subst h
  exact Un.refl _
set_option maxRecDepth 4000 in
theorem wX6_exact {q : Int32 × St} {l1 : Int32} {l2 : Int32} {l3 : Int32} {S : St} (h : fX6_exact l1 l2 l3 S = some q) : Un [(25, 0), (25, 1), (25, 2), (25, 3), (26, 99), (27, 99), (28, 99), (29, 99), (30, 99), (31, 99)] [] [] S q.2 := by
  unfold fX6_exact at h
  obtain ⟨q3, hq4, h⟩ := bd_e h
  refine cs_e h (fun _ h => ?_) (fun _ h => ?_)
  · skip
    refine Un.trans ?_ (wX6_exact_16  h)
    refine Un.trans ?_ ((wX6_isPupil hq4).mono (sub_k [] rfl) (sub_k [] rfl) (sub_k [] rfl))
    exact Un.refl _
  · skip
    obtain ⟨q8, hq9, h⟩ := bd_e h
    refine cs_e h (fun _ h => ?_) (fun _ h => ?_)
    · skip
      refine Un.trans ?_ (wX6_exact_16  h)
      refine Un.trans ?_ ((wX6_isThing hq9).mono (sub_k [] rfl) (sub_k [] rfl) (sub_k [] rfl))
      refine Un.trans ?_ ((wX6_isPupil hq4).mono (sub_k [] rfl) (sub_k [] rfl) (sub_k [] rfl))
      exact Un.refl _
    · skip
      obtain ⟨q13, hq14, h⟩ := bd_e h
      refine cs_e h (fun _ h => ?_) (fun _ h => ?_)
      · skip
        obtain ⟨q17, hq18, h⟩ := bd_e h
        have h := Option.some.inj h
        subst h
        refine Un.trans ?_ ((wX0_rightChance hq18).mono (sub_k [] rfl) (sub_k [] rfl) (sub_k [] rfl))
        refine Un.trans ?_ ((wX6_sitAll hq14).mono (sub_k [0, 1, 2, 3, 4, 5, 6, 7, 8, 9] rfl) (sub_k [] rfl) (sub_k [] rfl))
        refine Un.trans ?_ ((wX6_isThing hq9).mono (sub_k [] rfl) (sub_k [] rfl) (sub_k [] rfl))
        refine Un.trans ?_ ((wX6_isPupil hq4).mono (sub_k [] rfl) (sub_k [] rfl) (sub_k [] rfl))
        exact Un.refl _
      · skip
        refine cs_e h (fun _ h => ?_) (fun _ h => ?_)
        · skip
          obtain ⟨q22, hq23, h⟩ := bd_e h
          have h := Option.some.inj h
          subst h
          refine Un.trans ?_ ((wX0_someNo hq23).mono (sub_k [] rfl) (sub_k [] rfl) (sub_k [] rfl))
          refine Un.trans ?_ ((wX6_sitAll hq14).mono (sub_k [0, 1, 2, 3, 4, 5, 6, 7, 8, 9] rfl) (sub_k [] rfl) (sub_k [] rfl))
          refine Un.trans ?_ ((wX6_isThing hq9).mono (sub_k [] rfl) (sub_k [] rfl) (sub_k [] rfl))
          refine Un.trans ?_ ((wX6_isPupil hq4).mono (sub_k [] rfl) (sub_k [] rfl) (sub_k [] rfl))
          exact Un.refl _
        · skip
          refine cs_e h (fun _ h => ?_) (fun _ h => ?_)
          · skip
            obtain ⟨q27, hq28, h⟩ := bd_e h
            have h := Option.some.inj h
            subst h
            refine Un.trans ?_ ((wX0_someNo hq28).mono (sub_k [] rfl) (sub_k [] rfl) (sub_k [] rfl))
            refine Un.trans ?_ ((wX6_sitAll hq14).mono (sub_k [0, 1, 2, 3, 4, 5, 6, 7, 8, 9] rfl) (sub_k [] rfl) (sub_k [] rfl))
            refine Un.trans ?_ ((wX6_isThing hq9).mono (sub_k [] rfl) (sub_k [] rfl) (sub_k [] rfl))
            refine Un.trans ?_ ((wX6_isPupil hq4).mono (sub_k [] rfl) (sub_k [] rfl) (sub_k [] rfl))
            exact Un.refl _
          · skip
            refine cs_e h (fun _ h => ?_) (fun _ h => ?_)
            · skip
              obtain ⟨q32, hq33, h⟩ := bd_e h
              have h := Option.some.inj h
              subst h
              refine Un.trans ?_ ((wX0_mean hq33).mono (sub_k [] rfl) (sub_k [] rfl) (sub_k [] rfl))
              refine Un.trans ?_ ((wX6_sitAll hq14).mono (sub_k [0, 1, 2, 3, 4, 5, 6, 7, 8, 9] rfl) (sub_k [] rfl) (sub_k [] rfl))
              refine Un.trans ?_ ((wX6_isThing hq9).mono (sub_k [] rfl) (sub_k [] rfl) (sub_k [] rfl))
              refine Un.trans ?_ ((wX6_isPupil hq4).mono (sub_k [] rfl) (sub_k [] rfl) (sub_k [] rfl))
              exact Un.refl _
            · skip
              have h := Option.some.inj h
              subst h
              refine Un.trans ?_ ((wX6_sitAll hq14).mono (sub_k [0, 1, 2, 3, 4, 5, 6, 7, 8, 9] rfl) (sub_k [] rfl) (sub_k [] rfl))
              refine Un.trans ?_ ((wX6_isThing hq9).mono (sub_k [] rfl) (sub_k [] rfl) (sub_k [] rfl))
              refine Un.trans ?_ ((wX6_isPupil hq4).mono (sub_k [] rfl) (sub_k [] rfl) (sub_k [] rfl))
              exact Un.refl _
set_option maxRecDepth 4000 in
theorem wX6_up_16 {q : Int32 × St}   {S : St} (h : FX6_up_16  S = some q) : Un [(25, 0), (25, 1), (25, 2), (25, 3), (26, 99), (27, 99), (28, 99), (29, 99), (30, 99), (31, 99)] [] [] S q.2 := by
  unfold FX6_up_16 at h
  have h := Option.some.inj h
  subst h
  exact Un.refl _
set_option maxRecDepth 4000 in
theorem wX6_up {q : Int32 × St} {l1 : Int32} {l2 : Int32} {S : St} (h : fX6_up l1 l2 S = some q) : Un [(25, 0), (25, 1), (25, 2), (25, 3), (26, 99), (27, 99), (28, 99), (29, 99), (30, 99), (31, 99)] [] [] S q.2 := by
  unfold fX6_up at h
  obtain ⟨q3, hq4, h⟩ := bd_e h
  refine cs_e h (fun _ h => ?_) (fun _ h => ?_)
  · skip
    refine Un.trans ?_ (wX6_up_16  h)
    refine Un.trans ?_ ((wX6_isRule hq4).mono (sub_k [] rfl) (sub_k [] rfl) (sub_k [] rfl))
    exact Un.refl _
  · skip
    obtain ⟨q8, hq9, h⟩ := bd_e h
    refine cs_e h (fun _ h => ?_) (fun _ h => ?_)
    · skip
      refine Un.trans ?_ (wX6_up_16  h)
      refine Un.trans ?_ ((wX6_isThing hq9).mono (sub_k [] rfl) (sub_k [] rfl) (sub_k [] rfl))
      refine Un.trans ?_ ((wX6_isRule hq4).mono (sub_k [] rfl) (sub_k [] rfl) (sub_k [] rfl))
      exact Un.refl _
    · skip
      obtain ⟨g11, h⟩ := gd_e h
      refine cs_e h (fun _ h => ?_) (fun _ h => ?_)
      · skip
        obtain ⟨q15, hq16, h⟩ := bd_e h
        obtain ⟨q19, hq20, h⟩ := bd_e h
        have h := Option.some.inj h
        subst h
        refine Un.trans ?_ ((wX0_chosen hq20).mono (sub_k [] rfl) (sub_k [] rfl) (sub_k [] rfl))
        refine Un.trans ?_ ((wX6_sitAll hq16).mono (sub_k [0, 1, 2, 3, 4, 5, 6, 7, 8, 9] rfl) (sub_k [] rfl) (sub_k [] rfl))
        refine Un.trans ?_ ((wX6_isThing hq9).mono (sub_k [] rfl) (sub_k [] rfl) (sub_k [] rfl))
        refine Un.trans ?_ ((wX6_isRule hq4).mono (sub_k [] rfl) (sub_k [] rfl) (sub_k [] rfl))
        exact Un.refl _
      · skip
        have h := Option.some.inj h
        subst h
        refine Un.trans ?_ ((wX6_isThing hq9).mono (sub_k [] rfl) (sub_k [] rfl) (sub_k [] rfl))
        refine Un.trans ?_ ((wX6_isRule hq4).mono (sub_k [] rfl) (sub_k [] rfl) (sub_k [] rfl))
        exact Un.refl _
set_option maxRecDepth 4000 in
theorem wX6_run_16 {q : Int32 × St}   {S : St} (h : FX6_run_16  S = some q) : Un [(15, 2), (15, 3), (16, 99), (25, 0), (25, 1), (25, 2), (25, 3), (26, 99), (27, 99), (28, 99), (29, 99), (30, 99), (31, 99), (32, 99)] [] [] S q.2 := by
  unfold FX6_run_16 at h
  have h := Option.some.inj h
  subst h
  exact Un.refl _
set_option maxRecDepth 4000 in
theorem wX6_run_30 {q : Int32 × St}   {S : St} (h : FX6_run_30  S = some q) : Un [(15, 2), (15, 3), (16, 99), (25, 0), (25, 1), (25, 2), (25, 3), (26, 99), (27, 99), (28, 99), (29, 99), (30, 99), (31, 99), (32, 99)] [] [] S q.2 := by
  unfold FX6_run_30 at h
  have h := Option.some.inj h
  subst h
  exact Un.refl _
set_option maxRecDepth 4000 in
theorem wX6_run_112 {q : Int32 × St}  {k55 : Int32 → Int32 → Int32 → Int32 → Int32 → St → Option (Int32 × St)} (hk55 : ∀ {l1 : Int32} {l2 : Int32} {l3 : Int32} {l4 : Int32} {l5 : Int32} {S : St}, k55 l1 l2 l3 l4 l5 S = some q → Un [(15, 2), (15, 3), (16, 99), (25, 0), (25, 1), (25, 2), (25, 3), (26, 99), (27, 99), (28, 99), (29, 99), (30, 99), (31, 99), (32, 99)] [] [] S q.2) {l1 : Int32} {l2 : Int32} {l3 : Int32} {l4 : Int32} {l5 : Int32} {S : St} (h : FX6_run_112 k55 l1 l2 l3 l4 l5 S = some q) : Un [(15, 2), (15, 3), (16, 99), (25, 0), (25, 1), (25, 2), (25, 3), (26, 99), (27, 99), (28, 99), (29, 99), (30, 99), (31, 99), (32, 99)] [] [] S q.2 := by
  unfold FX6_run_112 at h
  refine Un.trans ?_ (hk55 h)
  exact Un.refl _
set_option maxRecDepth 4000 in
theorem wX6_run_55 {q : Int32 × St}  : ∀ (n : Nat) {l1 : Int32} {l2 : Int32} {l3 : Int32} {l4 : Int32} {l5 : Int32} {S : St}, FX6_run_55 n l1 l2 l3 l4 l5 S = some q → Un [(15, 2), (15, 3), (16, 99), (25, 0), (25, 1), (25, 2), (25, 3), (26, 99), (27, 99), (28, 99), (29, 99), (30, 99), (31, 99), (32, 99)] [] [] S q.2 := by
  intro n
  induction n with
  | zero => intro _ _ _ _ _ _ h; cases h
  | succ n ih =>
    intro l1 l2 l3 l4 l5 S h
    rw [FX6_run_55] at h
    refine cs_e h (fun _ h => ?_) (fun _ h => ?_)
    · skip
      obtain ⟨q22, hq23, h⟩ := bd_e h
      obtain ⟨q26, hq27, h⟩ := bd_e h
      have h := Option.some.inj h
      subst h
      refine Un.trans ?_ ((wX0_knowing hq27).mono (sub_k [] rfl) (sub_k [] rfl) (sub_k [] rfl))
      refine Un.trans ?_ ((wX0_leave hq23).mono (sub_k [0, 2] rfl) (sub_k [] rfl) (sub_k [] rfl))
      exact Un.refl _
    · skip
      obtain ⟨q30, hq31, h⟩ := bd_e h
      obtain ⟨q34, hq35, h⟩ := bd_e h
      refine cs_e h (fun _ h => ?_) (fun _ h => ?_)
      · skip
        obtain ⟨q39, hq40, h⟩ := bd_e h
        refine Un.trans ?_ (wX6_run_112 (fun h => ih h) h)
        refine Un.nS ?_ (List.mem_of_getElem? (i := 1) rfl)
        refine Un.trans ?_ ((wX0_after hq40).mono (sub_k [] rfl) (sub_k [] rfl) (sub_k [] rfl))
        refine Un.trans ?_ ((wX0_hold hq35).mono (sub_k [6, 8, 13] rfl) (sub_k [] rfl) (sub_k [] rfl))
        refine Un.trans ?_ ((wX0_chosen hq31).mono (sub_k [] rfl) (sub_k [] rfl) (sub_k [] rfl))
        exact Un.refl _
      · skip
        refine Un.trans ?_ (wX6_run_112 (fun h => ih h) h)
        refine Un.trans ?_ ((wX0_hold hq35).mono (sub_k [6, 8, 13] rfl) (sub_k [] rfl) (sub_k [] rfl))
        refine Un.trans ?_ ((wX0_chosen hq31).mono (sub_k [] rfl) (sub_k [] rfl) (sub_k [] rfl))
        exact Un.refl _
set_option maxRecDepth 4000 in
theorem wX6_run {q : Int32 × St} {l1 : Int32} {l2 : Int32} {l3 : Int32} {l4 : Int32} {S : St} (h : fX6_run l1 l2 l3 l4 S = some q) : Un [(15, 2), (15, 3), (16, 99), (25, 0), (25, 1), (25, 2), (25, 3), (26, 99), (27, 99), (28, 99), (29, 99), (30, 99), (31, 99), (32, 99)] [] [] S q.2 := by
  unfold fX6_run at h
  obtain ⟨q3, hq4, h⟩ := bd_e h
  refine cs_e h (fun _ h => ?_) (fun _ h => ?_)
  · skip
    refine Un.trans ?_ (wX6_run_16  h)
    refine Un.trans ?_ ((wX6_isRule hq4).mono (sub_k [] rfl) (sub_k [] rfl) (sub_k [] rfl))
    exact Un.refl _
  · skip
    obtain ⟨q8, hq9, h⟩ := bd_e h
    refine cs_e h (fun _ h => ?_) (fun _ h => ?_)
    · skip
      refine Un.trans ?_ (wX6_run_16  h)
      refine Un.trans ?_ ((wX6_isThing hq9).mono (sub_k [] rfl) (sub_k [] rfl) (sub_k [] rfl))
      refine Un.trans ?_ ((wX6_isRule hq4).mono (sub_k [] rfl) (sub_k [] rfl) (sub_k [] rfl))
      exact Un.refl _
    · skip
      refine cs_e h (fun _ h => ?_) (fun _ h => ?_)
      · skip
        refine Un.trans ?_ (wX6_run_30  h)
        refine Un.trans ?_ ((wX6_isThing hq9).mono (sub_k [] rfl) (sub_k [] rfl) (sub_k [] rfl))
        refine Un.trans ?_ ((wX6_isRule hq4).mono (sub_k [] rfl) (sub_k [] rfl) (sub_k [] rfl))
        exact Un.refl _
      · skip
        refine cs_e h (fun _ h => ?_) (fun _ h => ?_)
        · skip
          obtain ⟨g13, h⟩ := gd_e h
          refine cs_e h (fun _ h => ?_) (fun _ h => ?_)
          · skip
            obtain ⟨q17, hq18, h⟩ := bd_e h
            refine Un.trans ?_ (wX6_run_55  _ h)
            refine Un.trans ?_ ((wX6_sitAll hq18).mono (sub_k [3, 4, 5, 6, 7, 8, 9, 10, 11, 12] rfl) (sub_k [] rfl) (sub_k [] rfl))
            refine Un.trans ?_ ((wX6_isThing hq9).mono (sub_k [] rfl) (sub_k [] rfl) (sub_k [] rfl))
            refine Un.trans ?_ ((wX6_isRule hq4).mono (sub_k [] rfl) (sub_k [] rfl) (sub_k [] rfl))
            exact Un.refl _
          · skip
            have h := Option.some.inj h
            subst h
            refine Un.trans ?_ ((wX6_isThing hq9).mono (sub_k [] rfl) (sub_k [] rfl) (sub_k [] rfl))
            refine Un.trans ?_ ((wX6_isRule hq4).mono (sub_k [] rfl) (sub_k [] rfl) (sub_k [] rfl))
            exact Un.refl _
        · skip
          refine Un.trans ?_ (wX6_run_30  h)
          refine Un.trans ?_ ((wX6_isThing hq9).mono (sub_k [] rfl) (sub_k [] rfl) (sub_k [] rfl))
          refine Un.trans ?_ ((wX6_isRule hq4).mono (sub_k [] rfl) (sub_k [] rfl) (sub_k [] rfl))
          exact Un.refl _
set_option maxRecDepth 4000 in
theorem wX6_master {q : Int32 × St} {l1 : Int32} {S : St} (h : fX6_master l1 S = some q) : Un [(15, 2), (16, 99), (25, 0), (25, 1), (25, 2), (25, 3), (26, 99), (27, 99), (28, 99), (29, 99), (30, 99), (31, 99)] [] [] S q.2 := by
  unfold fX6_master at h
  obtain ⟨q3, hq4, h⟩ := bd_e h
  refine cs_e h (fun _ h => ?_) (fun _ h => ?_)
  · skip
    have h := Option.some.inj h
    subst h
    refine Un.trans ?_ ((wX6_isThing hq4).mono (sub_k [] rfl) (sub_k [] rfl) (sub_k [] rfl))
    exact Un.refl _
  · skip
    obtain ⟨g6, h⟩ := gd_e h
    refine cs_e h (fun _ h => ?_) (fun _ h => ?_)
    · skip
      obtain ⟨q10, hq11, h⟩ := bd_e h
      obtain ⟨q14, hq15, h⟩ := bd_e h
      obtain ⟨q18, hq19, h⟩ := bd_e h
      have h := Option.some.inj h
      subst h
      refine Un.trans ?_ ((wX0_leave hq19).mono (sub_k [0, 1] rfl) (sub_k [] rfl) (sub_k [] rfl))
      refine Un.trans ?_ ((wX0_tell hq15).mono (sub_k [7] rfl) (sub_k [] rfl) (sub_k [] rfl))
      refine Un.trans ?_ ((wX6_sitAll hq11).mono (sub_k [2, 3, 4, 5, 6, 7, 8, 9, 10, 11] rfl) (sub_k [] rfl) (sub_k [] rfl))
      refine Un.trans ?_ ((wX6_isThing hq4).mono (sub_k [] rfl) (sub_k [] rfl) (sub_k [] rfl))
      exact Un.refl _
    · skip
      have h := Option.some.inj h
      subst h
      refine Un.trans ?_ ((wX6_isThing hq4).mono (sub_k [] rfl) (sub_k [] rfl) (sub_k [] rfl))
      exact Un.refl _
set_option maxRecDepth 4000 in
theorem wX6_hours_16 {q : Int32 × St}   {S : St} (h : FX6_hours_16  S = some q) : Un [(25, 0), (25, 1), (25, 2), (25, 3), (26, 99), (27, 99), (28, 99), (29, 99), (30, 99), (31, 99), (32, 99)] [] [] S q.2 := by
  unfold FX6_hours_16 at h
  have h := Option.some.inj h
  subst h
  exact Un.refl _
set_option maxRecDepth 4000 in
theorem wX6_hours_49 {q : Int32 × St}  : ∀ (n : Nat) {l1 : Int32} {l3 : Int32} {l4 : Int32} {S : St}, FX6_hours_49 n l1 l3 l4 S = some q → Un [(25, 0), (25, 1), (25, 2), (25, 3), (26, 99), (27, 99), (28, 99), (29, 99), (30, 99), (31, 99), (32, 99)] [] [] S q.2 := by
  intro n
  induction n with
  | zero => intro _ _ _ _ h; cases h
  | succ n ih =>
    intro l1 l3 l4 S h
    rw [FX6_hours_49] at h
    refine cs_e h (fun _ h => ?_) (fun _ h => ?_)
    · skip
      have h := Option.some.inj h
      subst h
      exact Un.refl _
    · skip
      obtain ⟨q21, hq22, h⟩ := bd_e h
      refine cs_e h (fun _ h => ?_) (fun _ h => ?_)
      · skip
        have h := Option.some.inj h
        subst h
        refine Un.trans ?_ ((wX0_knowing hq22).mono (sub_k [] rfl) (sub_k [] rfl) (sub_k [] rfl))
        exact Un.refl _
      · skip
        obtain ⟨q26, hq27, h⟩ := bd_e h
        obtain ⟨q30, hq31, h⟩ := bd_e h
        obtain ⟨q34, hq35, h⟩ := bd_e h
        refine Un.trans ?_ (ih h)
        refine Un.trans ?_ ((wX0_after hq35).mono (sub_k [] rfl) (sub_k [] rfl) (sub_k [] rfl))
        refine Un.trans ?_ ((wX0_hold hq31).mono (sub_k [3, 5, 10] rfl) (sub_k [] rfl) (sub_k [] rfl))
        refine Un.trans ?_ ((wX0_chosen hq27).mono (sub_k [] rfl) (sub_k [] rfl) (sub_k [] rfl))
        refine Un.trans ?_ ((wX0_knowing hq22).mono (sub_k [] rfl) (sub_k [] rfl) (sub_k [] rfl))
        exact Un.refl _
set_option maxRecDepth 4000 in
theorem wX6_hours {q : Int32 × St} {l1 : Int32} {l2 : Int32} {S : St} (h : fX6_hours l1 l2 S = some q) : Un [(25, 0), (25, 1), (25, 2), (25, 3), (26, 99), (27, 99), (28, 99), (29, 99), (30, 99), (31, 99), (32, 99)] [] [] S q.2 := by
  unfold fX6_hours at h
  obtain ⟨q3, hq4, h⟩ := bd_e h
  refine cs_e h (fun _ h => ?_) (fun _ h => ?_)
  · skip
    refine Un.trans ?_ (wX6_hours_16  h)
    refine Un.trans ?_ ((wX6_isRule hq4).mono (sub_k [] rfl) (sub_k [] rfl) (sub_k [] rfl))
    exact Un.refl _
  · skip
    obtain ⟨q8, hq9, h⟩ := bd_e h
    refine cs_e h (fun _ h => ?_) (fun _ h => ?_)
    · skip
      refine Un.trans ?_ (wX6_hours_16  h)
      refine Un.trans ?_ ((wX6_isThing hq9).mono (sub_k [] rfl) (sub_k [] rfl) (sub_k [] rfl))
      refine Un.trans ?_ ((wX6_isRule hq4).mono (sub_k [] rfl) (sub_k [] rfl) (sub_k [] rfl))
      exact Un.refl _
    · skip
      obtain ⟨g11, h⟩ := gd_e h
      refine cs_e h (fun _ h => ?_) (fun _ h => ?_)
      · skip
        obtain ⟨q15, hq16, h⟩ := bd_e h
        refine Un.trans ?_ (wX6_hours_49  _ h)
        refine Un.trans ?_ ((wX6_sitAll hq16).mono (sub_k [0, 1, 2, 3, 4, 5, 6, 7, 8, 9] rfl) (sub_k [] rfl) (sub_k [] rfl))
        refine Un.trans ?_ ((wX6_isThing hq9).mono (sub_k [] rfl) (sub_k [] rfl) (sub_k [] rfl))
        refine Un.trans ?_ ((wX6_isRule hq4).mono (sub_k [] rfl) (sub_k [] rfl) (sub_k [] rfl))
        exact Un.refl _
      · skip
        have h := Option.some.inj h
        subst h
        refine Un.trans ?_ ((wX6_isThing hq9).mono (sub_k [] rfl) (sub_k [] rfl) (sub_k [] rfl))
        refine Un.trans ?_ ((wX6_isRule hq4).mono (sub_k [] rfl) (sub_k [] rfl) (sub_k [] rfl))
        exact Un.refl _
set_option maxRecDepth 4000 in
theorem wX6_mastered_32 {q : Int32 × St}  : ∀ (n : Nat) {l2 : Int32} {S : St}, FX6_mastered_32 n l2 S = some q → Un [(25, 0), (25, 1), (25, 2), (25, 3), (26, 99), (27, 99), (28, 99), (29, 99), (30, 99), (31, 99)] [] [] S q.2 := by
  intro n
  induction n with
  | zero => intro _ _ h; cases h
  | succ n ih =>
    intro l2 S h
    rw [FX6_mastered_32] at h
    refine cs_e h (fun _ h => ?_) (fun _ h => ?_)
    · skip
      have h := Option.some.inj h
      subst h
      exact Un.refl _
    · skip
      obtain ⟨q15, hq16, h⟩ := bd_e h
      refine cs_e h (fun _ h => ?_) (fun _ h => ?_)
      · skip
        have h := Option.some.inj h
        subst h
        refine Un.trans ?_ ((wX0_knowing hq16).mono (sub_k [] rfl) (sub_k [] rfl) (sub_k [] rfl))
        exact Un.refl _
      · skip
        obtain ⟨q20, hq21, h⟩ := bd_e h
        refine Un.trans ?_ (ih h)
        refine Un.trans ?_ ((wX0_tell hq21).mono (sub_k [5] rfl) (sub_k [] rfl) (sub_k [] rfl))
        refine Un.trans ?_ ((wX0_knowing hq16).mono (sub_k [] rfl) (sub_k [] rfl) (sub_k [] rfl))
        exact Un.refl _
set_option maxRecDepth 4000 in
theorem wX6_mastered {q : Int32 × St} {l1 : Int32} {S : St} (h : fX6_mastered l1 S = some q) : Un [(25, 0), (25, 1), (25, 2), (25, 3), (26, 99), (27, 99), (28, 99), (29, 99), (30, 99), (31, 99)] [] [] S q.2 := by
  unfold fX6_mastered at h
  obtain ⟨q3, hq4, h⟩ := bd_e h
  refine cs_e h (fun _ h => ?_) (fun _ h => ?_)
  · skip
    have h := Option.some.inj h
    subst h
    refine Un.trans ?_ ((wX6_isThing hq4).mono (sub_k [] rfl) (sub_k [] rfl) (sub_k [] rfl))
    exact Un.refl _
  · skip
    obtain ⟨g6, h⟩ := gd_e h
    refine cs_e h (fun _ h => ?_) (fun _ h => ?_)
    · skip
      obtain ⟨q10, hq11, h⟩ := bd_e h
      refine Un.trans ?_ (wX6_mastered_32  _ h)
      refine Un.trans ?_ ((wX6_sitAll hq11).mono (sub_k [0, 1, 2, 3, 4, 5, 6, 7, 8, 9] rfl) (sub_k [] rfl) (sub_k [] rfl))
      refine Un.trans ?_ ((wX6_isThing hq4).mono (sub_k [] rfl) (sub_k [] rfl) (sub_k [] rfl))
      exact Un.refl _
    · skip
      have h := Option.some.inj h
      subst h
      refine Un.trans ?_ ((wX6_isThing hq4).mono (sub_k [] rfl) (sub_k [] rfl) (sub_k [] rfl))
      exact Un.refl _
set_option maxRecDepth 4000 in
theorem wX6_judge_13 {q : Int32 × St}  : ∀ (n : Nat) {l1 : Int32} {S : St}, FX6_judge_13 n l1 S = some q → Un [(17, 1), (17, 2), (17, 3), (18, 99), (25, 0), (25, 1), (25, 2), (25, 3), (26, 99), (27, 99), (28, 99), (29, 99), (30, 99), (31, 99), (32, 99)] [] [] S q.2 := by
  intro n
  induction n with
  | zero => intro _ _ h; cases h
  | succ n ih =>
    intro l1 S h
    rw [FX6_judge_13] at h
    refine cs_e h (fun _ h => ?_) (fun _ h => ?_)
    · skip
      have h := Option.some.inj h
      subst h
      exact Un.refl _
    · skip
      obtain ⟨g6, h⟩ := gd_e h
      obtain ⟨g8, h⟩ := gd_e h
      obtain ⟨g11, h⟩ := gd_e h
      obtain ⟨q14, hq15, h⟩ := bd_e h
      obtain ⟨g16, h⟩ := gd_e h
      obtain ⟨q19, hq20, h⟩ := bd_e h
      obtain ⟨g21, h⟩ := gd_e h
      refine cs_e h (fun _ h => ?_) (fun _ h => ?_)
      · skip
        obtain ⟨q25, hq26, h⟩ := bd_e h
        obtain ⟨q29, hq30, h⟩ := bd_e h
        refine Un.trans ?_ (ih h)
        refine Un.trans ?_ ((wX0_leave hq30).mono (sub_k [1, 3] rfl) (sub_k [] rfl) (sub_k [] rfl))
        refine Un.trans ?_ ((wX0_hold hq26).mono (sub_k [7, 9, 14] rfl) (sub_k [] rfl) (sub_k [] rfl))
        refine Un.trans ?_ ((wX0_least hq20).mono (sub_k [] rfl) (sub_k [] rfl) (sub_k [] rfl))
        refine Un.trans ?_ ((wX0_sit hq15).mono (sub_k [4, 5, 6, 7, 8, 9, 10, 11, 12, 13] rfl) (sub_k [] rfl) (sub_k [] rfl))
        exact Un.refl _
      · skip
        have h := Option.some.inj h
        subst h
        refine Un.trans ?_ ((wX0_least hq20).mono (sub_k [] rfl) (sub_k [] rfl) (sub_k [] rfl))
        refine Un.trans ?_ ((wX0_sit hq15).mono (sub_k [4, 5, 6, 7, 8, 9, 10, 11, 12, 13] rfl) (sub_k [] rfl) (sub_k [] rfl))
        exact Un.refl _
set_option maxRecDepth 4000 in
theorem wX6_judge {q : Int32 × St}  {S : St} (h : fX6_judge  S = some q) : Un [(17, 1), (17, 2), (17, 3), (18, 99), (25, 0), (25, 1), (25, 2), (25, 3), (26, 99), (27, 99), (28, 99), (29, 99), (30, 99), (31, 99), (32, 99)] [] [] S q.2 := by
  unfold fX6_judge at h
  obtain ⟨q3, hq4, h⟩ := bd_e h
  refine Un.trans ?_ (wX6_judge_13  _ h)
  refine Un.trans ?_ ((wX5_take hq4).mono (sub_k [0, 1, 2, 3] rfl) (sub_k [] rfl) (sub_k [] rfl))
  exact Un.refl _
set_option maxRecDepth 4000 in
theorem wX6_levelBehind_8 {q : Int32 × St}  : ∀ (n : Nat) {l1 : Int32} {l3 : Int32} {l4 : Int32} {l5 : Int32} {S : St}, FX6_levelBehind_8 n l1 l3 l4 l5 S = some q → Un [(25, 0), (25, 1), (25, 2), (25, 3), (26, 99), (27, 99), (28, 99), (29, 99), (30, 99), (31, 99), (32, 99)] [] [] S q.2 := by
  intro n
  induction n with
  | zero => intro _ _ _ _ _ h; cases h
  | succ n ih =>
    intro l1 l3 l4 l5 S h
    rw [FX6_levelBehind_8] at h
    refine cs_e h (fun _ h => ?_) (fun _ h => ?_)
    · skip
      obtain ⟨g6, h⟩ := gd_e h
      have h := Option.some.inj h
      subst h
      exact Un.refl _
    · skip
      obtain ⟨q9, hq10, h⟩ := bd_e h
      obtain ⟨q13, hq14, h⟩ := bd_e h
      refine Un.trans ?_ (ih h)
      refine Un.trans ?_ ((wX0_hold hq14).mono (sub_k [3, 5, 10] rfl) (sub_k [] rfl) (sub_k [] rfl))
      refine Un.trans ?_ ((wX0_least hq10).mono (sub_k [] rfl) (sub_k [] rfl) (sub_k [] rfl))
      exact Un.refl _
set_option maxRecDepth 4000 in
theorem wX6_levelBehind {q : Int32 × St} {l1 : Int32} {l2 : Int32} {l3 : Int32} {l4 : Int32} {S : St} (h : fX6_levelBehind l1 l2 l3 l4 S = some q) : Un [(25, 0), (25, 1), (25, 2), (25, 3), (26, 99), (27, 99), (28, 99), (29, 99), (30, 99), (31, 99), (32, 99)] [] [] S q.2 := by
  unfold fX6_levelBehind at h
  obtain ⟨q3, hq4, h⟩ := bd_e h
  refine Un.trans ?_ (wX6_levelBehind_8  _ h)
  refine Un.trans ?_ ((wX6_sitAll hq4).mono (sub_k [0, 1, 2, 3, 4, 5, 6, 7, 8, 9] rfl) (sub_k [] rfl) (sub_k [] rfl))
  exact Un.refl _
set_option maxRecDepth 4000 in
theorem wX7_takeClause_155 {q : Int32 × St}  {l2 : Int32} {S : St} (h : FX7_takeClause_155 l2 S = some q) : Un [(44, 9), (44, 10), (44, 12), (44, 13), (44, 14), (44, 15), (44, 16), (49, 99), (50, 99), (51, 99)] [(44, 11)] [] S q.2 := by
  unfold FX7_takeClause_155 at h
  have h := Option.some.inj h
  subst h
  refine Un.nS ?_ (List.mem_of_getElem? (i := 1) rfl)
  exact Un.refl _
set_option maxRecDepth 4000 in
theorem wX7_takeClause_131 {q : Int32 × St}  {s0 : Int32} {S : St} (h : FX7_takeClause_131 s0 S = some q) : Un [(44, 9), (44, 10), (44, 12), (44, 13), (44, 14), (44, 15), (44, 16), (49, 99), (50, 99), (51, 99)] [(44, 11)] [] S q.2 := by
  unfold FX7_takeClause_131 at h
  refine cs_e h (fun _ h => ?_) (fun _ h => ?_)
  · skip
    obtain ⟨q41, hq42, h⟩ := bd_e h
    refine cs_e h (fun _ h => ?_) (fun _ h => ?_)
    · skip
      refine Un.trans ?_ (wX7_takeClause_155  h)
      refine Un.trans ?_ ((wX7_here hq42).mono (sub_k [1] rfl) (sub_k [] rfl) (sub_k [] rfl))
      exact Un.refl _
    · skip
      obtain ⟨q46, hq47, h⟩ := bd_e h
      have h := Option.some.inj h
      subst h
      refine Un.trans ?_ ((wX7_fails hq47).mono (sub_k [0] rfl) (sub_k [] rfl) (sub_k [] rfl))
      refine Un.trans ?_ ((wX7_here hq42).mono (sub_k [1] rfl) (sub_k [] rfl) (sub_k [] rfl))
      exact Un.refl _
  · skip
    refine Un.trans ?_ (wX7_takeClause_155  h)
    exact Un.refl _
set_option maxRecDepth 4000 in
theorem wX7_takeClause_108 {q : Int32 × St}  {l1 : Int32} {S : St} (h : FX7_takeClause_108 l1 S = some q) : Un [(44, 9), (44, 10), (44, 12), (44, 13), (44, 14), (44, 15), (44, 16), (49, 99), (50, 99), (51, 99)] [(44, 11)] [] S q.2 := by
  unfold FX7_takeClause_108 at h
  refine cs_e h (fun _ h => ?_) (fun _ h => ?_)
  · skip
    obtain ⟨q32, hq33, h⟩ := bd_e h
    refine Un.trans ?_ (wX7_takeClause_131  h)
    refine Un.trans ?_ ((wX7_takePupil hq33).mono (sub_k [0, 1, 3, 4, 6, 8, 9] rfl) (sub_k [] rfl) (sub_k [] rfl))
    refine Un.nS ?_ (List.mem_of_getElem? (i := 1) rfl)
    exact Un.refl _
  · skip
    obtain ⟨q36, hq37, h⟩ := bd_e h
    refine Un.trans ?_ (wX7_takeClause_131  h)
    refine Un.trans ?_ ((wX7_takeThing hq37).mono (sub_k [0, 1, 2, 3, 4, 5, 7] rfl) (sub_k [0] rfl) (sub_k [] rfl))
    refine Un.nS ?_ (List.mem_of_getElem? (i := 1) rfl)
    exact Un.refl _
set_option maxRecDepth 4000 in
theorem wX7_takeClause_98 {q : Int32 × St}   {S : St} (h : FX7_takeClause_98  S = some q) : Un [(44, 9), (44, 10), (44, 12), (44, 13), (44, 14), (44, 15), (44, 16), (49, 99), (50, 99), (51, 99)] [(44, 11)] [] S q.2 := by
  unfold FX7_takeClause_98 at h
  obtain ⟨q26, hq27, h⟩ := bd_e h
  have h := Option.some.inj h
  subst h
  refine Un.trans ?_ ((wX7_fails hq27).mono (sub_k [0] rfl) (sub_k [] rfl) (sub_k [] rfl))
  exact Un.refl _
set_option maxRecDepth 4000 in
theorem wX7_takeClause_66 {q : Int32 × St}  {l1 : Int32} {S : St} (h : FX7_takeClause_66 l1 S = some q) : Un [(44, 9), (44, 10), (44, 12), (44, 13), (44, 14), (44, 15), (44, 16), (49, 99), (50, 99), (51, 99)] [(44, 11)] [] S q.2 := by
  unfold FX7_takeClause_66 at h
  refine cs_e h (fun _ h => ?_) (fun _ h => ?_)
  · skip
    refine cs_e h (fun _ h => ?_) (fun _ h => ?_)
    · skip
      refine Un.trans ?_ (wX7_takeClause_98  h)
      exact Un.refl _
    · skip
      refine Un.trans ?_ (wX7_takeClause_108  h)
      exact Un.refl _
  · skip
    refine cs_e h (fun _ h => ?_) (fun _ h => ?_)
    · skip
      refine Un.trans ?_ (wX7_takeClause_98  h)
      exact Un.refl _
    · skip
      refine cs_e h (fun _ h => ?_) (fun _ h => ?_)
      · skip
        refine Un.trans ?_ (wX7_takeClause_108  h)
        exact Un.refl _
      · skip
        refine Un.trans ?_ (wX7_takeClause_98  h)
        exact Un.refl _
set_option maxRecDepth 4000 in
theorem wX7_takeClause_30 {q : Int32 × St}  {s0 : Int32} {S : St} (h : FX7_takeClause_30 s0 S = some q) : Un [(44, 9), (44, 10), (44, 12), (44, 13), (44, 14), (44, 15), (44, 16), (49, 99), (50, 99), (51, 99)] [(44, 11)] [] S q.2 := by
  unfold FX7_takeClause_30 at h
  refine cs_e h (fun _ h => ?_) (fun _ h => ?_)
  · skip
    obtain ⟨q13, hq14, h⟩ := bd_e h
    refine cs_e h (fun _ h => ?_) (fun _ h => ?_)
    · skip
      refine Un.trans ?_ (wX7_takeClause_66  h)
      refine Un.trans ?_ ((wX7_code hq14).mono (sub_k [] rfl) (sub_k [] rfl) (sub_k [] rfl))
      exact Un.refl _
    · skip
      obtain ⟨q18, hq19, h⟩ := bd_e h
      have h := Option.some.inj h
      subst h
      refine Un.trans ?_ ((wX7_fails hq19).mono (sub_k [0] rfl) (sub_k [] rfl) (sub_k [] rfl))
      refine Un.trans ?_ ((wX7_code hq14).mono (sub_k [] rfl) (sub_k [] rfl) (sub_k [] rfl))
      exact Un.refl _
  · skip
    refine Un.trans ?_ (wX7_takeClause_66  h)
    exact Un.refl _
set_option maxRecDepth 4000 in
theorem wX7_takeClause {q : Int32 × St}  {S : St} (h : fX7_takeClause  S = some q) : Un [(44, 9), (44, 10), (44, 12), (44, 13), (44, 14), (44, 15), (44, 16), (49, 99), (50, 99), (51, 99)] [(44, 11)] [] S q.2 := by
  unfold fX7_takeClause at h
  obtain ⟨q3, hq4, h⟩ := bd_e h
  obtain ⟨q7, hq8, h⟩ := bd_e h
  refine cs_e h (fun _ h => ?_) (fun _ h => ?_)
  · skip
    refine Un.trans ?_ (wX7_takeClause_30  h)
    refine Un.trans ?_ ((wX7_code hq8).mono (sub_k [] rfl) (sub_k [] rfl) (sub_k [] rfl))
    refine Un.trans ?_ ((wX7_readWord hq4).mono (sub_k [1, 2] rfl) (sub_k [0] rfl) (sub_k [] rfl))
    exact Un.refl _
  · skip
    refine Un.trans ?_ (wX7_takeClause_30  h)
    refine Un.trans ?_ ((wX7_code hq8).mono (sub_k [] rfl) (sub_k [] rfl) (sub_k [] rfl))
    refine Un.trans ?_ ((wX7_readWord hq4).mono (sub_k [1, 2] rfl) (sub_k [0] rfl) (sub_k [] rfl))
    exact Un.refl _
set_option maxRecDepth 4000 in
theorem wX7_teach_395 {q : Int32 × St}  {s0 : Int32} {s1 : Int32} {S : St} (h : FX7_teach_395 s0 s1 S = some q) : Un [(44, 23), (52, 99), (54, 99)] [] [] S q.2 := by
  unfold FX7_teach_395 at h
  have h := Option.some.inj h
  subst h
  exact Un.refl _
set_option maxRecDepth 4000 in
theorem wX7_teach_385 {q : Int32 × St}  {l6 : Int32} {s0 : Int32} {S : St} (h : FX7_teach_385 l6 s0 S = some q) : Un [(44, 23), (52, 99), (54, 99)] [] [] S q.2 := by
  unfold FX7_teach_385 at h
  refine cs_e h (fun _ h => ?_) (fun _ h => ?_)
  · skip
    refine Un.trans ?_ (wX7_teach_395  h)
    exact Un.refl _
  · skip
    refine Un.trans ?_ (wX7_teach_395  h)
    exact Un.refl _
set_option maxRecDepth 4000 in
theorem wX7_teach_346 {q : Int32 × St}  : ∀ (n : Nat) {l5 : Int32} {l6 : Int32} {l8 : Int32} {S : St}, FX7_teach_346 n l5 l6 l8 S = some q → Un [(44, 23), (52, 99), (54, 99)] [] [] S q.2 := by
  intro n
  induction n with
  | zero => intro _ _ _ _ h; cases h
  | succ n ih =>
    intro l5 l6 l8 S h
    rw [FX7_teach_346] at h
    refine cs_e h (fun _ h => ?_) (fun _ h => ?_)
    · skip
      refine cs_e h (fun _ h => ?_) (fun _ h => ?_)
      · skip
        refine Un.trans ?_ (wX7_teach_385  h)
        exact Un.refl _
      · skip
        refine Un.trans ?_ (wX7_teach_385  h)
        exact Un.refl _
    · skip
      obtain ⟨g65, h⟩ := gd_e h
      obtain ⟨g66, h⟩ := gd_e h
      refine Un.trans ?_ (ih h)
      refine Un.nA ?_ (List.mem_of_getElem? (i := 1) rfl)
      exact Un.refl _
set_option maxRecDepth 4000 in
theorem wX7_teach_343 {q : Int32 × St}  {l5 : Int32} {l6 : Int32} {S : St} (h : FX7_teach_343 l5 l6 S = some q) : Un [(44, 23), (52, 99), (54, 99)] [] [] S q.2 := by
  unfold FX7_teach_343 at h
  refine Un.trans ?_ (wX7_teach_346  _ h)
  exact Un.refl _
set_option maxRecDepth 4000 in
theorem wX7_teach_333 {q : Int32 × St}  {l5 : Int32} {l6 : Int32} {s0 : Int32} {s1 : Int32} {S : St} (h : FX7_teach_333 l5 l6 s0 s1 S = some q) : Un [(44, 23), (52, 99), (54, 99)] [] [] S q.2 := by
  unfold FX7_teach_333 at h
  obtain ⟨g90, h⟩ := gd_e h
  refine Un.trans ?_ (wX7_teach_343  h)
  refine Un.nA ?_ (List.mem_of_getElem? (i := 2) rfl)
  exact Un.refl _
set_option maxRecDepth 4000 in
theorem wX7_teach_316 {q : Int32 × St}  {l1 : Int32} {l5 : Int32} {l6 : Int32} {s0 : Int32} {S : St} (h : FX7_teach_316 l1 l5 l6 s0 S = some q) : Un [(44, 23), (52, 99), (54, 99)] [] [] S q.2 := by
  unfold FX7_teach_316 at h
  obtain ⟨g92, h⟩ := gd_e h
  refine Un.trans ?_ (wX7_teach_333  h)
  exact Un.refl _
set_option maxRecDepth 4000 in
theorem wX7_teach_258 {q : Int32 × St}  {l1 : Int32} {l2 : Int32} {l4 : Int32} {l5 : Int32} {l6 : Int32} {S : St} (h : FX7_teach_258 l1 l2 l4 l5 l6 S = some q) : Un [(44, 23), (52, 99), (54, 99)] [] [] S q.2 := by
  unfold FX7_teach_258 at h
  refine cs_e h (fun _ h => ?_) (fun _ h => ?_)
  · skip
    obtain ⟨q88, hq89, h⟩ := bd_e h
    refine Un.trans ?_ (wX7_teach_343  h)
    refine Un.trans ?_ ((wX7_believe hq89).mono (sub_k [0, 2] rfl) (sub_k [] rfl) (sub_k [] rfl))
    exact Un.refl _
  · skip
    refine cs_e h (fun _ h => ?_) (fun _ h => ?_)
    · skip
      obtain ⟨q74, hq75, h⟩ := bd_e h
      refine Un.trans ?_ (wX7_teach_343  h)
      refine Un.trans ?_ ((wX7_follow hq75).mono (sub_k [2] rfl) (sub_k [] rfl) (sub_k [] rfl))
      exact Un.refl _
    · skip
      obtain ⟨g77, h⟩ := gd_e h
      obtain ⟨q80, hq81, h⟩ := bd_e h
      refine cs_e h (fun _ h => ?_) (fun _ h => ?_)
      · skip
        obtain ⟨g83, h⟩ := gd_e h
        refine cs_e h (fun _ h => ?_) (fun _ h => ?_)
        · skip
          refine Un.trans ?_ (wX7_teach_316  h)
          refine Un.trans ?_ ((wX7_isSo hq81).mono (sub_k [0] rfl) (sub_k [] rfl) (sub_k [] rfl))
          exact Un.refl _
        · skip
          obtain ⟨g85, h⟩ := gd_e h
          refine Un.trans ?_ (wX7_teach_333  h)
          refine Un.trans ?_ ((wX7_isSo hq81).mono (sub_k [0] rfl) (sub_k [] rfl) (sub_k [] rfl))
          exact Un.refl _
      · skip
        refine Un.trans ?_ (wX7_teach_316  h)
        refine Un.trans ?_ ((wX7_isSo hq81).mono (sub_k [0] rfl) (sub_k [] rfl) (sub_k [] rfl))
        exact Un.refl _
set_option maxRecDepth 4000 in
theorem wX7_teach_230 {q : Int32 × St}  {l1 : Int32} {l2 : Int32} {l4 : Int32} {l5 : Int32} {s0 : Int32} {S : St} (h : FX7_teach_230 l1 l2 l4 l5 s0 S = some q) : Un [(44, 23), (52, 99), (54, 99)] [] [] S q.2 := by
  unfold FX7_teach_230 at h
  refine cs_e h (fun _ h => ?_) (fun _ h => ?_)
  · skip
    refine cs_e h (fun _ h => ?_) (fun _ h => ?_)
    · skip
      refine Un.trans ?_ (wX7_teach_258  h)
      exact Un.refl _
    · skip
      obtain ⟨g58, h⟩ := gd_e h
      obtain ⟨q61, hq62, h⟩ := bd_e h
      refine Un.trans ?_ (wX7_teach_343  h)
      refine Un.trans ?_ ((wX7_rise hq62).mono (sub_k [2] rfl) (sub_k [] rfl) (sub_k [] rfl))
      exact Un.refl _
  · skip
    refine Un.trans ?_ (wX7_teach_258  h)
    exact Un.refl _
set_option maxRecDepth 4000 in
theorem wX7_teach_225 {q : Int32 × St}  {l1 : Int32} {l2 : Int32} {l4 : Int32} {l5 : Int32} {S : St} (h : FX7_teach_225 l1 l2 l4 l5 S = some q) : Un [(44, 23), (52, 99), (54, 99)] [] [] S q.2 := by
  unfold FX7_teach_225 at h
  refine Un.trans ?_ (wX7_teach_230  h)
  exact Un.refl _
set_option maxRecDepth 4000 in
theorem wX7_teach_213 {q : Int32 × St}  {l1 : Int32} {l2 : Int32} {l4 : Int32} {l5 : Int32} {l6 : Int32} {s0 : Int32} {S : St} (h : FX7_teach_213 l1 l2 l4 l5 l6 s0 S = some q) : Un [(44, 23), (52, 99), (54, 99)] [] [] S q.2 := by
  unfold FX7_teach_213 at h
  refine cs_e h (fun _ h => ?_) (fun _ h => ?_)
  · skip
    refine cs_e h (fun _ h => ?_) (fun _ h => ?_)
    · skip
      refine Un.trans ?_ (wX7_teach_230  h)
      exact Un.refl _
    · skip
      refine Un.trans ?_ (wX7_teach_225  h)
      exact Un.refl _
  · skip
    refine Un.trans ?_ (wX7_teach_225  h)
    exact Un.refl _
set_option maxRecDepth 4000 in
theorem wX7_teach_212 {q : Int32 × St}  {l1 : Int32} {l2 : Int32} {l4 : Int32} {l5 : Int32} {l6 : Int32} {S : St} (h : FX7_teach_212 l1 l2 l4 l5 l6 S = some q) : Un [(44, 23), (52, 99), (54, 99)] [] [] S q.2 := by
  unfold FX7_teach_212 at h
  refine Un.trans ?_ (wX7_teach_213  h)
  exact Un.refl _
set_option maxRecDepth 4000 in
theorem wX7_teach_171 {q : Int32 × St}  {k57 : Int32 → Int32 → Int32 → Int32 → Int32 → Int32 → Int32 → St → Option (Int32 × St)} (hk57 : ∀ {l1 : Int32} {l2 : Int32} {l3 : Int32} {l4 : Int32} {l5 : Int32} {l6 : Int32} {l7 : Int32} {S : St}, k57 l1 l2 l3 l4 l5 l6 l7 S = some q → Un [(44, 23), (52, 99), (54, 99)] [] [] S q.2) {l1 : Int32} {l2 : Int32} {l3 : Int32} {l4 : Int32} {l5 : Int32} {l6 : Int32} {l7 : Int32} {S : St} (h : FX7_teach_171 k57 l1 l2 l3 l4 l5 l6 l7 S = some q) : Un [(44, 23), (52, 99), (54, 99)] [] [] S q.2 := by
  unfold FX7_teach_171 at h
  refine Un.trans ?_ (hk57 h)
  exact Un.refl _
set_option maxRecDepth 4000 in
theorem wX7_teach_152 {q : Int32 × St}  {k57 : Int32 → Int32 → Int32 → Int32 → Int32 → Int32 → Int32 → St → Option (Int32 × St)} (hk57 : ∀ {l1 : Int32} {l2 : Int32} {l3 : Int32} {l4 : Int32} {l5 : Int32} {l6 : Int32} {l7 : Int32} {S : St}, k57 l1 l2 l3 l4 l5 l6 l7 S = some q → Un [(44, 23), (52, 99), (54, 99)] [] [] S q.2) {l1 : Int32} {l2 : Int32} {l3 : Int32} {l4 : Int32} {l5 : Int32} {l7 : Int32} {l9 : Int32} {s0 : Int32} {S : St} (h : FX7_teach_152 k57 l1 l2 l3 l4 l5 l7 l9 s0 S = some q) : Un [(44, 23), (52, 99), (54, 99)] [] [] S q.2 := by
  unfold FX7_teach_152 at h
  refine cs_e h (fun _ h => ?_) (fun _ h => ?_)
  · skip
    refine Un.trans ?_ (wX7_teach_171 hk57 h)
    exact Un.refl _
  · skip
    refine cs_e h (fun _ h => ?_) (fun _ h => ?_)
    · skip
      obtain ⟨q50, hq51, h⟩ := bd_e h
      refine Un.trans ?_ (wX7_teach_171 hk57 h)
      refine Un.trans ?_ ((wX7_rise hq51).mono (sub_k [2] rfl) (sub_k [] rfl) (sub_k [] rfl))
      exact Un.refl _
    · skip
      refine Un.trans ?_ (wX7_teach_171 hk57 h)
      exact Un.refl _
set_option maxRecDepth 4000 in
theorem wX7_teach_147 {q : Int32 × St}  {k57 : Int32 → Int32 → Int32 → Int32 → Int32 → Int32 → Int32 → St → Option (Int32 × St)} (hk57 : ∀ {l1 : Int32} {l2 : Int32} {l3 : Int32} {l4 : Int32} {l5 : Int32} {l6 : Int32} {l7 : Int32} {S : St}, k57 l1 l2 l3 l4 l5 l6 l7 S = some q → Un [(44, 23), (52, 99), (54, 99)] [] [] S q.2) {l1 : Int32} {l2 : Int32} {l3 : Int32} {l4 : Int32} {l5 : Int32} {l7 : Int32} {l9 : Int32} {S : St} (h : FX7_teach_147 k57 l1 l2 l3 l4 l5 l7 l9 S = some q) : Un [(44, 23), (52, 99), (54, 99)] [] [] S q.2 := by
  unfold FX7_teach_147 at h
  refine Un.trans ?_ (wX7_teach_152 hk57 h)
  exact Un.refl _
set_option maxRecDepth 4000 in
theorem wX7_teach_135 {q : Int32 × St}  {k57 : Int32 → Int32 → Int32 → Int32 → Int32 → Int32 → Int32 → St → Option (Int32 × St)} (hk57 : ∀ {l1 : Int32} {l2 : Int32} {l3 : Int32} {l4 : Int32} {l5 : Int32} {l6 : Int32} {l7 : Int32} {S : St}, k57 l1 l2 l3 l4 l5 l6 l7 S = some q → Un [(44, 23), (52, 99), (54, 99)] [] [] S q.2) {l1 : Int32} {l2 : Int32} {l3 : Int32} {l4 : Int32} {l5 : Int32} {l6 : Int32} {l7 : Int32} {s0 : Int32} {S : St} (h : FX7_teach_135 k57 l1 l2 l3 l4 l5 l6 l7 s0 S = some q) : Un [(44, 23), (52, 99), (54, 99)] [] [] S q.2 := by
  unfold FX7_teach_135 at h
  refine cs_e h (fun _ h => ?_) (fun _ h => ?_)
  · skip
    refine cs_e h (fun _ h => ?_) (fun _ h => ?_)
    · skip
      refine Un.trans ?_ (wX7_teach_152 hk57 h)
      exact Un.refl _
    · skip
      refine Un.trans ?_ (wX7_teach_147 hk57 h)
      exact Un.refl _
  · skip
    refine Un.trans ?_ (wX7_teach_147 hk57 h)
    exact Un.refl _
set_option maxRecDepth 4000 in
theorem wX7_teach_134 {q : Int32 × St}  {k57 : Int32 → Int32 → Int32 → Int32 → Int32 → Int32 → Int32 → St → Option (Int32 × St)} (hk57 : ∀ {l1 : Int32} {l2 : Int32} {l3 : Int32} {l4 : Int32} {l5 : Int32} {l6 : Int32} {l7 : Int32} {S : St}, k57 l1 l2 l3 l4 l5 l6 l7 S = some q → Un [(44, 23), (52, 99), (54, 99)] [] [] S q.2) {l1 : Int32} {l2 : Int32} {l3 : Int32} {l4 : Int32} {l5 : Int32} {l6 : Int32} {l7 : Int32} {S : St} (h : FX7_teach_134 k57 l1 l2 l3 l4 l5 l6 l7 S = some q) : Un [(44, 23), (52, 99), (54, 99)] [] [] S q.2 := by
  unfold FX7_teach_134 at h
  refine Un.trans ?_ (wX7_teach_135 hk57 h)
  exact Un.refl _
set_option maxRecDepth 4000 in
theorem wX7_teach_102 {q : Int32 × St}  {k57 : Int32 → Int32 → Int32 → Int32 → Int32 → Int32 → Int32 → St → Option (Int32 × St)} (hk57 : ∀ {l1 : Int32} {l2 : Int32} {l3 : Int32} {l4 : Int32} {l5 : Int32} {l6 : Int32} {l7 : Int32} {S : St}, k57 l1 l2 l3 l4 l5 l6 l7 S = some q → Un [(44, 23), (52, 99), (54, 99)] [] [] S q.2) {l1 : Int32} {l2 : Int32} {l3 : Int32} {l4 : Int32} {l5 : Int32} {l6 : Int32} {l7 : Int32} {s0 : Int32} {S : St} (h : FX7_teach_102 k57 l1 l2 l3 l4 l5 l6 l7 s0 S = some q) : Un [(44, 23), (52, 99), (54, 99)] [] [] S q.2 := by
  unfold FX7_teach_102 at h
  refine cs_e h (fun _ h => ?_) (fun _ h => ?_)
  · skip
    refine Un.trans ?_ (wX7_teach_134 hk57 h)
    exact Un.refl _
  · skip
    obtain ⟨g34, h⟩ := gd_e h
    obtain ⟨q37, hq38, h⟩ := bd_e h
    obtain ⟨q41, hq42, h⟩ := bd_e h
    refine cs_e h (fun _ h => ?_) (fun _ h => ?_)
    · skip
      refine Un.trans ?_ (wX7_teach_134 hk57 h)
      refine Un.trans ?_ ((wX7_isSo hq42).mono (sub_k [0] rfl) (sub_k [] rfl) (sub_k [] rfl))
      refine Un.trans ?_ ((wX7_noChance hq38).mono (sub_k [] rfl) (sub_k [] rfl) (sub_k [] rfl))
      exact Un.refl _
    · skip
      refine Un.trans ?_ (wX7_teach_135 hk57 h)
      refine Un.trans ?_ ((wX7_isSo hq42).mono (sub_k [0] rfl) (sub_k [] rfl) (sub_k [] rfl))
      refine Un.trans ?_ ((wX7_noChance hq38).mono (sub_k [] rfl) (sub_k [] rfl) (sub_k [] rfl))
      exact Un.refl _
set_option maxRecDepth 4000 in
theorem wX7_teach_101 {q : Int32 × St}  {k57 : Int32 → Int32 → Int32 → Int32 → Int32 → Int32 → Int32 → St → Option (Int32 × St)} (hk57 : ∀ {l1 : Int32} {l2 : Int32} {l3 : Int32} {l4 : Int32} {l5 : Int32} {l6 : Int32} {l7 : Int32} {S : St}, k57 l1 l2 l3 l4 l5 l6 l7 S = some q → Un [(44, 23), (52, 99), (54, 99)] [] [] S q.2) {l1 : Int32} {l2 : Int32} {l3 : Int32} {l4 : Int32} {l5 : Int32} {l6 : Int32} {l7 : Int32} {S : St} (h : FX7_teach_101 k57 l1 l2 l3 l4 l5 l6 l7 S = some q) : Un [(44, 23), (52, 99), (54, 99)] [] [] S q.2 := by
  unfold FX7_teach_101 at h
  refine Un.trans ?_ (wX7_teach_102 hk57 h)
  exact Un.refl _
set_option maxRecDepth 4000 in
theorem wX7_teach_57 {q : Int32 × St}  : ∀ (n : Nat) {l1 : Int32} {l2 : Int32} {l3 : Int32} {l4 : Int32} {l5 : Int32} {l6 : Int32} {l7 : Int32} {S : St}, FX7_teach_57 n l1 l2 l3 l4 l5 l6 l7 S = some q → Un [(44, 23), (52, 99), (54, 99)] [] [] S q.2 := by
  intro n
  induction n with
  | zero => intro _ _ _ _ _ _ _ _ h; cases h
  | succ n ih =>
    intro l1 l2 l3 l4 l5 l6 l7 S h
    rw [FX7_teach_57] at h
    refine cs_e h (fun _ h => ?_) (fun _ h => ?_)
    · skip
      refine cs_e h (fun _ h => ?_) (fun _ h => ?_)
      · skip
        refine Un.trans ?_ (wX7_teach_212  h)
        exact Un.refl _
      · skip
        obtain ⟨g13, h⟩ := gd_e h
        refine cs_e h (fun _ h => ?_) (fun _ h => ?_)
        · skip
          refine Un.trans ?_ (wX7_teach_212  h)
          exact Un.refl _
        · skip
          obtain ⟨q17, hq18, h⟩ := bd_e h
          obtain ⟨q21, hq22, h⟩ := bd_e h
          refine cs_e h (fun _ h => ?_) (fun _ h => ?_)
          · skip
            refine Un.trans ?_ (wX7_teach_212  h)
            refine Un.trans ?_ ((wX7_isSo hq22).mono (sub_k [0] rfl) (sub_k [] rfl) (sub_k [] rfl))
            refine Un.trans ?_ ((wX7_noChance hq18).mono (sub_k [] rfl) (sub_k [] rfl) (sub_k [] rfl))
            exact Un.refl _
          · skip
            refine Un.trans ?_ (wX7_teach_213  h)
            refine Un.trans ?_ ((wX7_isSo hq22).mono (sub_k [0] rfl) (sub_k [] rfl) (sub_k [] rfl))
            refine Un.trans ?_ ((wX7_noChance hq18).mono (sub_k [] rfl) (sub_k [] rfl) (sub_k [] rfl))
            exact Un.refl _
    · skip
      obtain ⟨q26, hq27, h⟩ := bd_e h
      refine cs_e h (fun _ h => ?_) (fun _ h => ?_)
      · skip
        refine Un.trans ?_ (wX7_teach_101 (fun h => ih h) h)
        refine Un.trans ?_ ((wX7_has hq27).mono (sub_k [] rfl) (sub_k [] rfl) (sub_k [] rfl))
        exact Un.refl _
      · skip
        refine cs_e h (fun _ h => ?_) (fun _ h => ?_)
        · skip
          refine Un.trans ?_ (wX7_teach_101 (fun h => ih h) h)
          refine Un.trans ?_ ((wX7_has hq27).mono (sub_k [] rfl) (sub_k [] rfl) (sub_k [] rfl))
          exact Un.refl _
        · skip
          obtain ⟨g30, h⟩ := gd_e h
          obtain ⟨g31, h⟩ := gd_e h
          refine cs_e h (fun _ h => ?_) (fun _ h => ?_)
          · skip
            refine Un.trans ?_ (wX7_teach_101 (fun h => ih h) h)
            refine Un.trans ?_ ((wX7_has hq27).mono (sub_k [] rfl) (sub_k [] rfl) (sub_k [] rfl))
            exact Un.refl _
          · skip
            refine Un.trans ?_ (wX7_teach_102 (fun h => ih h) h)
            refine Un.trans ?_ ((wX7_has hq27).mono (sub_k [] rfl) (sub_k [] rfl) (sub_k [] rfl))
            exact Un.refl _
set_option maxRecDepth 4000 in
theorem wX7_teach_3 {q : Int32 × St}  : ∀ (n : Nat) {l1 : Int32} {l2 : Int32} {l3 : Int32} {l4 : Int32} {l5 : Int32} {S : St}, FX7_teach_3 n l1 l2 l3 l4 l5 S = some q → Un [(44, 23), (52, 99), (54, 99)] [] [] S q.2 := by
  intro n
  induction n with
  | zero => intro _ _ _ _ _ _ h; cases h
  | succ n ih =>
    intro l1 l2 l3 l4 l5 S h
    rw [FX7_teach_3] at h
    refine cs_e h (fun _ h => ?_) (fun _ h => ?_)
    · skip
      obtain ⟨g2, h⟩ := gd_e h
      obtain ⟨q5, hq6, h⟩ := bd_e h
      refine Un.trans ?_ (wX7_teach_57  _ h)
      refine Un.trans ?_ ((wX7_isSo hq6).mono (sub_k [0] rfl) (sub_k [] rfl) (sub_k [] rfl))
      exact Un.refl _
    · skip
      obtain ⟨g7, h⟩ := gd_e h
      obtain ⟨g8, h⟩ := gd_e h
      refine Un.trans ?_ (ih h)
      refine Un.nA ?_ (List.mem_of_getElem? (i := 2) rfl)
      exact Un.refl _
set_option maxRecDepth 4000 in
theorem wX7_teach {q : Int32 × St} {l1 : Int32} {l2 : Int32} {l3 : Int32} {l4 : Int32} {S : St} (h : fX7_teach l1 l2 l3 l4 S = some q) : Un [(44, 23), (52, 99), (54, 99)] [] [] S q.2 := by
  unfold fX7_teach at h
  refine Un.trans ?_ (wX7_teach_3  _ h)
  exact Un.refl _
set_option maxRecDepth 4000 in
theorem wX7_exact_16 {q : Int32 × St}   {S : St} (h : FX7_exact_16  S = some q) : Un [] [] [] S q.2 := by
  unfold FX7_exact_16 at h
  have h := Option.some.inj h
  subst h
  exact Un.refl _
set_option maxRecDepth 4000 in
theorem wX7_exact_204 {q : Int32 × St}  {l4 : Int32} {l6 : Int32} {l9 : Int64} {l11 : Int64} {s0 : Int32} {S : St} (h : FX7_exact_204 l4 l6 l9 l11 s0 S = some q) : Un [] [] [] S q.2 := by
  unfold FX7_exact_204 at h
  obtain ⟨q56, hq57, h⟩ := bd_e h
  have h := Option.some.inj h
  subst h
  refine Un.trans ?_ ((wX7_part hq57).mono (sub_k [] rfl) (sub_k [] rfl) (sub_k [] rfl))
  exact Un.refl _
set_option maxRecDepth 4000 in
theorem wX7_exact_166 {q : Int32 × St}  {l1 : Int32} {l4 : Int32} {l6 : Int32} {l7 : Int32} {l9 : Int64} {s0 : Int32} {S : St} (h : FX7_exact_166 l1 l4 l6 l7 l9 s0 S = some q) : Un [] [] [] S q.2 := by
  unfold FX7_exact_166 at h
  obtain ⟨q48, hq49, h⟩ := bd_e h
  obtain ⟨g51, h⟩ := gd_e h
  refine cs_e h (fun _ h => ?_) (fun _ h => ?_)
  · skip
    refine Un.trans ?_ (wX7_exact_204  h)
    refine Un.trans ?_ ((wX7_part hq49).mono (sub_k [] rfl) (sub_k [] rfl) (sub_k [] rfl))
    exact Un.refl _
  · skip
    refine Un.trans ?_ (wX7_exact_204  h)
    refine Un.trans ?_ ((wX7_part hq49).mono (sub_k [] rfl) (sub_k [] rfl) (sub_k [] rfl))
    exact Un.refl _
set_option maxRecDepth 4000 in
theorem wX7_exact_131 {q : Int32 × St}  {l1 : Int32} {l2 : Int32} {l4 : Int32} {l5 : Int32} {l6 : Int32} {l7 : Int32} {s0 : Int32} {S : St} (h : FX7_exact_131 l1 l2 l4 l5 l6 l7 s0 S = some q) : Un [] [] [] S q.2 := by
  unfold FX7_exact_131 at h
  obtain ⟨q41, hq42, h⟩ := bd_e h
  obtain ⟨g44, h⟩ := gd_e h
  refine cs_e h (fun _ h => ?_) (fun _ h => ?_)
  · skip
    refine Un.trans ?_ (wX7_exact_166  h)
    refine Un.trans ?_ ((wX7_part hq42).mono (sub_k [] rfl) (sub_k [] rfl) (sub_k [] rfl))
    exact Un.refl _
  · skip
    refine Un.trans ?_ (wX7_exact_166  h)
    refine Un.trans ?_ ((wX7_part hq42).mono (sub_k [] rfl) (sub_k [] rfl) (sub_k [] rfl))
    exact Un.refl _
set_option maxRecDepth 4000 in
theorem wX7_exact {q : Int32 × St} {l1 : Int32} {l2 : Int32} {l3 : Int32} {S : St} (h : fX7_exact l1 l2 l3 S = some q) : Un [] [] [] S q.2 := by
  unfold fX7_exact at h
  obtain ⟨q3, hq4, h⟩ := bd_e h
  refine cs_e h (fun _ h => ?_) (fun _ h => ?_)
  · skip
    refine Un.trans ?_ (wX7_exact_16  h)
    refine Un.trans ?_ ((wX7_isPupil hq4).mono (sub_k [] rfl) (sub_k [] rfl) (sub_k [] rfl))
    exact Un.refl _
  · skip
    obtain ⟨q8, hq9, h⟩ := bd_e h
    refine cs_e h (fun _ h => ?_) (fun _ h => ?_)
    · skip
      refine Un.trans ?_ (wX7_exact_16  h)
      refine Un.trans ?_ ((wX7_isThing hq9).mono (sub_k [] rfl) (sub_k [] rfl) (sub_k [] rfl))
      refine Un.trans ?_ ((wX7_isPupil hq4).mono (sub_k [] rfl) (sub_k [] rfl) (sub_k [] rfl))
      exact Un.refl _
    · skip
      obtain ⟨q13, hq14, h⟩ := bd_e h
      refine cs_e h (fun _ h => ?_) (fun _ h => ?_)
      · skip
        have h := Option.some.inj h
        subst h
        refine Un.trans ?_ ((wX7_in hq14).mono (sub_k [] rfl) (sub_k [] rfl) (sub_k [] rfl))
        refine Un.trans ?_ ((wX7_isThing hq9).mono (sub_k [] rfl) (sub_k [] rfl) (sub_k [] rfl))
        refine Un.trans ?_ ((wX7_isPupil hq4).mono (sub_k [] rfl) (sub_k [] rfl) (sub_k [] rfl))
        exact Un.refl _
      · skip
        obtain ⟨g17, h⟩ := gd_e h
        obtain ⟨q21, hq22, h⟩ := bd_e h
        obtain ⟨q25, hq26, h⟩ := bd_e h
        refine cs_e h (fun _ h => ?_) (fun _ h => ?_)
        · skip
          obtain ⟨q30, hq31, h⟩ := bd_e h
          obtain ⟨g33, h⟩ := gd_e h
          refine cs_e h (fun _ h => ?_) (fun _ h => ?_)
          · skip
            refine Un.trans ?_ (wX7_exact_131  h)
            refine Un.trans ?_ ((wX7_rises hq31).mono (sub_k [] rfl) (sub_k [] rfl) (sub_k [] rfl))
            refine Un.trans ?_ ((wX7_noOdds hq26).mono (sub_k [] rfl) (sub_k [] rfl) (sub_k [] rfl))
            refine Un.trans ?_ ((wX7_noOdds hq22).mono (sub_k [] rfl) (sub_k [] rfl) (sub_k [] rfl))
            refine Un.trans ?_ ((wX7_in hq14).mono (sub_k [] rfl) (sub_k [] rfl) (sub_k [] rfl))
            refine Un.trans ?_ ((wX7_isThing hq9).mono (sub_k [] rfl) (sub_k [] rfl) (sub_k [] rfl))
            refine Un.trans ?_ ((wX7_isPupil hq4).mono (sub_k [] rfl) (sub_k [] rfl) (sub_k [] rfl))
            exact Un.refl _
          · skip
            obtain ⟨g36, h⟩ := gd_e h
            refine Un.trans ?_ (wX7_exact_131  h)
            refine Un.trans ?_ ((wX7_rises hq31).mono (sub_k [] rfl) (sub_k [] rfl) (sub_k [] rfl))
            refine Un.trans ?_ ((wX7_noOdds hq26).mono (sub_k [] rfl) (sub_k [] rfl) (sub_k [] rfl))
            refine Un.trans ?_ ((wX7_noOdds hq22).mono (sub_k [] rfl) (sub_k [] rfl) (sub_k [] rfl))
            refine Un.trans ?_ ((wX7_in hq14).mono (sub_k [] rfl) (sub_k [] rfl) (sub_k [] rfl))
            refine Un.trans ?_ ((wX7_isThing hq9).mono (sub_k [] rfl) (sub_k [] rfl) (sub_k [] rfl))
            refine Un.trans ?_ ((wX7_isPupil hq4).mono (sub_k [] rfl) (sub_k [] rfl) (sub_k [] rfl))
            exact Un.refl _
        · skip
          refine cs_e h (fun _ h => ?_) (fun _ h => ?_)
          · skip
            have h := Option.some.inj h
            subst h
            refine Un.trans ?_ ((wX7_noOdds hq26).mono (sub_k [] rfl) (sub_k [] rfl) (sub_k [] rfl))
            refine Un.trans ?_ ((wX7_noOdds hq22).mono (sub_k [] rfl) (sub_k [] rfl) (sub_k [] rfl))
            refine Un.trans ?_ ((wX7_in hq14).mono (sub_k [] rfl) (sub_k [] rfl) (sub_k [] rfl))
            refine Un.trans ?_ ((wX7_isThing hq9).mono (sub_k [] rfl) (sub_k [] rfl) (sub_k [] rfl))
            refine Un.trans ?_ ((wX7_isPupil hq4).mono (sub_k [] rfl) (sub_k [] rfl) (sub_k [] rfl))
            exact Un.refl _
          · skip
            refine cs_e h (fun _ h => ?_) (fun _ h => ?_)
            · skip
              have h := Option.some.inj h
              subst h
              refine Un.trans ?_ ((wX7_noOdds hq26).mono (sub_k [] rfl) (sub_k [] rfl) (sub_k [] rfl))
              refine Un.trans ?_ ((wX7_noOdds hq22).mono (sub_k [] rfl) (sub_k [] rfl) (sub_k [] rfl))
              refine Un.trans ?_ ((wX7_in hq14).mono (sub_k [] rfl) (sub_k [] rfl) (sub_k [] rfl))
              refine Un.trans ?_ ((wX7_isThing hq9).mono (sub_k [] rfl) (sub_k [] rfl) (sub_k [] rfl))
              refine Un.trans ?_ ((wX7_isPupil hq4).mono (sub_k [] rfl) (sub_k [] rfl) (sub_k [] rfl))
              exact Un.refl _
            · skip
              have h := Option.some.inj h
              subst h
              refine Un.trans ?_ ((wX7_noOdds hq26).mono (sub_k [] rfl) (sub_k [] rfl) (sub_k [] rfl))
              refine Un.trans ?_ ((wX7_noOdds hq22).mono (sub_k [] rfl) (sub_k [] rfl) (sub_k [] rfl))
              refine Un.trans ?_ ((wX7_in hq14).mono (sub_k [] rfl) (sub_k [] rfl) (sub_k [] rfl))
              refine Un.trans ?_ ((wX7_isThing hq9).mono (sub_k [] rfl) (sub_k [] rfl) (sub_k [] rfl))
              refine Un.trans ?_ ((wX7_isPupil hq4).mono (sub_k [] rfl) (sub_k [] rfl) (sub_k [] rfl))
              exact Un.refl _
set_option maxRecDepth 4000 in
theorem wX7_up_15 {q : Int32 × St}   {S : St} (h : FX7_up_15  S = some q) : Un [(52, 99), (53, 99)] [] [] S q.2 := by
  unfold FX7_up_15 at h
  have h := Option.some.inj h
  subst h
  exact Un.refl _
set_option maxRecDepth 4000 in
theorem wX7_up {q : Int32 × St} {l1 : Int32} {l2 : Int32} {S : St} (h : fX7_up l1 l2 S = some q) : Un [(52, 99), (53, 99)] [] [] S q.2 := by
  unfold fX7_up at h
  obtain ⟨q3, hq4, h⟩ := bd_e h
  refine cs_e h (fun _ h => ?_) (fun _ h => ?_)
  · skip
    refine Un.trans ?_ (wX7_up_15  h)
    refine Un.trans ?_ ((wX7_isRule hq4).mono (sub_k [] rfl) (sub_k [] rfl) (sub_k [] rfl))
    exact Un.refl _
  · skip
    obtain ⟨q8, hq9, h⟩ := bd_e h
    refine cs_e h (fun _ h => ?_) (fun _ h => ?_)
    · skip
      refine Un.trans ?_ (wX7_up_15  h)
      refine Un.trans ?_ ((wX7_isThing hq9).mono (sub_k [] rfl) (sub_k [] rfl) (sub_k [] rfl))
      refine Un.trans ?_ ((wX7_isRule hq4).mono (sub_k [] rfl) (sub_k [] rfl) (sub_k [] rfl))
      exact Un.refl _
    · skip
      refine cs_e h (fun _ h => ?_) (fun _ h => ?_)
      · skip
        have h := Option.some.inj h
        subst h
        refine Un.trans ?_ ((wX7_isThing hq9).mono (sub_k [] rfl) (sub_k [] rfl) (sub_k [] rfl))
        refine Un.trans ?_ ((wX7_isRule hq4).mono (sub_k [] rfl) (sub_k [] rfl) (sub_k [] rfl))
        exact Un.refl _
      · skip
        obtain ⟨q14, hq15, h⟩ := bd_e h
        obtain ⟨q18, hq19, h⟩ := bd_e h
        have h := Option.some.inj h
        subst h
        refine Un.trans ?_ ((wX7_upBy hq19).mono (sub_k [] rfl) (sub_k [] rfl) (sub_k [] rfl))
        refine Un.trans ?_ ((wX7_take hq15).mono (sub_k [0, 1] rfl) (sub_k [] rfl) (sub_k [] rfl))
        refine Un.trans ?_ ((wX7_isThing hq9).mono (sub_k [] rfl) (sub_k [] rfl) (sub_k [] rfl))
        refine Un.trans ?_ ((wX7_isRule hq4).mono (sub_k [] rfl) (sub_k [] rfl) (sub_k [] rfl))
        exact Un.refl _
set_option maxRecDepth 4000 in
theorem wX7_master {q : Int32 × St} {l1 : Int32} {S : St} (h : fX7_master l1 S = some q) : Un [(47, 99), (52, 99), (53, 99), (54, 99)] [] [] S q.2 := by
  unfold fX7_master at h
  obtain ⟨q3, hq4, h⟩ := bd_e h
  refine cs_e h (fun _ h => ?_) (fun _ h => ?_)
  · skip
    have h := Option.some.inj h
    subst h
    refine Un.trans ?_ ((wX7_isThing hq4).mono (sub_k [] rfl) (sub_k [] rfl) (sub_k [] rfl))
    exact Un.refl _
  · skip
    refine cs_e h (fun _ h => ?_) (fun _ h => ?_)
    · skip
      have h := Option.some.inj h
      subst h
      refine Un.trans ?_ ((wX7_isThing hq4).mono (sub_k [] rfl) (sub_k [] rfl) (sub_k [] rfl))
      exact Un.refl _
    · skip
      obtain ⟨q9, hq10, h⟩ := bd_e h
      obtain ⟨q13, hq14, h⟩ := bd_e h
      obtain ⟨q17, hq18, h⟩ := bd_e h
      have h := Option.some.inj h
      subst h
      refine Un.trans ?_ ((wX7_put hq18).mono (sub_k [0] rfl) (sub_k [] rfl) (sub_k [] rfl))
      refine Un.trans ?_ ((wX7_tellNow hq14).mono (sub_k [1, 3] rfl) (sub_k [] rfl) (sub_k [] rfl))
      refine Un.trans ?_ ((wX7_take hq10).mono (sub_k [1, 2] rfl) (sub_k [] rfl) (sub_k [] rfl))
      refine Un.trans ?_ ((wX7_isThing hq4).mono (sub_k [] rfl) (sub_k [] rfl) (sub_k [] rfl))
      exact Un.refl _
set_option maxRecDepth 4000 in
theorem wX7_mastered_30 {q : Int32 × St}  : ∀ (n : Nat) {l2 : Int32} {S : St}, FX7_mastered_30 n l2 S = some q → Un [(52, 99), (53, 99), (54, 99)] [] [] S q.2 := by
  intro n
  induction n with
  | zero => intro _ _ h; cases h
  | succ n ih =>
    intro l2 S h
    rw [FX7_mastered_30] at h
    refine cs_e h (fun _ h => ?_) (fun _ h => ?_)
    · skip
      have h := Option.some.inj h
      subst h
      exact Un.refl _
    · skip
      obtain ⟨q14, hq15, h⟩ := bd_e h
      refine cs_e h (fun _ h => ?_) (fun _ h => ?_)
      · skip
        have h := Option.some.inj h
        subst h
        refine Un.trans ?_ ((wX7_knownNow hq15).mono (sub_k [] rfl) (sub_k [] rfl) (sub_k [] rfl))
        exact Un.refl _
      · skip
        obtain ⟨q19, hq20, h⟩ := bd_e h
        refine Un.trans ?_ (ih h)
        refine Un.trans ?_ ((wX7_tellNow hq20).mono (sub_k [0, 2] rfl) (sub_k [] rfl) (sub_k [] rfl))
        refine Un.trans ?_ ((wX7_knownNow hq15).mono (sub_k [] rfl) (sub_k [] rfl) (sub_k [] rfl))
        exact Un.refl _
set_option maxRecDepth 4000 in
theorem wX7_mastered {q : Int32 × St} {l1 : Int32} {S : St} (h : fX7_mastered l1 S = some q) : Un [(52, 99), (53, 99), (54, 99)] [] [] S q.2 := by
  unfold fX7_mastered at h
  obtain ⟨q3, hq4, h⟩ := bd_e h
  refine cs_e h (fun _ h => ?_) (fun _ h => ?_)
  · skip
    have h := Option.some.inj h
    subst h
    refine Un.trans ?_ ((wX7_isThing hq4).mono (sub_k [] rfl) (sub_k [] rfl) (sub_k [] rfl))
    exact Un.refl _
  · skip
    refine cs_e h (fun _ h => ?_) (fun _ h => ?_)
    · skip
      have h := Option.some.inj h
      subst h
      refine Un.trans ?_ ((wX7_isThing hq4).mono (sub_k [] rfl) (sub_k [] rfl) (sub_k [] rfl))
      exact Un.refl _
    · skip
      obtain ⟨q9, hq10, h⟩ := bd_e h
      refine Un.trans ?_ (wX7_mastered_30  _ h)
      refine Un.trans ?_ ((wX7_take hq10).mono (sub_k [0, 1] rfl) (sub_k [] rfl) (sub_k [] rfl))
      refine Un.trans ?_ ((wX7_isThing hq4).mono (sub_k [] rfl) (sub_k [] rfl) (sub_k [] rfl))
      exact Un.refl _
set_option maxRecDepth 4000 in
theorem wX7_partRight_74 {q : Unit × St}  {k30 : Int32 → Int32 → Int64 → Int32 → Int32 → Int64 → Int32 → St → Option (Unit × St)} (hk30 : ∀ {l1 : Int32} {l2 : Int32} {l3 : Int64} {l5 : Int32} {l6 : Int32} {l7 : Int64} {l9 : Int32} {S : St}, k30 l1 l2 l3 l5 l6 l7 l9 S = some q → Un [(44, 34), (54, 99), (63, 99)] [(62, 99)] [] S q.2) {l1 : Int32} {l2 : Int32} {l3 : Int64} {l5 : Int32} {l6 : Int32} {l9 : Int32} {s0 : Int64} {S : St} (h : FX7_partRight_74 k30 l1 l2 l3 l5 l6 l9 s0 S = some q) : Un [(44, 34), (54, 99), (63, 99)] [(62, 99)] [] S q.2 := by
  unfold FX7_partRight_74 at h
  refine Un.trans ?_ (hk30 h)
  exact Un.refl _
set_option maxRecDepth 4000 in
theorem wX7_partRight_30 {q : Unit × St}  {k19 : Int32 → Int32 → Int64 → Int32 → Int32 → St → Option (Unit × St)} (hk19 : ∀ {l1 : Int32} {l2 : Int32} {l3 : Int64} {l5 : Int32} {l6 : Int32} {S : St}, k19 l1 l2 l3 l5 l6 S = some q → Un [(44, 34), (54, 99), (63, 99)] [(62, 99)] [] S q.2) : ∀ (n : Nat) {l1 : Int32} {l2 : Int32} {l3 : Int64} {l5 : Int32} {l6 : Int32} {l7 : Int64} {l9 : Int32} {S : St}, FX7_partRight_30 k19 n l1 l2 l3 l5 l6 l7 l9 S = some q → Un [(44, 34), (54, 99), (63, 99)] [(62, 99)] [] S q.2 := by
  intro n
  induction n with
  | zero => intro _ _ _ _ _ _ _ _ h; cases h
  | succ n ih =>
    intro l1 l2 l3 l5 l6 l7 l9 S h
    rw [FX7_partRight_30] at h
    refine cs_e h (fun _ h => ?_) (fun _ h => ?_)
    · skip
      obtain ⟨q11, hq12, h⟩ := bd_e h
      refine Un.trans ?_ (hk19 h)
      refine Un.trans ?_ ((wX7_partNo hq12).mono (sub_k [0, 1, 2] rfl) (sub_k [0] rfl) (sub_k [] rfl))
      exact Un.refl _
    · skip
      obtain ⟨q16, hq17, h⟩ := bd_e h
      obtain ⟨q21, hq22, h⟩ := bd_e h
      refine cs_e h (fun _ h => ?_) (fun _ h => ?_)
      · skip
        refine Un.trans ?_ (wX7_partRight_74 (fun h => ih h) h)
        refine Un.trans ?_ ((wX7_has hq22).mono (sub_k [] rfl) (sub_k [] rfl) (sub_k [] rfl))
        refine Un.trans ?_ ((wX7_chanceOf hq17).mono (sub_k [] rfl) (sub_k [] rfl) (sub_k [] rfl))
        exact Un.refl _
      · skip
        refine Un.trans ?_ (wX7_partRight_74 (fun h => ih h) h)
        refine Un.trans ?_ ((wX7_has hq22).mono (sub_k [] rfl) (sub_k [] rfl) (sub_k [] rfl))
        refine Un.trans ?_ ((wX7_chanceOf hq17).mono (sub_k [] rfl) (sub_k [] rfl) (sub_k [] rfl))
        exact Un.refl _
set_option maxRecDepth 4000 in
theorem wX7_partRight_19 {q : Unit × St}  : ∀ (n : Nat) {l1 : Int32} {l2 : Int32} {l3 : Int64} {l5 : Int32} {l6 : Int32} {S : St}, FX7_partRight_19 n l1 l2 l3 l5 l6 S = some q → Un [(44, 34), (54, 99), (63, 99)] [(62, 99)] [] S q.2 := by
  intro n
  induction n with
  | zero => intro _ _ _ _ _ _ h; cases h
  | succ n ih =>
    intro l1 l2 l3 l5 l6 S h
    rw [FX7_partRight_19] at h
    refine cs_e h (fun _ h => ?_) (fun _ h => ?_)
    · skip
      have h := Option.some.inj h
      subst h
      exact Un.refl _
    · skip
      refine Un.trans ?_ (wX7_partRight_30 (fun h => ih h) _ h)
      exact Un.refl _
set_option maxRecDepth 4000 in
theorem wX7_partRight {q : Unit × St} {l1 : Int32} {l2 : Int32} {l3 : Int64} {S : St} (h : fX7_partRight l1 l2 l3 S = some q) : Un [(44, 34), (54, 99), (63, 99)] [(62, 99)] [] S q.2 := by
  unfold fX7_partRight at h
  obtain ⟨q3, hq4, h⟩ := bd_e h
  refine Un.trans ?_ (wX7_partRight_19  _ h)
  refine Un.trans ?_ ((wX7_listSurer hq4).mono (sub_k [0, 2] rfl) (sub_k [] rfl) (sub_k [] rfl))
  exact Un.refl _
set_option maxRecDepth 4000 in
theorem wX1_follow_110 {q : Unit × St}  {k71 : Int32 → Int32 → Int32 → Int32 → Int32 → Int32 → St → Option (Unit × St)} (hk71 : ∀ {l2 : Int32} {l4 : Int32} {l5 : Int32} {l6 : Int32} {l7 : Int32} {l8 : Int32} {S : St}, k71 l2 l4 l5 l6 l7 l8 S = some q → Un [(27, 99), (33, 3), (33, 5), (37, 99)] [(34, 99), (35, 99), (36, 99)] [(33, 0), (33, 1)] S q.2) {l2 : Int32} {l4 : Int32} {l5 : Int32} {l6 : Int32} {l7 : Int32} {l8 : Int32} {S : St} (h : FX1_follow_110 k71 l2 l4 l5 l6 l7 l8 S = some q) : Un [(27, 99), (33, 3), (33, 5), (37, 99)] [(34, 99), (35, 99), (36, 99)] [(33, 0), (33, 1)] S q.2 := by
  unfold FX1_follow_110 at h
  refine Un.trans ?_ (hk71 h)
  exact Un.refl _
set_option maxRecDepth 4000 in
theorem wX1_follow_71 {q : Unit × St}  {k53 : Int32 → Int32 → Int32 → Int32 → Int32 → St → Option (Unit × St)} (hk53 : ∀ {l2 : Int32} {l4 : Int32} {l5 : Int32} {l6 : Int32} {l7 : Int32} {S : St}, k53 l2 l4 l5 l6 l7 S = some q → Un [(27, 99), (33, 3), (33, 5), (37, 99)] [(34, 99), (35, 99), (36, 99)] [(33, 0), (33, 1)] S q.2) : ∀ (n : Nat) {l2 : Int32} {l4 : Int32} {l5 : Int32} {l6 : Int32} {l7 : Int32} {l8 : Int32} {S : St}, FX1_follow_71 k53 n l2 l4 l5 l6 l7 l8 S = some q → Un [(27, 99), (33, 3), (33, 5), (37, 99)] [(34, 99), (35, 99), (36, 99)] [(33, 0), (33, 1)] S q.2 := by
  intro n
  induction n with
  | zero => intro _ _ _ _ _ _ _ h; cases h
  | succ n ih =>
    intro l2 l4 l5 l6 l7 l8 S h
    rw [FX1_follow_71] at h
    refine cs_e h (fun _ h => ?_) (fun _ h => ?_)
    · skip
      obtain ⟨g25, h⟩ := gd_e h
      obtain ⟨g26, h⟩ := gd_e h
      obtain ⟨q31, hq32, h⟩ := bd_e h
      refine Un.trans ?_ (hk53 h)
      refine Un.trans ?_ ((wX0_after hq32).mono (sub_k [] rfl) (sub_k [] rfl) (sub_k [] rfl))
      refine Un.rS ?_ (List.mem_of_getElem? (i := 1) rfl)
      refine Un.rS ?_ (List.mem_of_getElem? (i := 0) rfl)
      exact Un.refl _
    · skip
      obtain ⟨g34, h⟩ := gd_e h
      obtain ⟨g35, h⟩ := gd_e h
      refine cs_e h (fun _ h => ?_) (fun _ h => ?_)
      · skip
        refine Un.trans ?_ (wX1_follow_110 (fun h => ih h) h)
        exact Un.refl _
      · skip
        obtain ⟨q39, hq40, h⟩ := bd_e h
        obtain ⟨q43, hq44, h⟩ := bd_e h
        obtain ⟨q47, hq48, h⟩ := bd_e h
        refine Un.trans ?_ (wX1_follow_110 (fun h => ih h) h)
        refine Un.trans ?_ ((wX1_teach hq48).mono (sub_k [1, 2, 3] rfl) (sub_k [0, 1, 2] rfl) (sub_k [] rfl))
        refine Un.trans ?_ ((wX0_chosen hq44).mono (sub_k [] rfl) (sub_k [] rfl) (sub_k [] rfl))
        refine Un.trans ?_ ((wX0_setLevels hq40).mono (sub_k [0] rfl) (sub_k [] rfl) (sub_k [] rfl))
        exact Un.refl _
set_option maxRecDepth 4000 in
theorem wX1_follow_53 {q : Unit × St}  : ∀ (n : Nat) {l2 : Int32} {l4 : Int32} {l5 : Int32} {l6 : Int32} {l7 : Int32} {S : St}, FX1_follow_53 n l2 l4 l5 l6 l7 S = some q → Un [(27, 99), (33, 3), (33, 5), (37, 99)] [(34, 99), (35, 99), (36, 99)] [(33, 0), (33, 1)] S q.2 := by
  intro n
  induction n with
  | zero => intro _ _ _ _ _ _ h; cases h
  | succ n ih =>
    intro l2 l4 l5 l6 l7 S h
    rw [FX1_follow_53] at h
    refine cs_e h (fun _ h => ?_) (fun _ h => ?_)
    · skip
      have h := Option.some.inj h
      subst h
      exact Un.refl _
    · skip
      obtain ⟨g19, h⟩ := gd_e h
      obtain ⟨q22, hq23, h⟩ := bd_e h
      refine Un.trans ?_ (wX1_follow_71 (fun h => ih h) _ h)
      refine Un.trans ?_ ((wJ7_fill_d0a16 hq23).mono (sub_k [] rfl) (by rcases isLA_or g19 with e | e <;> rw [e] <;> decide) (sub_k [] rfl))
      exact Un.refl _
set_option maxRecDepth 4000 in
theorem wX1_follow {q : Unit × St} {l2 : Int32} {l3 : Int32} {l4 : Int32} {S : St} (h : fX1_follow l2 l3 l4 S = some q) : Un [(27, 99), (33, 3), (33, 5), (37, 99)] [(34, 99), (35, 99), (36, 99)] [(33, 0), (33, 1)] S q.2 := by
  unfold fX1_follow at h
  refine cs_e h (fun _ h => ?_) (fun _ h => ?_)
  · skip
    have h := Option.some.inj h
    subst h
    exact Un.refl _
  · skip
    refine cs_e h (fun _ h => ?_) (fun _ h => ?_)
    · skip
      obtain ⟨g4, h⟩ := gd_e h
      obtain ⟨g6, h⟩ := gd_e h
      obtain ⟨q9, hq10, h⟩ := bd_e h
      obtain ⟨g11, h⟩ := gd_e h
      obtain ⟨q14, hq15, h⟩ := bd_e h
      obtain ⟨g16, h⟩ := gd_e h
      refine Un.trans ?_ (wX1_follow_53  _ h)
      refine Un.jA ?_ (by rcases isLA_or g11 with e | e <;> rw [e] <;> decide)
      refine Un.trans ?_ ((wX0_code hq15).mono (sub_k [] rfl) (sub_k [] rfl) (sub_k [] rfl))
      refine Un.trans ?_ ((wJ7_fill_d0a16 hq10).mono (sub_k [] rfl) (by rcases isLA_or g6 with e | e <;> rw [e] <;> decide) (sub_k [] rfl))
      exact Un.refl _
    · skip
      have h := Option.some.inj h
      subst h
      exact Un.refl _
set_option maxRecDepth 4000 in
theorem wX6_pays_16 {q : Int32 × St}   {S : St} (h : FX6_pays_16  S = some q) : Un [(25, 0), (25, 1), (25, 2), (25, 3), (26, 99), (27, 99), (28, 99), (29, 99), (30, 99), (31, 99), (32, 99)] [] [] S q.2 := by
  unfold FX6_pays_16 at h
  have h := Option.some.inj h
  subst h
  exact Un.refl _
set_option maxRecDepth 4000 in
theorem wX6_pays_42 {q : Int32 × St}   {S : St} (h : FX6_pays_42  S = some q) : Un [(25, 0), (25, 1), (25, 2), (25, 3), (26, 99), (27, 99), (28, 99), (29, 99), (30, 99), (31, 99), (32, 99)] [] [] S q.2 := by
  unfold FX6_pays_42 at h
  have h := Option.some.inj h
  subst h
  exact Un.refl _
set_option maxRecDepth 4000 in
theorem wX6_pays {q : Int32 × St} {l1 : Int32} {l2 : Int32} {l3 : Int32} {l4 : Int32} {S : St} (h : fX6_pays l1 l2 l3 l4 S = some q) : Un [(25, 0), (25, 1), (25, 2), (25, 3), (26, 99), (27, 99), (28, 99), (29, 99), (30, 99), (31, 99), (32, 99)] [] [] S q.2 := by
  unfold fX6_pays at h
  obtain ⟨q3, hq4, h⟩ := bd_e h
  refine cs_e h (fun _ h => ?_) (fun _ h => ?_)
  · skip
    refine Un.trans ?_ (wX6_pays_16  h)
    refine Un.trans ?_ ((wX6_isPupil hq4).mono (sub_k [] rfl) (sub_k [] rfl) (sub_k [] rfl))
    exact Un.refl _
  · skip
    obtain ⟨q8, hq9, h⟩ := bd_e h
    refine cs_e h (fun _ h => ?_) (fun _ h => ?_)
    · skip
      refine Un.trans ?_ (wX6_pays_16  h)
      refine Un.trans ?_ ((wX6_isThing hq9).mono (sub_k [] rfl) (sub_k [] rfl) (sub_k [] rfl))
      refine Un.trans ?_ ((wX6_isPupil hq4).mono (sub_k [] rfl) (sub_k [] rfl) (sub_k [] rfl))
      exact Un.refl _
    · skip
      refine cs_e h (fun _ h => ?_) (fun _ h => ?_)
      · skip
        refine Un.trans ?_ (wX6_pays_42  h)
        refine Un.trans ?_ ((wX6_isThing hq9).mono (sub_k [] rfl) (sub_k [] rfl) (sub_k [] rfl))
        refine Un.trans ?_ ((wX6_isPupil hq4).mono (sub_k [] rfl) (sub_k [] rfl) (sub_k [] rfl))
        exact Un.refl _
      · skip
        refine cs_e h (fun _ h => ?_) (fun _ h => ?_)
        · skip
          refine Un.trans ?_ (wX6_pays_42  h)
          refine Un.trans ?_ ((wX6_isThing hq9).mono (sub_k [] rfl) (sub_k [] rfl) (sub_k [] rfl))
          refine Un.trans ?_ ((wX6_isPupil hq4).mono (sub_k [] rfl) (sub_k [] rfl) (sub_k [] rfl))
          exact Un.refl _
        · skip
          refine cs_e h (fun _ h => ?_) (fun _ h => ?_)
          · skip
            refine Un.trans ?_ (wX6_pays_42  h)
            refine Un.trans ?_ ((wX6_isThing hq9).mono (sub_k [] rfl) (sub_k [] rfl) (sub_k [] rfl))
            refine Un.trans ?_ ((wX6_isPupil hq4).mono (sub_k [] rfl) (sub_k [] rfl) (sub_k [] rfl))
            exact Un.refl _
          · skip
            refine cs_e h (fun _ h => ?_) (fun _ h => ?_)
            · skip
              obtain ⟨q17, hq18, h⟩ := bd_e h
              obtain ⟨q21, hq22, h⟩ := bd_e h
              have h := Option.some.inj h
              subst h
              refine Un.trans ?_ ((wX6_levelBehind hq22).mono (sub_k [0, 1, 2, 3, 4, 5, 6, 7, 8, 9, 10] rfl) (sub_k [] rfl) (sub_k [] rfl))
              refine Un.trans ?_ ((wX6_levelBehind hq18).mono (sub_k [0, 1, 2, 3, 4, 5, 6, 7, 8, 9, 10] rfl) (sub_k [] rfl) (sub_k [] rfl))
              refine Un.trans ?_ ((wX6_isThing hq9).mono (sub_k [] rfl) (sub_k [] rfl) (sub_k [] rfl))
              refine Un.trans ?_ ((wX6_isPupil hq4).mono (sub_k [] rfl) (sub_k [] rfl) (sub_k [] rfl))
              exact Un.refl _
            · skip
              refine Un.trans ?_ (wX6_pays_42  h)
              refine Un.trans ?_ ((wX6_isThing hq9).mono (sub_k [] rfl) (sub_k [] rfl) (sub_k [] rfl))
              refine Un.trans ?_ ((wX6_isPupil hq4).mono (sub_k [] rfl) (sub_k [] rfl) (sub_k [] rfl))
              exact Un.refl _
set_option maxRecDepth 4000 in
theorem wX7_school_125 {q : Int32 × St}  : ∀ (n : Nat) {l2 : Int32} {S : St}, FX7_school_125 n l2 S = some q → Un [(44, 0), (44, 1), (44, 5), (44, 6), (44, 8), (44, 9), (44, 10), (44, 12), (44, 13), (44, 14), (44, 15), (44, 16), (44, 35), (45, 99), (46, 99), (47, 99), (49, 99), (50, 99), (51, 99), (68, 99)] [(44, 11)] [] S q.2 := by
  intro n
  induction n with
  | zero => intro _ _ h; cases h
  | succ n ih =>
    intro l2 S h
    rw [FX7_school_125] at h
    refine cs_e h (fun _ h => ?_) (fun _ h => ?_)
    · skip
      obtain ⟨g31, h⟩ := gd_e h
      obtain ⟨g34, h⟩ := gd_e h
      obtain ⟨g36, h⟩ := gd_e h
      have h := Option.some.inj h
      subst h
      refine Un.nA ?_ (List.mem_of_getElem? (i := 19) rfl)
      refine Un.nA ?_ (List.mem_of_getElem? (i := 19) rfl)
      refine Un.nS ?_ (List.mem_of_getElem? (i := 12) rfl)
      refine Un.nS ?_ (List.mem_of_getElem? (i := 3) rfl)
      refine Un.nS ?_ (List.mem_of_getElem? (i := 2) rfl)
      exact Un.refl _
    · skip
      obtain ⟨g38, h⟩ := gd_e h
      obtain ⟨g39, h⟩ := gd_e h
      refine Un.trans ?_ (ih h)
      refine Un.nA ?_ (List.mem_of_getElem? (i := 15) rfl)
      exact Un.refl _
set_option maxRecDepth 4000 in
theorem wX7_school_99 {q : Int32 × St}  : ∀ (n : Nat) {l2 : Int32} {S : St}, FX7_school_99 n l2 S = some q → Un [(44, 0), (44, 1), (44, 5), (44, 6), (44, 8), (44, 9), (44, 10), (44, 12), (44, 13), (44, 14), (44, 15), (44, 16), (44, 35), (45, 99), (46, 99), (47, 99), (49, 99), (50, 99), (51, 99), (68, 99)] [(44, 11)] [] S q.2 := by
  intro n
  induction n with
  | zero => intro _ _ h; cases h
  | succ n ih =>
    intro l2 S h
    rw [FX7_school_99] at h
    refine cs_e h (fun _ h => ?_) (fun _ h => ?_)
    · skip
      refine Un.trans ?_ (wX7_school_125  _ h)
      exact Un.refl _
    · skip
      obtain ⟨g25, h⟩ := gd_e h
      obtain ⟨g26, h⟩ := gd_e h
      refine Un.trans ?_ (ih h)
      refine Un.nA ?_ (List.mem_of_getElem? (i := 14) rfl)
      exact Un.refl _
set_option maxRecDepth 4000 in
theorem wX7_school_73 {q : Int32 × St}  : ∀ (n : Nat) {l2 : Int32} {S : St}, FX7_school_73 n l2 S = some q → Un [(44, 0), (44, 1), (44, 5), (44, 6), (44, 8), (44, 9), (44, 10), (44, 12), (44, 13), (44, 14), (44, 15), (44, 16), (44, 35), (45, 99), (46, 99), (47, 99), (49, 99), (50, 99), (51, 99), (68, 99)] [(44, 11)] [] S q.2 := by
  intro n
  induction n with
  | zero => intro _ _ h; cases h
  | succ n ih =>
    intro l2 S h
    rw [FX7_school_73] at h
    refine cs_e h (fun _ h => ?_) (fun _ h => ?_)
    · skip
      refine Un.trans ?_ (wX7_school_99  _ h)
      exact Un.refl _
    · skip
      obtain ⟨g20, h⟩ := gd_e h
      obtain ⟨g21, h⟩ := gd_e h
      refine Un.trans ?_ (ih h)
      refine Un.nA ?_ (List.mem_of_getElem? (i := 13) rfl)
      exact Un.refl _
set_option maxRecDepth 4000 in
theorem wX7_school_41 {q : Int32 × St}  {l1 : Int32} {S : St} (h : FX7_school_41 l1 S = some q) : Un [(44, 0), (44, 1), (44, 5), (44, 6), (44, 8), (44, 9), (44, 10), (44, 12), (44, 13), (44, 14), (44, 15), (44, 16), (44, 35), (45, 99), (46, 99), (47, 99), (49, 99), (50, 99), (51, 99), (68, 99)] [(44, 11)] [] S q.2 := by
  unfold FX7_school_41 at h
  refine cs_e h (fun _ h => ?_) (fun _ h => ?_)
  · skip
    refine Un.trans ?_ (wX7_school_73  _ h)
    refine Un.nS ?_ (List.mem_of_getElem? (i := 1) rfl)
    refine Un.nS ?_ (List.mem_of_getElem? (i := 0) rfl)
    refine Un.nS ?_ (List.mem_of_getElem? (i := 4) rfl)
    exact Un.refl _
  · skip
    have h := Option.some.inj h
    subst h
    refine Un.nS ?_ (List.mem_of_getElem? (i := 4) rfl)
    exact Un.refl _
set_option maxRecDepth 4000 in
theorem wX7_school_22 {q : Int32 × St}  : ∀ (n : Nat) {l1 : Int32} {S : St}, FX7_school_22 n l1 S = some q → Un [(44, 0), (44, 1), (44, 5), (44, 6), (44, 8), (44, 9), (44, 10), (44, 12), (44, 13), (44, 14), (44, 15), (44, 16), (44, 35), (45, 99), (46, 99), (47, 99), (49, 99), (50, 99), (51, 99), (68, 99)] [(44, 11)] [] S q.2 := by
  intro n
  induction n with
  | zero => intro _ _ h; cases h
  | succ n ih =>
    intro l1 S h
    rw [FX7_school_22] at h
    refine cs_e h (fun _ h => ?_) (fun _ h => ?_)
    · skip
      obtain ⟨q8, hq9, h⟩ := bd_e h
      refine cs_e h (fun _ h => ?_) (fun _ h => ?_)
      · skip
        refine Un.trans ?_ (wX7_school_41  h)
        refine Un.trans ?_ ((wX7_here hq9).mono (sub_k [6] rfl) (sub_k [] rfl) (sub_k [] rfl))
        exact Un.refl _
      · skip
        obtain ⟨q13, hq14, h⟩ := bd_e h
        refine Un.trans ?_ (ih h)
        refine Un.trans ?_ ((wX7_takeClause hq14).mono (sub_k [5, 6, 7, 8, 9, 10, 11, 16, 17, 18] rfl) (sub_k [0] rfl) (sub_k [] rfl))
        refine Un.trans ?_ ((wX7_here hq9).mono (sub_k [6] rfl) (sub_k [] rfl) (sub_k [] rfl))
        exact Un.refl _
    · skip
      refine Un.trans ?_ (wX7_school_41  h)
      exact Un.refl _
set_option maxRecDepth 4000 in
theorem wX7_school {q : Int32 × St}  {S : St} (h : fX7_school  S = some q) : Un [(44, 0), (44, 1), (44, 5), (44, 6), (44, 8), (44, 9), (44, 10), (44, 12), (44, 13), (44, 14), (44, 15), (44, 16), (44, 35), (45, 99), (46, 99), (47, 99), (49, 99), (50, 99), (51, 99), (68, 99)] [(44, 11)] [] S q.2 := by
  unfold fX7_school at h
  refine Un.trans ?_ (wX7_school_22  _ h)
  refine Un.nS ?_ (List.mem_of_getElem? (i := 11) rfl)
  refine Un.nS ?_ (List.mem_of_getElem? (i := 10) rfl)
  refine Un.nS ?_ (List.mem_of_getElem? (i := 6) rfl)
  refine Un.nS ?_ (List.mem_of_getElem? (i := 5) rfl)
  exact Un.refl _
set_option maxRecDepth 4000 in
theorem wX7_lesson_16 {q : Int32 × St}   {S : St} (h : FX7_lesson_16  S = some q) : Un [(44, 23), (47, 99), (52, 99), (53, 99), (54, 99)] [] [] S q.2 := by
  unfold FX7_lesson_16 at h
  have h := Option.some.inj h
  subst h
  exact Un.refl _
set_option maxRecDepth 4000 in
theorem wX7_lesson {q : Int32 × St} {l1 : Int32} {l2 : Int32} {l3 : Int32} {S : St} (h : fX7_lesson l1 l2 l3 S = some q) : Un [(44, 23), (47, 99), (52, 99), (53, 99), (54, 99)] [] [] S q.2 := by
  unfold fX7_lesson at h
  obtain ⟨q3, hq4, h⟩ := bd_e h
  refine cs_e h (fun _ h => ?_) (fun _ h => ?_)
  · skip
    refine Un.trans ?_ (wX7_lesson_16  h)
    refine Un.trans ?_ ((wX7_isPupil hq4).mono (sub_k [] rfl) (sub_k [] rfl) (sub_k [] rfl))
    exact Un.refl _
  · skip
    obtain ⟨q8, hq9, h⟩ := bd_e h
    refine cs_e h (fun _ h => ?_) (fun _ h => ?_)
    · skip
      refine Un.trans ?_ (wX7_lesson_16  h)
      refine Un.trans ?_ ((wX7_isThing hq9).mono (sub_k [] rfl) (sub_k [] rfl) (sub_k [] rfl))
      refine Un.trans ?_ ((wX7_isPupil hq4).mono (sub_k [] rfl) (sub_k [] rfl) (sub_k [] rfl))
      exact Un.refl _
    · skip
      obtain ⟨q13, hq14, h⟩ := bd_e h
      obtain ⟨q17, hq18, h⟩ := bd_e h
      obtain ⟨q21, hq22, h⟩ := bd_e h
      obtain ⟨q25, hq26, h⟩ := bd_e h
      have h := Option.some.inj h
      subst h
      refine Un.trans ?_ ((wX7_put hq26).mono (sub_k [1] rfl) (sub_k [] rfl) (sub_k [] rfl))
      refine Un.trans ?_ ((wX7_teach hq22).mono (sub_k [0, 2, 4] rfl) (sub_k [] rfl) (sub_k [] rfl))
      refine Un.trans ?_ ((wX7_everybody hq18).mono (sub_k [] rfl) (sub_k [] rfl) (sub_k [] rfl))
      refine Un.trans ?_ ((wX7_take hq14).mono (sub_k [2, 3] rfl) (sub_k [] rfl) (sub_k [] rfl))
      refine Un.trans ?_ ((wX7_isThing hq9).mono (sub_k [] rfl) (sub_k [] rfl) (sub_k [] rfl))
      refine Un.trans ?_ ((wX7_isPupil hq4).mono (sub_k [] rfl) (sub_k [] rfl) (sub_k [] rfl))
      exact Un.refl _
set_option maxRecDepth 4000 in
theorem wX7_run_15 {q : Int32 × St}   {S : St} (h : FX7_run_15  S = some q) : Un [(44, 6), (44, 23), (47, 99), (52, 99), (53, 99), (54, 99)] [] [] S q.2 := by
  unfold FX7_run_15 at h
  have h := Option.some.inj h
  subst h
  exact Un.refl _
set_option maxRecDepth 4000 in
theorem wX7_run_108 {q : Int32 × St}  {k53 : Int32 → Int32 → Int32 → Int32 → Int32 → St → Option (Int32 × St)} (hk53 : ∀ {l1 : Int32} {l2 : Int32} {l3 : Int32} {l4 : Int32} {l5 : Int32} {S : St}, k53 l1 l2 l3 l4 l5 S = some q → Un [(44, 6), (44, 23), (47, 99), (52, 99), (53, 99), (54, 99)] [] [] S q.2) {l1 : Int32} {l2 : Int32} {l3 : Int32} {l4 : Int32} {l5 : Int32} {s0 : Int32} {S : St} (h : FX7_run_108 k53 l1 l2 l3 l4 l5 s0 S = some q) : Un [(44, 6), (44, 23), (47, 99), (52, 99), (53, 99), (54, 99)] [] [] S q.2 := by
  unfold FX7_run_108 at h
  refine Un.trans ?_ (hk53 h)
  refine Un.nS ?_ (List.mem_of_getElem? (i := 0) rfl)
  exact Un.refl _
set_option maxRecDepth 4000 in
theorem wX7_run_53 {q : Int32 × St}  : ∀ (n : Nat) {l1 : Int32} {l2 : Int32} {l3 : Int32} {l4 : Int32} {l5 : Int32} {S : St}, FX7_run_53 n l1 l2 l3 l4 l5 S = some q → Un [(44, 6), (44, 23), (47, 99), (52, 99), (53, 99), (54, 99)] [] [] S q.2 := by
  intro n
  induction n with
  | zero => intro _ _ _ _ _ _ h; cases h
  | succ n ih =>
    intro l1 l2 l3 l4 l5 S h
    rw [FX7_run_53] at h
    refine cs_e h (fun _ h => ?_) (fun _ h => ?_)
    · skip
      obtain ⟨q24, hq25, h⟩ := bd_e h
      obtain ⟨q28, hq29, h⟩ := bd_e h
      have h := Option.some.inj h
      subst h
      refine Un.trans ?_ ((wX7_knownNow hq29).mono (sub_k [] rfl) (sub_k [] rfl) (sub_k [] rfl))
      refine Un.trans ?_ ((wX7_put hq25).mono (sub_k [2] rfl) (sub_k [] rfl) (sub_k [] rfl))
      exact Un.refl _
    · skip
      obtain ⟨q32, hq33, h⟩ := bd_e h
      obtain ⟨q36, hq37, h⟩ := bd_e h
      obtain ⟨q40, hq41, h⟩ := bd_e h
      refine cs_e h (fun _ h => ?_) (fun _ h => ?_)
      · skip
        obtain ⟨g43, h⟩ := gd_e h
        refine Un.trans ?_ (wX7_run_108 (fun h => ih h) h)
        refine Un.trans ?_ ((wX7_teach hq41).mono (sub_k [1, 3, 5] rfl) (sub_k [] rfl) (sub_k [] rfl))
        refine Un.trans ?_ ((wX7_everybody hq37).mono (sub_k [] rfl) (sub_k [] rfl) (sub_k [] rfl))
        refine Un.trans ?_ ((wX7_upBy hq33).mono (sub_k [] rfl) (sub_k [] rfl) (sub_k [] rfl))
        exact Un.refl _
      · skip
        refine Un.trans ?_ (wX7_run_108 (fun h => ih h) h)
        refine Un.trans ?_ ((wX7_teach hq41).mono (sub_k [1, 3, 5] rfl) (sub_k [] rfl) (sub_k [] rfl))
        refine Un.trans ?_ ((wX7_everybody hq37).mono (sub_k [] rfl) (sub_k [] rfl) (sub_k [] rfl))
        refine Un.trans ?_ ((wX7_upBy hq33).mono (sub_k [] rfl) (sub_k [] rfl) (sub_k [] rfl))
        exact Un.refl _
set_option maxRecDepth 4000 in
theorem wX7_run {q : Int32 × St} {l1 : Int32} {l2 : Int32} {l3 : Int32} {l4 : Int32} {S : St} (h : fX7_run l1 l2 l3 l4 S = some q) : Un [(44, 6), (44, 23), (47, 99), (52, 99), (53, 99), (54, 99)] [] [] S q.2 := by
  unfold fX7_run at h
  obtain ⟨q3, hq4, h⟩ := bd_e h
  refine cs_e h (fun _ h => ?_) (fun _ h => ?_)
  · skip
    refine Un.trans ?_ (wX7_run_15  h)
    refine Un.trans ?_ ((wX7_isRule hq4).mono (sub_k [] rfl) (sub_k [] rfl) (sub_k [] rfl))
    exact Un.refl _
  · skip
    obtain ⟨q8, hq9, h⟩ := bd_e h
    refine cs_e h (fun _ h => ?_) (fun _ h => ?_)
    · skip
      refine Un.trans ?_ (wX7_run_15  h)
      refine Un.trans ?_ ((wX7_isThing hq9).mono (sub_k [] rfl) (sub_k [] rfl) (sub_k [] rfl))
      refine Un.trans ?_ ((wX7_isRule hq4).mono (sub_k [] rfl) (sub_k [] rfl) (sub_k [] rfl))
      exact Un.refl _
    · skip
      obtain ⟨q13, hq14, h⟩ := bd_e h
      refine cs_e h (fun _ h => ?_) (fun _ h => ?_)
      · skip
        have h := Option.some.inj h
        subst h
        refine Un.trans ?_ ((wX7_in hq14).mono (sub_k [] rfl) (sub_k [] rfl) (sub_k [] rfl))
        refine Un.trans ?_ ((wX7_isThing hq9).mono (sub_k [] rfl) (sub_k [] rfl) (sub_k [] rfl))
        refine Un.trans ?_ ((wX7_isRule hq4).mono (sub_k [] rfl) (sub_k [] rfl) (sub_k [] rfl))
        exact Un.refl _
      · skip
        refine cs_e h (fun _ h => ?_) (fun _ h => ?_)
        · skip
          have h := Option.some.inj h
          subst h
          refine Un.trans ?_ ((wX7_in hq14).mono (sub_k [] rfl) (sub_k [] rfl) (sub_k [] rfl))
          refine Un.trans ?_ ((wX7_isThing hq9).mono (sub_k [] rfl) (sub_k [] rfl) (sub_k [] rfl))
          refine Un.trans ?_ ((wX7_isRule hq4).mono (sub_k [] rfl) (sub_k [] rfl) (sub_k [] rfl))
          exact Un.refl _
        · skip
          obtain ⟨q19, hq20, h⟩ := bd_e h
          refine Un.trans ?_ (wX7_run_53  _ h)
          refine Un.trans ?_ ((wX7_take hq20).mono (sub_k [3, 4] rfl) (sub_k [] rfl) (sub_k [] rfl))
          refine Un.trans ?_ ((wX7_in hq14).mono (sub_k [] rfl) (sub_k [] rfl) (sub_k [] rfl))
          refine Un.trans ?_ ((wX7_isThing hq9).mono (sub_k [] rfl) (sub_k [] rfl) (sub_k [] rfl))
          refine Un.trans ?_ ((wX7_isRule hq4).mono (sub_k [] rfl) (sub_k [] rfl) (sub_k [] rfl))
          exact Un.refl _
set_option maxRecDepth 4000 in
theorem wX7_hours_15 {q : Int32 × St}   {S : St} (h : FX7_hours_15  S = some q) : Un [(44, 23), (52, 99), (53, 99), (54, 99)] [] [] S q.2 := by
  unfold FX7_hours_15 at h
  have h := Option.some.inj h
  subst h
  exact Un.refl _
set_option maxRecDepth 4000 in
theorem wX7_hours_43 {q : Int32 × St}  : ∀ (n : Nat) {l1 : Int32} {l3 : Int32} {l4 : Int32} {S : St}, FX7_hours_43 n l1 l3 l4 S = some q → Un [(44, 23), (52, 99), (53, 99), (54, 99)] [] [] S q.2 := by
  intro n
  induction n with
  | zero => intro _ _ _ _ h; cases h
  | succ n ih =>
    intro l1 l3 l4 S h
    rw [FX7_hours_43] at h
    refine cs_e h (fun _ h => ?_) (fun _ h => ?_)
    · skip
      have h := Option.some.inj h
      subst h
      exact Un.refl _
    · skip
      obtain ⟨q20, hq21, h⟩ := bd_e h
      refine cs_e h (fun _ h => ?_) (fun _ h => ?_)
      · skip
        have h := Option.some.inj h
        subst h
        refine Un.trans ?_ ((wX7_knownNow hq21).mono (sub_k [] rfl) (sub_k [] rfl) (sub_k [] rfl))
        exact Un.refl _
      · skip
        obtain ⟨q25, hq26, h⟩ := bd_e h
        obtain ⟨q29, hq30, h⟩ := bd_e h
        obtain ⟨q33, hq34, h⟩ := bd_e h
        obtain ⟨g35, h⟩ := gd_e h
        refine Un.trans ?_ (ih h)
        refine Un.trans ?_ ((wX7_teach hq34).mono (sub_k [0, 1, 3] rfl) (sub_k [] rfl) (sub_k [] rfl))
        refine Un.trans ?_ ((wX7_everybody hq30).mono (sub_k [] rfl) (sub_k [] rfl) (sub_k [] rfl))
        refine Un.trans ?_ ((wX7_upBy hq26).mono (sub_k [] rfl) (sub_k [] rfl) (sub_k [] rfl))
        refine Un.trans ?_ ((wX7_knownNow hq21).mono (sub_k [] rfl) (sub_k [] rfl) (sub_k [] rfl))
        exact Un.refl _
set_option maxRecDepth 4000 in
theorem wX7_hours {q : Int32 × St} {l1 : Int32} {l2 : Int32} {S : St} (h : fX7_hours l1 l2 S = some q) : Un [(44, 23), (52, 99), (53, 99), (54, 99)] [] [] S q.2 := by
  unfold fX7_hours at h
  obtain ⟨q3, hq4, h⟩ := bd_e h
  refine cs_e h (fun _ h => ?_) (fun _ h => ?_)
  · skip
    refine Un.trans ?_ (wX7_hours_15  h)
    refine Un.trans ?_ ((wX7_isRule hq4).mono (sub_k [] rfl) (sub_k [] rfl) (sub_k [] rfl))
    exact Un.refl _
  · skip
    obtain ⟨q8, hq9, h⟩ := bd_e h
    refine cs_e h (fun _ h => ?_) (fun _ h => ?_)
    · skip
      refine Un.trans ?_ (wX7_hours_15  h)
      refine Un.trans ?_ ((wX7_isThing hq9).mono (sub_k [] rfl) (sub_k [] rfl) (sub_k [] rfl))
      refine Un.trans ?_ ((wX7_isRule hq4).mono (sub_k [] rfl) (sub_k [] rfl) (sub_k [] rfl))
      exact Un.refl _
    · skip
      refine cs_e h (fun _ h => ?_) (fun _ h => ?_)
      · skip
        have h := Option.some.inj h
        subst h
        refine Un.trans ?_ ((wX7_isThing hq9).mono (sub_k [] rfl) (sub_k [] rfl) (sub_k [] rfl))
        refine Un.trans ?_ ((wX7_isRule hq4).mono (sub_k [] rfl) (sub_k [] rfl) (sub_k [] rfl))
        exact Un.refl _
      · skip
        obtain ⟨q14, hq15, h⟩ := bd_e h
        refine Un.trans ?_ (wX7_hours_43  _ h)
        refine Un.trans ?_ ((wX7_take hq15).mono (sub_k [1, 2] rfl) (sub_k [] rfl) (sub_k [] rfl))
        refine Un.trans ?_ ((wX7_isThing hq9).mono (sub_k [] rfl) (sub_k [] rfl) (sub_k [] rfl))
        refine Un.trans ?_ ((wX7_isRule hq4).mono (sub_k [] rfl) (sub_k [] rfl) (sub_k [] rfl))
        exact Un.refl _
set_option maxRecDepth 4000 in
theorem wX7_next {q : Int32 × St} {l1 : Int32} {l2 : Int32} {l3 : Int32} {l4 : Int32} {S : St} (h : fX7_next l1 l2 l3 l4 S = some q) : Un [(44, 23), (52, 99), (54, 99)] [] [] S q.2 := by
  unfold fX7_next at h
  obtain ⟨q3, hq4, h⟩ := bd_e h
  obtain ⟨q7, hq8, h⟩ := bd_e h
  obtain ⟨q11, hq12, h⟩ := bd_e h
  have h := Option.some.inj h
  subst h
  refine Un.trans ?_ ((wX7_stateNow hq12).mono (sub_k [] rfl) (sub_k [] rfl) (sub_k [] rfl))
  refine Un.trans ?_ ((wX7_teach hq8).mono (sub_k [0, 1, 2] rfl) (sub_k [] rfl) (sub_k [] rfl))
  refine Un.trans ?_ ((wX7_setState hq4).mono (sub_k [1] rfl) (sub_k [] rfl) (sub_k [] rfl))
  exact Un.refl _
set_option maxRecDepth 4000 in
theorem wX7_levelBehind_9 {q : Int32 × St}  : ∀ (n : Nat) {l1 : Int32} {l3 : Int32} {l4 : Int32} {l5 : Int32} {S : St}, FX7_levelBehind_9 n l1 l3 l4 l5 S = some q → Un [(44, 23), (52, 99), (53, 99), (54, 99)] [] [] S q.2 := by
  intro n
  induction n with
  | zero => intro _ _ _ _ _ h; cases h
  | succ n ih =>
    intro l1 l3 l4 l5 S h
    rw [FX7_levelBehind_9] at h
    refine cs_e h (fun _ h => ?_) (fun _ h => ?_)
    · skip
      obtain ⟨g6, h⟩ := gd_e h
      have h := Option.some.inj h
      subst h
      exact Un.refl _
    · skip
      obtain ⟨q9, hq10, h⟩ := bd_e h
      obtain ⟨q13, hq14, h⟩ := bd_e h
      obtain ⟨q17, hq18, h⟩ := bd_e h
      refine Un.trans ?_ (ih h)
      refine Un.trans ?_ ((wX7_teach hq18).mono (sub_k [0, 1, 3] rfl) (sub_k [] rfl) (sub_k [] rfl))
      refine Un.trans ?_ ((wX7_everybody hq14).mono (sub_k [] rfl) (sub_k [] rfl) (sub_k [] rfl))
      refine Un.trans ?_ ((wX7_leastOf hq10).mono (sub_k [] rfl) (sub_k [] rfl) (sub_k [] rfl))
      exact Un.refl _
set_option maxRecDepth 4000 in
theorem wX7_levelBehind {q : Int32 × St} {l1 : Int32} {l2 : Int32} {l3 : Int32} {l4 : Int32} {S : St} (h : fX7_levelBehind l1 l2 l3 l4 S = some q) : Un [(44, 23), (52, 99), (53, 99), (54, 99)] [] [] S q.2 := by
  unfold fX7_levelBehind at h
  obtain ⟨q3, hq4, h⟩ := bd_e h
  refine Un.trans ?_ (wX7_levelBehind_9  _ h)
  refine Un.trans ?_ ((wX7_take hq4).mono (sub_k [1, 2] rfl) (sub_k [] rfl) (sub_k [] rfl))
  exact Un.refl _
set_option maxRecDepth 4000 in
theorem wX7_partAll_110 {q : Unit × St}  {k24 : Int32 → Int32 → Int32 → St → Option (Unit × St)} (hk24 : ∀ {l1 : Int32} {l2 : Int32} {l3 : Int32} {S : St}, k24 l1 l2 l3 S = some q → Un [(44, 34), (52, 99), (54, 99), (63, 99)] [(61, 99), (62, 99)] [] S q.2) {l1 : Int32} {l2 : Int32} {l3 : Int32} {S : St} (h : FX7_partAll_110 k24 l1 l2 l3 S = some q) : Un [(44, 34), (52, 99), (54, 99), (63, 99)] [(61, 99), (62, 99)] [] S q.2 := by
  unfold FX7_partAll_110 at h
  refine Un.trans ?_ (hk24 h)
  exact Un.refl _
set_option maxRecDepth 4000 in
theorem wX7_partAll_118 {q : Unit × St}  : ∀ (n : Nat) {l3 : Int32} {S : St}, FX7_partAll_118 n l3 S = some q → Un [(44, 34), (52, 99), (54, 99), (63, 99)] [(61, 99), (62, 99)] [] S q.2 := by
  intro n
  induction n with
  | zero => intro _ _ h; cases h
  | succ n ih =>
    intro l3 S h
    rw [FX7_partAll_118] at h
    refine cs_e h (fun _ h => ?_) (fun _ h => ?_)
    · skip
      have h := Option.some.inj h
      subst h
      exact Un.refl _
    · skip
      obtain ⟨g34, h⟩ := gd_e h
      obtain ⟨g35, h⟩ := gd_e h
      refine Un.trans ?_ (ih h)
      refine Un.jA ?_ (List.mem_of_getElem? (i := 0) rfl)
      exact Un.refl _
set_option maxRecDepth 4000 in
theorem wX7_partAll_24 {q : Unit × St}  : ∀ (n : Nat) {l1 : Int32} {l2 : Int32} {l3 : Int32} {S : St}, FX7_partAll_24 n l1 l2 l3 S = some q → Un [(44, 34), (52, 99), (54, 99), (63, 99)] [(61, 99), (62, 99)] [] S q.2 := by
  intro n
  induction n with
  | zero => intro _ _ _ _ h; cases h
  | succ n ih =>
    intro l1 l2 l3 S h
    rw [FX7_partAll_24] at h
    refine cs_e h (fun _ h => ?_) (fun _ h => ?_)
    · skip
      refine Un.trans ?_ (wX7_partAll_118  _ h)
      exact Un.refl _
    · skip
      obtain ⟨g6, h⟩ := gd_e h
      refine cs_e h (fun _ h => ?_) (fun _ h => ?_)
      · skip
        refine Un.trans ?_ (wX7_partAll_110 (fun h => ih h) h)
        exact Un.refl _
      · skip
        obtain ⟨q10, hq11, h⟩ := bd_e h
        obtain ⟨q14, hq15, h⟩ := bd_e h
        obtain ⟨q18, hq19, h⟩ := bd_e h
        obtain ⟨g20, h⟩ := gd_e h
        obtain ⟨g21, h⟩ := gd_e h
        obtain ⟨q25, hq26, h⟩ := bd_e h
        obtain ⟨g27, h⟩ := gd_e h
        obtain ⟨q30, hq31, h⟩ := bd_e h
        refine Un.trans ?_ (wX7_partAll_110 (fun h => ih h) h)
        refine Un.trans ?_ ((wX7_partRight hq31).mono (sub_k [0, 2, 3] rfl) (sub_k [1] rfl) (sub_k [] rfl))
        refine Un.trans ?_ ((wX7_partRight hq26).mono (sub_k [0, 2, 3] rfl) (sub_k [1] rfl) (sub_k [] rfl))
        refine Un.trans ?_ ((wX7_upBy hq19).mono (sub_k [] rfl) (sub_k [] rfl) (sub_k [] rfl))
        refine Un.trans ?_ ((wX7_setState hq15).mono (sub_k [1] rfl) (sub_k [] rfl) (sub_k [] rfl))
        refine Un.trans ?_ ((wX7_everybody hq11).mono (sub_k [] rfl) (sub_k [] rfl) (sub_k [] rfl))
        exact Un.refl _
set_option maxRecDepth 4000 in
theorem wX7_partAll_2 {q : Unit × St}  : ∀ (n : Nat) {l1 : Int32} {l2 : Int32} {l3 : Int32} {S : St}, FX7_partAll_2 n l1 l2 l3 S = some q → Un [(44, 34), (52, 99), (54, 99), (63, 99)] [(61, 99), (62, 99)] [] S q.2 := by
  intro n
  induction n with
  | zero => intro _ _ _ _ h; cases h
  | succ n ih =>
    intro l1 l2 l3 S h
    rw [FX7_partAll_2] at h
    refine cs_e h (fun _ h => ?_) (fun _ h => ?_)
    · skip
      refine Un.trans ?_ (wX7_partAll_24  _ h)
      exact Un.refl _
    · skip
      obtain ⟨g2, h⟩ := gd_e h
      refine Un.trans ?_ (ih h)
      refine Un.jA ?_ (List.mem_of_getElem? (i := 1) rfl)
      exact Un.refl _
set_option maxRecDepth 4000 in
theorem wX7_partAll {q : Unit × St} {l1 : Int32} {l2 : Int32} {S : St} (h : fX7_partAll l1 l2 S = some q) : Un [(44, 34), (52, 99), (54, 99), (63, 99)] [(61, 99), (62, 99)] [] S q.2 := by
  unfold fX7_partAll at h
  refine Un.trans ?_ (wX7_partAll_2  _ h)
  exact Un.refl _
set_option maxRecDepth 4000 in
theorem wX7_firstWrong_2 {q : Int32 × St}  : ∀ (n : Nat) {l1 : Int32} {S : St}, FX7_firstWrong_2 n l1 S = some q → Un [(44, 23), (47, 99), (52, 99), (53, 99), (54, 99)] [] [] S q.2 := by
  intro n
  induction n with
  | zero => intro _ _ h; cases h
  | succ n ih =>
    intro l1 S h
    rw [FX7_firstWrong_2] at h
    refine cs_e h (fun _ h => ?_) (fun _ h => ?_)
    · skip
      have h := Option.some.inj h
      subst h
      exact Un.refl _
    · skip
      obtain ⟨g2, h⟩ := gd_e h
      obtain ⟨q5, hq6, h⟩ := bd_e h
      obtain ⟨g7, h⟩ := gd_e h
      obtain ⟨g9, h⟩ := gd_e h
      obtain ⟨q12, hq13, h⟩ := bd_e h
      obtain ⟨g14, h⟩ := gd_e h
      refine cs_e h (fun _ h => ?_) (fun _ h => ?_)
      · skip
        obtain ⟨g16, h⟩ := gd_e h
        obtain ⟨q19, hq20, h⟩ := bd_e h
        obtain ⟨q23, hq24, h⟩ := bd_e h
        obtain ⟨g25, h⟩ := gd_e h
        obtain ⟨q28, hq29, h⟩ := bd_e h
        refine Un.trans ?_ (ih h)
        refine Un.trans ?_ ((wX7_put hq29).mono (sub_k [1] rfl) (sub_k [] rfl) (sub_k [] rfl))
        refine Un.trans ?_ ((wX7_teach hq24).mono (sub_k [0, 2, 4] rfl) (sub_k [] rfl) (sub_k [] rfl))
        refine Un.trans ?_ ((wX7_everybody hq20).mono (sub_k [] rfl) (sub_k [] rfl) (sub_k [] rfl))
        refine Un.trans ?_ ((wX7_leastOf hq13).mono (sub_k [] rfl) (sub_k [] rfl) (sub_k [] rfl))
        refine Un.trans ?_ ((wX7_take hq6).mono (sub_k [2, 3] rfl) (sub_k [] rfl) (sub_k [] rfl))
        exact Un.refl _
      · skip
        have h := Option.some.inj h
        subst h
        refine Un.trans ?_ ((wX7_leastOf hq13).mono (sub_k [] rfl) (sub_k [] rfl) (sub_k [] rfl))
        refine Un.trans ?_ ((wX7_take hq6).mono (sub_k [2, 3] rfl) (sub_k [] rfl) (sub_k [] rfl))
        exact Un.refl _
set_option maxRecDepth 4000 in
theorem wX7_firstWrong {q : Int32 × St}  {S : St} (h : fX7_firstWrong  S = some q) : Un [(44, 23), (47, 99), (52, 99), (53, 99), (54, 99)] [] [] S q.2 := by
  unfold fX7_firstWrong at h
  refine Un.trans ?_ (wX7_firstWrong_2  _ h)
  exact Un.refl _
set_option maxRecDepth 4000 in
theorem wX6_behind_16 {q : Int32 × St}   {S : St} (h : FX6_behind_16  S = some q) : Un [(25, 0), (25, 1), (25, 2), (25, 3), (26, 99), (27, 99), (28, 99), (29, 99), (30, 99), (31, 99), (33, 3), (33, 5), (37, 99)] [(34, 99), (35, 99), (36, 99)] [(33, 0), (33, 1)] S q.2 := by
  unfold FX6_behind_16 at h
  have h := Option.some.inj h
  subst h
  exact Un.refl _
set_option maxRecDepth 4000 in
theorem wX6_behind_48 {q : Int32 × St}   {S : St} (h : FX6_behind_48  S = some q) : Un [(25, 0), (25, 1), (25, 2), (25, 3), (26, 99), (27, 99), (28, 99), (29, 99), (30, 99), (31, 99), (33, 3), (33, 5), (37, 99)] [(34, 99), (35, 99), (36, 99)] [(33, 0), (33, 1)] S q.2 := by
  unfold FX6_behind_48 at h
  have h := Option.some.inj h
  subst h
  exact Un.refl _
set_option maxRecDepth 4000 in
theorem wX6_behind_73 {q : Int32 × St}   {S : St} (h : FX6_behind_73  S = some q) : Un [(25, 0), (25, 1), (25, 2), (25, 3), (26, 99), (27, 99), (28, 99), (29, 99), (30, 99), (31, 99), (33, 3), (33, 5), (37, 99)] [(34, 99), (35, 99), (36, 99)] [(33, 0), (33, 1)] S q.2 := by
  unfold FX6_behind_73 at h
  have h := Option.some.inj h
  subst h
  exact Un.refl _
set_option maxRecDepth 4000 in
theorem wX6_behind {q : Int32 × St} {l1 : Int32} {l2 : Int32} {l3 : Int32} {l4 : Int32} {S : St} (h : fX6_behind l1 l2 l3 l4 S = some q) : Un [(25, 0), (25, 1), (25, 2), (25, 3), (26, 99), (27, 99), (28, 99), (29, 99), (30, 99), (31, 99), (33, 3), (33, 5), (37, 99)] [(34, 99), (35, 99), (36, 99)] [(33, 0), (33, 1)] S q.2 := by
  unfold fX6_behind at h
  obtain ⟨q3, hq4, h⟩ := bd_e h
  refine cs_e h (fun _ h => ?_) (fun _ h => ?_)
  · skip
    refine Un.trans ?_ (wX6_behind_16  h)
    refine Un.trans ?_ ((wX6_isRule hq4).mono (sub_k [] rfl) (sub_k [] rfl) (sub_k [] rfl))
    exact Un.refl _
  · skip
    obtain ⟨q8, hq9, h⟩ := bd_e h
    refine cs_e h (fun _ h => ?_) (fun _ h => ?_)
    · skip
      refine Un.trans ?_ (wX6_behind_16  h)
      refine Un.trans ?_ ((wX6_isThing hq9).mono (sub_k [] rfl) (sub_k [] rfl) (sub_k [] rfl))
      refine Un.trans ?_ ((wX6_isRule hq4).mono (sub_k [] rfl) (sub_k [] rfl) (sub_k [] rfl))
      exact Un.refl _
    · skip
      refine cs_e h (fun _ h => ?_) (fun _ h => ?_)
      · skip
        refine Un.trans ?_ (wX6_behind_48  h)
        refine Un.trans ?_ ((wX6_isThing hq9).mono (sub_k [] rfl) (sub_k [] rfl) (sub_k [] rfl))
        refine Un.trans ?_ ((wX6_isRule hq4).mono (sub_k [] rfl) (sub_k [] rfl) (sub_k [] rfl))
        exact Un.refl _
      · skip
        refine cs_e h (fun _ h => ?_) (fun _ h => ?_)
        · skip
          refine Un.trans ?_ (wX6_behind_48  h)
          refine Un.trans ?_ ((wX6_isThing hq9).mono (sub_k [] rfl) (sub_k [] rfl) (sub_k [] rfl))
          refine Un.trans ?_ ((wX6_isRule hq4).mono (sub_k [] rfl) (sub_k [] rfl) (sub_k [] rfl))
          exact Un.refl _
        · skip
          refine cs_e h (fun _ h => ?_) (fun _ h => ?_)
          · skip
            refine Un.trans ?_ (wX6_behind_48  h)
            refine Un.trans ?_ ((wX6_isThing hq9).mono (sub_k [] rfl) (sub_k [] rfl) (sub_k [] rfl))
            refine Un.trans ?_ ((wX6_isRule hq4).mono (sub_k [] rfl) (sub_k [] rfl) (sub_k [] rfl))
            exact Un.refl _
          · skip
            obtain ⟨g14, h⟩ := gd_e h
            refine cs_e h (fun _ h => ?_) (fun _ h => ?_)
            · skip
              obtain ⟨g16, h⟩ := gd_e h
              refine cs_e h (fun _ h => ?_) (fun _ h => ?_)
              · skip
                refine Un.trans ?_ (wX6_behind_73  h)
                refine Un.trans ?_ ((wX6_isThing hq9).mono (sub_k [] rfl) (sub_k [] rfl) (sub_k [] rfl))
                refine Un.trans ?_ ((wX6_isRule hq4).mono (sub_k [] rfl) (sub_k [] rfl) (sub_k [] rfl))
                exact Un.refl _
              · skip
                obtain ⟨g18, h⟩ := gd_e h
                refine cs_e h (fun _ h => ?_) (fun _ h => ?_)
                · skip
                  obtain ⟨q22, hq23, h⟩ := bd_e h
                  obtain ⟨q26, hq27, h⟩ := bd_e h
                  refine cs_e h (fun _ h => ?_) (fun _ h => ?_)
                  · skip
                    obtain ⟨g28, h⟩ := gd_e h
                    obtain ⟨q31, hq32, h⟩ := bd_e h
                    have h := Option.some.inj h
                    subst h
                    refine Un.trans ?_ ((wX1_thatAllKnow hq32).mono (sub_k [] rfl) (sub_k [] rfl) (sub_k [] rfl))
                    refine Un.trans ?_ ((wX1_follow hq27).mono (sub_k [5, 10, 11, 12] rfl) (sub_k [0, 1, 2] rfl) (sub_k [0, 1] rfl))
                    refine Un.trans ?_ ((wX6_sitAll hq23).mono (sub_k [0, 1, 2, 3, 4, 5, 6, 7, 8, 9] rfl) (sub_k [] rfl) (sub_k [] rfl))
                    refine Un.trans ?_ ((wX6_isThing hq9).mono (sub_k [] rfl) (sub_k [] rfl) (sub_k [] rfl))
                    refine Un.trans ?_ ((wX6_isRule hq4).mono (sub_k [] rfl) (sub_k [] rfl) (sub_k [] rfl))
                    exact Un.refl _
                  · skip
                    refine cs_e h (fun _ h => ?_) (fun _ h => ?_)
                    · skip
                      obtain ⟨g34, h⟩ := gd_e h
                      obtain ⟨q37, hq38, h⟩ := bd_e h
                      have h := Option.some.inj h
                      subst h
                      refine Un.trans ?_ ((wX1_thatNobodyKnows hq38).mono (sub_k [] rfl) (sub_k [] rfl) (sub_k [] rfl))
                      refine Un.trans ?_ ((wX1_follow hq27).mono (sub_k [5, 10, 11, 12] rfl) (sub_k [0, 1, 2] rfl) (sub_k [0, 1] rfl))
                      refine Un.trans ?_ ((wX6_sitAll hq23).mono (sub_k [0, 1, 2, 3, 4, 5, 6, 7, 8, 9] rfl) (sub_k [] rfl) (sub_k [] rfl))
                      refine Un.trans ?_ ((wX6_isThing hq9).mono (sub_k [] rfl) (sub_k [] rfl) (sub_k [] rfl))
                      refine Un.trans ?_ ((wX6_isRule hq4).mono (sub_k [] rfl) (sub_k [] rfl) (sub_k [] rfl))
                      exact Un.refl _
                    · skip
                      obtain ⟨g40, h⟩ := gd_e h
                      obtain ⟨q43, hq44, h⟩ := bd_e h
                      have h := Option.some.inj h
                      subst h
                      refine Un.trans ?_ ((wX1_meanLevel hq44).mono (sub_k [] rfl) (sub_k [] rfl) (sub_k [] rfl))
                      refine Un.trans ?_ ((wX1_follow hq27).mono (sub_k [5, 10, 11, 12] rfl) (sub_k [0, 1, 2] rfl) (sub_k [0, 1] rfl))
                      refine Un.trans ?_ ((wX6_sitAll hq23).mono (sub_k [0, 1, 2, 3, 4, 5, 6, 7, 8, 9] rfl) (sub_k [] rfl) (sub_k [] rfl))
                      refine Un.trans ?_ ((wX6_isThing hq9).mono (sub_k [] rfl) (sub_k [] rfl) (sub_k [] rfl))
                      refine Un.trans ?_ ((wX6_isRule hq4).mono (sub_k [] rfl) (sub_k [] rfl) (sub_k [] rfl))
                      exact Un.refl _
                · skip
                  refine Un.trans ?_ (wX6_behind_73  h)
                  refine Un.trans ?_ ((wX6_isThing hq9).mono (sub_k [] rfl) (sub_k [] rfl) (sub_k [] rfl))
                  refine Un.trans ?_ ((wX6_isRule hq4).mono (sub_k [] rfl) (sub_k [] rfl) (sub_k [] rfl))
                  exact Un.refl _
            · skip
              refine Un.trans ?_ (wX6_behind_48  h)
              refine Un.trans ?_ ((wX6_isThing hq9).mono (sub_k [] rfl) (sub_k [] rfl) (sub_k [] rfl))
              refine Un.trans ?_ ((wX6_isRule hq4).mono (sub_k [] rfl) (sub_k [] rfl) (sub_k [] rfl))
              exact Un.refl _
set_option maxRecDepth 4000 in
theorem wX7_spread_208 {q : Int32 × St}  {k103 : Int32 → Int32 → Int32 → Int32 → Int32 → St → Option (Int32 × St)} (hk103 : ∀ {l1 : Int32} {l2 : Int32} {l3 : Int32} {l4 : Int32} {l5 : Int32} {S : St}, k103 l1 l2 l3 l4 l5 S = some q → Un [(44, 23), (44, 28), (52, 99), (54, 99), (55, 99), (56, 99), (57, 99)] [] [] S q.2) {l1 : Int32} {l2 : Int32} {l3 : Int32} {l4 : Int32} {l5 : Int32} {S : St} (h : FX7_spread_208 k103 l1 l2 l3 l4 l5 S = some q) : Un [(44, 23), (44, 28), (52, 99), (54, 99), (55, 99), (56, 99), (57, 99)] [] [] S q.2 := by
  unfold FX7_spread_208 at h
  refine Un.trans ?_ (hk103 h)
  exact Un.refl _
set_option maxRecDepth 4000 in
theorem wX7_spread_146 {q : Int32 × St}  {k103 : Int32 → Int32 → Int32 → Int32 → Int32 → St → Option (Int32 × St)} (hk103 : ∀ {l1 : Int32} {l2 : Int32} {l3 : Int32} {l4 : Int32} {l5 : Int32} {S : St}, k103 l1 l2 l3 l4 l5 S = some q → Un [(44, 23), (44, 28), (52, 99), (54, 99), (55, 99), (56, 99), (57, 99)] [] [] S q.2) {l1 : Int32} {l2 : Int32} {l3 : Int32} {l4 : Int32} {l5 : Int32} {s0 : Int32} {S : St} (h : FX7_spread_146 k103 l1 l2 l3 l4 l5 s0 S = some q) : Un [(44, 23), (44, 28), (52, 99), (54, 99), (55, 99), (56, 99), (57, 99)] [] [] S q.2 := by
  unfold FX7_spread_146 at h
  obtain ⟨g41, h⟩ := gd_e h
  refine cs_e h (fun _ h => ?_) (fun _ h => ?_)
  · skip
    obtain ⟨g44, h⟩ := gd_e h
    obtain ⟨g46, h⟩ := gd_e h
    obtain ⟨g48, h⟩ := gd_e h
    obtain ⟨g51, h⟩ := gd_e h
    refine Un.trans ?_ (wX7_spread_208 hk103 h)
    refine Un.nA ?_ (List.mem_of_getElem? (i := 4) rfl)
    refine Un.nS ?_ (List.mem_of_getElem? (i := 1) rfl)
    refine Un.nA ?_ (List.mem_of_getElem? (i := 6) rfl)
    refine Un.nA ?_ (List.mem_of_getElem? (i := 5) rfl)
    exact Un.refl _
  · skip
    refine Un.trans ?_ (wX7_spread_208 hk103 h)
    exact Un.refl _
set_option maxRecDepth 4000 in
theorem wX7_spread_103 {q : Int32 × St}  {k72 : Int32 → Int32 → Int32 → Int32 → St → Option (Int32 × St)} (hk72 : ∀ {l1 : Int32} {l2 : Int32} {l3 : Int32} {l4 : Int32} {S : St}, k72 l1 l2 l3 l4 S = some q → Un [(44, 23), (44, 28), (52, 99), (54, 99), (55, 99), (56, 99), (57, 99)] [] [] S q.2) : ∀ (n : Nat) {l1 : Int32} {l2 : Int32} {l3 : Int32} {l4 : Int32} {l5 : Int32} {S : St}, FX7_spread_103 k72 n l1 l2 l3 l4 l5 S = some q → Un [(44, 23), (44, 28), (52, 99), (54, 99), (55, 99), (56, 99), (57, 99)] [] [] S q.2 := by
  intro n
  induction n with
  | zero => intro _ _ _ _ _ _ h; cases h
  | succ n ih =>
    intro l1 l2 l3 l4 l5 S h
    rw [FX7_spread_103] at h
    refine cs_e h (fun _ h => ?_) (fun _ h => ?_)
    · skip
      refine Un.trans ?_ (hk72 h)
      exact Un.refl _
    · skip
      obtain ⟨q32, hq33, h⟩ := bd_e h
      refine cs_e h (fun _ h => ?_) (fun _ h => ?_)
      · skip
        obtain ⟨g35, h⟩ := gd_e h
        refine Un.trans ?_ (wX7_spread_146 (fun h => ih h) h)
        refine Un.trans ?_ ((wX7_has hq33).mono (sub_k [] rfl) (sub_k [] rfl) (sub_k [] rfl))
        exact Un.refl _
      · skip
        obtain ⟨g36, h⟩ := gd_e h
        obtain ⟨q39, hq40, h⟩ := bd_e h
        refine Un.trans ?_ (wX7_spread_146 (fun h => ih h) h)
        refine Un.trans ?_ ((wX7_next hq40).mono (sub_k [0, 2, 3] rfl) (sub_k [] rfl) (sub_k [] rfl))
        refine Un.trans ?_ ((wX7_has hq33).mono (sub_k [] rfl) (sub_k [] rfl) (sub_k [] rfl))
        exact Un.refl _
set_option maxRecDepth 4000 in
theorem wX7_spread_72 {q : Int32 × St}  : ∀ (n : Nat) {l1 : Int32} {l2 : Int32} {l3 : Int32} {l4 : Int32} {S : St}, FX7_spread_72 n l1 l2 l3 l4 S = some q → Un [(44, 23), (44, 28), (52, 99), (54, 99), (55, 99), (56, 99), (57, 99)] [] [] S q.2 := by
  intro n
  induction n with
  | zero => intro _ _ _ _ _ h; cases h
  | succ n ih =>
    intro l1 l2 l3 l4 S h
    rw [FX7_spread_72] at h
    refine cs_e h (fun _ h => ?_) (fun _ h => ?_)
    · skip
      have h := Option.some.inj h
      subst h
      exact Un.refl _
    · skip
      obtain ⟨g25, h⟩ := gd_e h
      refine cs_e h (fun _ h => ?_) (fun _ h => ?_)
      · skip
        obtain ⟨g27, h⟩ := gd_e h
        have h := Option.some.inj h
        subst h
        exact Un.refl _
      · skip
        refine Un.trans ?_ (wX7_spread_103 (fun h => ih h) _ h)
        exact Un.refl _
set_option maxRecDepth 4000 in
theorem wX7_spread_2 {q : Int32 × St}  : ∀ (n : Nat) {l1 : Int32} {l2 : Int32} {l3 : Int32} {S : St}, FX7_spread_2 n l1 l2 l3 S = some q → Un [(44, 23), (44, 28), (52, 99), (54, 99), (55, 99), (56, 99), (57, 99)] [] [] S q.2 := by
  intro n
  induction n with
  | zero => intro _ _ _ _ h; cases h
  | succ n ih =>
    intro l1 l2 l3 S h
    rw [FX7_spread_2] at h
    refine cs_e h (fun _ h => ?_) (fun _ h => ?_)
    · skip
      obtain ⟨q4, hq5, h⟩ := bd_e h
      obtain ⟨q9, hq10, h⟩ := bd_e h
      obtain ⟨g11, h⟩ := gd_e h
      obtain ⟨g13, h⟩ := gd_e h
      obtain ⟨g15, h⟩ := gd_e h
      obtain ⟨g17, h⟩ := gd_e h
      refine Un.trans ?_ (wX7_spread_72  _ h)
      refine Un.nA ?_ (List.mem_of_getElem? (i := 6) rfl)
      refine Un.nA ?_ (List.mem_of_getElem? (i := 4) rfl)
      refine Un.nA ?_ (List.mem_of_getElem? (i := 5) rfl)
      refine Un.trans ?_ ((wX7_stateNow hq10).mono (sub_k [] rfl) (sub_k [] rfl) (sub_k [] rfl))
      refine Un.nS ?_ (List.mem_of_getElem? (i := 1) rfl)
      refine Un.trans ?_ ((wX7_goal hq5).mono (sub_k [] rfl) (sub_k [] rfl) (sub_k [] rfl))
      exact Un.refl _
    · skip
      obtain ⟨g19, h⟩ := gd_e h
      obtain ⟨g21, h⟩ := gd_e h
      refine Un.trans ?_ (ih h)
      refine Un.nA ?_ (List.mem_of_getElem? (i := 4) rfl)
      exact Un.refl _
set_option maxRecDepth 4000 in
theorem wX7_spread {q : Int32 × St} {l1 : Int32} {l2 : Int32} {S : St} (h : fX7_spread l1 l2 S = some q) : Un [(44, 23), (44, 28), (52, 99), (54, 99), (55, 99), (56, 99), (57, 99)] [] [] S q.2 := by
  unfold fX7_spread at h
  refine Un.trans ?_ (wX7_spread_2  _ h)
  exact Un.refl _
set_option maxRecDepth 4000 in
theorem wX7_pays_16 {q : Int32 × St}   {S : St} (h : FX7_pays_16  S = some q) : Un [(44, 23), (52, 99), (53, 99), (54, 99)] [] [] S q.2 := by
  unfold FX7_pays_16 at h
  have h := Option.some.inj h
  subst h
  exact Un.refl _
set_option maxRecDepth 4000 in
theorem wX7_pays_44 {q : Int32 × St}   {S : St} (h : FX7_pays_44  S = some q) : Un [(44, 23), (52, 99), (53, 99), (54, 99)] [] [] S q.2 := by
  unfold FX7_pays_44 at h
  have h := Option.some.inj h
  subst h
  exact Un.refl _
set_option maxRecDepth 4000 in
theorem wX7_pays {q : Int32 × St} {l1 : Int32} {l2 : Int32} {l3 : Int32} {l4 : Int32} {S : St} (h : fX7_pays l1 l2 l3 l4 S = some q) : Un [(44, 23), (52, 99), (53, 99), (54, 99)] [] [] S q.2 := by
  unfold fX7_pays at h
  obtain ⟨q3, hq4, h⟩ := bd_e h
  refine cs_e h (fun _ h => ?_) (fun _ h => ?_)
  · skip
    refine Un.trans ?_ (wX7_pays_16  h)
    refine Un.trans ?_ ((wX7_isPupil hq4).mono (sub_k [] rfl) (sub_k [] rfl) (sub_k [] rfl))
    exact Un.refl _
  · skip
    obtain ⟨q8, hq9, h⟩ := bd_e h
    refine cs_e h (fun _ h => ?_) (fun _ h => ?_)
    · skip
      refine Un.trans ?_ (wX7_pays_16  h)
      refine Un.trans ?_ ((wX7_isThing hq9).mono (sub_k [] rfl) (sub_k [] rfl) (sub_k [] rfl))
      refine Un.trans ?_ ((wX7_isPupil hq4).mono (sub_k [] rfl) (sub_k [] rfl) (sub_k [] rfl))
      exact Un.refl _
    · skip
      obtain ⟨q13, hq14, h⟩ := bd_e h
      refine cs_e h (fun _ h => ?_) (fun _ h => ?_)
      · skip
        refine Un.trans ?_ (wX7_pays_44  h)
        refine Un.trans ?_ ((wX7_in hq14).mono (sub_k [] rfl) (sub_k [] rfl) (sub_k [] rfl))
        refine Un.trans ?_ ((wX7_isThing hq9).mono (sub_k [] rfl) (sub_k [] rfl) (sub_k [] rfl))
        refine Un.trans ?_ ((wX7_isPupil hq4).mono (sub_k [] rfl) (sub_k [] rfl) (sub_k [] rfl))
        exact Un.refl _
      · skip
        obtain ⟨q18, hq19, h⟩ := bd_e h
        refine cs_e h (fun _ h => ?_) (fun _ h => ?_)
        · skip
          refine Un.trans ?_ (wX7_pays_44  h)
          refine Un.trans ?_ ((wX7_in hq19).mono (sub_k [] rfl) (sub_k [] rfl) (sub_k [] rfl))
          refine Un.trans ?_ ((wX7_in hq14).mono (sub_k [] rfl) (sub_k [] rfl) (sub_k [] rfl))
          refine Un.trans ?_ ((wX7_isThing hq9).mono (sub_k [] rfl) (sub_k [] rfl) (sub_k [] rfl))
          refine Un.trans ?_ ((wX7_isPupil hq4).mono (sub_k [] rfl) (sub_k [] rfl) (sub_k [] rfl))
          exact Un.refl _
        · skip
          obtain ⟨q23, hq24, h⟩ := bd_e h
          obtain ⟨q27, hq28, h⟩ := bd_e h
          have h := Option.some.inj h
          subst h
          refine Un.trans ?_ ((wX7_levelBehind hq28).mono (sub_k [0, 1, 2, 3] rfl) (sub_k [] rfl) (sub_k [] rfl))
          refine Un.trans ?_ ((wX7_levelBehind hq24).mono (sub_k [0, 1, 2, 3] rfl) (sub_k [] rfl) (sub_k [] rfl))
          refine Un.trans ?_ ((wX7_in hq19).mono (sub_k [] rfl) (sub_k [] rfl) (sub_k [] rfl))
          refine Un.trans ?_ ((wX7_in hq14).mono (sub_k [] rfl) (sub_k [] rfl) (sub_k [] rfl))
          refine Un.trans ?_ ((wX7_isThing hq9).mono (sub_k [] rfl) (sub_k [] rfl) (sub_k [] rfl))
          refine Un.trans ?_ ((wX7_isPupil hq4).mono (sub_k [] rfl) (sub_k [] rfl) (sub_k [] rfl))
          exact Un.refl _
set_option maxRecDepth 4000 in
theorem wX7_findOdds_50 {q : Unit × St}  : ∀ (n : Nat) {l1 : Int32} {l3 : Int32} {l4 : Int32} {S : St}, FX7_findOdds_50 n l1 l3 l4 S = some q → Un [(44, 34), (52, 99), (53, 99), (54, 99), (63, 99)] [(61, 99), (62, 99)] [] S q.2 := by
  intro n
  induction n with
  | zero => intro _ _ _ _ h; cases h
  | succ n ih =>
    intro l1 l3 l4 S h
    rw [FX7_findOdds_50] at h
    refine cs_e h (fun _ h => ?_) (fun _ h => ?_)
    · skip
      have h := Option.some.inj h
      subst h
      exact Un.refl _
    · skip
      obtain ⟨g20, h⟩ := gd_e h
      obtain ⟨q24, hq25, h⟩ := bd_e h
      refine Un.trans ?_ (ih h)
      refine Un.trans ?_ ((wX7_partAll hq25).mono (sub_k [0, 1, 3, 4] rfl) (sub_k [0, 1] rfl) (sub_k [] rfl))
      exact Un.refl _
set_option maxRecDepth 4000 in
theorem wX7_findOdds_9 {q : Unit × St}  : ∀ (n : Nat) {l1 : Int32} {l3 : Int32} {l4 : Int32} {S : St}, FX7_findOdds_9 n l1 l3 l4 S = some q → Un [(44, 34), (52, 99), (53, 99), (54, 99), (63, 99)] [(61, 99), (62, 99)] [] S q.2 := by
  intro n
  induction n with
  | zero => intro _ _ _ _ h; cases h
  | succ n ih =>
    intro l1 l3 l4 S h
    rw [FX7_findOdds_9] at h
    refine cs_e h (fun _ h => ?_) (fun _ h => ?_)
    · skip
      obtain ⟨q8, hq9, h⟩ := bd_e h
      obtain ⟨q12, hq13, h⟩ := bd_e h
      obtain ⟨g14, h⟩ := gd_e h
      refine Un.trans ?_ (wX7_findOdds_50  _ h)
      refine Un.jA ?_ (List.mem_of_getElem? (i := 0) rfl)
      refine Un.trans ?_ ((wX7_stateNow hq13).mono (sub_k [] rfl) (sub_k [] rfl) (sub_k [] rfl))
      refine Un.trans ?_ ((wX7_everybody hq9).mono (sub_k [] rfl) (sub_k [] rfl) (sub_k [] rfl))
      exact Un.refl _
    · skip
      obtain ⟨g16, h⟩ := gd_e h
      refine Un.trans ?_ (ih h)
      refine Un.jA ?_ (List.mem_of_getElem? (i := 0) rfl)
      exact Un.refl _
set_option maxRecDepth 4000 in
theorem wX7_findOdds {q : Unit × St} {l1 : Int32} {l2 : Int32} {l3 : Int32} {S : St} (h : fX7_findOdds l1 l2 l3 S = some q) : Un [(44, 34), (52, 99), (53, 99), (54, 99), (63, 99)] [(61, 99), (62, 99)] [] S q.2 := by
  unfold fX7_findOdds at h
  obtain ⟨q3, hq4, h⟩ := bd_e h
  refine Un.trans ?_ (wX7_findOdds_9  _ h)
  refine Un.trans ?_ ((wX7_take hq4).mono (sub_k [1, 2] rfl) (sub_k [] rfl) (sub_k [] rfl))
  exact Un.refl _
set_option maxRecDepth 4000 in
theorem wX7_judge_33 {q : Int32 × St}  : ∀ (n : Nat) {l1 : Int32} {l2 : Int32} {S : St}, FX7_judge_33 n l1 l2 S = some q → Un [(44, 23), (47, 99), (52, 99), (53, 99), (54, 99), (66, 99)] [] [] S q.2 := by
  intro n
  induction n with
  | zero => intro _ _ _ h; cases h
  | succ n ih =>
    intro l1 l2 S h
    rw [FX7_judge_33] at h
    refine cs_e h (fun _ h => ?_) (fun _ h => ?_)
    · skip
      have h := Option.some.inj h
      subst h
      exact Un.refl _
    · skip
      obtain ⟨g11, h⟩ := gd_e h
      obtain ⟨g12, h⟩ := gd_e h
      refine Un.trans ?_ (ih h)
      refine Un.nA ?_ (List.mem_of_getElem? (i := 1) rfl)
      exact Un.refl _
set_option maxRecDepth 4000 in
theorem wX7_judge_2 {q : Int32 × St}  : ∀ (n : Nat) {l1 : Int32} {S : St}, FX7_judge_2 n l1 S = some q → Un [(44, 23), (47, 99), (52, 99), (53, 99), (54, 99), (66, 99)] [] [] S q.2 := by
  intro n
  induction n with
  | zero => intro _ _ h; cases h
  | succ n ih =>
    intro l1 S h
    rw [FX7_judge_2] at h
    refine cs_e h (fun _ h => ?_) (fun _ h => ?_)
    · skip
      obtain ⟨q4, hq5, h⟩ := bd_e h
      refine Un.trans ?_ (wX7_judge_33  _ h)
      refine Un.trans ?_ ((wX7_firstWrong hq5).mono (sub_k [0, 1, 2, 3, 4] rfl) (sub_k [] rfl) (sub_k [] rfl))
      exact Un.refl _
    · skip
      obtain ⟨g6, h⟩ := gd_e h
      obtain ⟨g7, h⟩ := gd_e h
      refine Un.trans ?_ (ih h)
      refine Un.nA ?_ (List.mem_of_getElem? (i := 5) rfl)
      exact Un.refl _
set_option maxRecDepth 4000 in
theorem wX7_judge {q : Int32 × St}  {S : St} (h : fX7_judge  S = some q) : Un [(44, 23), (47, 99), (52, 99), (53, 99), (54, 99), (66, 99)] [] [] S q.2 := by
  unfold fX7_judge at h
  refine Un.trans ?_ (wX7_judge_2  _ h)
  exact Un.refl _
set_option maxRecDepth 4000 in
theorem wX2_isWord_24 {q : Int32 × St}   {S : St} (h : FX2_isWord_24  S = some q) : Un [] [] [] S q.2 := by
  unfold FX2_isWord_24 at h
  have h := Option.some.inj h
  subst h
  exact Un.refl _
set_option maxRecDepth 4000 in
theorem wX2_isWord_28 {q : Int32 × St}  : ∀ (n : Nat) {l1 : Nat} {l2 : Int32} {S : St}, FX2_isWord_28 n l1 l2 S = some q → Un [] [] [] S q.2 := by
  intro n
  induction n with
  | zero => intro _ _ _ h; cases h
  | succ n ih =>
    intro l1 l2 S h
    rw [FX2_isWord_28] at h
    refine cs_e h (fun _ h => ?_) (fun _ h => ?_)
    · skip
      have h := Option.some.inj h
      subst h
      exact Un.refl _
    · skip
      obtain ⟨g5, h⟩ := gd_e h
      obtain ⟨g6, h⟩ := gd_e h
      refine cs_e h (fun _ h => ?_) (fun _ h => ?_)
      · skip
        refine Un.trans ?_ (ih h)
        exact Un.refl _
      · skip
        have h := Option.some.inj h
        subst h
        exact Un.refl _
set_option maxRecDepth 4000 in
theorem wX2_isWord {q : Int32 × St} {l1 : Nat} {S : St} (h : fX2_isWord l1 S = some q) : Un [] [] [] S q.2 := by
  unfold fX2_isWord at h
  refine cs_e h (fun _ h => ?_) (fun _ h => ?_)
  · skip
    refine cs_e h (fun _ h => ?_) (fun _ h => ?_)
    · skip
      refine Un.trans ?_ (wX2_isWord_28  _ h)
      exact Un.refl _
    · skip
      refine Un.trans ?_ (wX2_isWord_24  h)
      exact Un.refl _
  · skip
    refine Un.trans ?_ (wX2_isWord_24  h)
    exact Un.refl _
set_option maxRecDepth 4000 in
theorem wX7_fewestOf {q : Int32 × St} {l1 : Int32} {l2 : Int32} {l3 : Int32} {S : St} (h : fX7_fewestOf l1 l2 l3 S = some q) : Un [(44, 23), (44, 28), (52, 99), (53, 99), (54, 99), (55, 99), (56, 99), (57, 99)] [] [] S q.2 := by
  unfold fX7_fewestOf at h
  obtain ⟨q3, hq4, h⟩ := bd_e h
  obtain ⟨q7, hq8, h⟩ := bd_e h
  obtain ⟨q11, hq12, h⟩ := bd_e h
  have h := Option.some.inj h
  subst h
  refine Un.trans ?_ ((wX7_spread hq12).mono (sub_k [0, 1, 2, 4, 5, 6, 7] rfl) (sub_k [] rfl) (sub_k [] rfl))
  refine Un.trans ?_ ((wX7_everybody hq8).mono (sub_k [] rfl) (sub_k [] rfl) (sub_k [] rfl))
  refine Un.trans ?_ ((wX7_take hq4).mono (sub_k [2, 3] rfl) (sub_k [] rfl) (sub_k [] rfl))
  exact Un.refl _
set_option maxRecDepth 4000 in
theorem wX7_classes_158 {q : Int32 × St}  {k44 : Int32 → Int32 → Int32 → Int32 → Int32 → St → Option (Int32 × St)} (hk44 : ∀ {l1 : Int32} {l2 : Int32} {l3 : Int32} {l4 : Int32} {l5 : Int32} {S : St}, k44 l1 l2 l3 l4 l5 S = some q → Un [(44, 23), (44, 28), (52, 99), (53, 99), (54, 99), (55, 99), (56, 99), (57, 99)] [] [] S q.2) {l1 : Int32} {l2 : Int32} {l3 : Int32} {l5 : Int32} {s0 : Int32} {S : St} (h : FX7_classes_158 k44 l1 l2 l3 l5 s0 S = some q) : Un [(44, 23), (44, 28), (52, 99), (53, 99), (54, 99), (55, 99), (56, 99), (57, 99)] [] [] S q.2 := by
  unfold FX7_classes_158 at h
  refine Un.trans ?_ (hk44 h)
  exact Un.refl _
set_option maxRecDepth 4000 in
theorem wX7_classes_145 {q : Int32 × St}  {k44 : Int32 → Int32 → Int32 → Int32 → Int32 → St → Option (Int32 × St)} (hk44 : ∀ {l1 : Int32} {l2 : Int32} {l3 : Int32} {l4 : Int32} {l5 : Int32} {S : St}, k44 l1 l2 l3 l4 l5 S = some q → Un [(44, 23), (44, 28), (52, 99), (53, 99), (54, 99), (55, 99), (56, 99), (57, 99)] [] [] S q.2) {l1 : Int32} {l2 : Int32} {l4 : Int32} {l5 : Int32} {l8 : Int32} {l9 : Int32} {s0 : Int32} {S : St} (h : FX7_classes_145 k44 l1 l2 l4 l5 l8 l9 s0 S = some q) : Un [(44, 23), (44, 28), (52, 99), (53, 99), (54, 99), (55, 99), (56, 99), (57, 99)] [] [] S q.2 := by
  unfold FX7_classes_145 at h
  refine cs_e h (fun _ h => ?_) (fun _ h => ?_)
  · skip
    refine Un.trans ?_ (wX7_classes_158 hk44 h)
    exact Un.refl _
  · skip
    refine Un.trans ?_ (wX7_classes_158 hk44 h)
    exact Un.refl _
set_option maxRecDepth 4000 in
theorem wX7_classes_132 {q : Int32 × St}  {k44 : Int32 → Int32 → Int32 → Int32 → Int32 → St → Option (Int32 × St)} (hk44 : ∀ {l1 : Int32} {l2 : Int32} {l3 : Int32} {l4 : Int32} {l5 : Int32} {S : St}, k44 l1 l2 l3 l4 l5 S = some q → Un [(44, 23), (44, 28), (52, 99), (53, 99), (54, 99), (55, 99), (56, 99), (57, 99)] [] [] S q.2) {l1 : Int32} {l2 : Int32} {l3 : Int32} {l4 : Int32} {l5 : Int32} {l8 : Int32} {s0 : Int32} {S : St} (h : FX7_classes_132 k44 l1 l2 l3 l4 l5 l8 s0 S = some q) : Un [(44, 23), (44, 28), (52, 99), (53, 99), (54, 99), (55, 99), (56, 99), (57, 99)] [] [] S q.2 := by
  unfold FX7_classes_132 at h
  refine cs_e h (fun _ h => ?_) (fun _ h => ?_)
  · skip
    refine Un.trans ?_ (wX7_classes_145 hk44 h)
    exact Un.refl _
  · skip
    refine Un.trans ?_ (wX7_classes_145 hk44 h)
    exact Un.refl _
set_option maxRecDepth 4000 in
theorem wX7_classes_127 {q : Int32 × St}  {k44 : Int32 → Int32 → Int32 → Int32 → Int32 → St → Option (Int32 × St)} (hk44 : ∀ {l1 : Int32} {l2 : Int32} {l3 : Int32} {l4 : Int32} {l5 : Int32} {S : St}, k44 l1 l2 l3 l4 l5 S = some q → Un [(44, 23), (44, 28), (52, 99), (53, 99), (54, 99), (55, 99), (56, 99), (57, 99)] [] [] S q.2) {l1 : Int32} {l2 : Int32} {l3 : Int32} {l4 : Int32} {l5 : Int32} {l8 : Int32} {S : St} (h : FX7_classes_127 k44 l1 l2 l3 l4 l5 l8 S = some q) : Un [(44, 23), (44, 28), (52, 99), (53, 99), (54, 99), (55, 99), (56, 99), (57, 99)] [] [] S q.2 := by
  unfold FX7_classes_127 at h
  refine Un.trans ?_ (wX7_classes_132 hk44 h)
  exact Un.refl _
set_option maxRecDepth 4000 in
theorem wX7_classes_131 {q : Int32 × St}  {k44 : Int32 → Int32 → Int32 → Int32 → Int32 → St → Option (Int32 × St)} (hk44 : ∀ {l1 : Int32} {l2 : Int32} {l3 : Int32} {l4 : Int32} {l5 : Int32} {S : St}, k44 l1 l2 l3 l4 l5 S = some q → Un [(44, 23), (44, 28), (52, 99), (53, 99), (54, 99), (55, 99), (56, 99), (57, 99)] [] [] S q.2) {l1 : Int32} {l2 : Int32} {l3 : Int32} {l4 : Int32} {l5 : Int32} {l8 : Int32} {S : St} (h : FX7_classes_131 k44 l1 l2 l3 l4 l5 l8 S = some q) : Un [(44, 23), (44, 28), (52, 99), (53, 99), (54, 99), (55, 99), (56, 99), (57, 99)] [] [] S q.2 := by
  unfold FX7_classes_131 at h
  refine Un.trans ?_ (wX7_classes_132 hk44 h)
  exact Un.refl _
set_option maxRecDepth 4000 in
theorem wX7_classes_104 {q : Int32 × St}  {k44 : Int32 → Int32 → Int32 → Int32 → Int32 → St → Option (Int32 × St)} (hk44 : ∀ {l1 : Int32} {l2 : Int32} {l3 : Int32} {l4 : Int32} {l5 : Int32} {S : St}, k44 l1 l2 l3 l4 l5 S = some q → Un [(44, 23), (44, 28), (52, 99), (53, 99), (54, 99), (55, 99), (56, 99), (57, 99)] [] [] S q.2) {l1 : Int32} {l2 : Int32} {l3 : Int32} {l4 : Int32} {l5 : Int32} {l6 : Int32} {l7 : Int32} {s0 : Int32} {S : St} (h : FX7_classes_104 k44 l1 l2 l3 l4 l5 l6 l7 s0 S = some q) : Un [(44, 23), (44, 28), (52, 99), (53, 99), (54, 99), (55, 99), (56, 99), (57, 99)] [] [] S q.2 := by
  unfold FX7_classes_104 at h
  refine cs_e h (fun _ h => ?_) (fun _ h => ?_)
  · skip
    refine Un.trans ?_ (wX7_classes_131 hk44 h)
    exact Un.refl _
  · skip
    refine cs_e h (fun _ h => ?_) (fun _ h => ?_)
    · skip
      refine Un.trans ?_ (wX7_classes_131 hk44 h)
      exact Un.refl _
    · skip
      refine cs_e h (fun _ h => ?_) (fun _ h => ?_)
      · skip
        refine Un.trans ?_ (wX7_classes_127 hk44 h)
        exact Un.refl _
      · skip
        refine cs_e h (fun _ h => ?_) (fun _ h => ?_)
        · skip
          refine Un.trans ?_ (wX7_classes_131 hk44 h)
          exact Un.refl _
        · skip
          refine Un.trans ?_ (wX7_classes_127 hk44 h)
          exact Un.refl _
set_option maxRecDepth 4000 in
theorem wX7_classes_44 {q : Int32 × St}  : ∀ (n : Nat) {l1 : Int32} {l2 : Int32} {l3 : Int32} {l4 : Int32} {l5 : Int32} {S : St}, FX7_classes_44 n l1 l2 l3 l4 l5 S = some q → Un [(44, 23), (44, 28), (52, 99), (53, 99), (54, 99), (55, 99), (56, 99), (57, 99)] [] [] S q.2 := by
  intro n
  induction n with
  | zero => intro _ _ _ _ _ _ h; cases h
  | succ n ih =>
    intro l1 l2 l3 l4 l5 S h
    rw [FX7_classes_44] at h
    obtain ⟨q14, hq15, h⟩ := bd_e h
    refine cs_e h (fun _ h => ?_) (fun _ h => ?_)
    · skip
      refine cs_e h (fun _ h => ?_) (fun _ h => ?_)
      · skip
        refine cs_e h (fun _ h => ?_) (fun _ h => ?_)
        · skip
          have h := Option.some.inj h
          subst h
          refine Un.trans ?_ ((wX7_everybody hq15).mono (sub_k [] rfl) (sub_k [] rfl) (sub_k [] rfl))
          exact Un.refl _
        · skip
          have h := Option.some.inj h
          subst h
          refine Un.trans ?_ ((wX7_everybody hq15).mono (sub_k [] rfl) (sub_k [] rfl) (sub_k [] rfl))
          exact Un.refl _
      · skip
        have h := Option.some.inj h
        subst h
        refine Un.trans ?_ ((wX7_everybody hq15).mono (sub_k [] rfl) (sub_k [] rfl) (sub_k [] rfl))
        exact Un.refl _
    · skip
      obtain ⟨q21, hq22, h⟩ := bd_e h
      obtain ⟨q25, hq26, h⟩ := bd_e h
      obtain ⟨q29, hq30, h⟩ := bd_e h
      obtain ⟨q33, hq34, h⟩ := bd_e h
      obtain ⟨q37, hq38, h⟩ := bd_e h
      refine cs_e h (fun _ h => ?_) (fun _ h => ?_)
      · skip
        refine Un.trans ?_ (wX7_classes_104 (fun h => ih h) h)
        refine Un.trans ?_ ((wX7_spread hq38).mono (sub_k [0, 1, 2, 4, 5, 6, 7] rfl) (sub_k [] rfl) (sub_k [] rfl))
        refine Un.trans ?_ ((wX7_everybody hq34).mono (sub_k [] rfl) (sub_k [] rfl) (sub_k [] rfl))
        refine Un.trans ?_ ((wX7_take hq30).mono (sub_k [2, 3] rfl) (sub_k [] rfl) (sub_k [] rfl))
        refine Un.trans ?_ ((wX7_spread hq26).mono (sub_k [0, 1, 2, 4, 5, 6, 7] rfl) (sub_k [] rfl) (sub_k [] rfl))
        refine Un.trans ?_ ((wX7_take hq22).mono (sub_k [2, 3] rfl) (sub_k [] rfl) (sub_k [] rfl))
        refine Un.trans ?_ ((wX7_everybody hq15).mono (sub_k [] rfl) (sub_k [] rfl) (sub_k [] rfl))
        exact Un.refl _
      · skip
        refine Un.trans ?_ (wX7_classes_104 (fun h => ih h) h)
        refine Un.trans ?_ ((wX7_spread hq38).mono (sub_k [0, 1, 2, 4, 5, 6, 7] rfl) (sub_k [] rfl) (sub_k [] rfl))
        refine Un.trans ?_ ((wX7_everybody hq34).mono (sub_k [] rfl) (sub_k [] rfl) (sub_k [] rfl))
        refine Un.trans ?_ ((wX7_take hq30).mono (sub_k [2, 3] rfl) (sub_k [] rfl) (sub_k [] rfl))
        refine Un.trans ?_ ((wX7_spread hq26).mono (sub_k [0, 1, 2, 4, 5, 6, 7] rfl) (sub_k [] rfl) (sub_k [] rfl))
        refine Un.trans ?_ ((wX7_take hq22).mono (sub_k [2, 3] rfl) (sub_k [] rfl) (sub_k [] rfl))
        refine Un.trans ?_ ((wX7_everybody hq15).mono (sub_k [] rfl) (sub_k [] rfl) (sub_k [] rfl))
        exact Un.refl _
set_option maxRecDepth 4000 in
theorem wX7_classes {q : Int32 × St} {l1 : Int32} {l2 : Int32} {S : St} (h : fX7_classes l1 l2 S = some q) : Un [(44, 23), (44, 28), (52, 99), (53, 99), (54, 99), (55, 99), (56, 99), (57, 99)] [] [] S q.2 := by
  unfold fX7_classes at h
  obtain ⟨q3, hq4, h⟩ := bd_e h
  refine cs_e h (fun _ h => ?_) (fun _ h => ?_)
  · skip
    have h := Option.some.inj h
    subst h
    refine Un.trans ?_ ((wX7_isThing hq4).mono (sub_k [] rfl) (sub_k [] rfl) (sub_k [] rfl))
    exact Un.refl _
  · skip
    obtain ⟨q8, hq9, h⟩ := bd_e h
    refine cs_e h (fun _ h => ?_) (fun _ h => ?_)
    · skip
      have h := Option.some.inj h
      subst h
      refine Un.trans ?_ ((wX7_in hq9).mono (sub_k [] rfl) (sub_k [] rfl) (sub_k [] rfl))
      refine Un.trans ?_ ((wX7_isThing hq4).mono (sub_k [] rfl) (sub_k [] rfl) (sub_k [] rfl))
      exact Un.refl _
    · skip
      refine cs_e h (fun _ h => ?_) (fun _ h => ?_)
      · skip
        refine Un.trans ?_ (wX7_classes_44  _ h)
        refine Un.trans ?_ ((wX7_in hq9).mono (sub_k [] rfl) (sub_k [] rfl) (sub_k [] rfl))
        refine Un.trans ?_ ((wX7_isThing hq4).mono (sub_k [] rfl) (sub_k [] rfl) (sub_k [] rfl))
        exact Un.refl _
      · skip
        have h := Option.some.inj h
        subst h
        refine Un.trans ?_ ((wX7_in hq9).mono (sub_k [] rfl) (sub_k [] rfl) (sub_k [] rfl))
        refine Un.trans ?_ ((wX7_isThing hq4).mono (sub_k [] rfl) (sub_k [] rfl) (sub_k [] rfl))
        exact Un.refl _
set_option maxRecDepth 4000 in
theorem wX7_behind_15 {q : Int32 × St}   {S : St} (h : FX7_behind_15  S = some q) : Un [(44, 34), (52, 99), (53, 99), (54, 99), (63, 99)] [(61, 99), (62, 99)] [] S q.2 := by
  unfold FX7_behind_15 at h
  have h := Option.some.inj h
  subst h
  exact Un.refl _
set_option maxRecDepth 4000 in
theorem wX7_behind_47 {q : Int32 × St}   {S : St} (h : FX7_behind_47  S = some q) : Un [(44, 34), (52, 99), (53, 99), (54, 99), (63, 99)] [(61, 99), (62, 99)] [] S q.2 := by
  unfold FX7_behind_47 at h
  have h := Option.some.inj h
  subst h
  exact Un.refl _
set_option maxRecDepth 4000 in
theorem wX7_behind_186 {q : Int32 × St}  {k82 : Int32 → Int64 → Int32 → St → Option (Int32 × St)} (hk82 : ∀ {l4 : Int32} {l5 : Int64} {l7 : Int32} {S : St}, k82 l4 l5 l7 S = some q → Un [(44, 34), (52, 99), (53, 99), (54, 99), (63, 99)] [(61, 99), (62, 99)] [] S q.2) {l4 : Int32} {l5 : Int64} {l7 : Int32} {S : St} (h : FX7_behind_186 k82 l4 l5 l7 S = some q) : Un [(44, 34), (52, 99), (53, 99), (54, 99), (63, 99)] [(61, 99), (62, 99)] [] S q.2 := by
  unfold FX7_behind_186 at h
  refine Un.trans ?_ (hk82 h)
  exact Un.refl _
set_option maxRecDepth 4000 in
theorem wX7_behind_168 {q : Int32 × St}  {k82 : Int32 → Int64 → Int32 → St → Option (Int32 × St)} (hk82 : ∀ {l4 : Int32} {l5 : Int64} {l7 : Int32} {S : St}, k82 l4 l5 l7 S = some q → Un [(44, 34), (52, 99), (53, 99), (54, 99), (63, 99)] [(61, 99), (62, 99)] [] S q.2) {l4 : Int32} {l5 : Int64} {l7 : Int32} {s0 : Int32} {S : St} (h : FX7_behind_168 k82 l4 l5 l7 s0 S = some q) : Un [(44, 34), (52, 99), (53, 99), (54, 99), (63, 99)] [(61, 99), (62, 99)] [] S q.2 := by
  unfold FX7_behind_168 at h
  obtain ⟨g52, h⟩ := gd_e h
  refine Un.trans ?_ (wX7_behind_186 hk82 h)
  exact Un.refl _
set_option maxRecDepth 4000 in
theorem wX7_behind_209 {q : Int32 × St}  {s0 : Int64} {s1 : Int64} {S : St} (h : FX7_behind_209 s0 s1 S = some q) : Un [(44, 34), (52, 99), (53, 99), (54, 99), (63, 99)] [(61, 99), (62, 99)] [] S q.2 := by
  unfold FX7_behind_209 at h
  obtain ⟨g55, h⟩ := gd_e h
  have h := Option.some.inj h
  subst h
  exact Un.refl _
set_option maxRecDepth 4000 in
theorem wX7_behind_82 {q : Int32 × St}  : ∀ (n : Nat) {l4 : Int32} {l5 : Int64} {l7 : Int32} {S : St}, FX7_behind_82 n l4 l5 l7 S = some q → Un [(44, 34), (52, 99), (53, 99), (54, 99), (63, 99)] [(61, 99), (62, 99)] [] S q.2 := by
  intro n
  induction n with
  | zero => intro _ _ _ _ h; cases h
  | succ n ih =>
    intro l4 l5 l7 S h
    rw [FX7_behind_82] at h
    refine cs_e h (fun _ h => ?_) (fun _ h => ?_)
    · skip
      refine cs_e h (fun _ h => ?_) (fun _ h => ?_)
      · skip
        refine Un.trans ?_ (wX7_behind_209  h)
        exact Un.refl _
      · skip
        refine Un.trans ?_ (wX7_behind_209  h)
        exact Un.refl _
    · skip
      obtain ⟨g32, h⟩ := gd_e h
      refine cs_e h (fun _ h => ?_) (fun _ h => ?_)
      · skip
        refine Un.trans ?_ (wX7_behind_186 (fun h => ih h) h)
        exact Un.refl _
      · skip
        obtain ⟨q36, hq37, h⟩ := bd_e h
        obtain ⟨q40, hq41, h⟩ := bd_e h
        obtain ⟨q44, hq45, h⟩ := bd_e h
        refine cs_e h (fun _ h => ?_) (fun _ h => ?_)
        · skip
          refine cs_e h (fun _ h => ?_) (fun _ h => ?_)
          · skip
            refine Un.trans ?_ (wX7_behind_168 (fun h => ih h) h)
            refine Un.trans ?_ ((wX7_knownNow hq45).mono (sub_k [] rfl) (sub_k [] rfl) (sub_k [] rfl))
            refine Un.trans ?_ ((wX7_setState hq41).mono (sub_k [1] rfl) (sub_k [] rfl) (sub_k [] rfl))
            refine Un.trans ?_ ((wX7_everybody hq37).mono (sub_k [] rfl) (sub_k [] rfl) (sub_k [] rfl))
            exact Un.refl _
          · skip
            refine Un.trans ?_ (wX7_behind_168 (fun h => ih h) h)
            refine Un.trans ?_ ((wX7_knownNow hq45).mono (sub_k [] rfl) (sub_k [] rfl) (sub_k [] rfl))
            refine Un.trans ?_ ((wX7_setState hq41).mono (sub_k [1] rfl) (sub_k [] rfl) (sub_k [] rfl))
            refine Un.trans ?_ ((wX7_everybody hq37).mono (sub_k [] rfl) (sub_k [] rfl) (sub_k [] rfl))
            exact Un.refl _
        · skip
          refine cs_e h (fun _ h => ?_) (fun _ h => ?_)
          · skip
            refine cs_e h (fun _ h => ?_) (fun _ h => ?_)
            · skip
              refine Un.trans ?_ (wX7_behind_168 (fun h => ih h) h)
              refine Un.trans ?_ ((wX7_knownNow hq45).mono (sub_k [] rfl) (sub_k [] rfl) (sub_k [] rfl))
              refine Un.trans ?_ ((wX7_setState hq41).mono (sub_k [1] rfl) (sub_k [] rfl) (sub_k [] rfl))
              refine Un.trans ?_ ((wX7_everybody hq37).mono (sub_k [] rfl) (sub_k [] rfl) (sub_k [] rfl))
              exact Un.refl _
            · skip
              refine Un.trans ?_ (wX7_behind_168 (fun h => ih h) h)
              refine Un.trans ?_ ((wX7_knownNow hq45).mono (sub_k [] rfl) (sub_k [] rfl) (sub_k [] rfl))
              refine Un.trans ?_ ((wX7_setState hq41).mono (sub_k [1] rfl) (sub_k [] rfl) (sub_k [] rfl))
              refine Un.trans ?_ ((wX7_everybody hq37).mono (sub_k [] rfl) (sub_k [] rfl) (sub_k [] rfl))
              exact Un.refl _
          · skip
            obtain ⟨g49, h⟩ := gd_e h
            refine Un.trans ?_ (wX7_behind_168 (fun h => ih h) h)
            refine Un.trans ?_ ((wX7_knownNow hq45).mono (sub_k [] rfl) (sub_k [] rfl) (sub_k [] rfl))
            refine Un.trans ?_ ((wX7_setState hq41).mono (sub_k [1] rfl) (sub_k [] rfl) (sub_k [] rfl))
            refine Un.trans ?_ ((wX7_everybody hq37).mono (sub_k [] rfl) (sub_k [] rfl) (sub_k [] rfl))
            exact Un.refl _
set_option maxRecDepth 4000 in
theorem wX7_behind {q : Int32 × St} {l1 : Int32} {l2 : Int32} {l3 : Int32} {l4 : Int32} {S : St} (h : fX7_behind l1 l2 l3 l4 S = some q) : Un [(44, 34), (52, 99), (53, 99), (54, 99), (63, 99)] [(61, 99), (62, 99)] [] S q.2 := by
  unfold fX7_behind at h
  obtain ⟨q3, hq4, h⟩ := bd_e h
  refine cs_e h (fun _ h => ?_) (fun _ h => ?_)
  · skip
    refine Un.trans ?_ (wX7_behind_15  h)
    refine Un.trans ?_ ((wX7_isRule hq4).mono (sub_k [] rfl) (sub_k [] rfl) (sub_k [] rfl))
    exact Un.refl _
  · skip
    obtain ⟨q8, hq9, h⟩ := bd_e h
    refine cs_e h (fun _ h => ?_) (fun _ h => ?_)
    · skip
      refine Un.trans ?_ (wX7_behind_15  h)
      refine Un.trans ?_ ((wX7_isThing hq9).mono (sub_k [] rfl) (sub_k [] rfl) (sub_k [] rfl))
      refine Un.trans ?_ ((wX7_isRule hq4).mono (sub_k [] rfl) (sub_k [] rfl) (sub_k [] rfl))
      exact Un.refl _
    · skip
      obtain ⟨q13, hq14, h⟩ := bd_e h
      refine cs_e h (fun _ h => ?_) (fun _ h => ?_)
      · skip
        refine Un.trans ?_ (wX7_behind_47  h)
        refine Un.trans ?_ ((wX7_in hq14).mono (sub_k [] rfl) (sub_k [] rfl) (sub_k [] rfl))
        refine Un.trans ?_ ((wX7_isThing hq9).mono (sub_k [] rfl) (sub_k [] rfl) (sub_k [] rfl))
        refine Un.trans ?_ ((wX7_isRule hq4).mono (sub_k [] rfl) (sub_k [] rfl) (sub_k [] rfl))
        exact Un.refl _
      · skip
        obtain ⟨q18, hq19, h⟩ := bd_e h
        refine cs_e h (fun _ h => ?_) (fun _ h => ?_)
        · skip
          refine Un.trans ?_ (wX7_behind_47  h)
          refine Un.trans ?_ ((wX7_in hq19).mono (sub_k [] rfl) (sub_k [] rfl) (sub_k [] rfl))
          refine Un.trans ?_ ((wX7_in hq14).mono (sub_k [] rfl) (sub_k [] rfl) (sub_k [] rfl))
          refine Un.trans ?_ ((wX7_isThing hq9).mono (sub_k [] rfl) (sub_k [] rfl) (sub_k [] rfl))
          refine Un.trans ?_ ((wX7_isRule hq4).mono (sub_k [] rfl) (sub_k [] rfl) (sub_k [] rfl))
          exact Un.refl _
        · skip
          obtain ⟨q23, hq24, h⟩ := bd_e h
          refine cs_e h (fun _ h => ?_) (fun _ h => ?_)
          · skip
            have h := Option.some.inj h
            subst h
            refine Un.trans ?_ ((wX7_in hq24).mono (sub_k [] rfl) (sub_k [] rfl) (sub_k [] rfl))
            refine Un.trans ?_ ((wX7_in hq19).mono (sub_k [] rfl) (sub_k [] rfl) (sub_k [] rfl))
            refine Un.trans ?_ ((wX7_in hq14).mono (sub_k [] rfl) (sub_k [] rfl) (sub_k [] rfl))
            refine Un.trans ?_ ((wX7_isThing hq9).mono (sub_k [] rfl) (sub_k [] rfl) (sub_k [] rfl))
            refine Un.trans ?_ ((wX7_isRule hq4).mono (sub_k [] rfl) (sub_k [] rfl) (sub_k [] rfl))
            exact Un.refl _
          · skip
            obtain ⟨q28, hq29, h⟩ := bd_e h
            refine Un.trans ?_ (wX7_behind_82  _ h)
            refine Un.trans ?_ ((wX7_findOdds hq29).mono (sub_k [0, 1, 2, 3, 4] rfl) (sub_k [0, 1] rfl) (sub_k [] rfl))
            refine Un.trans ?_ ((wX7_in hq24).mono (sub_k [] rfl) (sub_k [] rfl) (sub_k [] rfl))
            refine Un.trans ?_ ((wX7_in hq19).mono (sub_k [] rfl) (sub_k [] rfl) (sub_k [] rfl))
            refine Un.trans ?_ ((wX7_in hq14).mono (sub_k [] rfl) (sub_k [] rfl) (sub_k [] rfl))
            refine Un.trans ?_ ((wX7_isThing hq9).mono (sub_k [] rfl) (sub_k [] rfl) (sub_k [] rfl))
            refine Un.trans ?_ ((wX7_isRule hq4).mono (sub_k [] rfl) (sub_k [] rfl) (sub_k [] rfl))
            exact Un.refl _
set_option maxRecDepth 4000 in
theorem wX2_readThing_22 {q : Unit × St}   {S : St} (h : FX2_readThing_22  S = some q) : Un [(1, 2), (1, 3), (1, 5), (1, 6), (1, 7), (3, 0), (4, 99), (9, 0), (10, 99)] [] [] S q.2 := by
  unfold FX2_readThing_22 at h
  obtain ⟨q32, hq33, h⟩ := bd_e h
  have h := Option.some.inj h
  subst h
  refine Un.trans ?_ ((wX2_refuse hq33).mono (sub_k [0, 1] rfl) (sub_k [] rfl) (sub_k [] rfl))
  exact Un.refl _
set_option maxRecDepth 4000 in
theorem wX2_readThing_53 {q : Unit × St}  {s0 : Int32} {S : St} (h : FX2_readThing_53 s0 S = some q) : Un [(1, 2), (1, 3), (1, 5), (1, 6), (1, 7), (3, 0), (4, 99), (9, 0), (10, 99)] [] [] S q.2 := by
  unfold FX2_readThing_53 at h
  obtain ⟨q20, hq21, h⟩ := bd_e h
  refine cs_e h (fun _ h => ?_) (fun _ h => ?_)
  · skip
    obtain ⟨g23, h⟩ := gd_e h
    obtain ⟨g24, h⟩ := gd_e h
    obtain ⟨g26, h⟩ := gd_e h
    obtain ⟨g28, h⟩ := gd_e h
    have h := Option.some.inj h
    subst h
    refine Un.nS ?_ (by rcases isSch_or g28 with e | e <;> rw [e] <;> decide)
    refine Un.nA ?_ (by rcases isSch_or g23 with e | e <;> rw [e] <;> decide)
    refine Un.trans ?_ ((wX2_takeSign hq21).mono (sub_k [0, 1, 2, 3, 4] rfl) (sub_k [] rfl) (sub_k [] rfl))
    exact Un.refl _
  · skip
    have h := Option.some.inj h
    subst h
    refine Un.trans ?_ ((wX2_takeSign hq21).mono (sub_k [0, 1, 2, 3, 4] rfl) (sub_k [] rfl) (sub_k [] rfl))
    exact Un.refl _
set_option maxRecDepth 4000 in
theorem wX2_readThing {q : Unit × St}  {S : St} (h : fX2_readThing  S = some q) : Un [(1, 2), (1, 3), (1, 5), (1, 6), (1, 7), (3, 0), (4, 99), (9, 0), (10, 99)] [] [] S q.2 := by
  unfold fX2_readThing at h
  obtain ⟨g1, h⟩ := gd_e h
  refine cs_e h (fun _ h => ?_) (fun _ h => ?_)
  · skip
    refine Un.trans ?_ (wX2_readThing_22  h)
    exact Un.refl _
  · skip
    obtain ⟨g3, h⟩ := gd_e h
    refine cs_e h (fun _ h => ?_) (fun _ h => ?_)
    · skip
      obtain ⟨q7, hq8, h⟩ := bd_e h
      obtain ⟨q11, hq12, h⟩ := bd_e h
      refine cs_e h (fun _ h => ?_) (fun _ h => ?_)
      · skip
        refine Un.trans ?_ (wX2_readThing_53  h)
        refine Un.trans ?_ ((wX2_isWord hq12).mono (sub_k [] rfl) (sub_k [] rfl) (sub_k [] rfl))
        refine Un.trans ?_ ((wX2_advance hq8).mono (sub_k [2, 3, 4] rfl) (sub_k [] rfl) (sub_k [] rfl))
        exact Un.refl _
      · skip
        obtain ⟨q16, hq17, h⟩ := bd_e h
        refine Un.trans ?_ (wX2_readThing_53  h)
        refine Un.trans ?_ ((wX2_readLeaning hq17).mono (sub_k [0, 1, 2, 3, 4] rfl) (sub_k [] rfl) (sub_k [] rfl))
        refine Un.trans ?_ ((wX2_isWord hq12).mono (sub_k [] rfl) (sub_k [] rfl) (sub_k [] rfl))
        refine Un.trans ?_ ((wX2_advance hq8).mono (sub_k [2, 3, 4] rfl) (sub_k [] rfl) (sub_k [] rfl))
        exact Un.refl _
    · skip
      refine Un.trans ?_ (wX2_readThing_22  h)
      exact Un.refl _
set_option maxRecDepth 4000 in
theorem wX7_fewest {q : Int32 × St} {l1 : Int32} {S : St} (h : fX7_fewest l1 S = some q) : Un [(44, 23), (44, 28), (52, 99), (53, 99), (54, 99), (55, 99), (56, 99), (57, 99)] [] [] S q.2 := by
  unfold fX7_fewest at h
  obtain ⟨q3, hq4, h⟩ := bd_e h
  refine cs_e h (fun _ h => ?_) (fun _ h => ?_)
  · skip
    have h := Option.some.inj h
    subst h
    refine Un.trans ?_ ((wX7_isThing hq4).mono (sub_k [] rfl) (sub_k [] rfl) (sub_k [] rfl))
    exact Un.refl _
  · skip
    obtain ⟨q8, hq9, h⟩ := bd_e h
    refine cs_e h (fun _ h => ?_) (fun _ h => ?_)
    · skip
      have h := Option.some.inj h
      subst h
      refine Un.trans ?_ ((wX7_isSmall hq9).mono (sub_k [] rfl) (sub_k [] rfl) (sub_k [] rfl))
      refine Un.trans ?_ ((wX7_isThing hq4).mono (sub_k [] rfl) (sub_k [] rfl) (sub_k [] rfl))
      exact Un.refl _
    · skip
      obtain ⟨q13, hq14, h⟩ := bd_e h
      have h := Option.some.inj h
      subst h
      refine Un.trans ?_ ((wX7_fewestOf hq14).mono (sub_k [0, 1, 2, 3, 4, 5, 6, 7] rfl) (sub_k [] rfl) (sub_k [] rfl))
      refine Un.trans ?_ ((wX7_isSmall hq9).mono (sub_k [] rfl) (sub_k [] rfl) (sub_k [] rfl))
      refine Un.trans ?_ ((wX7_isThing hq4).mono (sub_k [] rfl) (sub_k [] rfl) (sub_k [] rfl))
      exact Un.refl _
set_option maxRecDepth 4000 in
theorem wX7_row_210 {q : Int32 × St}  {k77 : Int32 → Int32 → Int32 → Int32 → St → Option (Int32 × St)} (hk77 : ∀ {l2 : Int32} {l4 : Int32} {l5 : Int32} {l6 : Int32} {S : St}, k77 l2 l4 l5 l6 S = some q → Un [(44, 23), (44, 28), (52, 99), (53, 99), (54, 99), (55, 99), (56, 99), (57, 99), (58, 99)] [] [] S q.2) {l2 : Int32} {l4 : Int32} {l5 : Int32} {l6 : Int32} {S : St} (h : FX7_row_210 k77 l2 l4 l5 l6 S = some q) : Un [(44, 23), (44, 28), (52, 99), (53, 99), (54, 99), (55, 99), (56, 99), (57, 99), (58, 99)] [] [] S q.2 := by
  unfold FX7_row_210 at h
  refine Un.trans ?_ (hk77 h)
  exact Un.refl _
set_option maxRecDepth 4000 in
theorem wX7_row_203 {q : Int32 × St}  {k104 : Int32 → Int32 → Int32 → Int32 → Int32 → St → Option (Int32 × St)} (hk104 : ∀ {l2 : Int32} {l4 : Int32} {l5 : Int32} {l6 : Int32} {l7 : Int32} {S : St}, k104 l2 l4 l5 l6 l7 S = some q → Un [(44, 23), (44, 28), (52, 99), (53, 99), (54, 99), (55, 99), (56, 99), (57, 99), (58, 99)] [] [] S q.2) {l2 : Int32} {l4 : Int32} {l5 : Int32} {l6 : Int32} {l7 : Int32} {s0 : Int32} {s1 : Int32} {S : St} (h : FX7_row_203 k104 l2 l4 l5 l6 l7 s0 s1 S = some q) : Un [(44, 23), (44, 28), (52, 99), (53, 99), (54, 99), (55, 99), (56, 99), (57, 99), (58, 99)] [] [] S q.2 := by
  unfold FX7_row_203 at h
  obtain ⟨g52, h⟩ := gd_e h
  refine Un.trans ?_ (hk104 h)
  refine Un.nA ?_ (List.mem_of_getElem? (i := 8) rfl)
  exact Un.refl _
set_option maxRecDepth 4000 in
theorem wX7_row_202 {q : Int32 × St}  {k104 : Int32 → Int32 → Int32 → Int32 → Int32 → St → Option (Int32 × St)} (hk104 : ∀ {l2 : Int32} {l4 : Int32} {l5 : Int32} {l6 : Int32} {l7 : Int32} {S : St}, k104 l2 l4 l5 l6 l7 S = some q → Un [(44, 23), (44, 28), (52, 99), (53, 99), (54, 99), (55, 99), (56, 99), (57, 99), (58, 99)] [] [] S q.2) {l2 : Int32} {l4 : Int32} {l5 : Int32} {l6 : Int32} {l7 : Int32} {s0 : Int32} {S : St} (h : FX7_row_202 k104 l2 l4 l5 l6 l7 s0 S = some q) : Un [(44, 23), (44, 28), (52, 99), (53, 99), (54, 99), (55, 99), (56, 99), (57, 99), (58, 99)] [] [] S q.2 := by
  unfold FX7_row_202 at h
  refine Un.trans ?_ (wX7_row_203 hk104 h)
  exact Un.refl _
set_option maxRecDepth 4000 in
theorem wX7_row_198 {q : Int32 × St}  {k104 : Int32 → Int32 → Int32 → Int32 → Int32 → St → Option (Int32 × St)} (hk104 : ∀ {l2 : Int32} {l4 : Int32} {l5 : Int32} {l6 : Int32} {l7 : Int32} {S : St}, k104 l2 l4 l5 l6 l7 S = some q → Un [(44, 23), (44, 28), (52, 99), (53, 99), (54, 99), (55, 99), (56, 99), (57, 99), (58, 99)] [] [] S q.2) {l2 : Int32} {l4 : Int32} {l5 : Int32} {l6 : Int32} {l7 : Int32} {s0 : Int32} {S : St} (h : FX7_row_198 k104 l2 l4 l5 l6 l7 s0 S = some q) : Un [(44, 23), (44, 28), (52, 99), (53, 99), (54, 99), (55, 99), (56, 99), (57, 99), (58, 99)] [] [] S q.2 := by
  unfold FX7_row_198 at h
  refine Un.trans ?_ (wX7_row_203 hk104 h)
  exact Un.refl _
set_option maxRecDepth 4000 in
theorem wX7_row_104 {q : Int32 × St}  {k77 : Int32 → Int32 → Int32 → Int32 → St → Option (Int32 × St)} (hk77 : ∀ {l2 : Int32} {l4 : Int32} {l5 : Int32} {l6 : Int32} {S : St}, k77 l2 l4 l5 l6 S = some q → Un [(44, 23), (44, 28), (52, 99), (53, 99), (54, 99), (55, 99), (56, 99), (57, 99), (58, 99)] [] [] S q.2) : ∀ (n : Nat) {l2 : Int32} {l4 : Int32} {l5 : Int32} {l6 : Int32} {l7 : Int32} {S : St}, FX7_row_104 k77 n l2 l4 l5 l6 l7 S = some q → Un [(44, 23), (44, 28), (52, 99), (53, 99), (54, 99), (55, 99), (56, 99), (57, 99), (58, 99)] [] [] S q.2 := by
  intro n
  induction n with
  | zero => intro _ _ _ _ _ _ h; cases h
  | succ n ih =>
    intro l2 l4 l5 l6 l7 S h
    rw [FX7_row_104] at h
    refine cs_e h (fun _ h => ?_) (fun _ h => ?_)
    · skip
      refine Un.trans ?_ (wX7_row_210 hk77 h)
      exact Un.refl _
    · skip
      refine cs_e h (fun _ h => ?_) (fun _ h => ?_)
      · skip
        refine Un.trans ?_ (wX7_row_210 hk77 h)
        exact Un.refl _
      · skip
        obtain ⟨g37, h⟩ := gd_e h
        obtain ⟨q40, hq41, h⟩ := bd_e h
        obtain ⟨g42, h⟩ := gd_e h
        obtain ⟨g44, h⟩ := gd_e h
        refine cs_e h (fun _ h => ?_) (fun _ h => ?_)
        · skip
          refine cs_e h (fun _ h => ?_) (fun _ h => ?_)
          · skip
            refine Un.trans ?_ (wX7_row_202 (fun h => ih h) h)
            refine Un.trans ?_ ((wX7_next hq41).mono (sub_k [0, 2, 4] rfl) (sub_k [] rfl) (sub_k [] rfl))
            exact Un.refl _
          · skip
            obtain ⟨g47, h⟩ := gd_e h
            obtain ⟨g48, h⟩ := gd_e h
            refine cs_e h (fun _ h => ?_) (fun _ h => ?_)
            · skip
              obtain ⟨g50, h⟩ := gd_e h
              refine cs_e h (fun _ h => ?_) (fun _ h => ?_)
              · skip
                refine Un.trans ?_ (wX7_row_202 (fun h => ih h) h)
                refine Un.trans ?_ ((wX7_next hq41).mono (sub_k [0, 2, 4] rfl) (sub_k [] rfl) (sub_k [] rfl))
                exact Un.refl _
              · skip
                refine Un.trans ?_ (wX7_row_198 (fun h => ih h) h)
                refine Un.trans ?_ ((wX7_next hq41).mono (sub_k [0, 2, 4] rfl) (sub_k [] rfl) (sub_k [] rfl))
                exact Un.refl _
            · skip
              refine Un.trans ?_ (wX7_row_202 (fun h => ih h) h)
              refine Un.trans ?_ ((wX7_next hq41).mono (sub_k [0, 2, 4] rfl) (sub_k [] rfl) (sub_k [] rfl))
              exact Un.refl _
        · skip
          refine Un.trans ?_ (wX7_row_198 (fun h => ih h) h)
          refine Un.trans ?_ ((wX7_next hq41).mono (sub_k [0, 2, 4] rfl) (sub_k [] rfl) (sub_k [] rfl))
          exact Un.refl _
set_option maxRecDepth 4000 in
theorem wX7_row_100 {q : Int32 × St}  {k77 : Int32 → Int32 → Int32 → Int32 → St → Option (Int32 × St)} (hk77 : ∀ {l2 : Int32} {l4 : Int32} {l5 : Int32} {l6 : Int32} {S : St}, k77 l2 l4 l5 l6 S = some q → Un [(44, 23), (44, 28), (52, 99), (53, 99), (54, 99), (55, 99), (56, 99), (57, 99), (58, 99)] [] [] S q.2) {l2 : Int32} {l4 : Int32} {l5 : Int32} {l6 : Int32} {s0 : Int32} {s1 : Int32} {S : St} (h : FX7_row_100 k77 l2 l4 l5 l6 s0 s1 S = some q) : Un [(44, 23), (44, 28), (52, 99), (53, 99), (54, 99), (55, 99), (56, 99), (57, 99), (58, 99)] [] [] S q.2 := by
  unfold FX7_row_100 at h
  obtain ⟨g33, h⟩ := gd_e h
  refine Un.trans ?_ (wX7_row_104 hk77 _ h)
  refine Un.nA ?_ (List.mem_of_getElem? (i := 8) rfl)
  exact Un.refl _
set_option maxRecDepth 4000 in
theorem wX7_row_346 {q : Int32 × St}  {k246 : Int32 → Int32 → Int32 → Int32 → Int32 → Int32 → Int32 → St → Option (Int32 × St)} (hk246 : ∀ {l2 : Int32} {l4 : Int32} {l6 : Int32} {l7 : Int32} {l8 : Int32} {l9 : Int32} {l10 : Int32} {S : St}, k246 l2 l4 l6 l7 l8 l9 l10 S = some q → Un [(44, 23), (44, 28), (52, 99), (53, 99), (54, 99), (55, 99), (56, 99), (57, 99), (58, 99)] [] [] S q.2) {l2 : Int32} {l4 : Int32} {l6 : Int32} {l7 : Int32} {l8 : Int32} {l10 : Int32} {s0 : Int32} {S : St} (h : FX7_row_346 k246 l2 l4 l6 l7 l8 l10 s0 S = some q) : Un [(44, 23), (44, 28), (52, 99), (53, 99), (54, 99), (55, 99), (56, 99), (57, 99), (58, 99)] [] [] S q.2 := by
  unfold FX7_row_346 at h
  refine Un.trans ?_ (hk246 h)
  exact Un.refl _
set_option maxRecDepth 4000 in
theorem wX7_row_332 {q : Int32 × St}  {k246 : Int32 → Int32 → Int32 → Int32 → Int32 → Int32 → Int32 → St → Option (Int32 × St)} (hk246 : ∀ {l2 : Int32} {l4 : Int32} {l6 : Int32} {l7 : Int32} {l8 : Int32} {l9 : Int32} {l10 : Int32} {S : St}, k246 l2 l4 l6 l7 l8 l9 l10 S = some q → Un [(44, 23), (44, 28), (52, 99), (53, 99), (54, 99), (55, 99), (56, 99), (57, 99), (58, 99)] [] [] S q.2) {l2 : Int32} {l4 : Int32} {l6 : Int32} {l8 : Int32} {l9 : Int32} {l10 : Int32} {l11 : Int32} {l12 : Int32} {s0 : Int32} {S : St} (h : FX7_row_332 k246 l2 l4 l6 l8 l9 l10 l11 l12 s0 S = some q) : Un [(44, 23), (44, 28), (52, 99), (53, 99), (54, 99), (55, 99), (56, 99), (57, 99), (58, 99)] [] [] S q.2 := by
  unfold FX7_row_332 at h
  refine cs_e h (fun _ h => ?_) (fun _ h => ?_)
  · skip
    refine Un.trans ?_ (wX7_row_346 hk246 h)
    exact Un.refl _
  · skip
    refine Un.trans ?_ (wX7_row_346 hk246 h)
    exact Un.refl _
set_option maxRecDepth 4000 in
theorem wX7_row_318 {q : Int32 × St}  {k246 : Int32 → Int32 → Int32 → Int32 → Int32 → Int32 → Int32 → St → Option (Int32 × St)} (hk246 : ∀ {l2 : Int32} {l4 : Int32} {l6 : Int32} {l7 : Int32} {l8 : Int32} {l9 : Int32} {l10 : Int32} {S : St}, k246 l2 l4 l6 l7 l8 l9 l10 S = some q → Un [(44, 23), (44, 28), (52, 99), (53, 99), (54, 99), (55, 99), (56, 99), (57, 99), (58, 99)] [] [] S q.2) {l2 : Int32} {l4 : Int32} {l6 : Int32} {l7 : Int32} {l8 : Int32} {l9 : Int32} {l10 : Int32} {l11 : Int32} {s0 : Int32} {S : St} (h : FX7_row_318 k246 l2 l4 l6 l7 l8 l9 l10 l11 s0 S = some q) : Un [(44, 23), (44, 28), (52, 99), (53, 99), (54, 99), (55, 99), (56, 99), (57, 99), (58, 99)] [] [] S q.2 := by
  unfold FX7_row_318 at h
  refine cs_e h (fun _ h => ?_) (fun _ h => ?_)
  · skip
    refine Un.trans ?_ (wX7_row_332 hk246 h)
    exact Un.refl _
  · skip
    refine Un.trans ?_ (wX7_row_332 hk246 h)
    exact Un.refl _
set_option maxRecDepth 4000 in
theorem wX7_row_317 {q : Int32 × St}  {k246 : Int32 → Int32 → Int32 → Int32 → Int32 → Int32 → Int32 → St → Option (Int32 × St)} (hk246 : ∀ {l2 : Int32} {l4 : Int32} {l6 : Int32} {l7 : Int32} {l8 : Int32} {l9 : Int32} {l10 : Int32} {S : St}, k246 l2 l4 l6 l7 l8 l9 l10 S = some q → Un [(44, 23), (44, 28), (52, 99), (53, 99), (54, 99), (55, 99), (56, 99), (57, 99), (58, 99)] [] [] S q.2) {l2 : Int32} {l4 : Int32} {l6 : Int32} {l7 : Int32} {l8 : Int32} {l9 : Int32} {l10 : Int32} {l11 : Int32} {S : St} (h : FX7_row_317 k246 l2 l4 l6 l7 l8 l9 l10 l11 S = some q) : Un [(44, 23), (44, 28), (52, 99), (53, 99), (54, 99), (55, 99), (56, 99), (57, 99), (58, 99)] [] [] S q.2 := by
  unfold FX7_row_317 at h
  refine Un.trans ?_ (wX7_row_318 hk246 h)
  exact Un.refl _
set_option maxRecDepth 4000 in
theorem wX7_row_246 {q : Int32 × St}  {k225 : Int32 → Int32 → Int32 → Int32 → Int32 → St → Option (Int32 × St)} (hk225 : ∀ {l2 : Int32} {l4 : Int32} {l6 : Int32} {l7 : Int32} {l8 : Int32} {S : St}, k225 l2 l4 l6 l7 l8 S = some q → Un [(44, 23), (44, 28), (52, 99), (53, 99), (54, 99), (55, 99), (56, 99), (57, 99), (58, 99)] [] [] S q.2) : ∀ (n : Nat) {l2 : Int32} {l4 : Int32} {l6 : Int32} {l7 : Int32} {l8 : Int32} {l9 : Int32} {l10 : Int32} {S : St}, FX7_row_246 k225 n l2 l4 l6 l7 l8 l9 l10 S = some q → Un [(44, 23), (44, 28), (52, 99), (53, 99), (54, 99), (55, 99), (56, 99), (57, 99), (58, 99)] [] [] S q.2 := by
  intro n
  induction n with
  | zero => intro _ _ _ _ _ _ _ _ h; cases h
  | succ n ih =>
    intro l2 l4 l6 l7 l8 l9 l10 S h
    rw [FX7_row_246] at h
    refine cs_e h (fun _ h => ?_) (fun _ h => ?_)
    · skip
      refine Un.trans ?_ (hk225 h)
      exact Un.refl _
    · skip
      obtain ⟨g60, h⟩ := gd_e h
      obtain ⟨q63, hq64, h⟩ := bd_e h
      obtain ⟨g65, h⟩ := gd_e h
      refine cs_e h (fun _ h => ?_) (fun _ h => ?_)
      · skip
        refine Un.trans ?_ (wX7_row_317 (fun h => ih h) h)
        refine Un.trans ?_ ((wX7_next hq64).mono (sub_k [0, 2, 4] rfl) (sub_k [] rfl) (sub_k [] rfl))
        exact Un.refl _
      · skip
        obtain ⟨g68, h⟩ := gd_e h
        obtain ⟨g69, h⟩ := gd_e h
        refine cs_e h (fun _ h => ?_) (fun _ h => ?_)
        · skip
          obtain ⟨g71, h⟩ := gd_e h
          refine cs_e h (fun _ h => ?_) (fun _ h => ?_)
          · skip
            refine Un.trans ?_ (wX7_row_317 (fun h => ih h) h)
            refine Un.trans ?_ ((wX7_next hq64).mono (sub_k [0, 2, 4] rfl) (sub_k [] rfl) (sub_k [] rfl))
            exact Un.refl _
          · skip
            refine Un.trans ?_ (wX7_row_318 (fun h => ih h) h)
            refine Un.trans ?_ ((wX7_next hq64).mono (sub_k [0, 2, 4] rfl) (sub_k [] rfl) (sub_k [] rfl))
            exact Un.refl _
        · skip
          refine Un.trans ?_ (wX7_row_317 (fun h => ih h) h)
          refine Un.trans ?_ ((wX7_next hq64).mono (sub_k [0, 2, 4] rfl) (sub_k [] rfl) (sub_k [] rfl))
          exact Un.refl _
set_option maxRecDepth 4000 in
theorem wX7_row_225 {q : Int32 × St}  : ∀ (n : Nat) {l2 : Int32} {l4 : Int32} {l6 : Int32} {l7 : Int32} {l8 : Int32} {S : St}, FX7_row_225 n l2 l4 l6 l7 l8 S = some q → Un [(44, 23), (44, 28), (52, 99), (53, 99), (54, 99), (55, 99), (56, 99), (57, 99), (58, 99)] [] [] S q.2 := by
  intro n
  induction n with
  | zero => intro _ _ _ _ _ _ h; cases h
  | succ n ih =>
    intro l2 l4 l6 l7 l8 S h
    rw [FX7_row_225] at h
    refine cs_e h (fun _ h => ?_) (fun _ h => ?_)
    · skip
      have h := Option.some.inj h
      subst h
      exact Un.refl _
    · skip
      refine Un.trans ?_ (wX7_row_246 (fun h => ih h) _ h)
      exact Un.refl _
set_option maxRecDepth 4000 in
theorem wX7_row_77 {q : Int32 × St}  : ∀ (n : Nat) {l2 : Int32} {l4 : Int32} {l5 : Int32} {l6 : Int32} {S : St}, FX7_row_77 n l2 l4 l5 l6 S = some q → Un [(44, 23), (44, 28), (52, 99), (53, 99), (54, 99), (55, 99), (56, 99), (57, 99), (58, 99)] [] [] S q.2 := by
  intro n
  induction n with
  | zero => intro _ _ _ _ _ h; cases h
  | succ n ih =>
    intro l2 l4 l5 l6 S h
    rw [FX7_row_77] at h
    refine cs_e h (fun _ h => ?_) (fun _ h => ?_)
    · skip
      refine Un.trans ?_ (wX7_row_225  _ h)
      exact Un.refl _
    · skip
      refine cs_e h (fun _ h => ?_) (fun _ h => ?_)
      · skip
        refine Un.trans ?_ (wX7_row_100 (fun h => ih h) h)
        exact Un.refl _
      · skip
        refine Un.trans ?_ (wX7_row_100 (fun h => ih h) h)
        exact Un.refl _
set_option maxRecDepth 4000 in
theorem wX7_row {q : Int32 × St} {l1 : Int32} {l2 : Int32} {S : St} (h : fX7_row l1 l2 S = some q) : Un [(44, 23), (44, 28), (52, 99), (53, 99), (54, 99), (55, 99), (56, 99), (57, 99), (58, 99)] [] [] S q.2 := by
  unfold fX7_row at h
  obtain ⟨q3, hq4, h⟩ := bd_e h
  refine cs_e h (fun _ h => ?_) (fun _ h => ?_)
  · skip
    have h := Option.some.inj h
    subst h
    refine Un.trans ?_ ((wX7_isThing hq4).mono (sub_k [] rfl) (sub_k [] rfl) (sub_k [] rfl))
    exact Un.refl _
  · skip
    obtain ⟨q8, hq9, h⟩ := bd_e h
    refine cs_e h (fun _ h => ?_) (fun _ h => ?_)
    · skip
      have h := Option.some.inj h
      subst h
      refine Un.trans ?_ ((wX7_isSmall hq9).mono (sub_k [] rfl) (sub_k [] rfl) (sub_k [] rfl))
      refine Un.trans ?_ ((wX7_isThing hq4).mono (sub_k [] rfl) (sub_k [] rfl) (sub_k [] rfl))
      exact Un.refl _
    · skip
      obtain ⟨q13, hq14, h⟩ := bd_e h
      obtain ⟨q17, hq18, h⟩ := bd_e h
      refine cs_e h (fun _ h => ?_) (fun _ h => ?_)
      · skip
        have h := Option.some.inj h
        subst h
        refine Un.trans ?_ ((wX7_in hq18).mono (sub_k [] rfl) (sub_k [] rfl) (sub_k [] rfl))
        refine Un.trans ?_ ((wX7_fewestOf hq14).mono (sub_k [0, 1, 2, 3, 4, 5, 6, 7] rfl) (sub_k [] rfl) (sub_k [] rfl))
        refine Un.trans ?_ ((wX7_isSmall hq9).mono (sub_k [] rfl) (sub_k [] rfl) (sub_k [] rfl))
        refine Un.trans ?_ ((wX7_isThing hq4).mono (sub_k [] rfl) (sub_k [] rfl) (sub_k [] rfl))
        exact Un.refl _
      · skip
        obtain ⟨q22, hq23, h⟩ := bd_e h
        obtain ⟨q26, hq27, h⟩ := bd_e h
        obtain ⟨g28, h⟩ := gd_e h
        refine Un.trans ?_ (wX7_row_77  _ h)
        refine Un.trans ?_ ((wX7_goal hq27).mono (sub_k [] rfl) (sub_k [] rfl) (sub_k [] rfl))
        refine Un.trans ?_ ((wX7_everybody hq23).mono (sub_k [] rfl) (sub_k [] rfl) (sub_k [] rfl))
        refine Un.trans ?_ ((wX7_in hq18).mono (sub_k [] rfl) (sub_k [] rfl) (sub_k [] rfl))
        refine Un.trans ?_ ((wX7_fewestOf hq14).mono (sub_k [0, 1, 2, 3, 4, 5, 6, 7] rfl) (sub_k [] rfl) (sub_k [] rfl))
        refine Un.trans ?_ ((wX7_isSmall hq9).mono (sub_k [] rfl) (sub_k [] rfl) (sub_k [] rfl))
        refine Un.trans ?_ ((wX7_isThing hq4).mono (sub_k [] rfl) (sub_k [] rfl) (sub_k [] rfl))
        exact Un.refl _
set_option maxRecDepth 4000 in
theorem wX7_stuck {q : Int32 × St} {l1 : Int32} {S : St} (h : fX7_stuck l1 S = some q) : Un [(44, 23), (44, 28), (52, 99), (53, 99), (54, 99), (55, 99), (56, 99), (57, 99)] [] [] S q.2 := by
  unfold fX7_stuck at h
  obtain ⟨q3, hq4, h⟩ := bd_e h
  refine cs_e h (fun _ h => ?_) (fun _ h => ?_)
  · skip
    have h := Option.some.inj h
    subst h
    refine Un.trans ?_ ((wX7_isThing hq4).mono (sub_k [] rfl) (sub_k [] rfl) (sub_k [] rfl))
    exact Un.refl _
  · skip
    obtain ⟨q8, hq9, h⟩ := bd_e h
    refine cs_e h (fun _ h => ?_) (fun _ h => ?_)
    · skip
      have h := Option.some.inj h
      subst h
      refine Un.trans ?_ ((wX7_isSmall hq9).mono (sub_k [] rfl) (sub_k [] rfl) (sub_k [] rfl))
      refine Un.trans ?_ ((wX7_isThing hq4).mono (sub_k [] rfl) (sub_k [] rfl) (sub_k [] rfl))
      exact Un.refl _
    · skip
      obtain ⟨q13, hq14, h⟩ := bd_e h
      refine cs_e h (fun _ h => ?_) (fun _ h => ?_)
      · skip
        have h := Option.some.inj h
        subst h
        refine Un.trans ?_ ((wX7_fewestOf hq14).mono (sub_k [0, 1, 2, 3, 4, 5, 6, 7] rfl) (sub_k [] rfl) (sub_k [] rfl))
        refine Un.trans ?_ ((wX7_isSmall hq9).mono (sub_k [] rfl) (sub_k [] rfl) (sub_k [] rfl))
        refine Un.trans ?_ ((wX7_isThing hq4).mono (sub_k [] rfl) (sub_k [] rfl) (sub_k [] rfl))
        exact Un.refl _
      · skip
        have h := Option.some.inj h
        subst h
        refine Un.trans ?_ ((wX7_fewestOf hq14).mono (sub_k [0, 1, 2, 3, 4, 5, 6, 7] rfl) (sub_k [] rfl) (sub_k [] rfl))
        refine Un.trans ?_ ((wX7_isSmall hq9).mono (sub_k [] rfl) (sub_k [] rfl) (sub_k [] rfl))
        refine Un.trans ?_ ((wX7_isThing hq4).mono (sub_k [] rfl) (sub_k [] rfl) (sub_k [] rfl))
        exact Un.refl _
set_option maxRecDepth 4000 in
theorem wX7_worth_60 {q : Int32 × St}  {s0 : Int32} {s1 : Int32} {S : St} (h : FX7_worth_60 s0 s1 S = some q) : Un [(44, 23), (44, 28), (52, 99), (53, 99), (54, 99), (55, 99), (56, 99), (57, 99)] [] [] S q.2 := by
  unfold FX7_worth_60 at h
  have h := Option.some.inj h
  subst h
  exact Un.refl _
set_option maxRecDepth 4000 in
theorem wX7_worth_49 {q : Int32 × St}  {l3 : Int32} {s0 : Int32} {S : St} (h : FX7_worth_49 l3 s0 S = some q) : Un [(44, 23), (44, 28), (52, 99), (53, 99), (54, 99), (55, 99), (56, 99), (57, 99)] [] [] S q.2 := by
  unfold FX7_worth_49 at h
  refine cs_e h (fun _ h => ?_) (fun _ h => ?_)
  · skip
    refine Un.trans ?_ (wX7_worth_60  h)
    exact Un.refl _
  · skip
    refine Un.trans ?_ (wX7_worth_60  h)
    exact Un.refl _
set_option maxRecDepth 4000 in
theorem wX7_worth {q : Int32 × St} {l1 : Int32} {S : St} (h : fX7_worth l1 S = some q) : Un [(44, 23), (44, 28), (52, 99), (53, 99), (54, 99), (55, 99), (56, 99), (57, 99)] [] [] S q.2 := by
  unfold fX7_worth at h
  obtain ⟨q3, hq4, h⟩ := bd_e h
  refine cs_e h (fun _ h => ?_) (fun _ h => ?_)
  · skip
    have h := Option.some.inj h
    subst h
    refine Un.trans ?_ ((wX7_isThing hq4).mono (sub_k [] rfl) (sub_k [] rfl) (sub_k [] rfl))
    exact Un.refl _
  · skip
    obtain ⟨q8, hq9, h⟩ := bd_e h
    refine cs_e h (fun _ h => ?_) (fun _ h => ?_)
    · skip
      have h := Option.some.inj h
      subst h
      refine Un.trans ?_ ((wX7_isSmall hq9).mono (sub_k [] rfl) (sub_k [] rfl) (sub_k [] rfl))
      refine Un.trans ?_ ((wX7_isThing hq4).mono (sub_k [] rfl) (sub_k [] rfl) (sub_k [] rfl))
      exact Un.refl _
    · skip
      obtain ⟨q13, hq14, h⟩ := bd_e h
      obtain ⟨q17, hq18, h⟩ := bd_e h
      refine cs_e h (fun _ h => ?_) (fun _ h => ?_)
      · skip
        refine Un.trans ?_ (wX7_worth_49  h)
        refine Un.trans ?_ ((wX7_fewestOf hq18).mono (sub_k [0, 1, 2, 3, 4, 5, 6, 7] rfl) (sub_k [] rfl) (sub_k [] rfl))
        refine Un.trans ?_ ((wX7_fewestOf hq14).mono (sub_k [0, 1, 2, 3, 4, 5, 6, 7] rfl) (sub_k [] rfl) (sub_k [] rfl))
        refine Un.trans ?_ ((wX7_isSmall hq9).mono (sub_k [] rfl) (sub_k [] rfl) (sub_k [] rfl))
        refine Un.trans ?_ ((wX7_isThing hq4).mono (sub_k [] rfl) (sub_k [] rfl) (sub_k [] rfl))
        exact Un.refl _
      · skip
        refine Un.trans ?_ (wX7_worth_49  h)
        refine Un.trans ?_ ((wX7_fewestOf hq18).mono (sub_k [0, 1, 2, 3, 4, 5, 6, 7] rfl) (sub_k [] rfl) (sub_k [] rfl))
        refine Un.trans ?_ ((wX7_fewestOf hq14).mono (sub_k [0, 1, 2, 3, 4, 5, 6, 7] rfl) (sub_k [] rfl) (sub_k [] rfl))
        refine Un.trans ?_ ((wX7_isSmall hq9).mono (sub_k [] rfl) (sub_k [] rfl) (sub_k [] rfl))
        refine Un.trans ?_ ((wX7_isThing hq4).mono (sub_k [] rfl) (sub_k [] rfl) (sub_k [] rfl))
        exact Un.refl _
set_option maxRecDepth 4000 in
theorem wX7_findOrder_184 {q : Unit × St}  {k33 : Int32 → Int32 → St → Option (Unit × St)} (hk33 : ∀ {l2 : Int32} {l3 : Int32} {S : St}, k33 l2 l3 S = some q → Un [(44, 23), (44, 28), (52, 99), (53, 99), (54, 99), (55, 99), (56, 99), (57, 99), (59, 99), (60, 99)] [] [] S q.2) {l2 : Int32} {l3 : Int32} {S : St} (h : FX7_findOrder_184 k33 l2 l3 S = some q) : Un [(44, 23), (44, 28), (52, 99), (53, 99), (54, 99), (55, 99), (56, 99), (57, 99), (59, 99), (60, 99)] [] [] S q.2 := by
  unfold FX7_findOrder_184 at h
  refine Un.trans ?_ (hk33 h)
  exact Un.refl _
set_option maxRecDepth 4000 in
theorem wX7_findOrder_183 {q : Unit × St}  {k33 : Int32 → Int32 → St → Option (Unit × St)} (hk33 : ∀ {l2 : Int32} {l3 : Int32} {S : St}, k33 l2 l3 S = some q → Un [(44, 23), (44, 28), (52, 99), (53, 99), (54, 99), (55, 99), (56, 99), (57, 99), (59, 99), (60, 99)] [] [] S q.2) {l2 : Int32} {l3 : Int32} {s0 : Int32} {s1 : Int32} {S : St} (h : FX7_findOrder_183 k33 l2 l3 s0 s1 S = some q) : Un [(44, 23), (44, 28), (52, 99), (53, 99), (54, 99), (55, 99), (56, 99), (57, 99), (59, 99), (60, 99)] [] [] S q.2 := by
  unfold FX7_findOrder_183 at h
  obtain ⟨g39, h⟩ := gd_e h
  refine Un.trans ?_ (wX7_findOrder_184 hk33 h)
  refine Un.nA ?_ (List.mem_of_getElem? (i := 9) rfl)
  exact Un.refl _
set_option maxRecDepth 4000 in
theorem wX7_findOrder_151 {q : Unit × St}  {k33 : Int32 → Int32 → St → Option (Unit × St)} (hk33 : ∀ {l2 : Int32} {l3 : Int32} {S : St}, k33 l2 l3 S = some q → Un [(44, 23), (44, 28), (52, 99), (53, 99), (54, 99), (55, 99), (56, 99), (57, 99), (59, 99), (60, 99)] [] [] S q.2) {l2 : Int32} {l3 : Int32} {s0 : Int32} {S : St} (h : FX7_findOrder_151 k33 l2 l3 s0 S = some q) : Un [(44, 23), (44, 28), (52, 99), (53, 99), (54, 99), (55, 99), (56, 99), (57, 99), (59, 99), (60, 99)] [] [] S q.2 := by
  unfold FX7_findOrder_151 at h
  refine cs_e h (fun _ h => ?_) (fun _ h => ?_)
  · skip
    obtain ⟨g36, h⟩ := gd_e h
    refine Un.trans ?_ (wX7_findOrder_183 hk33 h)
    exact Un.refl _
  · skip
    obtain ⟨g38, h⟩ := gd_e h
    refine Un.trans ?_ (wX7_findOrder_183 hk33 h)
    exact Un.refl _
set_option maxRecDepth 4000 in
theorem wX7_findOrder_150 {q : Unit × St}  {k33 : Int32 → Int32 → St → Option (Unit × St)} (hk33 : ∀ {l2 : Int32} {l3 : Int32} {S : St}, k33 l2 l3 S = some q → Un [(44, 23), (44, 28), (52, 99), (53, 99), (54, 99), (55, 99), (56, 99), (57, 99), (59, 99), (60, 99)] [] [] S q.2) {l2 : Int32} {l3 : Int32} {S : St} (h : FX7_findOrder_150 k33 l2 l3 S = some q) : Un [(44, 23), (44, 28), (52, 99), (53, 99), (54, 99), (55, 99), (56, 99), (57, 99), (59, 99), (60, 99)] [] [] S q.2 := by
  unfold FX7_findOrder_150 at h
  refine Un.trans ?_ (wX7_findOrder_151 hk33 h)
  exact Un.refl _
set_option maxRecDepth 4000 in
theorem wX7_findOrder_146 {q : Unit × St}  {k33 : Int32 → Int32 → St → Option (Unit × St)} (hk33 : ∀ {l2 : Int32} {l3 : Int32} {S : St}, k33 l2 l3 S = some q → Un [(44, 23), (44, 28), (52, 99), (53, 99), (54, 99), (55, 99), (56, 99), (57, 99), (59, 99), (60, 99)] [] [] S q.2) {l2 : Int32} {l3 : Int32} {S : St} (h : FX7_findOrder_146 k33 l2 l3 S = some q) : Un [(44, 23), (44, 28), (52, 99), (53, 99), (54, 99), (55, 99), (56, 99), (57, 99), (59, 99), (60, 99)] [] [] S q.2 := by
  unfold FX7_findOrder_146 at h
  refine Un.trans ?_ (wX7_findOrder_151 hk33 h)
  exact Un.refl _
set_option maxRecDepth 4000 in
theorem wX7_findOrder_102 {q : Unit × St}  {k33 : Int32 → Int32 → St → Option (Unit × St)} (hk33 : ∀ {l2 : Int32} {l3 : Int32} {S : St}, k33 l2 l3 S = some q → Un [(44, 23), (44, 28), (52, 99), (53, 99), (54, 99), (55, 99), (56, 99), (57, 99), (59, 99), (60, 99)] [] [] S q.2) {l2 : Int32} {l3 : Int32} {s0 : Int32} {s1 : Int32} {S : St} (h : FX7_findOrder_102 k33 l2 l3 s0 s1 S = some q) : Un [(44, 23), (44, 28), (52, 99), (53, 99), (54, 99), (55, 99), (56, 99), (57, 99), (59, 99), (60, 99)] [] [] S q.2 := by
  unfold FX7_findOrder_102 at h
  obtain ⟨g24, h⟩ := gd_e h
  obtain ⟨g27, h⟩ := gd_e h
  refine cs_e h (fun _ h => ?_) (fun _ h => ?_)
  · skip
    refine Un.trans ?_ (wX7_findOrder_150 hk33 h)
    refine Un.nA ?_ (List.mem_of_getElem? (i := 8) rfl)
    exact Un.refl _
  · skip
    obtain ⟨g29, h⟩ := gd_e h
    refine cs_e h (fun _ h => ?_) (fun _ h => ?_)
    · skip
      refine Un.trans ?_ (wX7_findOrder_146 hk33 h)
      refine Un.nA ?_ (List.mem_of_getElem? (i := 8) rfl)
      exact Un.refl _
    · skip
      obtain ⟨g32, h⟩ := gd_e h
      obtain ⟨g33, h⟩ := gd_e h
      refine cs_e h (fun _ h => ?_) (fun _ h => ?_)
      · skip
        refine Un.trans ?_ (wX7_findOrder_150 hk33 h)
        refine Un.nA ?_ (List.mem_of_getElem? (i := 8) rfl)
        exact Un.refl _
      · skip
        refine Un.trans ?_ (wX7_findOrder_146 hk33 h)
        refine Un.nA ?_ (List.mem_of_getElem? (i := 8) rfl)
        exact Un.refl _
set_option maxRecDepth 4000 in
theorem wX7_findOrder_93 {q : Unit × St}  {k33 : Int32 → Int32 → St → Option (Unit × St)} (hk33 : ∀ {l2 : Int32} {l3 : Int32} {S : St}, k33 l2 l3 S = some q → Un [(44, 23), (44, 28), (52, 99), (53, 99), (54, 99), (55, 99), (56, 99), (57, 99), (59, 99), (60, 99)] [] [] S q.2) {l2 : Int32} {l3 : Int32} {s0 : Int32} {S : St} (h : FX7_findOrder_93 k33 l2 l3 s0 S = some q) : Un [(44, 23), (44, 28), (52, 99), (53, 99), (54, 99), (55, 99), (56, 99), (57, 99), (59, 99), (60, 99)] [] [] S q.2 := by
  unfold FX7_findOrder_93 at h
  refine Un.trans ?_ (wX7_findOrder_102 hk33 h)
  exact Un.refl _
set_option maxRecDepth 4000 in
theorem wX7_findOrder_33 {q : Unit × St}  {k20 : Int32 → St → Option (Unit × St)} (hk20 : ∀ {l2 : Int32} {S : St}, k20 l2 S = some q → Un [(44, 23), (44, 28), (52, 99), (53, 99), (54, 99), (55, 99), (56, 99), (57, 99), (59, 99), (60, 99)] [] [] S q.2) : ∀ (n : Nat) {l2 : Int32} {l3 : Int32} {S : St}, FX7_findOrder_33 k20 n l2 l3 S = some q → Un [(44, 23), (44, 28), (52, 99), (53, 99), (54, 99), (55, 99), (56, 99), (57, 99), (59, 99), (60, 99)] [] [] S q.2 := by
  intro n
  induction n with
  | zero => intro _ _ _ h; cases h
  | succ n ih =>
    intro l2 l3 S h
    rw [FX7_findOrder_33] at h
    refine cs_e h (fun _ h => ?_) (fun _ h => ?_)
    · skip
      refine Un.trans ?_ (hk20 h)
      exact Un.refl _
    · skip
      obtain ⟨q12, hq13, h⟩ := bd_e h
      refine cs_e h (fun _ h => ?_) (fun _ h => ?_)
      · skip
        obtain ⟨q17, hq18, h⟩ := bd_e h
        obtain ⟨g20, h⟩ := gd_e h
        refine cs_e h (fun _ h => ?_) (fun _ h => ?_)
        · skip
          refine Un.trans ?_ (wX7_findOrder_93 (fun h => ih h) h)
          refine Un.trans ?_ ((wX7_fewestOf hq18).mono (sub_k [0, 1, 2, 3, 4, 5, 6, 7] rfl) (sub_k [] rfl) (sub_k [] rfl))
          refine Un.trans ?_ ((wX7_has hq13).mono (sub_k [] rfl) (sub_k [] rfl) (sub_k [] rfl))
          exact Un.refl _
        · skip
          refine cs_e h (fun _ h => ?_) (fun _ h => ?_)
          · skip
            refine Un.trans ?_ (wX7_findOrder_102 (fun h => ih h) h)
            refine Un.trans ?_ ((wX7_fewestOf hq18).mono (sub_k [0, 1, 2, 3, 4, 5, 6, 7] rfl) (sub_k [] rfl) (sub_k [] rfl))
            refine Un.trans ?_ ((wX7_has hq13).mono (sub_k [] rfl) (sub_k [] rfl) (sub_k [] rfl))
            exact Un.refl _
          · skip
            refine Un.trans ?_ (wX7_findOrder_93 (fun h => ih h) h)
            refine Un.trans ?_ ((wX7_fewestOf hq18).mono (sub_k [0, 1, 2, 3, 4, 5, 6, 7] rfl) (sub_k [] rfl) (sub_k [] rfl))
            refine Un.trans ?_ ((wX7_has hq13).mono (sub_k [] rfl) (sub_k [] rfl) (sub_k [] rfl))
            exact Un.refl _
      · skip
        refine Un.trans ?_ (wX7_findOrder_184 (fun h => ih h) h)
        refine Un.trans ?_ ((wX7_has hq13).mono (sub_k [] rfl) (sub_k [] rfl) (sub_k [] rfl))
        exact Un.refl _
set_option maxRecDepth 4000 in
theorem wX7_findOrder_20 {q : Unit × St}  : ∀ (n : Nat) {l2 : Int32} {S : St}, FX7_findOrder_20 n l2 S = some q → Un [(44, 23), (44, 28), (52, 99), (53, 99), (54, 99), (55, 99), (56, 99), (57, 99), (59, 99), (60, 99)] [] [] S q.2 := by
  intro n
  induction n with
  | zero => intro _ _ h; cases h
  | succ n ih =>
    intro l2 S h
    rw [FX7_findOrder_20] at h
    refine cs_e h (fun _ h => ?_) (fun _ h => ?_)
    · skip
      have h := Option.some.inj h
      subst h
      exact Un.refl _
    · skip
      obtain ⟨g6, h⟩ := gd_e h
      refine Un.trans ?_ (wX7_findOrder_33 (fun h => ih h) _ h)
      refine Un.nA ?_ (List.mem_of_getElem? (i := 9) rfl)
      exact Un.refl _
set_option maxRecDepth 4000 in
theorem wX7_findOrder {q : Unit × St}  {S : St} (h : fX7_findOrder  S = some q) : Un [(44, 23), (44, 28), (52, 99), (53, 99), (54, 99), (55, 99), (56, 99), (57, 99), (59, 99), (60, 99)] [] [] S q.2 := by
  unfold fX7_findOrder at h
  obtain ⟨g2, h⟩ := gd_e h
  refine Un.trans ?_ (wX7_findOrder_20  _ h)
  refine Un.nA ?_ (List.mem_of_getElem? (i := 9) rfl)
  exact Un.refl _
set_option maxRecDepth 4000 in
theorem wX2_read_104 {q : Int32 × St}  {k42 : Int32 → St → Option (Int32 × St)} (hk42 : ∀ {l2 : Int32} {S : St}, k42 l2 S = some q → Un [(1, 1), (1, 2), (1, 3), (1, 5), (1, 6), (1, 7), (3, 0), (3, 1), (4, 99), (5, 99), (6, 99), (7, 99), (8, 99), (9, 0), (9, 1), (10, 99), (11, 99), (12, 99), (13, 99), (14, 99)] [] [(1, 4)] S q.2) {l2 : Int32} {S : St} (h : FX2_read_104 k42 l2 S = some q) : Un [(1, 1), (1, 2), (1, 3), (1, 5), (1, 6), (1, 7), (3, 0), (3, 1), (4, 99), (5, 99), (6, 99), (7, 99), (8, 99), (9, 0), (9, 1), (10, 99), (11, 99), (12, 99), (13, 99), (14, 99)] [] [(1, 4)] S q.2 := by
  unfold FX2_read_104 at h
  refine Un.trans ?_ (hk42 h)
  exact Un.refl _
set_option maxRecDepth 4000 in
theorem wX2_read_110 {q : Int32 × St}   {S : St} (h : FX2_read_110  S = some q) : Un [(1, 1), (1, 2), (1, 3), (1, 5), (1, 6), (1, 7), (3, 0), (3, 1), (4, 99), (5, 99), (6, 99), (7, 99), (8, 99), (9, 0), (9, 1), (10, 99), (11, 99), (12, 99), (13, 99), (14, 99)] [] [(1, 4)] S q.2 := by
  unfold FX2_read_110 at h
  have h := Option.some.inj h
  subst h
  refine Un.nS ?_ (List.mem_of_getElem? (i := 0) rfl)
  exact Un.refl _
set_option maxRecDepth 4000 in
theorem wX2_read_42 {q : Int32 × St}  : ∀ (n : Nat) {l2 : Int32} {S : St}, FX2_read_42 n l2 S = some q → Un [(1, 1), (1, 2), (1, 3), (1, 5), (1, 6), (1, 7), (3, 0), (3, 1), (4, 99), (5, 99), (6, 99), (7, 99), (8, 99), (9, 0), (9, 1), (10, 99), (11, 99), (12, 99), (13, 99), (14, 99)] [] [(1, 4)] S q.2 := by
  intro n
  induction n with
  | zero => intro _ _ h; cases h
  | succ n ih =>
    intro l2 S h
    rw [FX2_read_42] at h
    refine cs_e h (fun _ h => ?_) (fun _ h => ?_)
    · skip
      refine Un.trans ?_ (wX2_read_110  h)
      exact Un.refl _
    · skip
      refine cs_e h (fun _ h => ?_) (fun _ h => ?_)
      · skip
        refine Un.trans ?_ (wX2_read_110  h)
        exact Un.refl _
      · skip
        refine cs_e h (fun _ h => ?_) (fun _ h => ?_)
        · skip
          obtain ⟨q18, hq19, h⟩ := bd_e h
          refine cs_e h (fun _ h => ?_) (fun _ h => ?_)
          · skip
            obtain ⟨q23, hq24, h⟩ := bd_e h
            refine cs_e h (fun _ h => ?_) (fun _ h => ?_)
            · skip
              obtain ⟨q28, hq29, h⟩ := bd_e h
              refine Un.trans ?_ (wX2_read_104 (fun h => ih h) h)
              refine Un.trans ?_ ((wX2_refuse hq29).mono (sub_k [1, 2] rfl) (sub_k [] rfl) (sub_k [] rfl))
              refine Un.trans ?_ ((wX2_isWord hq24).mono (sub_k [] rfl) (sub_k [] rfl) (sub_k [] rfl))
              refine Un.trans ?_ ((wX2_isWord hq19).mono (sub_k [] rfl) (sub_k [] rfl) (sub_k [] rfl))
              exact Un.refl _
            · skip
              obtain ⟨q32, hq33, h⟩ := bd_e h
              refine Un.trans ?_ (wX2_read_104 (fun h => ih h) h)
              refine Un.trans ?_ ((wX2_readPupil hq33).mono (sub_k [1, 2, 3, 4, 5, 7, 9, 10, 11, 12, 14, 16, 17, 18, 19] rfl) (sub_k [] rfl) (sub_k [] rfl))
              refine Un.trans ?_ ((wX2_isWord hq24).mono (sub_k [] rfl) (sub_k [] rfl) (sub_k [] rfl))
              refine Un.trans ?_ ((wX2_isWord hq19).mono (sub_k [] rfl) (sub_k [] rfl) (sub_k [] rfl))
              exact Un.refl _
          · skip
            obtain ⟨q36, hq37, h⟩ := bd_e h
            refine Un.trans ?_ (wX2_read_104 (fun h => ih h) h)
            refine Un.trans ?_ ((wX2_readThing hq37).mono (sub_k [1, 2, 3, 4, 5, 6, 8, 13, 15] rfl) (sub_k [] rfl) (sub_k [] rfl))
            refine Un.trans ?_ ((wX2_isWord hq19).mono (sub_k [] rfl) (sub_k [] rfl) (sub_k [] rfl))
            exact Un.refl _
        · skip
          refine Un.trans ?_ (wX2_read_110  h)
          exact Un.refl _
set_option maxRecDepth 4000 in
theorem wX2_read {q : Int32 × St} {t1 : Nat} {S : St} (h : fX2_read t1 S = some q) : Un [(1, 1), (1, 2), (1, 3), (1, 5), (1, 6), (1, 7), (3, 0), (3, 1), (4, 99), (5, 99), (6, 99), (7, 99), (8, 99), (9, 0), (9, 1), (10, 99), (11, 99), (12, 99), (13, 99), (14, 99)] [] [(1, 4)] S q.2 := by
  unfold fX2_read at h
  obtain ⟨g2, h⟩ := gd_e h
  obtain ⟨g4, h⟩ := gd_e h
  obtain ⟨q11, hq12, h⟩ := bd_e h
  refine Un.trans ?_ (wX2_read_42  _ h)
  refine Un.trans ?_ ((wX2_advance hq12).mono (sub_k [3, 4, 5] rfl) (sub_k [] rfl) (sub_k [] rfl))
  refine Un.nS ?_ (List.mem_of_getElem? (i := 3) rfl)
  refine Un.nS ?_ (List.mem_of_getElem? (i := 1) rfl)
  refine Un.nS ?_ (List.mem_of_getElem? (i := 2) rfl)
  refine Un.nS ?_ (by rcases isSch_or g4 with e | e <;> rw [e] <;> decide)
  refine Un.nS ?_ (by rcases isSch_or g2 with e | e <;> rw [e] <;> decide)
  refine Un.rS ?_ (List.mem_of_getElem? (i := 0) rfl)
  exact Un.refl _
set_option maxRecDepth 4000 in
theorem wX7_order_29 {q : Int32 × St}   {S : St} (h : FX7_order_29  S = some q) : Un [(44, 23), (44, 28), (52, 99), (53, 99), (54, 99), (55, 99), (56, 99), (57, 99), (59, 99), (60, 99)] [] [] S q.2 := by
  unfold FX7_order_29 at h
  obtain ⟨g31, h⟩ := gd_e h
  have h := Option.some.inj h
  subst h
  exact Un.refl _
set_option maxRecDepth 4000 in
theorem wX7_order_97 {q : Int32 × St}  {k69 : Int32 → Int32 → Int32 → Int32 → St → Option (Int32 × St)} (hk69 : ∀ {l1 : Int32} {l2 : Int32} {l3 : Int32} {l4 : Int32} {S : St}, k69 l1 l2 l3 l4 S = some q → Un [(44, 23), (44, 28), (52, 99), (53, 99), (54, 99), (55, 99), (56, 99), (57, 99), (59, 99), (60, 99)] [] [] S q.2) {l1 : Int32} {l2 : Int32} {l3 : Int32} {l4 : Int32} {S : St} (h : FX7_order_97 k69 l1 l2 l3 l4 S = some q) : Un [(44, 23), (44, 28), (52, 99), (53, 99), (54, 99), (55, 99), (56, 99), (57, 99), (59, 99), (60, 99)] [] [] S q.2 := by
  unfold FX7_order_97 at h
  refine Un.trans ?_ (hk69 h)
  exact Un.refl _
set_option maxRecDepth 4000 in
theorem wX7_order_69 {q : Int32 × St}  {k61 : Int32 → Int32 → Int32 → Int32 → St → Option (Int32 × St)} (hk61 : ∀ {l1 : Int32} {l2 : Int32} {l3 : Int32} {l4 : Int32} {S : St}, k61 l1 l2 l3 l4 S = some q → Un [(44, 23), (44, 28), (52, 99), (53, 99), (54, 99), (55, 99), (56, 99), (57, 99), (59, 99), (60, 99)] [] [] S q.2) : ∀ (n : Nat) {l1 : Int32} {l2 : Int32} {l3 : Int32} {l4 : Int32} {S : St}, FX7_order_69 k61 n l1 l2 l3 l4 S = some q → Un [(44, 23), (44, 28), (52, 99), (53, 99), (54, 99), (55, 99), (56, 99), (57, 99), (59, 99), (60, 99)] [] [] S q.2 := by
  intro n
  induction n with
  | zero => intro _ _ _ _ _ h; cases h
  | succ n ih =>
    intro l1 l2 l3 l4 S h
    rw [FX7_order_69] at h
    obtain ⟨q21, hq22, h⟩ := bd_e h
    refine cs_e h (fun _ h => ?_) (fun _ h => ?_)
    · skip
      obtain ⟨g25, h⟩ := gd_e h
      obtain ⟨g26, h⟩ := gd_e h
      refine cs_e h (fun _ h => ?_) (fun _ h => ?_)
      · skip
        refine Un.trans ?_ (hk61 h)
        refine Un.trans ?_ ((wX7_has hq22).mono (sub_k [] rfl) (sub_k [] rfl) (sub_k [] rfl))
        exact Un.refl _
      · skip
        refine Un.trans ?_ (wX7_order_97 (fun h => ih h) h)
        refine Un.trans ?_ ((wX7_has hq22).mono (sub_k [] rfl) (sub_k [] rfl) (sub_k [] rfl))
        exact Un.refl _
    · skip
      refine Un.trans ?_ (wX7_order_97 (fun h => ih h) h)
      refine Un.trans ?_ ((wX7_has hq22).mono (sub_k [] rfl) (sub_k [] rfl) (sub_k [] rfl))
      exact Un.refl _
set_option maxRecDepth 4000 in
theorem wX7_order_61 {q : Int32 × St}  : ∀ (n : Nat) {l1 : Int32} {l2 : Int32} {l3 : Int32} {l4 : Int32} {S : St}, FX7_order_61 n l1 l2 l3 l4 S = some q → Un [(44, 23), (44, 28), (52, 99), (53, 99), (54, 99), (55, 99), (56, 99), (57, 99), (59, 99), (60, 99)] [] [] S q.2 := by
  intro n
  induction n with
  | zero => intro _ _ _ _ _ h; cases h
  | succ n ih =>
    intro l1 l2 l3 l4 S h
    rw [FX7_order_61] at h
    refine cs_e h (fun _ h => ?_) (fun _ h => ?_)
    · skip
      have h := Option.some.inj h
      subst h
      exact Un.refl _
    · skip
      refine Un.trans ?_ (wX7_order_69 (fun h => ih h) _ h)
      exact Un.refl _
set_option maxRecDepth 4000 in
theorem wX7_order {q : Int32 × St} {l1 : Int32} {S : St} (h : fX7_order l1 S = some q) : Un [(44, 23), (44, 28), (52, 99), (53, 99), (54, 99), (55, 99), (56, 99), (57, 99), (59, 99), (60, 99)] [] [] S q.2 := by
  unfold fX7_order at h
  obtain ⟨q3, hq4, h⟩ := bd_e h
  refine cs_e h (fun _ h => ?_) (fun _ h => ?_)
  · skip
    have h := Option.some.inj h
    subst h
    refine Un.trans ?_ ((wX7_isSmall hq4).mono (sub_k [] rfl) (sub_k [] rfl) (sub_k [] rfl))
    exact Un.refl _
  · skip
    obtain ⟨q8, hq9, h⟩ := bd_e h
    obtain ⟨g10, h⟩ := gd_e h
    refine cs_e h (fun _ h => ?_) (fun _ h => ?_)
    · skip
      refine Un.trans ?_ (wX7_order_29  h)
      refine Un.trans ?_ ((wX7_findOrder hq9).mono (sub_k [0, 1, 2, 3, 4, 5, 6, 7, 8, 9] rfl) (sub_k [] rfl) (sub_k [] rfl))
      refine Un.trans ?_ ((wX7_isSmall hq4).mono (sub_k [] rfl) (sub_k [] rfl) (sub_k [] rfl))
      exact Un.refl _
    · skip
      refine cs_e h (fun _ h => ?_) (fun _ h => ?_)
      · skip
        refine Un.trans ?_ (wX7_order_29  h)
        refine Un.trans ?_ ((wX7_findOrder hq9).mono (sub_k [0, 1, 2, 3, 4, 5, 6, 7, 8, 9] rfl) (sub_k [] rfl) (sub_k [] rfl))
        refine Un.trans ?_ ((wX7_isSmall hq4).mono (sub_k [] rfl) (sub_k [] rfl) (sub_k [] rfl))
        exact Un.refl _
      · skip
        obtain ⟨q15, hq16, h⟩ := bd_e h
        refine cs_e h (fun _ h => ?_) (fun _ h => ?_)
        · skip
          have h := Option.some.inj h
          subst h
          refine Un.trans ?_ ((wX7_in hq16).mono (sub_k [] rfl) (sub_k [] rfl) (sub_k [] rfl))
          refine Un.trans ?_ ((wX7_findOrder hq9).mono (sub_k [0, 1, 2, 3, 4, 5, 6, 7, 8, 9] rfl) (sub_k [] rfl) (sub_k [] rfl))
          refine Un.trans ?_ ((wX7_isSmall hq4).mono (sub_k [] rfl) (sub_k [] rfl) (sub_k [] rfl))
          exact Un.refl _
        · skip
          refine Un.trans ?_ (wX7_order_61  _ h)
          refine Un.trans ?_ ((wX7_in hq16).mono (sub_k [] rfl) (sub_k [] rfl) (sub_k [] rfl))
          refine Un.trans ?_ ((wX7_findOrder hq9).mono (sub_k [0, 1, 2, 3, 4, 5, 6, 7, 8, 9] rfl) (sub_k [] rfl) (sub_k [] rfl))
          refine Un.trans ?_ ((wX7_isSmall hq4).mono (sub_k [] rfl) (sub_k [] rfl) (sub_k [] rfl))
          exact Un.refl _
set_option maxRecDepth 4000 in
theorem wX6_school {q : Int32 × St}  {S : St} (h : fX6_school  S = some q) : Un [(0, 7), (0, 9), (1, 1), (1, 2), (1, 3), (1, 5), (1, 6), (1, 7), (3, 0), (3, 1), (4, 99), (5, 99), (6, 99), (7, 99), (8, 99), (9, 0), (9, 1), (10, 99), (11, 99), (12, 99), (13, 99), (14, 99), (15, 1), (15, 3), (16, 99), (38, 1), (40, 1)] [] [(0, 1), (0, 2), (1, 4)] S q.2 := by
  unfold fX6_school at h
  obtain ⟨g1, h⟩ := gd_e h
  obtain ⟨q4, hq5, h⟩ := bd_e h
  refine cs_e h (fun _ h => ?_) (fun _ h => ?_)
  · skip
    obtain ⟨g7, h⟩ := gd_e h
    obtain ⟨g8, h⟩ := gd_e h
    obtain ⟨g11, h⟩ := gd_e h
    obtain ⟨q14, hq15, h⟩ := bd_e h
    obtain ⟨q20, hq21, h⟩ := bd_e h
    obtain ⟨q24, hq25, h⟩ := bd_e h
    obtain ⟨g26, h⟩ := gd_e h
    have h := Option.some.inj h
    subst h
    refine Un.trans ?_ ((wX4_forget hq25).mono (sub_k [26] rfl) (sub_k [] rfl) (sub_k [] rfl))
    refine Un.trans ?_ ((wX4_forget hq21).mono (sub_k [25] rfl) (sub_k [] rfl) (sub_k [] rfl))
    refine Un.nS ?_ (List.mem_of_getElem? (i := 1) rfl)
    refine Un.nS ?_ (List.mem_of_getElem? (i := 0) rfl)
    refine Un.trans ?_ ((wX5_begin hq15).mono (sub_k [22, 23, 24] rfl) (sub_k [] rfl) (sub_k [] rfl))
    refine Un.rS ?_ (List.mem_of_getElem? (i := 1) rfl)
    refine Un.rS ?_ (List.mem_of_getElem? (i := 0) rfl)
    refine Un.trans ?_ ((wX2_read hq5).mono (sub_k [2, 3, 4, 5, 6, 7, 8, 9, 10, 11, 12, 13, 14, 15, 16, 17, 18, 19, 20, 21] rfl) (sub_k [] rfl) (sub_k [2] rfl))
    exact Un.refl _
  · skip
    have h := Option.some.inj h
    subst h
    refine Un.trans ?_ ((wX2_read hq5).mono (sub_k [2, 3, 4, 5, 6, 7, 8, 9, 10, 11, 12, 13, 14, 15, 16, 17, 18, 19, 20, 21] rfl) (sub_k [] rfl) (sub_k [2] rfl))
    exact Un.refl _
set_option maxRecDepth 4000 in
theorem wX4_lessonsFrom_47 {q : Int32 × St} {t0 : Nat}  {S : St} (h : FX4_lessonsFrom_47 t0 S = some q) : Un [(25, 3), (27, 99), (32, 99), (t0, 1), (t0 + 1, 99)] [] [] S q.2 := by
  unfold FX4_lessonsFrom_47 at h
  obtain ⟨q12, hq13, h⟩ := bd_e h
  obtain ⟨q16, hq17, h⟩ := bd_e h
  have h := Option.some.inj h
  subst h
  refine Un.trans ?_ ((wX4_look 64 hq17).mono (sub_k [0, 1, 2, 4] rfl) (sub_k [] rfl) (sub_k [] rfl))
  refine Un.trans ?_ ((wX0_code hq13).mono (sub_k [] rfl) (sub_k [] rfl) (sub_k [] rfl))
  exact Un.refl _
set_option maxRecDepth 4000 in
theorem wX4_lessonsFrom {q : Int32 × St} {t0 : Nat} {S : St} (h : fX4_lessonsFrom t0 S = some q) : Un [(25, 3), (27, 99), (32, 99), (t0, 1), (t0 + 1, 99)] [] [] S q.2 := by
  unfold fX4_lessonsFrom at h
  refine cs_e h (fun _ h => ?_) (fun _ h => ?_)
  · skip
    refine cs_e h (fun _ h => ?_) (fun _ h => ?_)
    · skip
      refine Un.trans ?_ (wX4_lessonsFrom_47  h)
      exact Un.refl _
    · skip
      obtain ⟨g5, h⟩ := gd_e h
      obtain ⟨q8, hq9, h⟩ := bd_e h
      refine Un.trans ?_ (wX4_lessonsFrom_47  h)
      refine Un.trans ?_ ((wJ7_fill_fda19 hq9).mono (sub_k [4] rfl) (sub_k [] rfl) (sub_k [] rfl))
      refine Un.nS ?_ (List.mem_of_getElem? (i := 3) rfl)
      exact Un.refl _
  · skip
    have h := Option.some.inj h
    subst h
    exact Un.refl _
set_option maxRecDepth 4000 in
theorem wX6_fewestOfAll {q : Int32 × St} {t1 : Nat} {l2 : Int32} {l3 : Int32} {S : St} (h : fX6_fewestOfAll t1 l2 l3 S = some q) : Un [(25, 0), (25, 1), (25, 2), (25, 3), (26, 99), (27, 99), (28, 99), (29, 99), (30, 99), (31, 99), (32, 99), (38, 1), (39, 99), (40, 1), (41, 99)] [] [] S q.2 := by
  unfold fX6_fewestOfAll at h
  obtain ⟨g1, h⟩ := gd_e h
  obtain ⟨q4, hq5, h⟩ := bd_e h
  obtain ⟨g7, h⟩ := gd_e h
  obtain ⟨q10, hq11, h⟩ := bd_e h
  refine cs_e h (fun _ h => ?_) (fun _ h => ?_)
  · skip
    obtain ⟨q15, hq16, h⟩ := bd_e h
    obtain ⟨g17, h⟩ := gd_e h
    obtain ⟨q20, hq21, h⟩ := bd_e h
    have h := Option.some.inj h
    subst h
    refine Un.trans ?_ ((wX4_lessonsFrom hq21).mono (by rcases isSea_or g17 with e | e <;> rw [e] <;> decide) (sub_k [] rfl) (sub_k [] rfl))
    refine Un.trans ?_ ((wX6_searchFor hq16).mono (sub_k [] rfl) (sub_k [] rfl) (sub_k [] rfl))
    refine Un.trans ?_ ((wX0_isBarred hq11).mono (sub_k [] rfl) (sub_k [] rfl) (sub_k [] rfl))
    refine Un.nS ?_ (List.mem_of_getElem? (i := 2) rfl)
    refine Un.trans ?_ ((wX0_sit hq5).mono (sub_k [0, 1, 2, 3, 4, 5, 6, 7, 8, 9] rfl) (sub_k [] rfl) (sub_k [] rfl))
    exact Un.refl _
  · skip
    have h := Option.some.inj h
    subst h
    refine Un.trans ?_ ((wX0_isBarred hq11).mono (sub_k [] rfl) (sub_k [] rfl) (sub_k [] rfl))
    refine Un.nS ?_ (List.mem_of_getElem? (i := 2) rfl)
    refine Un.trans ?_ ((wX0_sit hq5).mono (sub_k [0, 1, 2, 3, 4, 5, 6, 7, 8, 9] rfl) (sub_k [] rfl) (sub_k [] rfl))
    exact Un.refl _
set_option maxRecDepth 4000 in
theorem wX6_fewestOfPart {q : Int32 × St} {l1 : Int32} {l2 : Int32} {S : St} (h : fX6_fewestOfPart l1 l2 S = some q) : Un [(25, 0), (25, 1), (25, 2), (25, 3), (26, 99), (27, 99), (28, 99), (29, 99), (30, 99), (31, 99), (32, 99), (38, 1), (39, 99)] [] [] S q.2 := by
  unfold fX6_fewestOfPart at h
  obtain ⟨g1, h⟩ := gd_e h
  obtain ⟨q4, hq5, h⟩ := bd_e h
  obtain ⟨g7, h⟩ := gd_e h
  obtain ⟨q10, hq11, h⟩ := bd_e h
  refine cs_e h (fun _ h => ?_) (fun _ h => ?_)
  · skip
    obtain ⟨q15, hq16, h⟩ := bd_e h
    have h := Option.some.inj h
    subst h
    refine Un.trans ?_ ((wX4_lessonsFrom hq16).mono (sub_k [3, 5, 10, 11, 12] rfl) (sub_k [] rfl) (sub_k [] rfl))
    refine Un.trans ?_ ((wX0_isBarred hq11).mono (sub_k [] rfl) (sub_k [] rfl) (sub_k [] rfl))
    refine Un.nS ?_ (List.mem_of_getElem? (i := 2) rfl)
    refine Un.trans ?_ ((wX0_sit hq5).mono (sub_k [0, 1, 2, 3, 4, 5, 6, 7, 8, 9] rfl) (sub_k [] rfl) (sub_k [] rfl))
    exact Un.refl _
  · skip
    have h := Option.some.inj h
    subst h
    refine Un.trans ?_ ((wX0_isBarred hq11).mono (sub_k [] rfl) (sub_k [] rfl) (sub_k [] rfl))
    refine Un.nS ?_ (List.mem_of_getElem? (i := 2) rfl)
    refine Un.trans ?_ ((wX0_sit hq5).mono (sub_k [0, 1, 2, 3, 4, 5, 6, 7, 8, 9] rfl) (sub_k [] rfl) (sub_k [] rfl))
    exact Un.refl _
set_option maxRecDepth 4000 in
theorem wX6_fewest {q : Int32 × St} {l1 : Int32} {S : St} (h : fX6_fewest l1 S = some q) : Un [(25, 0), (25, 1), (25, 2), (25, 3), (26, 99), (27, 99), (28, 99), (29, 99), (30, 99), (31, 99), (32, 99), (38, 1), (39, 99), (40, 1), (41, 99)] [] [] S q.2 := by
  unfold fX6_fewest at h
  obtain ⟨q3, hq4, h⟩ := bd_e h
  refine cs_e h (fun _ h => ?_) (fun _ h => ?_)
  · skip
    have h := Option.some.inj h
    subst h
    refine Un.trans ?_ ((wX6_isThing hq4).mono (sub_k [] rfl) (sub_k [] rfl) (sub_k [] rfl))
    exact Un.refl _
  · skip
    obtain ⟨g6, h⟩ := gd_e h
    refine cs_e h (fun _ h => ?_) (fun _ h => ?_)
    · skip
      obtain ⟨q10, hq11, h⟩ := bd_e h
      have h := Option.some.inj h
      subst h
      refine Un.trans ?_ ((wX6_fewestOfAll hq11).mono (sub_k [0, 1, 2, 3, 4, 5, 6, 7, 8, 9, 10, 11, 12, 13, 14] rfl) (sub_k [] rfl) (sub_k [] rfl))
      refine Un.trans ?_ ((wX6_isThing hq4).mono (sub_k [] rfl) (sub_k [] rfl) (sub_k [] rfl))
      exact Un.refl _
    · skip
      have h := Option.some.inj h
      subst h
      refine Un.trans ?_ ((wX6_isThing hq4).mono (sub_k [] rfl) (sub_k [] rfl) (sub_k [] rfl))
      exact Un.refl _
set_option maxRecDepth 4000 in
theorem wX6_worth_71 {q : Int32 × St}  {s0 : Int32} {s1 : Int32} {S : St} (h : FX6_worth_71 s0 s1 S = some q) : Un [(25, 0), (25, 1), (25, 2), (25, 3), (26, 99), (27, 99), (28, 99), (29, 99), (30, 99), (31, 99), (32, 99), (38, 1), (39, 99), (40, 1), (41, 99)] [] [] S q.2 := by
  unfold FX6_worth_71 at h
  have h := Option.some.inj h
  subst h
  exact Un.refl _
set_option maxRecDepth 4000 in
theorem wX6_worth_59 {q : Int32 × St}  {l3 : Int32} {s0 : Int32} {S : St} (h : FX6_worth_59 l3 s0 S = some q) : Un [(25, 0), (25, 1), (25, 2), (25, 3), (26, 99), (27, 99), (28, 99), (29, 99), (30, 99), (31, 99), (32, 99), (38, 1), (39, 99), (40, 1), (41, 99)] [] [] S q.2 := by
  unfold FX6_worth_59 at h
  refine cs_e h (fun _ h => ?_) (fun _ h => ?_)
  · skip
    refine Un.trans ?_ (wX6_worth_71  h)
    exact Un.refl _
  · skip
    refine Un.trans ?_ (wX6_worth_71  h)
    exact Un.refl _
set_option maxRecDepth 4000 in
theorem wX6_worth {q : Int32 × St} {l1 : Int32} {S : St} (h : fX6_worth l1 S = some q) : Un [(25, 0), (25, 1), (25, 2), (25, 3), (26, 99), (27, 99), (28, 99), (29, 99), (30, 99), (31, 99), (32, 99), (38, 1), (39, 99), (40, 1), (41, 99)] [] [] S q.2 := by
  unfold fX6_worth at h
  obtain ⟨q3, hq4, h⟩ := bd_e h
  refine cs_e h (fun _ h => ?_) (fun _ h => ?_)
  · skip
    have h := Option.some.inj h
    subst h
    refine Un.trans ?_ ((wX6_isThing hq4).mono (sub_k [] rfl) (sub_k [] rfl) (sub_k [] rfl))
    exact Un.refl _
  · skip
    obtain ⟨g6, h⟩ := gd_e h
    refine cs_e h (fun _ h => ?_) (fun _ h => ?_)
    · skip
      obtain ⟨q10, hq11, h⟩ := bd_e h
      obtain ⟨q14, hq15, h⟩ := bd_e h
      refine cs_e h (fun _ h => ?_) (fun _ h => ?_)
      · skip
        refine Un.trans ?_ (wX6_worth_59  h)
        refine Un.trans ?_ ((wX6_fewestOfAll hq15).mono (sub_k [0, 1, 2, 3, 4, 5, 6, 7, 8, 9, 10, 11, 12, 13, 14] rfl) (sub_k [] rfl) (sub_k [] rfl))
        refine Un.trans ?_ ((wX6_fewestOfAll hq11).mono (sub_k [0, 1, 2, 3, 4, 5, 6, 7, 8, 9, 10, 11, 12, 13, 14] rfl) (sub_k [] rfl) (sub_k [] rfl))
        refine Un.trans ?_ ((wX6_isThing hq4).mono (sub_k [] rfl) (sub_k [] rfl) (sub_k [] rfl))
        exact Un.refl _
      · skip
        refine Un.trans ?_ (wX6_worth_59  h)
        refine Un.trans ?_ ((wX6_fewestOfAll hq15).mono (sub_k [0, 1, 2, 3, 4, 5, 6, 7, 8, 9, 10, 11, 12, 13, 14] rfl) (sub_k [] rfl) (sub_k [] rfl))
        refine Un.trans ?_ ((wX6_fewestOfAll hq11).mono (sub_k [0, 1, 2, 3, 4, 5, 6, 7, 8, 9, 10, 11, 12, 13, 14] rfl) (sub_k [] rfl) (sub_k [] rfl))
        refine Un.trans ?_ ((wX6_isThing hq4).mono (sub_k [] rfl) (sub_k [] rfl) (sub_k [] rfl))
        exact Un.refl _
    · skip
      have h := Option.some.inj h
      subst h
      refine Un.trans ?_ ((wX6_isThing hq4).mono (sub_k [] rfl) (sub_k [] rfl) (sub_k [] rfl))
      exact Un.refl _
set_option maxRecDepth 4000 in
theorem wX6_classes_20 {q : Int32 × St}   {S : St} (h : FX6_classes_20  S = some q) : Un [(25, 0), (25, 1), (25, 2), (25, 3), (26, 99), (27, 99), (28, 99), (29, 99), (30, 99), (31, 99), (32, 99), (38, 1), (39, 99)] [] [] S q.2 := by
  unfold FX6_classes_20 at h
  have h := Option.some.inj h
  subst h
  exact Un.refl _
set_option maxRecDepth 4000 in
theorem wX6_classes_130 {q : Int32 × St}  {k58 : Int32 → Int32 → Int32 → Int32 → Int32 → Int32 → St → Option (Int32 × St)} (hk58 : ∀ {l1 : Int32} {l2 : Int32} {l3 : Int32} {l4 : Int32} {l5 : Int32} {l6 : Int32} {S : St}, k58 l1 l2 l3 l4 l5 l6 S = some q → Un [(25, 0), (25, 1), (25, 2), (25, 3), (26, 99), (27, 99), (28, 99), (29, 99), (30, 99), (31, 99), (32, 99), (38, 1), (39, 99)] [] [] S q.2) {l1 : Int32} {l2 : Int32} {l3 : Int32} {l4 : Int32} {l5 : Int32} {l6 : Int32} {S : St} (h : FX6_classes_130 k58 l1 l2 l3 l4 l5 l6 S = some q) : Un [(25, 0), (25, 1), (25, 2), (25, 3), (26, 99), (27, 99), (28, 99), (29, 99), (30, 99), (31, 99), (32, 99), (38, 1), (39, 99)] [] [] S q.2 := by
  unfold FX6_classes_130 at h
  refine Un.trans ?_ (hk58 h)
  exact Un.refl _
set_option maxRecDepth 4000 in
theorem wX6_classes_122 {q : Int32 × St}  {k58 : Int32 → Int32 → Int32 → Int32 → Int32 → Int32 → St → Option (Int32 × St)} (hk58 : ∀ {l1 : Int32} {l2 : Int32} {l3 : Int32} {l4 : Int32} {l5 : Int32} {l6 : Int32} {S : St}, k58 l1 l2 l3 l4 l5 l6 S = some q → Un [(25, 0), (25, 1), (25, 2), (25, 3), (26, 99), (27, 99), (28, 99), (29, 99), (30, 99), (31, 99), (32, 99), (38, 1), (39, 99)] [] [] S q.2) {l1 : Int32} {l2 : Int32} {l3 : Int32} {l6 : Int32} {l9 : Int32} {S : St} (h : FX6_classes_122 k58 l1 l2 l3 l6 l9 S = some q) : Un [(25, 0), (25, 1), (25, 2), (25, 3), (26, 99), (27, 99), (28, 99), (29, 99), (30, 99), (31, 99), (32, 99), (38, 1), (39, 99)] [] [] S q.2 := by
  unfold FX6_classes_122 at h
  refine Un.trans ?_ (wX6_classes_130 hk58 h)
  exact Un.refl _
set_option maxRecDepth 4000 in
theorem wX6_classes_92 {q : Int32 × St}  {k58 : Int32 → Int32 → Int32 → Int32 → Int32 → Int32 → St → Option (Int32 × St)} (hk58 : ∀ {l1 : Int32} {l2 : Int32} {l3 : Int32} {l4 : Int32} {l5 : Int32} {l6 : Int32} {S : St}, k58 l1 l2 l3 l4 l5 l6 S = some q → Un [(25, 0), (25, 1), (25, 2), (25, 3), (26, 99), (27, 99), (28, 99), (29, 99), (30, 99), (31, 99), (32, 99), (38, 1), (39, 99)] [] [] S q.2) {l1 : Int32} {l2 : Int32} {l3 : Int32} {l4 : Int32} {l5 : Int32} {l6 : Int32} {l7 : Int32} {s0 : Int32} {S : St} (h : FX6_classes_92 k58 l1 l2 l3 l4 l5 l6 l7 s0 S = some q) : Un [(25, 0), (25, 1), (25, 2), (25, 3), (26, 99), (27, 99), (28, 99), (29, 99), (30, 99), (31, 99), (32, 99), (38, 1), (39, 99)] [] [] S q.2 := by
  unfold FX6_classes_92 at h
  refine cs_e h (fun _ h => ?_) (fun _ h => ?_)
  · skip
    refine Un.trans ?_ (wX6_classes_130 hk58 h)
    exact Un.refl _
  · skip
    refine cs_e h (fun _ h => ?_) (fun _ h => ?_)
    · skip
      refine Un.trans ?_ (wX6_classes_122 hk58 h)
      exact Un.refl _
    · skip
      refine cs_e h (fun _ h => ?_) (fun _ h => ?_)
      · skip
        refine Un.trans ?_ (wX6_classes_130 hk58 h)
        exact Un.refl _
      · skip
        refine Un.trans ?_ (wX6_classes_122 hk58 h)
        exact Un.refl _
set_option maxRecDepth 4000 in
theorem wX6_classes_58 {q : Int32 × St}  : ∀ (n : Nat) {l1 : Int32} {l2 : Int32} {l3 : Int32} {l4 : Int32} {l5 : Int32} {l6 : Int32} {S : St}, FX6_classes_58 n l1 l2 l3 l4 l5 l6 S = some q → Un [(25, 0), (25, 1), (25, 2), (25, 3), (26, 99), (27, 99), (28, 99), (29, 99), (30, 99), (31, 99), (32, 99), (38, 1), (39, 99)] [] [] S q.2 := by
  intro n
  induction n with
  | zero => intro _ _ _ _ _ _ _ h; cases h
  | succ n ih =>
    intro l1 l2 l3 l4 l5 l6 S h
    rw [FX6_classes_58] at h
    refine cs_e h (fun _ h => ?_) (fun _ h => ?_)
    · skip
      refine cs_e h (fun _ h => ?_) (fun _ h => ?_)
      · skip
        have h := Option.some.inj h
        subst h
        exact Un.refl _
      · skip
        have h := Option.some.inj h
        subst h
        exact Un.refl _
    · skip
      obtain ⟨q16, hq17, h⟩ := bd_e h
      refine cs_e h (fun _ h => ?_) (fun _ h => ?_)
      · skip
        refine Un.trans ?_ (wX6_classes_92 (fun h => ih h) h)
        refine Un.trans ?_ ((wX6_fewestOfPart hq17).mono (sub_k [0, 1, 2, 3, 4, 5, 6, 7, 8, 9, 10, 11, 12] rfl) (sub_k [] rfl) (sub_k [] rfl))
        exact Un.refl _
      · skip
        obtain ⟨q21, hq22, h⟩ := bd_e h
        refine Un.trans ?_ (wX6_classes_92 (fun h => ih h) h)
        refine Un.trans ?_ ((wX6_fewestOfPart hq22).mono (sub_k [0, 1, 2, 3, 4, 5, 6, 7, 8, 9, 10, 11, 12] rfl) (sub_k [] rfl) (sub_k [] rfl))
        refine Un.trans ?_ ((wX6_fewestOfPart hq17).mono (sub_k [0, 1, 2, 3, 4, 5, 6, 7, 8, 9, 10, 11, 12] rfl) (sub_k [] rfl) (sub_k [] rfl))
        exact Un.refl _
set_option maxRecDepth 4000 in
theorem wX6_classes {q : Int32 × St} {l1 : Int32} {l2 : Int32} {S : St} (h : fX6_classes l1 l2 S = some q) : Un [(25, 0), (25, 1), (25, 2), (25, 3), (26, 99), (27, 99), (28, 99), (29, 99), (30, 99), (31, 99), (32, 99), (38, 1), (39, 99)] [] [] S q.2 := by
  unfold fX6_classes at h
  obtain ⟨q3, hq4, h⟩ := bd_e h
  refine cs_e h (fun _ h => ?_) (fun _ h => ?_)
  · skip
    have h := Option.some.inj h
    subst h
    refine Un.trans ?_ ((wX6_isThing hq4).mono (sub_k [] rfl) (sub_k [] rfl) (sub_k [] rfl))
    exact Un.refl _
  · skip
    refine cs_e h (fun _ h => ?_) (fun _ h => ?_)
    · skip
      refine Un.trans ?_ (wX6_classes_20  h)
      refine Un.trans ?_ ((wX6_isThing hq4).mono (sub_k [] rfl) (sub_k [] rfl) (sub_k [] rfl))
      exact Un.refl _
    · skip
      refine cs_e h (fun _ h => ?_) (fun _ h => ?_)
      · skip
        obtain ⟨g8, h⟩ := gd_e h
        refine cs_e h (fun _ h => ?_) (fun _ h => ?_)
        · skip
          obtain ⟨g10, h⟩ := gd_e h
          refine Un.trans ?_ (wX6_classes_58  _ h)
          refine Un.trans ?_ ((wX6_isThing hq4).mono (sub_k [] rfl) (sub_k [] rfl) (sub_k [] rfl))
          exact Un.refl _
        · skip
          have h := Option.some.inj h
          subst h
          refine Un.trans ?_ ((wX6_isThing hq4).mono (sub_k [] rfl) (sub_k [] rfl) (sub_k [] rfl))
          exact Un.refl _
      · skip
        refine Un.trans ?_ (wX6_classes_20  h)
        refine Un.trans ?_ ((wX6_isThing hq4).mono (sub_k [] rfl) (sub_k [] rfl) (sub_k [] rfl))
        exact Un.refl _
set_option maxRecDepth 4000 in
theorem wX6_lessonsAsTold_57 {q : Int32 × St}  {k15 : Int32 → Int32 → St → Option (Int32 × St)} (hk15 : ∀ {l1 : Int32} {l2 : Int32} {S : St}, k15 l1 l2 S = some q → Un [(17, 1), (17, 2), (17, 3), (18, 99), (25, 0), (25, 1), (25, 2), (25, 3), (26, 99), (27, 99), (28, 99), (29, 99), (30, 99), (31, 99), (32, 99), (38, 1), (39, 99), (40, 1), (41, 99)] [] [] S q.2) : ∀ (n : Nat) {l1 : Int32} {l2 : Int32} {l4 : Int32} {S : St}, FX6_lessonsAsTold_57 k15 n l1 l2 l4 S = some q → Un [(17, 1), (17, 2), (17, 3), (18, 99), (25, 0), (25, 1), (25, 2), (25, 3), (26, 99), (27, 99), (28, 99), (29, 99), (30, 99), (31, 99), (32, 99), (38, 1), (39, 99), (40, 1), (41, 99)] [] [] S q.2 := by
  intro n
  induction n with
  | zero => intro _ _ _ _ h; cases h
  | succ n ih =>
    intro l1 l2 l4 S h
    rw [FX6_lessonsAsTold_57] at h
    obtain ⟨g13, h⟩ := gd_e h
    refine cs_e h (fun _ h => ?_) (fun _ h => ?_)
    · skip
      refine Un.trans ?_ (hk15 h)
      exact Un.refl _
    · skip
      obtain ⟨g17, h⟩ := gd_e h
      refine Un.trans ?_ (ih h)
      refine Un.nA ?_ (List.mem_of_getElem? (i := 3) rfl)
      exact Un.refl _
set_option maxRecDepth 4000 in
theorem wX6_lessonsAsTold_15 {q : Int32 × St}  : ∀ (n : Nat) {l1 : Int32} {l2 : Int32} {S : St}, FX6_lessonsAsTold_15 n l1 l2 S = some q → Un [(17, 1), (17, 2), (17, 3), (18, 99), (25, 0), (25, 1), (25, 2), (25, 3), (26, 99), (27, 99), (28, 99), (29, 99), (30, 99), (31, 99), (32, 99), (38, 1), (39, 99), (40, 1), (41, 99)] [] [] S q.2 := by
  intro n
  induction n with
  | zero => intro _ _ _ h; cases h
  | succ n ih =>
    intro l1 l2 S h
    rw [FX6_lessonsAsTold_15] at h
    obtain ⟨g5, h⟩ := gd_e h
    refine cs_e h (fun _ h => ?_) (fun _ h => ?_)
    · skip
      have h := Option.some.inj h
      subst h
      exact Un.refl _
    · skip
      obtain ⟨q9, hq10, h⟩ := bd_e h
      refine cs_e h (fun _ h => ?_) (fun _ h => ?_)
      · skip
        have h := Option.some.inj h
        subst h
        refine Un.trans ?_ ((wX6_fewestOfAll hq10).mono (sub_k [4, 5, 6, 7, 8, 9, 10, 11, 12, 13, 14, 15, 16, 17, 18] rfl) (sub_k [] rfl) (sub_k [] rfl))
        exact Un.refl _
      · skip
        refine Un.trans ?_ (wX6_lessonsAsTold_57 (fun h => ih h) _ h)
        refine Un.trans ?_ ((wX6_fewestOfAll hq10).mono (sub_k [4, 5, 6, 7, 8, 9, 10, 11, 12, 13, 14, 15, 16, 17, 18] rfl) (sub_k [] rfl) (sub_k [] rfl))
        exact Un.refl _
set_option maxRecDepth 4000 in
theorem wX6_lessonsAsTold {q : Int32 × St}  {S : St} (h : fX6_lessonsAsTold  S = some q) : Un [(17, 1), (17, 2), (17, 3), (18, 99), (25, 0), (25, 1), (25, 2), (25, 3), (26, 99), (27, 99), (28, 99), (29, 99), (30, 99), (31, 99), (32, 99), (38, 1), (39, 99), (40, 1), (41, 99)] [] [] S q.2 := by
  unfold fX6_lessonsAsTold at h
  obtain ⟨q3, hq4, h⟩ := bd_e h
  refine Un.trans ?_ (wX6_lessonsAsTold_15  _ h)
  refine Un.trans ?_ ((wX5_take hq4).mono (sub_k [0, 1, 2, 3] rfl) (sub_k [] rfl) (sub_k [] rfl))
  exact Un.refl _
set_option maxRecDepth 4000 in
theorem wX6_row_22 {q : Int32 × St}   {S : St} (h : FX6_row_22  S = some q) : Un [(25, 0), (25, 1), (25, 2), (25, 3), (26, 99), (27, 99), (28, 99), (29, 99), (30, 99), (31, 99), (32, 99), (38, 1), (39, 99), (40, 1), (41, 99)] [] [] S q.2 := by
  unfold FX6_row_22 at h
  have h := Option.some.inj h
  subst h
  exact Un.refl _
set_option maxRecDepth 4000 in
theorem wX6_row {q : Int32 × St} {l1 : Int32} {l2 : Int32} {S : St} (h : fX6_row l1 l2 S = some q) : Un [(25, 0), (25, 1), (25, 2), (25, 3), (26, 99), (27, 99), (28, 99), (29, 99), (30, 99), (31, 99), (32, 99), (38, 1), (39, 99), (40, 1), (41, 99)] [] [] S q.2 := by
  unfold fX6_row at h
  obtain ⟨q3, hq4, h⟩ := bd_e h
  refine cs_e h (fun _ h => ?_) (fun _ h => ?_)
  · skip
    refine cs_e h (fun _ h => ?_) (fun _ h => ?_)
    · skip
      refine Un.trans ?_ (wX6_row_22  h)
      refine Un.trans ?_ ((wX6_fewest hq4).mono (sub_k [0, 1, 2, 3, 4, 5, 6, 7, 8, 9, 10, 11, 12, 13, 14] rfl) (sub_k [] rfl) (sub_k [] rfl))
      exact Un.refl _
    · skip
      refine cs_e h (fun _ h => ?_) (fun _ h => ?_)
      · skip
        obtain ⟨q10, hq11, h⟩ := bd_e h
        obtain ⟨q14, hq15, h⟩ := bd_e h
        obtain ⟨g16, h⟩ := gd_e h
        obtain ⟨q19, hq20, h⟩ := bd_e h
        have h := Option.some.inj h
        subst h
        refine Un.trans ?_ ((wX4_standsUp hq20).mono (sub_k [3, 5, 10] rfl) (sub_k [] rfl) (sub_k [] rfl))
        refine Un.trans ?_ ((wX6_searchFor hq15).mono (sub_k [] rfl) (sub_k [] rfl) (sub_k [] rfl))
        refine Un.trans ?_ ((wX6_sitAll hq11).mono (sub_k [0, 1, 2, 3, 4, 5, 6, 7, 8, 9] rfl) (sub_k [] rfl) (sub_k [] rfl))
        refine Un.trans ?_ ((wX6_fewest hq4).mono (sub_k [0, 1, 2, 3, 4, 5, 6, 7, 8, 9, 10, 11, 12, 13, 14] rfl) (sub_k [] rfl) (sub_k [] rfl))
        exact Un.refl _
      · skip
        refine Un.trans ?_ (wX6_row_22  h)
        refine Un.trans ?_ ((wX6_fewest hq4).mono (sub_k [0, 1, 2, 3, 4, 5, 6, 7, 8, 9, 10, 11, 12, 13, 14] rfl) (sub_k [] rfl) (sub_k [] rfl))
        exact Un.refl _
  · skip
    have h := Option.some.inj h
    subst h
    refine Un.trans ?_ ((wX6_fewest hq4).mono (sub_k [0, 1, 2, 3, 4, 5, 6, 7, 8, 9, 10, 11, 12, 13, 14] rfl) (sub_k [] rfl) (sub_k [] rfl))
    exact Un.refl _
set_option maxRecDepth 4000 in
theorem wX6_stuck {q : Int32 × St} {l1 : Int32} {S : St} (h : fX6_stuck l1 S = some q) : Un [(25, 0), (25, 1), (25, 2), (25, 3), (26, 99), (27, 99), (28, 99), (29, 99), (30, 99), (31, 99), (32, 99), (38, 1), (39, 99), (40, 1), (41, 99)] [] [] S q.2 := by
  unfold fX6_stuck at h
  obtain ⟨q3, hq4, h⟩ := bd_e h
  refine cs_e h (fun _ h => ?_) (fun _ h => ?_)
  · skip
    refine cs_e h (fun _ h => ?_) (fun _ h => ?_)
    · skip
      have h := Option.some.inj h
      subst h
      refine Un.trans ?_ ((wX6_fewest hq4).mono (sub_k [0, 1, 2, 3, 4, 5, 6, 7, 8, 9, 10, 11, 12, 13, 14] rfl) (sub_k [] rfl) (sub_k [] rfl))
      exact Un.refl _
    · skip
      have h := Option.some.inj h
      subst h
      refine Un.trans ?_ ((wX6_fewest hq4).mono (sub_k [0, 1, 2, 3, 4, 5, 6, 7, 8, 9, 10, 11, 12, 13, 14] rfl) (sub_k [] rfl) (sub_k [] rfl))
      exact Un.refl _
  · skip
    have h := Option.some.inj h
    subst h
    refine Un.trans ?_ ((wX6_fewest hq4).mono (sub_k [0, 1, 2, 3, 4, 5, 6, 7, 8, 9, 10, 11, 12, 13, 14] rfl) (sub_k [] rfl) (sub_k [] rfl))
    exact Un.refl _
set_option maxRecDepth 4000 in
theorem wX6_order_40 {q : Int32 × St}   {S : St} (h : FX6_order_40  S = some q) : Un [(17, 1), (17, 2), (17, 3), (18, 99), (25, 0), (25, 1), (25, 2), (25, 3), (26, 99), (27, 99), (28, 99), (29, 99), (30, 99), (31, 99), (32, 99), (38, 1), (39, 99), (40, 1), (41, 99)] [] [] S q.2 := by
  unfold FX6_order_40 at h
  have h := Option.some.inj h
  subst h
  exact Un.refl _
set_option maxRecDepth 4000 in
theorem wX6_order {q : Int32 × St} {l1 : Int32} {S : St} (h : fX6_order l1 S = some q) : Un [(17, 1), (17, 2), (17, 3), (18, 99), (25, 0), (25, 1), (25, 2), (25, 3), (26, 99), (27, 99), (28, 99), (29, 99), (30, 99), (31, 99), (32, 99), (38, 1), (39, 99), (40, 1), (41, 99)] [] [] S q.2 := by
  unfold fX6_order at h
  obtain ⟨g1, h⟩ := gd_e h
  refine cs_e h (fun _ h => ?_) (fun _ h => ?_)
  · skip
    obtain ⟨q5, hq6, h⟩ := bd_e h
    refine cs_e h (fun _ h => ?_) (fun _ h => ?_)
    · skip
      refine Un.trans ?_ (wX6_order_40  h)
      refine Un.trans ?_ ((wX6_lessonsAsTold hq6).mono (sub_k [0, 1, 2, 3, 4, 5, 6, 7, 8, 9, 10, 11, 12, 13, 14, 15, 16, 17, 18] rfl) (sub_k [] rfl) (sub_k [] rfl))
      exact Un.refl _
    · skip
      refine cs_e h (fun _ h => ?_) (fun _ h => ?_)
      · skip
        refine Un.trans ?_ (wX6_order_40  h)
        refine Un.trans ?_ ((wX6_lessonsAsTold hq6).mono (sub_k [0, 1, 2, 3, 4, 5, 6, 7, 8, 9, 10, 11, 12, 13, 14, 15, 16, 17, 18] rfl) (sub_k [] rfl) (sub_k [] rfl))
        exact Un.refl _
      · skip
        obtain ⟨g9, h⟩ := gd_e h
        refine cs_e h (fun _ h => ?_) (fun _ h => ?_)
        · skip
          refine cs_e h (fun _ h => ?_) (fun _ h => ?_)
          · skip
            have h := Option.some.inj h
            subst h
            refine Un.trans ?_ ((wX6_lessonsAsTold hq6).mono (sub_k [0, 1, 2, 3, 4, 5, 6, 7, 8, 9, 10, 11, 12, 13, 14, 15, 16, 17, 18] rfl) (sub_k [] rfl) (sub_k [] rfl))
            exact Un.refl _
          · skip
            have h := Option.some.inj h
            subst h
            refine Un.trans ?_ ((wX6_lessonsAsTold hq6).mono (sub_k [0, 1, 2, 3, 4, 5, 6, 7, 8, 9, 10, 11, 12, 13, 14, 15, 16, 17, 18] rfl) (sub_k [] rfl) (sub_k [] rfl))
            exact Un.refl _
        · skip
          refine Un.trans ?_ (wX6_order_40  h)
          refine Un.trans ?_ ((wX6_lessonsAsTold hq6).mono (sub_k [0, 1, 2, 3, 4, 5, 6, 7, 8, 9, 10, 11, 12, 13, 14, 15, 16, 17, 18] rfl) (sub_k [] rfl) (sub_k [] rfl))
          exact Un.refl _
  · skip
    have h := Option.some.inj h
    subst h
    exact Un.refl _
