/-! ===== fewest, stuck, worth ===== -/
/-- both answer alike, and what their searches keep stays true -/
def Ag2 (c : Cx) (fc fm : St → Option (Int32 × St)) : Prop := ∃ r c', WC c' ∧ (∀ S, RC S c → CI S (xK c) → ∃ S', fc S = some (r, S') ∧ RC S' c' ∧ CI S' (xK c')) ∧ (∀ S, RM S c → PI S → ∃ S', fm S = some (r, S') ∧ RM S' c' ∧ PI S')
theorem CI_of {la lb lc : List (Nat × Nat)} {S S' : St} {k : Sk} (h : CI S k) (hu : Un la lb lc S S') (hl : ∀ x ∈ la, x.1 < 38) : CI S' k := by
  have key : ∀ cc jj, 38 ≤ cc → gN S' cc jj = gN S cc jj := fun cc jj q => hu.n cc jj (fun m => by have := hl _ m; dsimp only at this; omega) (fun m => by have := hl _ m; dsimp only at this; omega)
  exact ⟨CI1_of h.1 (key _ _ (by omega)) (fun j => key _ _ (by omega)), CI1_of h.2 (key _ _ (by omega)) (fun j => key _ _ (by omega))⟩
def pOK (x : Nat × Nat) : Bool := decide (x.1 ≠ 55) && decide (x.1 ≠ 56) && (decide (x.1 ≠ 44) || (decide (x.2 ≠ 28) && decide (x.2 ≠ 99)))
theorem PI_un {la lb lc : List (Nat × Nat)} {S S' : St} (h : PI S) (hu : Un la lb lc S S') (hl : ∀ x ∈ la, pOK x = true) : PI S' := by
  have no : ∀ a b, ((a = 55 ∨ a = 56) ∨ (a = 44 ∧ (b = 28 ∨ b = 99))) → (a, b) ∉ la := fun a b q m => by
    have := hl _ m
    simp only [pOK, Bool.and_eq_true, Bool.or_eq_true, decide_eq_true_eq] at this
    omega
  exact PI_of h (hu.n _ _ (no _ _ (by omega)) (no _ _ (by omega))) (fun j => hu.n _ _ (no _ _ (by omega)) (no _ _ (by omega))) (fun j => hu.n _ _ (no _ _ (by omega)) (no _ _ (by omega)))
theorem ag2_of {c : Cx} {fc fm : St → Option (Int32 × St)} {la lb lc la' lb' lc' : List (Nat × Nat)} (h : Ag c fc fm) (hc : ∀ S q, fc S = some q → Un la lb lc S q.2) (hl : ∀ x ∈ la, x.1 < 38) (hm : ∀ S q, fm S = some q → Un la' lb' lc' S q.2) (hl' : ∀ x ∈ la', pOK x = true) : Ag2 c fc fm := by
  obtain ⟨r, c', w, a, b, k⟩ := h
  refine ⟨r, c', w, fun S h1 h2 => ?_, fun S h1 h2 => ?_⟩
  · obtain ⟨S', e, q⟩ := a S h1
    exact ⟨S', e, q, by rw [k]; exact CI_of h2 (hc S _ e) hl⟩
  · obtain ⟨S', e, q⟩ := b S h1
    exact ⟨S', e, q, PI_un h2 (hm S _ e) hl'⟩
theorem Least.lt0 {P : Nat → Prop} {x : Int32} (h : Least P x) : x < 0 ↔ x = -1 := by
  rcases h with ⟨rfl, _⟩ | ⟨k, hk, rfl, _⟩
  · exact ⟨fun _ => rfl, fun _ => by decide⟩
  · exact ⟨fun q => absurd q (nI_pos (by omega)), fun q => absurd q (nI_nm1 (by omega))⟩
theorem Least.gem1 {P : Nat → Prop} {x : Int32} (h : Least P x) : (-1 : Int32) ≤ x := by
  rcases h with ⟨rfl, _⟩ | ⟨k, hk, rfl, _⟩
  · decide
  · exact Int32.le_trans (by decide) (nI_pos' (by omega))
theorem cn_full {n : Nat} : ∀ m, m ≤ n → cn (2 ^ n - 1) m = m := by
  intro m
  induction m with
  | zero => intro _; rfl
  | succ m ih => intro h; rw [cn, ih (by omega), if_pos (bt1_full (by omega))]
theorem cn_cg {a b n : Nat} (h : ∀ k, k < n → bt1 a k = bt1 b k) : ∀ j, j ≤ n → cn a j = cn b j := by
  intro j
  induction j with
  | zero => intro _; rfl
  | succ j ih => intro hj; rw [cn, cn, ih (by omega), h j (by omega)]
theorem nth_cg {a b : Nat} : ∀ n, (∀ k, k < n → bt1 a k = bt1 b k) → nth a n = nth b n := by
  intro n
  induction n with
  | zero => intro _; rfl
  | succ n ih =>
    intro h
    funext i
    rw [nth, nth, h n (by omega), cn_cg h n (by omega), ih (fun k hk => h k (by omega))]
theorem b63 {n : Nat} (hn : n ≤ 6) : ∀ k, k < n → bt1 63 k = bt1 (2 ^ n - 1) k := fun k hk => by
  rw [bt1_full hk]; exact bt1_full (n := 6) (by omega)
theorem fwP_63 {k : Sk} (hk : WK k) {lv : Nat → Nat → Nat} {known t : Nat} {g : Bool} (m : Nat) : fwP k lv known (2 ^ np k - 1) t g m ↔ fwP k lv known 63 t g m := by
  unfold fwP
  rw [nth_cg (np k) (b63 hk.2.1), cn_cg (b63 hk.2.1) (np k) (Nat.le_refl _)]
theorem fw_ex {k : Sk} {lv : Nat → Nat → Nat} {known mask t : Nat} {g : Bool} (hn : cn mask (np k) ≤ 4) (h9 : ∀ p, p < np k → lv p t ≤ 9) : ∃ x, Least (fwP k lv known mask t g) x := by
  by_cases h : ∃ m, fwP k lv known mask t g m
  · obtain ⟨m, h1, h2⟩ := pk_least _ h
    have := RR_far (fun i _ => tpv_le _ _ _ _ _) m (fun i hi => h9 _ (nth_is (np k) i hi).1) h1 h2
    exact ⟨nI m, Or.inr ⟨m, by omega, rfl, h1, h2⟩⟩
  · exact ⟨-1, Or.inl ⟨rfl, fun m q => h ⟨m, q⟩⟩⟩
section
variable {c : Cx}
def seaOf (g : Bool) : Nat := if g = true then 40 else 38
theorem fAll_unf {S : St} (h : RC S c) {b t : Nat} {g : Bool} : fX6_fewestOfAll b (nI t) (bI g) S = fwC (seaOf g) (gR S 0 1) b (nI 63) (nI t) (bI g) S := by
  unfold fX6_fewestOfAll fwC
  rw [gd_t (told_is h)]
  cases g <;> rfl
theorem fewAll_c {S : St} (hw : WC c) (h : RC S c) (hC : CI S (xK c)) {b t : Nat} {s : Sd} {g : Bool} (hs : WS (xK c) s) (h2 : SdC S b (xK c) s) (hb : b ≤ 21) (ht : t < nt (xK c)) (hn : np (xK c) ≤ 4) :
    ∃ x S', fX6_fewestOfAll b (nI t) (bI g) S = some (x, S') ∧ Least (fwP (xK c) (dl s) 0 63 t g) x ∧ RC S' c ∧ CI S' (xK c) ∧ (∀ cc jj, cc < 25 → gN S' cc jj = gN S cc jj) ∧
      (¬ x = -1 → (∀ i, i < cn 63 (np (xK c)) → dl s (nth 63 (np (xK c)) i) t = 9 ∨ tpv (xK c) (dl s) 0 (nth 63 (np (xK c)) i) t = 9) ∧ Ch S' (seaOf g) (cn 63 (np (xK c))) (fun i => kq (xK c) (nth 63 (np (xK c)) i)) (fun i => kb (xK c) (nth 63 (np (xK c)) i)) g ∧ gN S' (seaOf g + 1) (hc (fun i => dl s (nth 63 (np (xK c)) i) t) (cn 63 (np (xK c))) 0) = x) := by
  have hs0 : 33 ≤ seaOf g := by unfold seaOf; split <;> omega
  have hC1 : CI1 S (seaOf g) (xK c) g := by
    cases g
    · exact hC.1
    · exact hC.2
  obtain ⟨x, S', e, a1, a2, a3, a4, a5⟩ := fwC_eq (g := g) (mask := 63) hw.1 hs h.2.2.1 h2 (told_le h) hb ht (by decide) (by rw [cn63 _ hw.1.2.1]; exact hn) hs0 hC1
  refine ⟨x, S', by rw [fAll_unf h]; exact e, a1, RC_of h a4 (fun cc jj q => a3 cc jj (by omega) (by omega) (by omega)), ?_, fun cc jj q => a3 cc jj (by omega) (by omega) (by omega), a5⟩
  cases g
  · exact ⟨a2, CI1_of hC.2 (a3 _ _ (by omega) (by decide) (by decide)) (fun j => a3 _ _ (by omega) (by decide) (by decide))⟩
  · exact ⟨CI1_of hC.1 (a3 _ _ (by omega) (by decide) (by decide)) (fun j => a3 _ _ (by omega) (by decide) (by decide)), a2⟩
theorem fewOf_m {S : St} (hw : WC c) (h : RM S c) (hP : PI S) {t known : Nat} {g : Bool} (ht : t < nt (xK c)) (hkn : known < 2147483648) (hn : np (xK c) ≤ 4) :
    ∃ x S', fX7_fewestOf (nI t) (nI known) (bI g) S = some (x, S') ∧ Least (fwP (xK c) (dl (xS c)) known 63 t g) x ∧ RM S' c ∧ PI S' ∧ (∃ lv', Mn S' (np (xK c)) lv' (fun p => tpv (xK c) (dl (xS c)) known p t) (kq (xK c)) (kb (xK c)) (kp (xK c)) (dS (xS c))) ∧ (¬ x = -1 → BF (np (xK c)) (2 ^ np (xK c) - 1) (fun p => tpv (xK c) (dl (xS c)) known p t) (kq (xK c)) (kb (xK c)) g (mcm (2 ^ np (xK c) - 1) (fun p => dl (xS c) p t) (np (xK c))) S' x) := by
  obtain ⟨S1, e1, hB1⟩ := take_eq (known := known) hw.1 hw.2.1 h.1 h.2.1 ht hkn
  have u1 := wX7_take e1
  have hcf := cn_full (n := np (xK c)) (np (xK c)) (Nat.le_refl _)
  obtain ⟨x, S2, e2, a1, ⟨lv', a2⟩, a3, a4⟩ := spread_eq (g := g) (mask := 2 ^ np (xK c) - 1) (by rw [hcf]; exact hn) (by have := Nat.pow_pos (n := np (xK c)) (show 0 < 2 by decide); omega) hB1 (PI_un hP u1 (by decide))
  have e : fX7_fewestOf (nI t) (nI known) (bI g) S = some (x, S2) := by
    rw [fX7_fewestOf, e1, bd_s, everybody_eq hB1.1 hB1.2.1, bd_s, e2, bd_s]
  exact ⟨x, S2, e, a1.iff (fun m => fwP_63 hw.1 m), RM_seed h (wX7_fewestOf e) (by decide) a2.2.2.1, a3, ⟨lv', a2⟩, a4⟩
/-- what fewest is -/
theorem few_ex (hw : WC c) {t : Nat} {g : Bool} (ht : t < nt (xK c)) (hn : np (xK c) ≤ 4) : ∃ x, Least (fwP (xK c) (dl (xS c)) 0 63 t g) x := fw_ex (by rw [cn63 _ hw.1.2.1]; exact hn) (fun p hp => hw.2.1.1 p t hp ht)
theorem fewest_c {S : St} (hw : WC c) (h : RC S c) (hC : CI S (xK c)) {t : Nat} (ht : t < nt (xK c)) (hn : np (xK c) ≤ 4) : ∃ x S', fX6_fewest (nI t) S = some (x, S') ∧ Least (fwP (xK c) (dl (xS c)) 0 63 t (dG (xS c))) x ∧ RC S' c ∧ CI S' (xK c) ∧
      (¬ x = -1 → (∀ i, i < cn 63 (np (xK c)) → dl (xS c) (nth 63 (np (xK c)) i) t = 9 ∨ tpv (xK c) (dl (xS c)) 0 (nth 63 (np (xK c)) i) t = 9) ∧ Ch S' (seaOf (dG (xS c))) (cn 63 (np (xK c))) (fun i => kq (xK c) (nth 63 (np (xK c)) i)) (fun i => kb (xK c) (nth 63 (np (xK c)) i)) (dG (xS c)) ∧ gN S' (seaOf (dG (xS c)) + 1) (hc (fun i => dl (xS c) (nth 63 (np (xK c)) i) t) (cn 63 (np (xK c))) 0) = x) := by
  have k1 := hw.1.1
  obtain ⟨x, S', e, a1, a2, a3, -, a5⟩ := fewAll_c (g := dG (xS c)) hw h hC hw.2.1 h.2.2.2.1 (by omega) ht hn
  refine ⟨x, S', ?_, a1, a2, a3, a5⟩
  rw [fX6_fewest, isThing_c h hw, inB_n ht (by omega), bd_s, if_neg bI_t0, gd_t (told_is h), np_c h, if_pos (by rw [li_4, leI (by omega) (by omega)]; exact hn), h.2.2.2.1.2.1, e, bd_s]
theorem small_m {S : St} (hw : WC c) (h : RM S c) : fX7_isSmall S = some (bI (decide (np (xK c) ≤ 4)), S) := by
  have k2 := hw.1.2.1
  rw [fX7_isSmall, np_m h]
  by_cases hn : np (xK c) ≤ 4
  · rw [if_neg (by rw [li_4, ltI (by omega) (by omega)]; omega), decide_eq_true hn]; rfl
  · rw [if_pos (by rw [li_4, ltI (by omega) (by omega)]; omega), decide_eq_false hn]; rfl
theorem ag_fewest (hw : WC c) (y : Int32) : Ag2 c (fX6_fewest y) (fX7_fewest y) := by
  have k1 := hw.1.1
  have k2 := hw.1.2.1
  cases ht : inB y (nt (xK c)) with
  | false =>
    exact ⟨-1000001, c, hw, fun S h hC => ⟨S, by rw [fX6_fewest, isThing_c h hw, ht, bd_s, if_pos bI_f0], h, hC⟩, fun S h hP => ⟨S, by rw [fX7_fewest, isThing_m h hw, ht, bd_s, if_pos bI_f0], h, hP⟩⟩
  | true =>
    obtain ⟨t, h1, h2, rfl⟩ := inB_get ht
    by_cases hn : np (xK c) ≤ 4
    · obtain ⟨r, hr⟩ := few_ex (g := dG (xS c)) hw h1 hn
      refine ⟨r, c, hw, fun S h hC => ?_, fun S h hP => ?_⟩
      · obtain ⟨x, S', e, a1, a2, a3, -⟩ := fewest_c hw h hC h1 hn
        exact ⟨S', by rw [e, a1.uniq hr], a2, a3⟩
      · obtain ⟨x, S', e, a1, a2, a3, -⟩ := fewOf_m (g := dG (xS c)) (known := 0) hw h hP h1 (by decide) hn
        exact ⟨S', by rw [fX7_fewest, isThing_m h hw, ht, bd_s, if_neg bI_t0, small_m hw h, bd_s, decide_eq_true hn, if_neg bI_t0, h.2.1.2.1, li_0, e, bd_s, a1.uniq hr], a2, a3⟩
    · refine ⟨-1000003, c, hw, fun S h hC => ⟨S, ?_, h, hC⟩, fun S h hP => ⟨S, ?_, h, hP⟩⟩
      · rw [fX6_fewest, isThing_c h hw, ht, bd_s, if_neg bI_t0, gd_t (told_is h), np_c h, if_neg (by rw [li_4, leI (by omega) (by omega)]; exact hn)]
      · rw [fX7_fewest, isThing_m h hw, ht, bd_s, if_neg bI_t0, small_m hw h, bd_s, decide_eq_false hn, if_pos bI_f0]
/-- the class's fewest, refused -/
theorem fewest_no {S : St} (hw : WC c) (h : RC S c) {y : Int32} (hy : inB y (nt (xK c)) = false) : fX6_fewest y S = some (-1000001, S) := by
  rw [fX6_fewest, isThing_c h hw, hy, bd_s, if_pos bI_f0]
theorem fewest_not {S : St} (hw : WC c) (h : RC S c) {y : Int32} (hy : inB y (nt (xK c)) = true) (hn : ¬ np (xK c) ≤ 4) : fX6_fewest y S = some (-1000003, S) := by
  have k2 := hw.1.2.1
  rw [fX6_fewest, isThing_c h hw, hy, bd_s, if_neg bI_t0, gd_t (told_is h), np_c h, if_neg (by rw [li_4, leI (by omega) (by omega)]; exact hn)]
theorem ag_stuck (hw : WC c) (y : Int32) : Ag2 c (fX6_stuck y) (fX7_stuck y) := by
  have k1 := hw.1.1
  have k2 := hw.1.2.1
  cases ht : inB y (nt (xK c)) with
  | false =>
    exact ⟨-1000001, c, hw, fun S h hC => ⟨S, by rw [fX6_stuck, fewest_no hw h ht, bd_s, if_neg (by decide)], h, hC⟩, fun S h hP => ⟨S, by rw [fX7_stuck, isThing_m h hw, ht, bd_s, if_pos bI_f0], h, hP⟩⟩
  | true =>
    obtain ⟨t, h1, h2, rfl⟩ := inB_get ht
    by_cases hn : np (xK c) ≤ 4
    · obtain ⟨r, hr⟩ := few_ex (g := dG (xS c)) hw h1 hn
      refine ⟨if r = -1 then 1 else 0, c, hw, fun S h hC => ?_, fun S h hP => ?_⟩
      · obtain ⟨x, S', e, a1, a2, a3, -⟩ := fewest_c hw h hC h1 hn
        refine ⟨S', ?_, a2, a3⟩
        rw [fX6_stuck, e, bd_s, if_pos a1.gem1, a1.uniq hr, so_ite]
      · obtain ⟨x, S', e, a1, a2, a3, -⟩ := fewOf_m (g := dG (xS c)) (known := 0) hw h hP h1 (by decide) hn
        refine ⟨S', ?_, a2, a3⟩
        rw [fX7_stuck, isThing_m h hw, ht, bd_s, if_neg bI_t0, small_m hw h, bd_s, decide_eq_true hn, if_neg bI_t0, h.2.1.2.1, show fX7_fewestOf (nI t) 0 (bI (dG (xS c))) S = fX7_fewestOf (nI t) (nI 0) (bI (dG (xS c))) S from rfl, e, bd_s, a1.uniq hr]
        by_cases hq : r = -1
        · rw [if_pos hq, if_neg (by rw [hq]; decide)]
        · rw [if_neg hq, if_pos (Int32.not_lt.mp (fun q => hq (hr.lt0.mp q)))]
    · refine ⟨-1000003, c, hw, fun S h hC => ⟨S, ?_, h, hC⟩, fun S h hP => ⟨S, ?_, h, hP⟩⟩
      · rw [fX6_stuck, fewest_not hw h ht hn, bd_s, if_neg (by decide)]
      · rw [fX7_stuck, isThing_m h hw, ht, bd_s, if_neg bI_t0, small_m hw h, bd_s, decide_eq_false hn, if_pos bI_f0]
theorem ge0 {P : Nat → Prop} {x : Int32} (h : Least P x) : 0 ≤ x ↔ ¬ x = -1 := by
  rw [← h.lt0, Int32.not_lt]
theorem ag_worth (hw : WC c) (y : Int32) : Ag2 c (fX6_worth y) (fX7_worth y) := by
  have k1 := hw.1.1
  have k2 := hw.1.2.1
  cases ht : inB y (nt (xK c)) with
  | false =>
    exact ⟨-1000001, c, hw, fun S h hC => ⟨S, by rw [fX6_worth, isThing_c h hw, ht, bd_s, if_pos bI_f0], h, hC⟩, fun S h hP => ⟨S, by rw [fX7_worth, isThing_m h hw, ht, bd_s, if_pos bI_f0], h, hP⟩⟩
  | true =>
    obtain ⟨t, h1, h2, rfl⟩ := inB_get ht
    by_cases hn : np (xK c) ≤ 4
    · obtain ⟨r, hr⟩ := few_ex (g := false) hw h1 hn
      obtain ⟨q, hq⟩ := few_ex (g := true) hw h1 hn
      refine ⟨(if r = -1 then 300 else r) - (if q = -1 then 300 else q), c, hw, fun S h hC => ?_, fun S h hP => ?_⟩
      · obtain ⟨x, S1, e, a1, a2, a3, -⟩ := fewAll_c (g := false) hw h hC hw.2.1 h.2.2.2.1 (by omega) h1 hn
        obtain ⟨x', S2, e', b1, b2, b3, -⟩ := fewAll_c (g := true) hw a2 a3 hw.2.1 a2.2.2.2.1 (by omega) h1 hn
        refine ⟨S2, ?_, b2, b3⟩
        have e0 : fX6_fewestOfAll 15 (nI t) 0 S = some (x, S1) := e
        have e0' : fX6_fewestOfAll 15 (nI t) 1 S1 = some (x', S2) := e'
        rw [fX6_worth, isThing_c h hw, ht, bd_s, if_neg bI_t0, gd_t (told_is h), np_c h, if_pos (by rw [li_4, leI (by omega) (by omega)]; exact hn), e0, bd_s, e0', bd_s, a1.uniq hr, b1.uniq hq]
        simp only [FX6_worth_59, FX6_worth_71]
        by_cases q1 : r = -1
        · rw [if_pos q1, if_pos q1, so_ite]; split <;> rfl
        · rw [if_neg q1, if_neg q1, so_ite]; split <;> rfl
      · obtain ⟨x, S1, e, a1, a2, a3, -⟩ := fewOf_m (g := false) (known := 0) hw h hP h1 (by decide) hn
        obtain ⟨x', S2, e', b1, b2, b3, -⟩ := fewOf_m (g := true) (known := 0) hw a2 a3 h1 (by decide) hn
        refine ⟨S2, ?_, b2, b3⟩
        have e0 : fX7_fewestOf (nI t) 0 0 S = some (x, S1) := e
        have e0' : fX7_fewestOf (nI t) 0 1 S1 = some (x', S2) := e'
        rw [fX7_worth, isThing_m h hw, ht, bd_s, if_neg bI_t0, small_m hw h, bd_s, decide_eq_true hn, if_neg bI_t0, e0, bd_s, e0', bd_s, a1.uniq hr, b1.uniq hq]
        simp only [FX7_worth_49, FX7_worth_60]
        by_cases q1 : r = -1
        · rw [if_neg (fun z => (ge0 hr).mp z q1), if_pos q1]
          by_cases q2 : q = -1
          · rw [if_neg (fun z => (ge0 hq).mp z q2), if_pos q2]
          · rw [if_pos ((ge0 hq).mpr q2), if_neg q2]
        · rw [if_pos ((ge0 hr).mpr q1), if_neg q1]
          by_cases q2 : q = -1
          · rw [if_neg (fun z => (ge0 hq).mp z q2), if_pos q2]
          · rw [if_pos ((ge0 hq).mpr q2), if_neg q2]
    · refine ⟨-1000003, c, hw, fun S h hC => ⟨S, ?_, h, hC⟩, fun S h hP => ⟨S, ?_, h, hP⟩⟩
      · rw [fX6_worth, isThing_c h hw, ht, bd_s, if_neg bI_t0, gd_t (told_is h), np_c h, if_neg (by rw [li_4, leI (by omega) (by omega)]; exact hn)]
      · rw [fX7_worth, isThing_m h hw, ht, bd_s, if_neg bI_t0, small_m hw h, bd_s, decide_eq_false hn, if_pos bI_f0]
end
