/-! ===== the run: both sides call by call ===== -/
def Jn (S : St) (c : Cx) : Prop := WC c ∧ RC S c ∧ CI S (xK c) ∧ RM S c ∧ PI S
/-- a step of the run -/
def LwP (L : Nat) (xs : Nat → Int32) (n i : Nat) (z : Option (Int32 × St)) : Prop := ∃ S c, z = FL_law_18 L xs n (nI (i + 5)) S ∧ Jn S c
section
variable {L : Nat} {xs : Nat → Int32} {n i : Nat} {S : St} {c : Cx}
theorem LwP_ite {p : Prop} [Decidable p] {a b : Option (Int32 × St)} (ha : p → LwP L xs n i a) (hb : ¬ p → LwP L xs n i b) : LwP L xs n i (if p then a else b) := by
  by_cases h : p
  · rw [if_pos h]; exact ha h
  · rw [if_neg h]; exact hb h
theorem both {fc fm : St → Option (Int32 × St)} {la lb lc la' lb' : List (Nat × Nat)} (hJ : Jn S c) (hag : Ag2 c fc fm) (hc : ∀ S q, fc S = some q → Un la lb lc S q.2) (hl : ∀ x ∈ la, x.1 < 44) (hm : ∀ S q, fm S = some q → Un la' lb' [] S q.2) (hl' : ∀ x ∈ la', 44 ≤ x.1) : ∃ r S1 S2 c', fc S = some (r, S1) ∧ fm S1 = some (r, S2) ∧ Jn S2 c' := by
  obtain ⟨w, h1, h2, h3, h4⟩ := hJ
  obtain ⟨r, c', w', a, b⟩ := hag
  obtain ⟨S1, e1, b1, b2⟩ := a S h1 h2
  have u1 := hc S _ e1
  have k1 : ∀ cc jj, 44 ≤ cc → gN S1 cc jj = gN S cc jj := fun cc jj q => u1.n cc jj (fun m => by have := hl _ m; dsimp only at this; omega) (fun m => by have := hl _ m; dsimp only at this; omega)
  obtain ⟨S2, e2, d1, d2⟩ := b S1 (RM_of h3 (fun cc jj q => k1 cc jj (by omega))) (PI_of h4 (k1 _ _ (by omega)) (fun j => k1 _ _ (by omega)) (fun j => k1 _ _ (by omega)))
  have u2 := hm S1 _ e2
  have k2 : ∀ cc jj, cc < 44 → gN S2 cc jj = gN S1 cc jj := fun cc jj q => u2.n cc jj (fun m => by have := hl' _ m; dsimp only at this; omega) (fun m => by have := hl' _ m; dsimp only at this; omega)
  exact ⟨r, S1, S2, c', e1, e2, w', RC_of b1 (fun cc jj => u2.r cc jj (by simp)) (fun cc jj q => k2 cc jj (by omega)), ⟨CI1_of b2.1 (k2 _ _ (by omega)) (fun j => k2 _ _ (by omega)), CI1_of b2.2 (k2 _ _ (by omega)) (fun j => k2 _ _ (by omega))⟩, d1, d2⟩
theorem a_5 : nI i + 5 = nI (i + 5) := nI_add i 5
theorem LwP_next (hJ : Jn S c) : LwP L xs n i (FL_law_1143 L xs (fun l3_ S_ => FL_law_18 L xs n l3_ S_) (nI i) S) :=
  ⟨S, c, by rw [FL_law_1143, a_5], hJ⟩
theorem LwP_call {fc fm : St → Option (Int32 × St)} {la lb lc la' lb' : List (Nat × Nat)} (hJ : Jn S c) (hag : Ag2 c fc fm) (hc : ∀ S q, fc S = some q → Un la lb lc S q.2) (hl : ∀ x ∈ la, x.1 < 44) (hm : ∀ S q, fm S = some q → Un la' lb' [] S q.2) (hl' : ∀ x ∈ la', 44 ≤ x.1) :
    LwP L xs n i (bd (fc S) fun r S' => bd (fm S') fun r' S'' => if r = r' then FL_law_1143 L xs (fun l3_ S_ => FL_law_18 L xs n l3_ S_) (nI i) S'' else some (0, S'')) := by
  obtain ⟨r, S1, S2, c', e1, e2, J⟩ := both hJ hag hc hl hm hl'
  rw [e1, bd_s, e2, bd_s, if_pos rfl]
  exact LwP_next J
theorem LwP_feed (hJ : Jn S c) : LwP L xs n i (bd (fX6_feed (xs (i + 1)) ((((xs (i + 2)).toInt64) <<< ((32 : Int32).toInt64 &&& 63)) ||| (((xs (i + 3)).toInt64) &&& 4294967295)) S) fun r S' => bd (fX7_feed (xs (i + 1)) ((((xs (i + 2)).toInt64) <<< ((32 : Int32).toInt64 &&& 63)) ||| (((xs (i + 3)).toInt64) &&& 4294967295)) S') fun r' S'' => if r = r' then FL_law_1143 L xs (fun l3_ S_ => FL_law_18 L xs n l3_ S_) (nI i) S'' else some (0, S'')) :=
  LwP_call (fc := fX6_feed (xs (i + 1)) ((((xs (i + 2)).toInt64) <<< ((32 : Int32).toInt64 &&& 63)) ||| (((xs (i + 3)).toInt64) &&& 4294967295))) (fm := fX7_feed (xs (i + 1)) ((((xs (i + 2)).toInt64) <<< ((32 : Int32).toInt64 &&& 63)) ||| (((xs (i + 3)).toInt64) &&& 4294967295))) hJ (ag2_of (ag_feed hJ.1 (xs (i + 1)) ((((xs (i + 2)).toInt64) <<< ((32 : Int32).toInt64 &&& 63)) ||| (((xs (i + 3)).toInt64) &&& 4294967295))) (fun S q h => wX6_feed h) (by decide) (fun S q h => wX7_feed h) (by decide)) (fun S q h => wX6_feed h) (by decide) (fun S q h => wX7_feed h) (by decide)
theorem LwP_school (hJ : Jn S c) : LwP L xs n i (bd (fX6_school S) fun r S' => bd (fX7_school S') fun r' S'' => if r = r' then FL_law_1143 L xs (fun l3_ S_ => FL_law_18 L xs n l3_ S_) (nI i) S'' else some (0, S'')) :=
  LwP_call (fc := fX6_school) (fm := fX7_school) hJ (ag_school hJ.1) (fun S q h => wX6_school h) (by decide) (fun S q h => wX7_school h) (by decide)
theorem LwP_fault (hJ : Jn S c) : LwP L xs n i (bd (fX6_fault S) fun r S' => bd (fX7_fault S') fun r' S'' => if r = r' then FL_law_1143 L xs (fun l3_ S_ => FL_law_18 L xs n l3_ S_) (nI i) S'' else some (0, S'')) :=
  LwP_call (fc := fX6_fault) (fm := fX7_fault) hJ (ag2_of (ag_fault hJ.1) (fun S q h => wX6_fault h) (by decide) (fun S q h => wX7_fault h) (by decide)) (fun S q h => wX6_fault h) (by decide) (fun S q h => wX7_fault h) (by decide)
theorem LwP_count (hJ : Jn S c) : LwP L xs n i (bd (fX6_count (xs (i + 1)) S) fun r S' => bd (fX7_count (xs (i + 1)) S') fun r' S'' => if r = r' then FL_law_1143 L xs (fun l3_ S_ => FL_law_18 L xs n l3_ S_) (nI i) S'' else some (0, S'')) :=
  LwP_call (fc := fX6_count (xs (i + 1))) (fm := fX7_count (xs (i + 1))) hJ (ag2_of (ag_count hJ.1 (xs (i + 1))) (fun S q h => wX6_count h) (by decide) (fun S q h => wX7_count h) (by decide)) (fun S q h => wX6_count h) (by decide) (fun S q h => wX7_count h) (by decide)
theorem LwP_pupil (hJ : Jn S c) : LwP L xs n i (bd (fX6_pupil (xs (i + 1)) (xs (i + 2)) S) fun r S' => bd (fX7_pupil (xs (i + 1)) (xs (i + 2)) S') fun r' S'' => if r = r' then FL_law_1143 L xs (fun l3_ S_ => FL_law_18 L xs n l3_ S_) (nI i) S'' else some (0, S'')) :=
  LwP_call (fc := fX6_pupil (xs (i + 1)) (xs (i + 2))) (fm := fX7_pupil (xs (i + 1)) (xs (i + 2))) hJ (ag2_of (ag_pupil hJ.1 (xs (i + 1)) (xs (i + 2))) (fun S q h => wX6_pupil h) (by decide) (fun S q h => wX7_pupil h) (by decide)) (fun S q h => wX6_pupil h) (by decide) (fun S q h => wX7_pupil h) (by decide)
theorem LwP_leans (hJ : Jn S c) : LwP L xs n i (bd (fX6_leans (xs (i + 1)) S) fun r S' => bd (fX7_leans (xs (i + 1)) S') fun r' S'' => if r = r' then FL_law_1143 L xs (fun l3_ S_ => FL_law_18 L xs n l3_ S_) (nI i) S'' else some (0, S'')) :=
  LwP_call (fc := fX6_leans (xs (i + 1))) (fm := fX7_leans (xs (i + 1))) hJ (ag2_of (ag_leans hJ.1 (xs (i + 1))) (fun S q h => wX6_leans h) (by decide) (fun S q h => wX7_leans h) (by decide)) (fun S q h => wX6_leans h) (by decide) (fun S q h => wX7_leans h) (by decide)
theorem LwP_level (hJ : Jn S c) : LwP L xs n i (bd (fX6_level (xs (i + 1)) (xs (i + 2)) S) fun r S' => bd (fX7_level (xs (i + 1)) (xs (i + 2)) S') fun r' S'' => if r = r' then FL_law_1143 L xs (fun l3_ S_ => FL_law_18 L xs n l3_ S_) (nI i) S'' else some (0, S'')) :=
  LwP_call (fc := fX6_level (xs (i + 1)) (xs (i + 2))) (fm := fX7_level (xs (i + 1)) (xs (i + 2))) hJ (ag2_of (ag_level hJ.1 (xs (i + 1)) (xs (i + 2))) (fun S q h => wX6_level h) (by decide) (fun S q h => wX7_level h) (by decide)) (fun S q h => wX6_level h) (by decide) (fun S q h => wX7_level h) (by decide)
theorem LwP_rises (hJ : Jn S c) : LwP L xs n i (bd (fX6_rises (xs (i + 1)) (xs (i + 2)) S) fun r S' => bd (fX7_rises (xs (i + 1)) (xs (i + 2)) S') fun r' S'' => if r = r' then FL_law_1143 L xs (fun l3_ S_ => FL_law_18 L xs n l3_ S_) (nI i) S'' else some (0, S'')) :=
  LwP_call (fc := fX6_rises (xs (i + 1)) (xs (i + 2))) (fm := fX7_rises (xs (i + 1)) (xs (i + 2))) hJ (ag2_of (ag_rises hJ.1 (xs (i + 1)) (xs (i + 2))) (fun S q h => wX6_rises h) (by decide) (fun S q h => wX7_rises h) (by decide)) (fun S q h => wX6_rises h) (by decide) (fun S q h => wX7_rises h) (by decide)
theorem LwP_guest (hJ : Jn S c) (b : Bool) : LwP L xs n i (bd (fX6_guest (bI b) S) fun r S' => bd (fX7_guest (bI b) S') fun r' S'' => if r = r' then FL_law_1143 L xs (fun l3_ S_ => FL_law_18 L xs n l3_ S_) (nI i) S'' else some (0, S'')) :=
  LwP_call (fc := fX6_guest (bI b)) (fm := fX7_guest (bI b)) hJ (ag2_of (ag_guest hJ.1 b) (fun S q h => wX6_guest h) (by decide) (fun S q h => wX7_guest h) (by decide)) (fun S q h => wX6_guest h) (by decide) (fun S q h => wX7_guest h) (by decide)
theorem LwP_lesson (hJ : Jn S c) (b : Bool) : LwP L xs n i (bd (fX6_lesson (xs (i + 1)) (xs (i + 2)) (bI b) S) fun r S' => bd (fX7_lesson (xs (i + 1)) (xs (i + 2)) (bI b) S') fun r' S'' => if r = r' then FL_law_1143 L xs (fun l3_ S_ => FL_law_18 L xs n l3_ S_) (nI i) S'' else some (0, S'')) :=
  LwP_call (fc := fX6_lesson (xs (i + 1)) (xs (i + 2)) (bI b)) (fm := fX7_lesson (xs (i + 1)) (xs (i + 2)) (bI b)) hJ (ag2_of (ag_lesson hJ.1 (xs (i + 1)) (xs (i + 2)) b) (fun S q h => wX6_lesson h) (by decide) (fun S q h => wX7_lesson h) (by decide)) (fun S q h => wX6_lesson h) (by decide) (fun S q h => wX7_lesson h) (by decide)
theorem LwP_exact (hJ : Jn S c) : LwP L xs n i (bd (fX6_exact (xs (i + 1)) (xs (i + 2)) (xs (i + 3)) S) fun r S' => bd (fX7_exact (xs (i + 1)) (xs (i + 2)) (xs (i + 3)) S') fun r' S'' => if r = r' then FL_law_1143 L xs (fun l3_ S_ => FL_law_18 L xs n l3_ S_) (nI i) S'' else some (0, S'')) :=
  LwP_call (fc := fX6_exact (xs (i + 1)) (xs (i + 2)) (xs (i + 3))) (fm := fX7_exact (xs (i + 1)) (xs (i + 2)) (xs (i + 3))) hJ (ag2_of (ag_exact hJ.1 (xs (i + 1)) (xs (i + 2)) (xs (i + 3))) (fun S q h => wX6_exact h) (by decide) (fun S q h => wX7_exact h) (by decide)) (fun S q h => wX6_exact h) (by decide) (fun S q h => wX7_exact h) (by decide)
theorem LwP_behind (hJ : Jn S c) : LwP L xs n i (bd (fX6_behind (xs (i + 1)) (xs (i + 2)) (xs (i + 3)) (xs (i + 4)) S) fun r S' => bd (fX7_behind (xs (i + 1)) (xs (i + 2)) (xs (i + 3)) (xs (i + 4)) S') fun r' S'' => if r = r' then FL_law_1143 L xs (fun l3_ S_ => FL_law_18 L xs n l3_ S_) (nI i) S'' else some (0, S'')) :=
  LwP_call (fc := fX6_behind (xs (i + 1)) (xs (i + 2)) (xs (i + 3)) (xs (i + 4))) (fm := fX7_behind (xs (i + 1)) (xs (i + 2)) (xs (i + 3)) (xs (i + 4))) hJ (ag2_of (ag_behind hJ.1 (xs (i + 1)) (xs (i + 2)) (xs (i + 3)) (xs (i + 4))) (fun S q h => wX6_behind h) (by decide) (fun S q h => wX7_behind h) (by decide)) (fun S q h => wX6_behind h) (by decide) (fun S q h => wX7_behind h) (by decide)
theorem LwP_up (hJ : Jn S c) : LwP L xs n i (bd (fX6_up (xs (i + 1)) (xs (i + 2)) S) fun r S' => bd (fX7_up (xs (i + 1)) (xs (i + 2)) S') fun r' S'' => if r = r' then FL_law_1143 L xs (fun l3_ S_ => FL_law_18 L xs n l3_ S_) (nI i) S'' else some (0, S'')) :=
  LwP_call (fc := fX6_up (xs (i + 1)) (xs (i + 2))) (fm := fX7_up (xs (i + 1)) (xs (i + 2))) hJ (ag2_of (ag_up hJ.1 (xs (i + 1)) (xs (i + 2))) (fun S q h => wX6_up h) (by decide) (fun S q h => wX7_up h) (by decide)) (fun S q h => wX6_up h) (by decide) (fun S q h => wX7_up h) (by decide)
theorem LwP_run (hJ : Jn S c) (b : Bool) : LwP L xs n i (bd (fX6_run (xs (i + 1)) (xs (i + 2)) (xs (i + 3)) (bI b) S) fun r S' => bd (fX7_run (xs (i + 1)) (xs (i + 2)) (xs (i + 3)) (bI b) S') fun r' S'' => if r = r' then FL_law_1143 L xs (fun l3_ S_ => FL_law_18 L xs n l3_ S_) (nI i) S'' else some (0, S'')) :=
  LwP_call (fc := fX6_run (xs (i + 1)) (xs (i + 2)) (xs (i + 3)) (bI b)) (fm := fX7_run (xs (i + 1)) (xs (i + 2)) (xs (i + 3)) (bI b)) hJ (ag2_of (ag_run hJ.1 (xs (i + 1)) (xs (i + 2)) (xs (i + 3)) b) (fun S q h => wX6_run h) (by decide) (fun S q h => wX7_run h) (by decide)) (fun S q h => wX6_run h) (by decide) (fun S q h => wX7_run h) (by decide)
theorem LwP_master (hJ : Jn S c) : LwP L xs n i (bd (fX6_master (xs (i + 1)) S) fun r S' => bd (fX7_master (xs (i + 1)) S') fun r' S'' => if r = r' then FL_law_1143 L xs (fun l3_ S_ => FL_law_18 L xs n l3_ S_) (nI i) S'' else some (0, S'')) :=
  LwP_call (fc := fX6_master (xs (i + 1))) (fm := fX7_master (xs (i + 1))) hJ (ag2_of (ag_master hJ.1 (xs (i + 1))) (fun S q h => wX6_master h) (by decide) (fun S q h => wX7_master h) (by decide)) (fun S q h => wX6_master h) (by decide) (fun S q h => wX7_master h) (by decide)
theorem LwP_summer (hJ : Jn S c) : LwP L xs n i (bd (fX6_summer (xs (i + 1)) S) fun r S' => bd (fX7_summer (xs (i + 1)) S') fun r' S'' => if r = r' then FL_law_1143 L xs (fun l3_ S_ => FL_law_18 L xs n l3_ S_) (nI i) S'' else some (0, S'')) :=
  LwP_call (fc := fX6_summer (xs (i + 1))) (fm := fX7_summer (xs (i + 1))) hJ (ag2_of (ag_summer hJ.1 (xs (i + 1))) (fun S q h => wX6_summer h) (by decide) (fun S q h => wX7_summer h) (by decide)) (fun S q h => wX6_summer h) (by decide) (fun S q h => wX7_summer h) (by decide)
theorem LwP_hours (hJ : Jn S c) : LwP L xs n i (bd (fX6_hours (xs (i + 1)) (xs (i + 2)) S) fun r S' => bd (fX7_hours (xs (i + 1)) (xs (i + 2)) S') fun r' S'' => if r = r' then FL_law_1143 L xs (fun l3_ S_ => FL_law_18 L xs n l3_ S_) (nI i) S'' else some (0, S'')) :=
  LwP_call (fc := fX6_hours (xs (i + 1)) (xs (i + 2))) (fm := fX7_hours (xs (i + 1)) (xs (i + 2))) hJ (ag2_of (ag_hours hJ.1 (xs (i + 1)) (xs (i + 2))) (fun S q h => wX6_hours h) (by decide) (fun S q h => wX7_hours h) (by decide)) (fun S q h => wX6_hours h) (by decide) (fun S q h => wX7_hours h) (by decide)
theorem LwP_fewest (hJ : Jn S c) : LwP L xs n i (bd (fX6_fewest (xs (i + 1)) S) fun r S' => bd (fX7_fewest (xs (i + 1)) S') fun r' S'' => if r = r' then FL_law_1143 L xs (fun l3_ S_ => FL_law_18 L xs n l3_ S_) (nI i) S'' else some (0, S'')) :=
  LwP_call (fc := fX6_fewest (xs (i + 1))) (fm := fX7_fewest (xs (i + 1))) hJ (ag_fewest hJ.1 (xs (i + 1))) (fun S q h => wX6_fewest h) (by decide) (fun S q h => wX7_fewest h) (by decide)
theorem LwP_row (hJ : Jn S c) : LwP L xs n i (bd (fX6_row (xs (i + 1)) (xs (i + 2)) S) fun r S' => bd (fX7_row (xs (i + 1)) (xs (i + 2)) S') fun r' S'' => if r = r' then FL_law_1143 L xs (fun l3_ S_ => FL_law_18 L xs n l3_ S_) (nI i) S'' else some (0, S'')) :=
  LwP_call (fc := fX6_row (xs (i + 1)) (xs (i + 2))) (fm := fX7_row (xs (i + 1)) (xs (i + 2))) hJ (ag_row hJ.1 (xs (i + 1)) (xs (i + 2))) (fun S q h => wX6_row h) (by decide) (fun S q h => wX7_row h) (by decide)
theorem LwP_stuck (hJ : Jn S c) : LwP L xs n i (bd (fX6_stuck (xs (i + 1)) S) fun r S' => bd (fX7_stuck (xs (i + 1)) S') fun r' S'' => if r = r' then FL_law_1143 L xs (fun l3_ S_ => FL_law_18 L xs n l3_ S_) (nI i) S'' else some (0, S'')) :=
  LwP_call (fc := fX6_stuck (xs (i + 1))) (fm := fX7_stuck (xs (i + 1))) hJ (ag_stuck hJ.1 (xs (i + 1))) (fun S q h => wX6_stuck h) (by decide) (fun S q h => wX7_stuck h) (by decide)
theorem LwP_worth (hJ : Jn S c) : LwP L xs n i (bd (fX6_worth (xs (i + 1)) S) fun r S' => bd (fX7_worth (xs (i + 1)) S') fun r' S'' => if r = r' then FL_law_1143 L xs (fun l3_ S_ => FL_law_18 L xs n l3_ S_) (nI i) S'' else some (0, S'')) :=
  LwP_call (fc := fX6_worth (xs (i + 1))) (fm := fX7_worth (xs (i + 1))) hJ (ag_worth hJ.1 (xs (i + 1))) (fun S q h => wX6_worth h) (by decide) (fun S q h => wX7_worth h) (by decide)
theorem LwP_mastered (hJ : Jn S c) : LwP L xs n i (bd (fX6_mastered (xs (i + 1)) S) fun r S' => bd (fX7_mastered (xs (i + 1)) S') fun r' S'' => if r = r' then FL_law_1143 L xs (fun l3_ S_ => FL_law_18 L xs n l3_ S_) (nI i) S'' else some (0, S'')) :=
  LwP_call (fc := fX6_mastered (xs (i + 1))) (fm := fX7_mastered (xs (i + 1))) hJ (ag2_of (ag_mastered hJ.1 (xs (i + 1))) (fun S q h => wX6_mastered h) (by decide) (fun S q h => wX7_mastered h) (by decide)) (fun S q h => wX6_mastered h) (by decide) (fun S q h => wX7_mastered h) (by decide)
theorem LwP_pays (hJ : Jn S c) : LwP L xs n i (bd (fX6_pays (xs (i + 1)) (xs (i + 2)) (xs (i + 3)) (xs (i + 4)) S) fun r S' => bd (fX7_pays (xs (i + 1)) (xs (i + 2)) (xs (i + 3)) (xs (i + 4)) S') fun r' S'' => if r = r' then FL_law_1143 L xs (fun l3_ S_ => FL_law_18 L xs n l3_ S_) (nI i) S'' else some (0, S'')) :=
  LwP_call (fc := fX6_pays (xs (i + 1)) (xs (i + 2)) (xs (i + 3)) (xs (i + 4))) (fm := fX7_pays (xs (i + 1)) (xs (i + 2)) (xs (i + 3)) (xs (i + 4))) hJ (ag2_of (ag_pays hJ.1 (xs (i + 1)) (xs (i + 2)) (xs (i + 3)) (xs (i + 4))) (fun S q h => wX6_pays h) (by decide) (fun S q h => wX7_pays h) (by decide)) (fun S q h => wX6_pays h) (by decide) (fun S q h => wX7_pays h) (by decide)
theorem LwP_order (hJ : Jn S c) : LwP L xs n i (bd (fX6_order (xs (i + 1)) S) fun r S' => bd (fX7_order (xs (i + 1)) S') fun r' S'' => if r = r' then FL_law_1143 L xs (fun l3_ S_ => FL_law_18 L xs n l3_ S_) (nI i) S'' else some (0, S'')) :=
  LwP_call (fc := fX6_order (xs (i + 1))) (fm := fX7_order (xs (i + 1))) hJ (ag_order hJ.1 (xs (i + 1))) (fun S q h => wX6_order h) (by decide) (fun S q h => wX7_order h) (by decide)
theorem LwP_classes (hJ : Jn S c) : LwP L xs n i (bd (fX6_classes (xs (i + 1)) (xs (i + 2)) S) fun r S' => bd (fX7_classes (xs (i + 1)) (xs (i + 2)) S') fun r' S'' => if r = r' then FL_law_1143 L xs (fun l3_ S_ => FL_law_18 L xs n l3_ S_) (nI i) S'' else some (0, S'')) :=
  LwP_call (fc := fX6_classes (xs (i + 1)) (xs (i + 2))) (fm := fX7_classes (xs (i + 1)) (xs (i + 2))) hJ (ag_classes hJ.1 (xs (i + 1)) (xs (i + 2))) (fun S q h => wX6_classes h) (by decide) (fun S q h => wX7_classes h) (by decide)
theorem LwP_log (hJ : Jn S c) : LwP L xs n i (bd (fX6_log (xs (i + 1)) (xs (i + 2)) S) fun r S' => bd (fX7_log (xs (i + 1)) (xs (i + 2)) S') fun r' S'' => if r = r' then FL_law_1143 L xs (fun l3_ S_ => FL_law_18 L xs n l3_ S_) (nI i) S'' else some (0, S'')) :=
  LwP_call (fc := fX6_log (xs (i + 1)) (xs (i + 2))) (fm := fX7_log (xs (i + 1)) (xs (i + 2))) hJ (ag2_of (ag_log hJ.1 (xs (i + 1)) (xs (i + 2))) (fun S q h => wX6_log h) (by decide) (fun S q h => wX7_log h) (by decide)) (fun S q h => wX6_log h) (by decide) (fun S q h => wX7_log h) (by decide)
theorem LwP_clear (hJ : Jn S c) : LwP L xs n i (bd (fX6_clear S) fun r S' => bd (fX7_clear S') fun r' S'' => if r = r' then FL_law_1143 L xs (fun l3_ S_ => FL_law_18 L xs n l3_ S_) (nI i) S'' else some (0, S'')) :=
  LwP_call (fc := fX6_clear) (fm := fX7_clear) hJ (ag2_of (ag_clear hJ.1) (fun S q h => wX6_clear h) (by decide) (fun S q h => wX7_clear h) (by decide)) (fun S q h => wX6_clear h) (by decide) (fun S q h => wX7_clear h) (by decide)
theorem LwP_judge (hJ : Jn S c) : LwP L xs n i (bd (fX6_judge S) fun r S' => bd (fX7_judge S') fun r' S'' => if r = r' then FL_law_1143 L xs (fun l3_ S_ => FL_law_18 L xs n l3_ S_) (nI i) S'' else some (0, S'')) :=
  LwP_call (fc := fX6_judge) (fm := fX7_judge) hJ (ag2_of (ag_judge hJ.1) (fun S q h => wX6_judge h) (by decide) (fun S q h => wX7_judge h) (by decide)) (fun S q h => wX6_judge h) (by decide) (fun S q h => wX7_judge h) (by decide)
theorem LwP_seed (hJ : Jn S c) : LwP L xs n i (bd (fX6_seed (xs (i + 1)) S) fun r S' => bd (fX7_seed (xs (i + 1)) S') fun r' S'' => if r = r' then FL_law_1143 L xs (fun l3_ S_ => FL_law_18 L xs n l3_ S_) (nI i) S'' else some (0, S'')) :=
  LwP_call (fc := fX6_seed (xs (i + 1))) (fm := fX7_seed (xs (i + 1))) hJ (ag2_of (ag_seed hJ.1 (xs (i + 1))) (fun S q h => wX6_seed h) (by decide) (fun S q h => wX7_seed h) (by decide)) (fun S q h => wX6_seed h) (by decide) (fun S q h => wX7_seed h) (by decide)
theorem LwP_keep (hJ : Jn S c) : LwP L xs n i (bd (fX6_keep (xs (i + 1)) S) fun r S' => bd (fX7_keep (xs (i + 1)) S') fun r' S'' => if r = r' then FL_law_1143 L xs (fun l3_ S_ => FL_law_18 L xs n l3_ S_) (nI i) S'' else some (0, S'')) :=
  LwP_call (fc := fX6_keep (xs (i + 1))) (fm := fX7_keep (xs (i + 1))) hJ (ag2_of (ag_keep hJ.1 (xs (i + 1))) (fun S q h => wX6_keep h) (by decide) (fun S q h => wX7_keep h) (by decide)) (fun S q h => wX6_keep h) (by decide) (fun S q h => wX7_keep h) (by decide)
theorem LwP_goBack (hJ : Jn S c) : LwP L xs n i (bd (fX6_goBack (xs (i + 1)) S) fun r S' => bd (fX7_goBack (xs (i + 1)) S') fun r' S'' => if r = r' then FL_law_1143 L xs (fun l3_ S_ => FL_law_18 L xs n l3_ S_) (nI i) S'' else some (0, S'')) :=
  LwP_call (fc := fX6_goBack (xs (i + 1))) (fm := fX7_goBack (xs (i + 1))) hJ (ag2_of (ag_goBack hJ.1 (xs (i + 1))) (fun S q h => wX6_goBack h) (by decide) (fun S q h => wX7_goBack h) (by decide)) (fun S q h => wX6_goBack h) (by decide) (fun S q h => wX7_goBack h) (by decide)
theorem law_go (hL : L ≤ 2560) (hi : i + 5 ≤ L) (hJ : Jn S c) : LwP L xs n i (FL_law_18 L xs (n + 1) (nI i) S) := by
  have a1 : nI i + 1 = nI (i + 1) := nI_1 i
  have a2 : nI i + 2 = nI (i + 2) := nI_add i 2
  have a3 : nI i + 3 = nI (i + 3) := nI_add i 3
  have a4 : nI i + 4 = nI (i + 4) := nI_add i 4
  have g1 : inB (nI (i + 1)) L = true := inB_n (by omega) (by omega)
  have g2 : inB (nI (i + 2)) L = true := inB_n (by omega) (by omega)
  have g3 : inB (nI (i + 3)) L = true := inB_n (by omega) (by omega)
  have g4 : inB (nI (i + 4)) L = true := inB_n (by omega) (by omega)
  have c1 : (nI (i + 1)).toNatClampNeg = i + 1 := clI (by omega)
  have c2 : (nI (i + 2)).toNatClampNeg = i + 2 := clI (by omega)
  have c3 : (nI (i + 3)).toNatClampNeg = i + 3 := clI (by omega)
  have c4 : (nI (i + 4)).toNatClampNeg = i + 4 := clI (by omega)
  have gt : ∀ {α : Type} {x : Option α}, gd true x = x := rfl
  have hlt : ¬ nI L - 5 < nI i := by
    rw [show (5 : Int32) = nI 5 from rfl, subI (by omega), ltI (by omega) (by omega)]; omega
  rw [FL_law_18, if_neg hlt, gdI (by omega) (by omega), clI (by omega)]
  dsimp only
  refine LwP_ite (fun _ => ?_) (fun _ => ?_)
  · simp -implicitDefEqProofs only [a1, a2, a3, a4, g1, g2, g3, g4, c1, c2, c3, c4, gt]
    exact LwP_feed hJ
  refine LwP_ite (fun _ => ?_) (fun _ => ?_)
  · exact LwP_school hJ
  refine LwP_ite (fun _ => ?_) (fun _ => ?_)
  · exact LwP_fault hJ
  refine LwP_ite (fun _ => ?_) (fun _ => ?_)
  · simp -implicitDefEqProofs only [a1, a2, a3, a4, g1, g2, g3, g4, c1, c2, c3, c4, gt]
    exact LwP_count hJ
  refine LwP_ite (fun _ => ?_) (fun _ => ?_)
  · simp -implicitDefEqProofs only [a1, a2, a3, a4, g1, g2, g3, g4, c1, c2, c3, c4, gt]
    exact LwP_pupil hJ
  refine LwP_ite (fun _ => ?_) (fun _ => ?_)
  · simp -implicitDefEqProofs only [a1, a2, a3, a4, g1, g2, g3, g4, c1, c2, c3, c4, gt]
    exact LwP_leans hJ
  refine LwP_ite (fun _ => ?_) (fun _ => ?_)
  · simp -implicitDefEqProofs only [a1, a2, a3, a4, g1, g2, g3, g4, c1, c2, c3, c4, gt]
    exact LwP_level hJ
  refine LwP_ite (fun _ => ?_) (fun _ => ?_)
  · simp -implicitDefEqProofs only [a1, a2, a3, a4, g1, g2, g3, g4, c1, c2, c3, c4, gt]
    exact LwP_rises hJ
  refine LwP_ite (fun _ => ?_) (fun _ => ?_)
  · simp -implicitDefEqProofs only [a1, a2, a3, a4, g1, g2, g3, g4, c1, c2, c3, c4, gt]
    by_cases hz : xs (i + 1) = 0
    · rw [if_pos hz, FL_law_420]
      simp -implicitDefEqProofs only [a1, a2, a3, a4, g1, g2, g3, g4, c1, c2, c3, c4, gt, if_pos hz, FL_law_437]
      exact LwP_guest hJ false
    · rw [if_neg hz, FL_law_420]
      simp -implicitDefEqProofs only [a1, a2, a3, a4, g1, g2, g3, g4, c1, c2, c3, c4, gt, if_neg hz, FL_law_437]
      exact LwP_guest hJ true
  refine LwP_ite (fun _ => ?_) (fun _ => ?_)
  · simp -implicitDefEqProofs only [a1, a2, a3, a4, g1, g2, g3, g4, c1, c2, c3, c4, gt]
    by_cases hz : xs (i + 3) = 0
    · rw [if_pos hz, FL_law_469]
      simp -implicitDefEqProofs only [a1, a2, a3, a4, g1, g2, g3, g4, c1, c2, c3, c4, gt, if_pos hz, FL_law_496]
      exact LwP_lesson hJ false
    · rw [if_neg hz, FL_law_469]
      simp -implicitDefEqProofs only [a1, a2, a3, a4, g1, g2, g3, g4, c1, c2, c3, c4, gt, if_neg hz, FL_law_496]
      exact LwP_lesson hJ true
  refine LwP_ite (fun _ => ?_) (fun _ => ?_)
  · simp -implicitDefEqProofs only [a1, a2, a3, a4, g1, g2, g3, g4, c1, c2, c3, c4, gt]
    exact LwP_exact hJ
  refine LwP_ite (fun _ => ?_) (fun _ => ?_)
  · simp -implicitDefEqProofs only [a1, a2, a3, a4, g1, g2, g3, g4, c1, c2, c3, c4, gt]
    exact LwP_behind hJ
  refine LwP_ite (fun _ => ?_) (fun _ => ?_)
  · simp -implicitDefEqProofs only [a1, a2, a3, a4, g1, g2, g3, g4, c1, c2, c3, c4, gt]
    exact LwP_up hJ
  refine LwP_ite (fun _ => ?_) (fun _ => ?_)
  · simp -implicitDefEqProofs only [a1, a2, a3, a4, g1, g2, g3, g4, c1, c2, c3, c4, gt]
    by_cases hz : xs (i + 4) = 0
    · rw [if_pos hz, FL_law_662]
      simp -implicitDefEqProofs only [a1, a2, a3, a4, g1, g2, g3, g4, c1, c2, c3, c4, gt, if_pos hz, FL_law_694]
      exact LwP_run hJ false
    · rw [if_neg hz, FL_law_662]
      simp -implicitDefEqProofs only [a1, a2, a3, a4, g1, g2, g3, g4, c1, c2, c3, c4, gt, if_neg hz, FL_law_694]
      exact LwP_run hJ true
  refine LwP_ite (fun _ => ?_) (fun _ => ?_)
  · simp -implicitDefEqProofs only [a1, a2, a3, a4, g1, g2, g3, g4, c1, c2, c3, c4, gt]
    exact LwP_master hJ
  refine LwP_ite (fun _ => ?_) (fun _ => ?_)
  · simp -implicitDefEqProofs only [a1, a2, a3, a4, g1, g2, g3, g4, c1, c2, c3, c4, gt]
    exact LwP_summer hJ
  refine LwP_ite (fun _ => ?_) (fun _ => ?_)
  · simp -implicitDefEqProofs only [a1, a2, a3, a4, g1, g2, g3, g4, c1, c2, c3, c4, gt]
    exact LwP_hours hJ
  refine LwP_ite (fun _ => ?_) (fun _ => ?_)
  · simp -implicitDefEqProofs only [a1, a2, a3, a4, g1, g2, g3, g4, c1, c2, c3, c4, gt]
    exact LwP_fewest hJ
  refine LwP_ite (fun _ => ?_) (fun _ => ?_)
  · simp -implicitDefEqProofs only [a1, a2, a3, a4, g1, g2, g3, g4, c1, c2, c3, c4, gt]
    exact LwP_row hJ
  refine LwP_ite (fun _ => ?_) (fun _ => ?_)
  · simp -implicitDefEqProofs only [a1, a2, a3, a4, g1, g2, g3, g4, c1, c2, c3, c4, gt]
    exact LwP_stuck hJ
  refine LwP_ite (fun _ => ?_) (fun _ => ?_)
  · simp -implicitDefEqProofs only [a1, a2, a3, a4, g1, g2, g3, g4, c1, c2, c3, c4, gt]
    exact LwP_worth hJ
  refine LwP_ite (fun _ => ?_) (fun _ => ?_)
  · simp -implicitDefEqProofs only [a1, a2, a3, a4, g1, g2, g3, g4, c1, c2, c3, c4, gt]
    exact LwP_mastered hJ
  refine LwP_ite (fun _ => ?_) (fun _ => ?_)
  · simp -implicitDefEqProofs only [a1, a2, a3, a4, g1, g2, g3, g4, c1, c2, c3, c4, gt]
    exact LwP_pays hJ
  refine LwP_ite (fun _ => ?_) (fun _ => ?_)
  · simp -implicitDefEqProofs only [a1, a2, a3, a4, g1, g2, g3, g4, c1, c2, c3, c4, gt]
    exact LwP_order hJ
  refine LwP_ite (fun _ => ?_) (fun _ => ?_)
  · simp -implicitDefEqProofs only [a1, a2, a3, a4, g1, g2, g3, g4, c1, c2, c3, c4, gt]
    exact LwP_classes hJ
  refine LwP_ite (fun _ => ?_) (fun _ => ?_)
  · simp -implicitDefEqProofs only [a1, a2, a3, a4, g1, g2, g3, g4, c1, c2, c3, c4, gt]
    exact LwP_log hJ
  refine LwP_ite (fun _ => ?_) (fun _ => ?_)
  · exact LwP_clear hJ
  refine LwP_ite (fun _ => ?_) (fun _ => ?_)
  · exact LwP_judge hJ
  refine LwP_ite (fun _ => ?_) (fun _ => ?_)
  · simp -implicitDefEqProofs only [a1, a2, a3, a4, g1, g2, g3, g4, c1, c2, c3, c4, gt]
    exact LwP_seed hJ
  refine LwP_ite (fun _ => ?_) (fun _ => ?_)
  · simp -implicitDefEqProofs only [a1, a2, a3, a4, g1, g2, g3, g4, c1, c2, c3, c4, gt]
    exact LwP_keep hJ
  refine LwP_ite (fun _ => ?_) (fun _ => ?_)
  · simp -implicitDefEqProofs only [a1, a2, a3, a4, g1, g2, g3, g4, c1, c2, c3, c4, gt]
    exact LwP_goBack hJ
  exact LwP_next hJ
theorem law_stop (hL : L ≤ 2560) (hi : i ≤ 5000) (h : L < i + 5) : FL_law_18 L xs (n + 1) (nI i) S = some (1, S) := by
  rw [FL_law_18, if_pos]
  by_cases q : 5 ≤ L
  · rw [show (5 : Int32) = nI 5 from rfl, subI q, ltI (by omega) (by omega)]; omega
  · have := pk_sneg (a := L) (b := 5) (by decide) (by omega)
    exact Int32.lt_of_lt_of_le this (nI_pos' (by omega))
end
