/-! ===== up, master, mastered, hours, pays ===== -/
theorem cm_f (ch sd : Nat) : cm ch false sd = (decide (50 ≤ ch), sd) := by simp [cm]
section
variable {mk : Nat → Bool} {lv top qk bl pr : Nat → Nat} {g : Bool} {n one sd : Nat}
theorem nfold_f {r : Bool} {x0 : (Nat → Bool) × Bool × Nat} : ∀ j, (nfold mk lv one r false x0 j).2.2 = x0.2.2 := by
  intro j
  induction j with
  | zero => rfl
  | succ j ih =>
    rw [nfold, nstep]
    split
    · rw [cm_f]; exact ih
    · exact ih
theorem bfold_f {x0 : (Nat → Nat) × Nat} : ∀ j, (bfold mk lv bl one false x0 j).2 = x0.2 := by
  intro j
  induction j with
  | zero => rfl
  | succ j ih =>
    rw [bfold, bstep]
    split
    · rw [cm_f]; exact ih
    · exact ih
theorem lesG_f : (lesG n mk lv g one false sd).2 = sd := by
  unfold lesG lesN lesR
  split
  · simp only [cm_f, nfold_f]
  · simp only [cm_f, nfold_f]
theorem lesSd_f : lesSd n mk lv bl pr g one false sd = sd := by
  unfold lesSd lesB
  simp only [cm_f, bfold_f, lesG_f, ite_self]
end
theorem np_c {S : St} {c : Cx} (h : RC S c) : gN S (gR S 0 1) 1 = nI (np (xK c)) := h.2.2.1.2.1
theorem np_m {S : St} {c : Cx} (h : RM S c) : gN S 44 1 = nI (np (xK c)) := h.1.2.1
theorem dT_lt {c : Cx} (hw : WC c) (hn : ¬ np (xK c) = 0) : dT (xS c) < np (xK c) := by
  rcases hw.2.1.2.2 with h | h <;> omega
theorem RM_seed {la lb lc : List (Nat × Nat)} {S S' : St} {c : Cx} (h : RM S c) (hu : Un la lb lc S S') (hl : ∀ x ∈ la, x = (44, 23) ∨ mOK x = true) (hs : gN S' 44 23 = nI (dS (xS c))) : RM S' c := by
  have key : ∀ cc jj, ((cc = 44 ∧ (jj = 0 ∨ jj = 1 ∨ jj = 5 ∨ jj = 6 ∨ jj = 8 ∨ jj = 9 ∨ jj = 35)) ∨ cc = 45 ∨ cc = 46 ∨ cc = 47 ∨ cc = 48 ∨ cc = 64 ∨ cc = 65 ∨ cc = 67 ∨ cc = 68) → gN S' cc jj = gN S cc jj := by
    intro cc jj q
    refine hu.n cc jj (fun m => ?_) (fun m => ?_)
    · rcases hl _ m with e | e
      · cases e
      · exact mOK_no e (by omega)
    · rcases hl _ m with e | e
      · cases e; omega
      · exact mOK_no e (by omega)
  exact RM_set (s := xS c) h (fun cc jj q => key cc jj (by omega)) ⟨fun p t hp ht => (key 47 _ (by omega)).trans (h.2.1.1 p t hp ht), (key 44 5 (by omega)).trans h.2.1.2.1, hs, (key 44 6 (by omega)).trans h.2.1.2.2.2⟩
/-- the first from k on, of m, of which p holds; -1 -/
def fk (p : Nat → Bool) : Nat → Nat → Int32
  | 0, _ => -1
  | m + 1, k => if p k = true then nI k else fk p m (k + 1)
section
variable {c : Cx}
theorem ag_up (hw : WC c) (x y : Int32) : Ag c (fX6_up x y) (fX7_up x y) := by
  cases hr : inB x 3 with
  | false =>
    exact ⟨-1000001, c, hw, fun S h => ⟨S, by rw [fX6_up, isRule_c, hr, bd_s, if_pos bI_f0]; rfl, h⟩, fun S h => ⟨S, by rw [fX7_up, isRule_m, hr, bd_s, if_pos bI_f0]; rfl, h⟩, rfl⟩
  | true =>
  cases ht : inB y (nt (xK c)) with
  | false =>
    exact ⟨-1000001, c, hw, fun S h => ⟨S, by rw [fX6_up, isRule_c, hr, bd_s, if_neg bI_t0, isThing_c h hw, ht, bd_s, if_pos bI_f0]; rfl, h⟩, fun S h => ⟨S, by rw [fX7_up, isRule_m, hr, bd_s, if_neg bI_t0, isThing_m h hw, ht, bd_s, if_pos bI_f0]; rfl, h⟩, rfl⟩
  | true =>
    obtain ⟨rule, r1, r2, rfl⟩ := inB_get hr
    obtain ⟨t, h1, h2, rfl⟩ := inB_get ht
    have k2 := hw.1.2.1
    by_cases hn : np (xK c) = 0
    · refine ⟨-1000003, c, hw, fun S h => ⟨S, ?_, h⟩, fun S h => ⟨S, ?_, h⟩, rfl⟩
      · rw [fX6_up, isRule_c, hr, bd_s, if_neg bI_t0, isThing_c h hw, ht, bd_s, if_neg bI_t0, gd_t (told_is h), np_c h, hn, if_neg (by decide)]
      · rw [fX7_up, isRule_m, hr, bd_s, if_neg bI_t0, isThing_m h hw, ht, bd_s, if_neg bI_t0, np_m h, hn, if_pos (by decide)]
    · have hT := dT_lt hw hn
      refine ⟨nI (chz (fun q => dl (xS c) q t) (np (xK c)) rule (dT (xS c))), c, hw, fun S h => ?_, fun S h => ?_, rfl⟩
      · obtain ⟨S1, e1, r1', hB1, -, -⟩ := sitAll_c h hw h1
        refine ⟨S1, ?_, r1'⟩
        rw [fX6_up, isRule_c, hr, bd_s, if_neg bI_t0, isThing_c h hw, ht, bd_s, if_neg bI_t0, gd_t (told_is h), np_c h, if_pos (by rw [li_1, leI (by omega) (by omega)]; omega), e1, bd_s, r1'.2.2.2.1.2.2.2, chosen_eq hB1 r1, bd_s]
      · obtain ⟨S1, e1, r1', hB1⟩ := take_m h hw h1
        refine ⟨S1, ?_, r1'⟩
        rw [fX7_up, isRule_m, hr, bd_s, if_neg bI_t0, isThing_m h hw, ht, bd_s, if_neg bI_t0, np_m h, if_neg (by rw [li_0, eqI (by omega) (by omega)]; omega), show (0 : Int32) = nI 0 from rfl, e1, bd_s, r1'.2.1.2.2.2, upBy_eq hB1 (by omega) r1, bd_s]
theorem tlv_le {lv top : Nat → Nat} {n i : Nat} (h1 : lv i ≤ 9) (h2 : top i ≤ 9) : tlv lv top n i ≤ 9 := by unfold tlv; split <;> omega
theorem ag_master (hw : WC c) (y : Int32) : Ag c (fX6_master y) (fX7_master y) := by
  cases ht : inB y (nt (xK c)) with
  | false =>
    exact ⟨-1000001, c, hw, fun S h => ⟨S, by rw [fX6_master, isThing_c h hw, ht, bd_s, if_pos bI_f0], h⟩, fun S h => ⟨S, by rw [fX7_master, isThing_m h hw, ht, bd_s, if_pos bI_f0], h⟩, rfl⟩
  | true =>
    obtain ⟨t, h1, h2, rfl⟩ := inB_get ht
    have k2 := hw.1.2.1
    by_cases hn : np (xK c) = 0
    · refine ⟨-1000003, c, hw, fun S h => ⟨S, ?_, h⟩, fun S h => ⟨S, ?_, h⟩, rfl⟩
      · rw [fX6_master, isThing_c h hw, ht, bd_s, if_neg bI_t0, gd_t (told_is h), np_c h, hn, if_neg (by decide)]
      · rw [fX7_master, isThing_m h hw, ht, bd_s, if_neg bI_t0, np_m h, hn, if_pos (by decide)]
    · refine ⟨nI (tct (fun q => dl (xS c) q t) (fun q => tpv (xK c) (dl (xS c)) 0 q t) (np (xK c)) (np (xK c))), setS c (lset (dl (xS c)) t (tlv (fun q => dl (xS c) q t) (fun q => tpv (xK c) (dl (xS c)) 0 q t) (np (xK c))), dG (xS c), dS (xS c), dT (xS c)), WC_set hw (lset_WS hw.2.1 (fun p hp => tlv_le (hw.2.1.1 p t hp h1) (tpv_le _ _ _ _ _)) hw.2.1.2.1), fun S h => ?_, fun S h => ?_, rfl⟩
      · obtain ⟨S1, e1, r1, hB1, -, hw1⟩ := sitAll_c h hw h1
        obtain ⟨S2, e2, hB2⟩ := tell_eq hB1 (by omega)
        have u2 := wX0_tell e2
        obtain ⟨S3, e3, r3⟩ := leave_c (u2.okC r1 (by decide)) hw hB2 (fun i hi => by rw [u2.n 26 i (by simp) (by simp)]; exact hw1 i hi) h1
        refine ⟨S3, ?_, r3⟩
        rw [fX6_master, isThing_c h hw, ht, bd_s, if_neg bI_t0, gd_t (told_is h), np_c h, if_pos (by rw [li_1, leI (by omega) (by omega)]; omega), e1, bd_s, e2, bd_s, e3, bd_s]
      · obtain ⟨S1, e1, r1, hB1⟩ := take_m h hw h1
        obtain ⟨S2, e2, hB2⟩ := tellNow_eq hB1 (by omega)
        have u2 := wX7_tellNow e2
        have r2 := u2.okM r1 (by decide)
        obtain ⟨S3, e3, r3⟩ := put_m r2 hw hB2 r2.2.1.1 h1
        refine ⟨S3, ?_, r3⟩
        rw [fX7_master, isThing_m h hw, ht, bd_s, if_neg bI_t0, np_m h, if_neg (by rw [li_0, eqI (by omega) (by omega)]; omega), show (0 : Int32) = nI 0 from rfl, e1, bd_s, e2, bd_s, e3, bd_s]
/-- levels behind k tellings -/
def tlk (lv top : Nat → Nat) (n : Nat) : Nat → Nat → Nat
  | 0 => lv
  | k + 1 => tlv (tlk lv top n k) top n
def tkn (lv top : Nat → Nat) (n k : Nat) : Bool := decide (kn (tlk lv top n k) n = n)
theorem mastered_c {S : St} {n sd : Nat} {lv top qk bl pr : Nat → Nat} {g : Bool} (hB : Bn S n lv top qk bl pr g sd) (hn : 0 < n) : ∃ S', FX6_mastered_32 FU 0 S = some (fk (tkn lv top n) 301 0, S') :=
  loopFU (fun fu (s : Int32 × St) => FX6_mastered_32 fu s.1 s.2) (fun j s => ∃ S1, s = (nI j, S1) ∧ Bn S1 n (tlk lv top n j) top qk bl pr g sd ∧ fk (tkn lv top n) (301 - j) j = fk (tkn lv top n) 301 0) (fun r => ∃ S', r = some (fk (tkn lv top n) 301 0, S')) 301 (FU_lt (by omega))
    (by
      intro j fu s hj ⟨S1, e, hB1, hk⟩
      subst e
      have hkl := kn_le (tlk lv top n j) n
      have h6 := hB1.2.1
      dsimp only
      rw [FX6_mastered_32, if_neg (by rw [li_300, ltI (by omega) (by omega)]; omega), knowing_eq hB1, bd_s, hB1.1]
      rw [show 301 - j = (301 - (j + 1)) + 1 by omega, fk] at hk
      by_cases hkn : kn (tlk lv top n j) n = n
      · right
        rw [if_pos (by rw [hkn])]
        rw [if_pos (show tkn lv top n j = true from decide_eq_true hkn)] at hk
        exact ⟨S1, by rw [hk]⟩
      · left
        rw [if_neg (by unfold tkn; simp [hkn])] at hk
        obtain ⟨S2, e2, hB2⟩ := tell_eq hB1 hn
        refine ⟨(nI (j + 1), S2), ?_, S2, rfl, hB2, hk⟩
        rw [if_neg (by rw [eqI (by omega) (by omega)]; exact hkn), e2, bd_s]
        simp only [li_1, nI_add])
    (by
      intro fu s ⟨S1, e, hB1, hk⟩
      subst e
      refine ⟨S1, ?_⟩
      dsimp only
      rw [FX6_mastered_32, if_pos (by decide), ← hk]
      rfl)
    (nI 0, S) ⟨S, rfl, hB, rfl⟩
theorem mastered_m {S : St} {n sd : Nat} {lv top qk bl pr : Nat → Nat} (hB : Mn S n lv top qk bl pr sd) (hn : 0 < n) : ∃ S', FX7_mastered_30 FU 0 S = some (fk (tkn lv top n) 301 0, S') :=
  loopFU (fun fu (s : Int32 × St) => FX7_mastered_30 fu s.1 s.2) (fun j s => ∃ S1, s = (nI j, S1) ∧ Mn S1 n (tlk lv top n j) top qk bl pr sd ∧ fk (tkn lv top n) (301 - j) j = fk (tkn lv top n) 301 0) (fun r => ∃ S', r = some (fk (tkn lv top n) 301 0, S')) 301 (FU_lt (by omega))
    (by
      intro j fu s hj ⟨S1, e, hB1, hk⟩
      subst e
      have hkl := kn_le (tlk lv top n j) n
      have h6 := hB1.2.1
      dsimp only
      rw [FX7_mastered_30, if_neg (by rw [li_300, ltI (by omega) (by omega)]; omega), knownNow_eq hB1, bd_s, hB1.1]
      rw [show 301 - j = (301 - (j + 1)) + 1 by omega, fk] at hk
      by_cases hkn : kn (tlk lv top n j) n = n
      · right
        rw [if_pos (by rw [hkn])]
        rw [if_pos (show tkn lv top n j = true from decide_eq_true hkn)] at hk
        exact ⟨S1, by rw [hk]⟩
      · left
        rw [if_neg (by unfold tkn; simp [hkn])] at hk
        obtain ⟨S2, e2, hB2⟩ := tellNow_eq hB1 hn
        refine ⟨(nI (j + 1), S2), ?_, S2, rfl, hB2, hk⟩
        rw [if_neg (by rw [eqI (by omega) (by omega)]; exact hkn), e2, bd_s]
        simp only [li_1, nI_add])
    (by
      intro fu s ⟨S1, e, hB1, hk⟩
      subst e
      refine ⟨S1, ?_⟩
      dsimp only
      rw [FX7_mastered_30, if_pos (by decide), ← hk]
      rfl)
    (nI 0, S) ⟨S, rfl, hB, rfl⟩
theorem ag_mastered (hw : WC c) (y : Int32) : Ag c (fX6_mastered y) (fX7_mastered y) := by
  cases ht : inB y (nt (xK c)) with
  | false =>
    exact ⟨-1000001, c, hw, fun S h => ⟨S, by rw [fX6_mastered, isThing_c h hw, ht, bd_s, if_pos bI_f0], h⟩, fun S h => ⟨S, by rw [fX7_mastered, isThing_m h hw, ht, bd_s, if_pos bI_f0], h⟩, rfl⟩
  | true =>
    obtain ⟨t, h1, h2, rfl⟩ := inB_get ht
    have k2 := hw.1.2.1
    by_cases hn : np (xK c) = 0
    · refine ⟨-1000003, c, hw, fun S h => ⟨S, ?_, h⟩, fun S h => ⟨S, ?_, h⟩, rfl⟩
      · rw [fX6_mastered, isThing_c h hw, ht, bd_s, if_neg bI_t0, gd_t (told_is h), np_c h, hn, if_neg (by decide)]
      · rw [fX7_mastered, isThing_m h hw, ht, bd_s, if_neg bI_t0, np_m h, hn, if_pos (by decide)]
    · refine ⟨fk (tkn (fun q => dl (xS c) q t) (fun q => tpv (xK c) (dl (xS c)) 0 q t) (np (xK c))) 301 0, c, hw, fun S h => ?_, fun S h => ?_, rfl⟩
      · obtain ⟨S1, e1, r1, hB1, -, hw1⟩ := sitAll_c h hw h1
        obtain ⟨S2, e2⟩ := mastered_c hB1 (by omega)
        have e : fX6_mastered (nI t) S = some (fk (tkn (fun q => dl (xS c) q t) (fun q => tpv (xK c) (dl (xS c)) 0 q t) (np (xK c))) 301 0, S2) := by
          rw [fX6_mastered, isThing_c h hw, ht, bd_s, if_neg bI_t0, gd_t (told_is h), np_c h, if_pos (by rw [li_1, leI (by omega) (by omega)]; omega), e1, bd_s, e2]
        exact ⟨S2, e, (wX6_mastered e).okC h (by decide)⟩
      · obtain ⟨S1, e1, r1, hB1⟩ := take_m h hw h1
        obtain ⟨S2, e2⟩ := mastered_m hB1 (by omega)
        have e : fX7_mastered (nI t) S = some (fk (tkn (fun q => dl (xS c) q t) (fun q => tpv (xK c) (dl (xS c)) 0 q t) (np (xK c))) 301 0, S2) := by
          rw [fX7_mastered, isThing_m h hw, ht, bd_s, if_neg bI_t0, np_m h, if_neg (by rw [li_0, eqI (by omega) (by omega)]; omega)]
          simp only [li_0] at e2 ⊢
          rw [e1, bd_s, e2]
        exact ⟨S2, e, (wX7_mastered e).okM h (by decide)⟩
end
