/-! ===== run, judge ===== -/
theorem RC_turn {S : St} {c : Cx} {s : Sd} (h : RC S (setS c s)) (tu : Nat) : RC (sN S 15 3 (nI tu)) (setS c (dl s, dG s, dS s, tu)) :=
  RC_set (c := setS c s) (s := (dl s, dG s, dS s, tu)) (S := S) (S' := sN S 15 3 (nI tu)) h rfl rfl h.2.1 (fun cc jj q => by rw [gN_sN_c (by omega)]) ⟨fun p t hp ht => by rw [gN_sN_c (by omega)]; exact h.2.2.2.1.1 p t hp ht, by rw [gN_sN_j (by omega)]; exact h.2.2.2.1.2.1, by rw [gN_sN_j (by omega)]; exact h.2.2.2.1.2.2.1, gN_sN_s⟩
theorem RM_turn {S : St} {c : Cx} {s : Sd} (h : RM S (setS c s)) (tu : Nat) : RM (sN S 44 6 (nI tu)) (setS c (dl s, dG s, dS s, tu)) :=
  RM_set (c := setS c s) (s := (dl s, dG s, dS s, tu)) (S := S) (S' := sN S 44 6 (nI tu)) h (fun cc jj q => by
    by_cases hcc : cc = 44
    · subst hcc; rw [gN_sN_j (by omega)]
    · rw [gN_sN_c hcc]) ⟨fun p t hp ht => by rw [gN_sN_c (by omega)]; exact h.2.1.1 p t hp ht, by rw [gN_sN_j (by omega)]; exact h.2.1.2.1, by rw [gN_sN_j (by omega)]; exact h.2.1.2.2.1, gN_sN_s⟩
theorem RM_teach {S S' : St} {c : Cx} {s : Sd} {sd : Nat} (h : RM S (setS c s)) (u2 : Un [(44, 23), (52, 99), (54, 99)] [] [] S S') (hs : gN S' 44 23 = nI sd) : RM S' (setS c (dl s, dG s, sd, dT s)) :=
  RM_set (c := setS c s) (s := (dl s, dG s, sd, dT s)) h (fun cc jj q => u2.n cc jj (by simp; omega) (by simp; omega)) ⟨fun p t hp ht => by rw [u2.n 47 _ (by simp) (by simp)]; exact h.2.1.1 p t hp ht, by rw [u2.n 44 5 (by simp) (by simp)]; exact h.2.1.2.1, hs, by rw [u2.n 44 6 (by simp) (by simp)]; exact h.2.1.2.2.2⟩
def rt (rule T n j : Nat) : Nat := if rule = 1 then (T + j) % n else T
/-- levels and seed behind k lessons by a rule -/
def rls (n : Nat) (top qk bl pr : Nat → Nat) (g dw : Bool) (rule T : Nat) (x : (Nat → Nat) × Nat) : Nat → (Nat → Nat) × Nat
  | 0 => x
  | k + 1 => (lesLv n (fun _ => true) (rls n top qk bl pr g dw rule T x k).1 top qk bl pr g (chz (rls n top qk bl pr g dw rule T x k).1 n rule (rt rule T n k)) dw (rls n top qk bl pr g dw rule T x k).2, lesSd n (fun _ => true) (rls n top qk bl pr g dw rule T x k).1 bl pr g (chz (rls n top qk bl pr g dw rule T x k).1 n rule (rt rule T n k)) dw (rls n top qk bl pr g dw rule T x k).2)
theorem rls_ok {n : Nat} {top qk bl pr : Nat → Nat} {g dw : Bool} {rule T : Nat} {x : (Nat → Nat) × Nat} (h1 : ∀ i, i < n → x.1 i ≤ 9) (h2 : x.2 < 2147483648) (h3 : ∀ i, i < n → top i ≤ 9) : ∀ k, (∀ i, i < n → (rls n top qk bl pr g dw rule T x k).1 i ≤ 9) ∧ (rls n top qk bl pr g dw rule T x k).2 < 2147483648 := by
  intro k
  induction k with
  | zero => exact ⟨h1, h2⟩
  | succ k ih => exact ⟨fun i hi => lesLv_le (ih.1 i hi) (h3 i hi), lesSd_lt ih.2⟩
theorem rt_lt {rule T n j : Nat} (h : T < n) : rt rule T n j < n := by
  unfold rt; split
  · exact Nat.mod_lt _ (by omega)
  · exact h
theorem rt_0 {rule T n : Nat} (h : T < n) : rt rule T n 0 = T := by
  unfold rt; split
  · rw [Nat.add_zero, Nat.mod_eq_of_lt h]
  · rfl
section
variable {c : Cx}
/-- what a run leaves -/
def rX (c : Cx) (rule t : Nat) (dw : Bool) (m : Nat) : (Nat → Nat) × Nat := rls (np (xK c)) (fun q => tpv (xK c) (dl (xS c)) 0 q t) (kq (xK c)) (kb (xK c)) (kp (xK c)) (dG (xS c)) dw rule (dT (xS c)) (fun q => dl (xS c) q t, dS (xS c)) m
def rS (c : Cx) (rule t : Nat) (dw : Bool) (m : Nat) : Sd := (lset (dl (xS c)) t (rX c rule t dw m).1, dG (xS c), (rX c rule t dw m).2, rt rule (dT (xS c)) (np (xK c)) m)
theorem run_c {S : St} (hw : WC c) {rule t m : Nat} {dw : Bool} (hr : rule < 3) (ht : t < nt (xK c)) (hm : m ≤ 99) (hT : dT (xS c) < np (xK c)) (h : RC S c) (hB : Bn S (np (xK c)) (fun p => dl (xS c) p t) (fun p => tpv (xK c) (dl (xS c)) 0 p t) (kq (xK c)) (kb (xK c)) (kp (xK c)) (dG (xS c)) (dS (xS c))) (hwho : ∀ i, i < np (xK c) → gN S 26 i = nI i) :
    ∃ S', FX6_run_55 FU (nI rule) (nI t) (nI m) (bI dw) 0 S = some (nI (kn (rX c rule t dw m).1 (np (xK c))), S') ∧ RC S' (setS c (rS c rule t dw m)) :=
  loopFU (fun fu (s : Int32 × St) => FX6_run_55 fu (nI rule) (nI t) (nI m) (bI dw) s.1 s.2) (fun j s => ∃ S1, s = (nI j, S1) ∧ Bn S1 (np (xK c)) (rX c rule t dw j).1 (fun p => tpv (xK c) (dl (xS c)) 0 p t) (kq (xK c)) (kb (xK c)) (kp (xK c)) (dG (xS c)) (rX c rule t dw j).2 ∧ (∀ i, i < np (xK c) → gN S1 26 i = nI i) ∧ RC S1 (setS c (dl (xS c), dG (xS c), dS (xS c), rt rule (dT (xS c)) (np (xK c)) j))) (fun r => ∃ S', r = some (nI (kn (rX c rule t dw m).1 (np (xK c))), S') ∧ RC S' (setS c (rS c rule t dw m))) m (FU_lt (by omega))
    (by
      intro j fu s hj ⟨S1, e, hB1, hw1, h1⟩
      subst e
      have h6 := hB1.2.1
      have htj := rt_lt (rule := rule) (j := j) hT
      have htu : gN S1 15 3 = nI (rt rule (dT (xS c)) (np (xK c)) j) := h1.2.2.2.1.2.2.2
      obtain ⟨S2, e2, hB2⟩ := hold_eq hB1 (one := chz (rX c rule t dw j).1 (np (xK c)) rule (rt rule (dT (xS c)) (np (xK c)) j)) (dw := dw) (chz_lt htj)
      have u2 := wX0_hold e2
      have h2 := u2.okC h1 (by decide)
      have hw2 : ∀ i, i < np (xK c) → gN S2 26 i = nI i := fun i hi => by rw [u2.n 26 i (by simp) (by simp)]; exact hw1 i hi
      have htu2 : gN S2 15 3 = nI (rt rule (dT (xS c)) (np (xK c)) j) := h2.2.2.2.1.2.2.2
      have e0 : FX6_run_55 (fu + 1) (nI rule) (nI t) (nI m) (bI dw) (nI j) S1 = if nI rule = 1 then (bd (fX0_after (nI (rt rule (dT (xS c)) (np (xK c)) j)) S2) fun r37 S38 => FX6_run_55 fu (nI rule) (nI t) (nI m) (bI dw) (nI (j + 1)) (sN S38 15 3 r37)) else FX6_run_55 fu (nI rule) (nI t) (nI m) (bI dw) (nI (j + 1)) S2 := by
        rw [FX6_run_55, if_neg (by rw [leI (by omega) (by omega)]; omega), htu, chosen_eq hB1 hr, bd_s, e2, bd_s, htu2]
        simp only [FX6_run_112, nI_1]
      left
      by_cases h1' : rule = 1
      · subst h1'
        refine ⟨(nI (j + 1), sN S2 15 3 (nI (rt 1 (dT (xS c)) (np (xK c)) (j + 1)))), ?_, _, rfl, Bn_of hB2 (fun cc jj a b => by rw [gN_sN_c (by omega)]), fun i hi => by rw [gN_sN_c (by omega)]; exact hw2 i hi, RC_turn h2 _⟩
        dsimp only
        rw [e0, if_pos (by decide), after_eq hB2 htj, bd_s]
        congr 3
        simp only [rt, if_true]
        rw [Nat.mod_add_mod, Nat.add_assoc]
      · refine ⟨(nI (j + 1), S2), ?_, _, rfl, hB2, hw2, ?_⟩
        · dsimp only
          rw [e0, if_neg (by rw [li_1, eqI (by omega) (by omega)]; exact h1')]
        · have : rt rule (dT (xS c)) (np (xK c)) (j + 1) = rt rule (dT (xS c)) (np (xK c)) j := by simp [rt, h1']
          rw [this]; exact h2)
    (by
      intro fu s ⟨S1, e, hB1, hw1, h1⟩
      subst e
      obtain ⟨S3, e3, r3⟩ := leave_c h1 (WC_set hw ⟨hw.2.1.1, hw.2.1.2.1, Or.inl (rt_lt hT)⟩) hB1 hw1 ht
      have hB3 := Bn_of hB1 (S' := S3) (fun cc jj a b => (wX0_leave e3).n cc jj (by simp; omega) (by simp; omega))
      refine ⟨S3, ?_, r3⟩
      dsimp only
      rw [FX6_run_55, if_pos (Int32.le_refl _), e3, bd_s, knowing_eq hB3, bd_s])
    (nI 0, S) ⟨S, rfl, hB, hwho, by rw [rt_0 hT]; exact h⟩
theorem run_m {S : St} (hw : WC c) {rule t m : Nat} {dw : Bool} (hr : rule < 3) (ht : t < nt (xK c)) (hm : m ≤ 99) (hT : dT (xS c) < np (xK c)) (h : RM S c) (hB : Mn S (np (xK c)) (fun p => dl (xS c) p t) (fun p => tpv (xK c) (dl (xS c)) 0 p t) (kq (xK c)) (kb (xK c)) (kp (xK c)) (dS (xS c))) :
    ∃ S', FX7_run_53 FU (nI rule) (nI t) (nI m) (bI dw) 0 S = some (nI (kn (rX c rule t dw m).1 (np (xK c))), S') ∧ RM S' (setS c (rS c rule t dw m)) :=
  loopFU (fun fu (s : Int32 × St) => FX7_run_53 fu (nI rule) (nI t) (nI m) (bI dw) s.1 s.2) (fun j s => ∃ S1, s = (nI j, S1) ∧ Mn S1 (np (xK c)) (rX c rule t dw j).1 (fun p => tpv (xK c) (dl (xS c)) 0 p t) (kq (xK c)) (kb (xK c)) (kp (xK c)) (rX c rule t dw j).2 ∧ RM S1 (setS c (dl (xS c), dG (xS c), (rX c rule t dw j).2, rt rule (dT (xS c)) (np (xK c)) j))) (fun r => ∃ S', r = some (nI (kn (rX c rule t dw m).1 (np (xK c))), S') ∧ RM S' (setS c (rS c rule t dw m))) m (FU_lt (by omega))
    (by
      intro j fu s hj ⟨S1, e, hB1, h1⟩
      subst e
      have h6 := hB1.2.1
      have htj := rt_lt (rule := rule) (j := j) hT
      have htu : gN S1 44 6 = nI (rt rule (dT (xS c)) (np (xK c)) j) := h1.2.1.2.2.2
      have hg1 : gN S1 44 5 = bI (dG (xS c)) := h1.2.1.2.1
      obtain ⟨S2, e2, hB2⟩ := teachAll_eq hB1 (one := chz (rX c rule t dw j).1 (np (xK c)) rule (rt rule (dT (xS c)) (np (xK c)) j)) (g := dG (xS c)) (dw := dw) (chz_lt htj)
      have u2 := wX7_teach e2
      have h2 := RM_teach h1 u2 hB2.2.2.1
      have htu2 : gN S2 44 6 = nI (rt rule (dT (xS c)) (np (xK c)) j) := h2.2.1.2.2.2
      have e0 : FX7_run_53 (fu + 1) (nI rule) (nI t) (nI m) (bI dw) (nI j) S1 = if nI rule = 1 then FX7_run_53 fu (nI rule) (nI t) (nI m) (bI dw) (nI (j + 1)) (sN S2 44 6 (nI ((rt rule (dT (xS c)) (np (xK c)) j + 1) % np (xK c)))) else FX7_run_53 fu (nI rule) (nI t) (nI m) (bI dw) (nI (j + 1)) (sN S2 44 6 (nI (rt rule (dT (xS c)) (np (xK c)) j))) := by
        rw [FX7_run_53, if_neg (by rw [leI (by omega) (by omega)]; omega), htu, upBy_eq hB1 (by omega) hr, bd_s, everybody_eq hB1.1 hB1.2.1, bd_s, hg1, e2, bd_s, htu2, hB2.1, gd_t (nz_n (by omega) (by omega))]
        simp only [FX7_run_108, nI_1]
        rw [rem_n (by omega) (by omega) (by omega)]
      left
      refine ⟨(nI (j + 1), sN S2 44 6 (nI (rt rule (dT (xS c)) (np (xK c)) (j + 1)))), ?_, _, rfl, Mn_of hB2 (by rw [gN_sN_j (by omega)]) (by rw [gN_sN_j (by omega)]) (fun cc jj a => by rw [gN_sN_c (by omega)]), RM_turn h2 _⟩
      dsimp only
      rw [e0]
      by_cases h1' : rule = 1
      · subst h1'
        rw [if_pos (by decide)]
        simp only [rt, if_true]
        rw [Nat.mod_add_mod, Nat.add_assoc]
      · rw [if_neg (by rw [li_1, eqI (by omega) (by omega)]; exact h1')]
        simp only [rt, h1', if_false])
    (by
      intro fu s ⟨S1, e, hB1, h1⟩
      subst e
      have hok := rls_ok (n := np (xK c)) (top := fun q => tpv (xK c) (dl (xS c)) 0 q t) (qk := kq (xK c)) (bl := kb (xK c)) (pr := kp (xK c)) (g := dG (xS c)) (dw := dw) (rule := rule) (T := dT (xS c)) (x := (fun q => dl (xS c) q t, dS (xS c))) (fun i hi => hw.2.1.1 i t hi ht) hw.2.1.2.1 (fun i _ => tpv_le _ _ _ _ _) m
      obtain ⟨S3, e3, r3⟩ := put_m h1 (WC_set hw ⟨hw.2.1.1, hok.2, Or.inl (rt_lt hT)⟩) hB1 h1.2.1.1 ht
      have u3 := wX7_put e3
      have hB3 := Mn_of hB1 (S' := S3) (u3.n 44 1 (by simp) (by simp)) (u3.n 44 23 (by simp) (by simp)) (fun cc jj a => u3.n cc jj (by simp; omega) (by simp; omega))
      refine ⟨S3, ?_, r3⟩
      dsimp only
      rw [FX7_run_53, if_pos (Int32.le_refl _), e3, bd_s, knownNow_eq hB3, bd_s])
    (nI 0, S) ⟨S, rfl, hB, by rw [rt_0 hT]; exact h⟩
theorem ag_run (hw : WC c) (x y u : Int32) (b : Bool) : Ag c (fX6_run x y u (bI b)) (fX7_run x y u (bI b)) := by
  cases hr : inB x 3 with
  | false =>
    exact ⟨-1000001, c, hw, fun S h => ⟨S, by rw [fX6_run, isRule_c, hr, bd_s, if_pos bI_f0]; rfl, h⟩, fun S h => ⟨S, by rw [fX7_run, isRule_m, hr, bd_s, if_pos bI_f0]; rfl, h⟩, rfl⟩
  | true =>
  cases ht : inB y (nt (xK c)) with
  | false =>
    exact ⟨-1000001, c, hw, fun S h => ⟨S, by rw [fX6_run, isRule_c, hr, bd_s, if_neg bI_t0, isThing_c h hw, ht, bd_s, if_pos bI_f0]; rfl, h⟩, fun S h => ⟨S, by rw [fX7_run, isRule_m, hr, bd_s, if_neg bI_t0, isThing_m h hw, ht, bd_s, if_pos bI_f0]; rfl, h⟩, rfl⟩
  | true =>
    obtain ⟨rule, r1, r2, rfl⟩ := inB_get hr
    obtain ⟨t, h1, h2, rfl⟩ := inB_get ht
    have k2 := hw.1.2.1
    have ec : ∀ S, RC S c → fX6_run (nI rule) (nI t) u (bI b) S = if u < nI 1 then FX6_run_30 S else if u ≤ nI 99 then (if nI 1 ≤ nI (np (xK c)) then (bd (fX6_sitAll (nI t) S) fun _ S16 => FX6_run_55 FU (nI rule) (nI t) u (bI b) 0 S16) else some (-1000003, S)) else FX6_run_30 S := fun S h => by
      rw [fX6_run, isRule_c, hr, bd_s, if_neg bI_t0, isThing_c h hw, ht, bd_s, if_neg bI_t0, gd_t (told_is h), np_c h]
      rfl
    have em : ∀ S, RM S c → fX7_run (nI rule) (nI t) u (bI b) S = if decide (nI 1 ≤ u ∧ u ≤ nI 99) = false then some (-1000002, S) else (if nI (np (xK c)) = nI 0 then some (-1000003, S) else (bd (fX7_take (nI t) (nI 0) S) fun _ S18 => FX7_run_53 FU (nI rule) (nI t) u (bI b) (nI 0) S18)) := fun S h => by
      rw [fX7_run, isRule_m, hr, bd_s, if_neg bI_t0, isThing_m h hw, ht, bd_s, if_neg bI_t0, show (1 : Int64) = lN 1 from rfl, show (99 : Int64) = lN 99 from rfl, in_nat (by decide) (by decide), bd_s, np_m h]
      simp only [li_0, bI_0]
      rfl
    by_cases hv : nI 1 ≤ u ∧ u ≤ nI 99
    · obtain ⟨m, m1, m2, rfl⟩ := rng_get (by decide) (by decide) hv
      by_cases hn : np (xK c) = 0
      · refine ⟨-1000003, c, hw, fun S h => ⟨S, ?_, h⟩, fun S h => ⟨S, ?_, h⟩, rfl⟩
        · rw [ec S h, if_neg (Int32.not_lt.mpr hv.1), if_pos hv.2, hn, if_neg (by decide)]
        · rw [em S h, if_neg (by simp [hv]), hn, if_pos rfl]
      · have hT := dT_lt hw hn
        have hok := rls_ok (n := np (xK c)) (top := fun q => tpv (xK c) (dl (xS c)) 0 q t) (qk := kq (xK c)) (bl := kb (xK c)) (pr := kp (xK c)) (g := dG (xS c)) (dw := b) (rule := rule) (T := dT (xS c)) (x := (fun q => dl (xS c) q t, dS (xS c))) (fun i hi => hw.2.1.1 i t hi h1) hw.2.1.2.1 (fun i _ => tpv_le _ _ _ _ _) m
        refine ⟨nI (kn (rX c rule t b m).1 (np (xK c))), setS c (rS c rule t b m), WC_set hw ⟨(lset_WS hw.2.1 (fun p hp => hok.1 p hp) hok.2).1, hok.2, Or.inl (rt_lt hT)⟩, fun S h => ?_, fun S h => ?_, rfl⟩
        · obtain ⟨S1, e1, r1', hB1, -, hw1⟩ := sitAll_c h hw h1
          obtain ⟨S2, e2, r2⟩ := run_c hw r1 h1 m2 hT r1' hB1 hw1 (dw := b)
          refine ⟨S2, ?_, r2⟩
          rw [ec S h, if_neg (Int32.not_lt.mpr hv.1), if_pos hv.2, if_pos (by rw [leI (by omega) (by omega)]; omega), e1, bd_s, e2]
        · obtain ⟨S1, e1, r1', hB1⟩ := take_m h hw h1
          obtain ⟨S2, e2, r2⟩ := run_m hw r1 h1 m2 hT r1' hB1 (dw := b)
          refine ⟨S2, ?_, r2⟩
          rw [em S h, if_neg (by simp [hv]), if_neg (by rw [eqI (by omega) (by omega)]; omega), e1, bd_s]
          exact e2
    · refine ⟨-1000002, c, hw, fun S h => ⟨S, ?_, h⟩, fun S h => ⟨S, ?_, h⟩, rfl⟩
      · rw [ec S h]
        by_cases h1 : nI 1 ≤ u
        · rw [if_neg (Int32.not_lt.mpr h1), if_neg (fun q => hv ⟨h1, q⟩)]; rfl
        · rw [if_pos (out_lo h1)]; rfl
      · rw [em S h, if_pos (decide_eq_false hv)]
end
