/-! ===== odds in the reference: where it comes, lists, parts ===== -/
def rvn (n x : Nat) : Nat := mcm (2 ^ n - 1) (dg x) n
def cyn (n y : Nat) : Nat := hc (stv (2 ^ n - 1) n y) n 0
section
variable {n : Nat}
theorem cnf : cn (2 ^ n - 1) n = n := cn_full n (Nat.le_refl _)
theorem rvn_lt {x : Nat} : rvn n x < 10 ^ n := by
  have := mcm_lt (mask := 2 ^ n - 1) (lv := dg x) n (fun i _ => dg_le _ _)
  rwa [cnf] at this
theorem cyn_lt {y : Nat} : cyn n y < 10 ^ n := hc_lt n 0 (fun i _ _ => stv_le)
theorem cyn_rvn {x : Nat} (hx : x < 10 ^ n) : cyn n (rvn n x) = x := by
  have : hc (stv (2 ^ n - 1) n (rvn n x)) n 0 = hc (dg x) n 0 := hc_congr n 0 (fun i _ hi => stv_mcm (fun i _ => dg_le _ _) (by omega) (bt1_full (by omega)))
  rw [cyn, this, hc_dg0 hx]
theorem dg_cyn {y i : Nat} (hi : i < n) : dg (cyn n y) i = stv (2 ^ n - 1) n y i := by
  unfold cyn; rw [dg_hc n 0 i (fun j _ _ => stv_le) hi, Nat.zero_add]
theorem rvn_cyn {y : Nat} (hy : y < 10 ^ n) : rvn n (cyn n y) = y := by
  have : mcm (2 ^ n - 1) (dg (cyn n y)) n = mcm (2 ^ n - 1) (stv (2 ^ n - 1) n y) n := mcm_congr n (fun i hi _ => dg_cyn hi)
  rw [rvn, this, mcm_stv (by rw [cnf]; exact hy)]
theorem rvn_hc {w : Nat → Nat} (h : ∀ i, i < n → w i ≤ 9) : mcm (2 ^ n - 1) w n = rvn n (hc w n 0) := mcm_congr n (fun i hi _ => by
  have := dg_hc (lv := w) n 0 i (fun j _ hj => h j (by omega)) hi
  rw [this, Nat.zero_add])
theorem rvn_inj {x x' : Nat} (hx : x < 10 ^ n) (hx' : x' < 10 ^ n) (h : rvn n x = rvn n x') : x = x' := by rw [← cyn_rvn hx, h, cyn_rvn hx']
end
/-- odds by their codes in a row of the reference -/
def AMc (S : St) (cell n : Nat) (A : Nat → Nat) : Prop := (∀ x, x < 10 ^ n → gJ S cell (rvn n x) = lN (A x)) ∧ ∀ y, 10 ^ n ≤ y → y < 1000 → gJ S cell y = lN 0
theorem AMc_of {S S' : St} {cell n : Nat} {A : Nat → Nat} (h : AMc S cell n A) (h0 : ∀ j, gJ S' cell j = gJ S cell j) : AMc S' cell n A := ⟨fun x hx => (h0 _).trans (h.1 x hx), fun y a b => (h0 _).trans (h.2 y a b)⟩
theorem AMc_congr {S : St} {cell n : Nat} {A B : Nat → Nat} (h : AMc S cell n A) (h0 : ∀ x, A x = B x) : AMc S cell n B := ⟨fun x hx => by rw [← h0]; exact h.1 x hx, h.2⟩
section
variable {S0 S : St} {n : Nat} {v top qk bl pr th : Nat → Nat} {g : Bool} {sd : Nat} {A : Nat → Nat}
/-- a lesson's odds under way in the reference -/
def oMW (S0 S : St) (n : Nat) (v top qk bl pr : Nat → Nat) (g : Bool) (sd : Nat) (A : Nat → Nat) : Prop := Mn S n v top qk bl pr sd ∧ AMc S 62 n A ∧ gN S 44 5 = bI g ∧ ∀ j, gJ S 61 j = gJ S0 61 j
theorem oMW_congr {B : Nat → Nat} (h : oMW S0 S n v top qk bl pr g sd A) (h0 : ∀ x, A x = B x) : oMW S0 S n v top qk bl pr g sd B := ⟨h.1, AMc_congr h.2.1 h0, h.2.2⟩
def mfr (x : Nat × Nat) : Bool := decide (x.1 ≠ 46) && decide (x.1 ≠ 52) && decide (x.1 ≠ 53) && (decide (x.1 ≠ 44) || decide (x.2 ∉ [1, 5, 23, 99]))
theorem oMW_fr {la lc : List (Nat × Nat)} {S' : St} (h : oMW S0 S n v top qk bl pr g sd A) (hu : Un la [] lc S S') (hl : ∀ x ∈ la, mfr x = true) : oMW S0 S' n v top qk bl pr g sd A := by
  have no : ∀ a b, ((a = 46 ∨ a = 52 ∨ a = 53) ∨ (a = 44 ∧ (b = 1 ∨ b = 5 ∨ b = 23 ∨ b = 99))) → (a, b) ∉ la := fun a b q m => by
    have := hl _ m
    simp only [mfr, Bool.and_eq_true, Bool.or_eq_true, decide_eq_true_eq, List.mem_cons, List.not_mem_nil, or_false] at this
    omega
  exact ⟨Mn_of h.1 (hu.n _ _ (no _ _ (by omega)) (no _ _ (by omega))) (hu.n _ _ (no _ _ (by omega)) (no _ _ (by omega))) (fun cc jj q => hu.n _ _ (no _ _ (by omega)) (no _ _ (by omega))), AMc_of h.2.1 (fun j => hu.j _ _ (by simp) (by simp)), (hu.n _ _ (no _ _ (by omega)) (no _ _ (by omega))).trans h.2.2.1, fun j => (hu.j _ _ (by simp) (by simp)).trans (h.2.2.2 j)⟩
theorem come_eq {b : Nat} (hn : n ≤ 3) (h : oMW S0 S n v top qk bl pr g sd A) (hT : Th S n th) : ∃ S', fX7_come (lN b) S = some ((), S') ∧ oMW S0 S' n v top qk bl pr g sd (ad A (hc th n 0) b) ∧ Th S' n th ∧ (∀ cc jj, gN S' cc jj = gN S cc jj) := by
  have h1000 := p10_3 hn
  have h9 : ∀ i, i < n → th i ≤ 9 := fun i hi => (hT i hi).2
  have hl : mcm (2 ^ n - 1) th n < 10 ^ n := by
    have := mcm_lt (mask := 2 ^ n - 1) (lv := th) n h9
    rwa [cnf] at this
  have hcl : hc th n 0 < 10 ^ n := hc_lt n 0 (fun j _ hj => h9 j (by omega))
  refine ⟨sJ S 62 (mcm (2 ^ n - 1) th n) (gJ S 62 (mcm (2 ^ n - 1) th n) + lN b), ?_, ⟨Mn_of h.1 rfl rfl (fun _ _ _ => rfl), ⟨fun x hx => ?_, fun y a b => ?_⟩, h.2.2.1, fun j => by rw [gJ_sJ_c (by decide)]; exact h.2.2.2 j⟩, fun i hi => hT i hi, fun _ _ => rfl⟩
  · have hn1 : gN S 44 1 = nI n := h.1.1
    exact loopFU (fun fu (x : Int32 × Int32 × St) => FX7_come_5 fu (lN b) x.1 x.2.1 x.2.2) (fun j x => x = (nI (mcm (2 ^ n - 1) th j), nI j, S)) (fun r => r = some ((), sJ S 62 (mcm (2 ^ n - 1) th n) (gJ S 62 (mcm (2 ^ n - 1) th n) + lN b))) n (FU_lt (by omega))
      (by
        intro j fu x hj e
        subst e
        obtain ⟨t1, t2⟩ := hT j hj
        refine Or.inl ⟨(nI (mcm (2 ^ n - 1) th (j + 1)), nI (j + 1), S), ?_, rfl⟩
        dsimp only
        rw [FX7_come_5, hn1, if_neg (by rw [leI (by omega) (by omega)]; omega), gdI (by omega) (by omega)]
        dsimp only
        rw [clI (by omega), t1, li_10, pk_mul, nI_add, nI_1, mcm, if_pos (bt1_full hj)])
      (by
        intro fu x e
        subst e
        dsimp only
        rw [FX7_come_5, hn1, if_pos (Int32.le_refl _), gdI (by omega) (by omega), gdI (by omega) (by omega), clI (by omega)])
      (nI 0, nI 0, S) rfl
  · unfold ad
    rw [rvn_hc h9]
    by_cases hxe : x = hc th n 0
    · rw [hxe, gJ_sJ_s, h.2.1.1 _ hcl, lN_add, if_pos rfl]
    · rw [gJ_sJ_j (fun q => hxe (rvn_inj hx hcl q)), if_neg hxe, Nat.add_zero]; exact h.2.1.1 x hx
  · rw [gJ_sJ_j (by omega)]; exact h.2.1.2 y a b
theorem asNow_eq (h : oMW S0 S n v top qk bl pr g sd A) : ∃ S', fX7_asNow S = some ((), S') ∧ oMW S0 S' n v top qk bl pr g sd A ∧ Th S' n v := by
  have h6 := h.1.2.1
  have key := loopFU (fun fu (x : Int32 × St) => FX7_asNow_2 fu x.1 x.2) (fun j x => ∃ S1, x = (nI j, S1) ∧ (∀ cc jj, cc ≠ 54 → gN S1 cc jj = gN S cc jj) ∧ ∀ i, i < j → gN S1 54 i = nI (v i)) (fun r => ∃ S', r = some ((), S') ∧ ∀ i, i < n → gN S' 54 i = nI (v i)) n (FU_lt (by omega))
    (by
      intro j fu x hj ⟨S1, e, h1, h2⟩
      subst e
      have q1 : gN S1 44 1 = nI n := (h1 _ _ (by decide)).trans h.1.1
      have q2 : gN S1 52 j = nI (v j) := (h1 _ _ (by decide)).trans (h.1.2.2.2.2 j hj).1.1
      refine Or.inl ⟨(nI (j + 1), sN S1 54 j (nI (v j))), ?_, _, rfl, fun cc jj q => by rw [gN_sN_c q]; exact h1 cc jj q, fun i hi => ?_⟩
      · dsimp only
        rw [FX7_asNow_2, q1, if_neg (by rw [leI (by omega) (by omega)]; omega), gdI (by omega) (by omega), gdI (by omega) (by omega), clI (by omega), q2, nI_1]
      · by_cases hij : i = j
        · subst hij; rw [gN_sN_s]
        · rw [gN_sN_j hij]; exact h2 i (by omega))
    (by
      intro fu x ⟨S1, e, h1, h2⟩
      subst e
      have q1 : gN S1 44 1 = nI n := (h1 _ _ (by decide)).trans h.1.1
      refine ⟨S1, ?_, h2⟩
      dsimp only
      rw [FX7_asNow_2, q1, if_pos (Int32.le_refl _)])
    (nI 0, S) ⟨S, rfl, fun _ _ _ => rfl, fun i hi => absurd hi (by omega)⟩
  obtain ⟨S', e, q⟩ := key
  exact ⟨S', e, oMW_fr h (wX7_asNow e) (by decide), fun i hi => ⟨q i hi, (h.1.2.2.2.2 i hi).1.2⟩⟩
/-- the list of those surer -/
theorem listSurer_eq {one : Nat} (hn : n ≤ 3) (ho : one < n) (h : oMW S0 S n v top qk bl pr g sd A) : ∃ S', fX7_listSurer (nI one) S = some ((), S') ∧ oMW S0 S' n v top qk bl pr g sd A ∧ gN S' 44 34 = nI (kaN v g one n) ∧ (∀ k, k < cn (suM v one n) n → gN S' 63 k = nI (nth (suM v one n) n k)) ∧ (guS g v one = true → gN S' 63 (cn (suM v one n) n) = nI 6) := by
  have hcl : cn (suM v one n) n < n := cn_miss ho (by rw [suM_bt ho]; simp)
  have ho9 := (h.1.2.2.2.2 one ho).1
  have key := loopFU (fun fu (x : Int32 × St) => FX7_listSurer_7 fu (nI one) x.1 x.2) (fun i x => ∃ S1, x = (nI i, S1) ∧ (∀ cc jj, cc ≠ 63 → ¬ (cc = 44 ∧ jj = 34) → gN S1 cc jj = gN S cc jj) ∧ gN S1 44 34 = nI (cn (suM v one n) i) ∧ ∀ k, k < cn (suM v one n) i → gN S1 63 k = nI (nth (suM v one n) n k)) (fun r => ∃ S', r = some ((), S') ∧ gN S' 44 34 = nI (kaN v g one n) ∧ (∀ k, k < cn (suM v one n) n → gN S' 63 k = nI (nth (suM v one n) n k)) ∧ (guS g v one = true → gN S' 63 (cn (suM v one n) n) = nI 6)) n (FU_lt (by omega))
    (by
      intro i fu x hi ⟨S1, e, h1, h2, h3⟩
      subst e
      have q1 : gN S1 44 1 = nI n := (h1 _ _ (by omega) (by omega)).trans h.1.1
      have q2 : gN S1 52 i = nI (v i) := (h1 _ _ (by omega) (by omega)).trans (h.1.2.2.2.2 i hi).1.1
      have q3 : gN S1 52 one = nI (v one) := (h1 _ _ (by omega) (by omega)).trans ho9.1
      have a2 := (h.1.2.2.2.2 i hi).1.2
      have hbt := suM_bt (v := v) (one := one) hi
      have hci' := cn_le (suM v one n) i
      left
      by_cases hc : i ≠ one ∧ v one < v i
      · rw [decide_eq_true hc] at hbt
        have hci : cn (suM v one n) (i + 1) = cn (suM v one n) i + 1 := by rw [cn, if_pos hbt]
        have hcl2 : cn (suM v one n) i < cn (suM v one n) n := cn_lt hi hbt
        have hnth := nth_cn (mask := suM v one n) n i hi hbt
        refine ⟨(nI (i + 1), sN (sN S1 63 (cn (suM v one n) i) (nI i)) 44 34 (nI (cn (suM v one n) i + 1))), ?_, _, rfl, fun cc jj a b => ?_, by rw [hci, gN_sN_s], fun k hk => ?_⟩
        · dsimp only
          rw [FX7_listSurer_7, q1, if_neg (by rw [leI (by omega) (by omega)]; omega), if_neg (by rw [eqI (by omega) (by omega)]; exact hc.1), gdI (by omega) (by omega), gdI (by omega) (by omega), clI (by omega), clI (by omega), q2, q3, if_neg (by rw [leI (by omega) (by omega)]; omega), h2]
          dsimp only
          rw [gdI (by omega) (by omega), clI (by omega), gN_sN_c (show (44 : Nat) ≠ 63 by decide), h2, nI_1, FX7_listSurer_55]
          simp only [nI_1]
        · by_cases h44 : cc = 44
          · subst h44; rw [gN_sN_j (by omega), gN_sN_c (by decide)]; exact h1 44 jj a b
          · rw [gN_sN_c h44, gN_sN_c a]; exact h1 cc jj a b
        · rw [gN_sN_c (by decide)]
          rw [hci] at hk
          by_cases hkc : k = cn (suM v one n) i
          · rw [hkc, gN_sN_s, hnth]
          · rw [gN_sN_j hkc]; exact h3 k (by omega)
      · rw [decide_eq_false hc] at hbt
        have hci : cn (suM v one n) (i + 1) = cn (suM v one n) i := by rw [cn, hbt]; rfl
        refine ⟨(nI (i + 1), S1), ?_, S1, rfl, h1, by rw [hci]; exact h2, by rw [hci]; exact h3⟩
        dsimp only
        rw [FX7_listSurer_7, q1, if_neg (by rw [leI (by omega) (by omega)]; omega), gdI (by omega) (by omega), gdI (by omega) (by omega), clI (by omega), clI (by omega), q2, q3]
        by_cases hio : i = one
        · rw [if_pos (by rw [hio]), FX7_listSurer_55]
          simp only [nI_1]
        · rw [if_neg (by rw [eqI (by omega) (by omega)]; exact hio), if_pos (by rw [leI (by omega) (by omega)]; omega), FX7_listSurer_55]
          simp only [nI_1])
    (by
      intro fu x ⟨S1, e, h1, h2, h3⟩
      subst e
      have q1 : gN S1 44 1 = nI n := (h1 _ _ (by omega) (by omega)).trans h.1.1
      have q3 : gN S1 52 one = nI (v one) := (h1 _ _ (by omega) (by omega)).trans ho9.1
      have q5 : gN S1 44 5 = bI g := (h1 _ _ (by omega) (by omega)).trans h.2.2.1
      cases hg : guS g v one with
      | true =>
        have hka : kaN v g one n = cn (suM v one n) n + 1 := by unfold kaN; rw [hg]; rfl
        have hg2 : g = true ∧ v one < 9 := by unfold guS at hg; simpa using hg
        refine ⟨sN (sN S1 63 (cn (suM v one n) n) (nI 6)) 44 34 (nI (cn (suM v one n) n + 1)), ?_, by rw [gN_sN_s, hka], fun k hk => by rw [gN_sN_c (by decide), gN_sN_j (by omega)]; exact h3 k hk, fun _ => by rw [gN_sN_c (by decide), gN_sN_s]⟩
        dsimp only
        rw [FX7_listSurer_7, q1, if_pos (Int32.le_refl _), q5, hg2.1, if_neg bI_t0, gdI (by omega) (by omega), clI (by omega), q3, if_neg (by rw [li_9, leI (by omega) (by omega)]; omega), h2]
        dsimp only
        rw [gdI (by omega) (by omega), clI (by omega), gN_sN_c (show (44 : Nat) ≠ 63 by decide), h2, nI_1]
        rfl
      | false =>
        have hka : kaN v g one n = cn (suM v one n) n := by unfold kaN; rw [hg]; rfl
        refine ⟨S1, ?_, by rw [hka]; exact h2, h3, fun q => by cases q⟩
        dsimp only
        rw [FX7_listSurer_7, q1, if_pos (Int32.le_refl _), q5, gdI (by omega) (by omega), clI (by omega), q3]
        unfold guS at hg
        by_cases hgt : g = true
        · have h9' : ¬ v one < 9 := fun q => by rw [hgt, decide_eq_true q] at hg; cases hg
          rw [hgt, if_neg bI_t0, if_pos (by rw [li_9, leI (by omega) (by omega)]; omega)]
        · have : g = false := by simpa using hgt
          rw [this, if_pos bI_f0])
    (nI 0, sN S 44 34 0) ⟨_, rfl, fun cc jj a b => by
      by_cases h44 : cc = 44
      · subst h44; rw [gN_sN_j (by omega)]
      · rw [gN_sN_c h44], by rw [gN_sN_s]; rfl, fun k hk => by rw [cn] at hk; omega⟩
  obtain ⟨S', e, q⟩ := key
  have e' : fX7_listSurer (nI one) S = some ((), S') := e
  exact ⟨S', e', oMW_fr h (wX7_listSurer e') (by decide), q⟩
theorem chanceOf_eq {one k : Nat} {r : Bool} (hn : n ≤ 3) (ho : one < n) (h : oMW S0 S n v top qk bl pr g sd A) (h63 : ∀ k, k < cn (suM v one n) n → gN S 63 k = nI (nth (suM v one n) n k)) (hgu : guS g v one = true → gN S 63 (cn (suM v one n) n) = nI 6) (hk : k < kaN v g one n) : fX7_chanceOf (nI k) (bI r) S = some (nI (chN v one n r k), S) := by
  have hka := kaN_le (v := v) (g := g) ho
  unfold chN
  by_cases hkc : k < cn (suM v one n) n
  · obtain ⟨n1, n2, n3⟩ := nth_is (mask := suM v one n) n k hkc
    obtain ⟨⟨a1, a2⟩, -⟩ := h.1.2.2.2.2 _ n1
    rw [fX7_chanceOf, gdI (by omega) (by omega), clI (by omega), h63 k hkc, if_neg (by rw [li_6, eqI (by omega) (by omega)]; omega), gdI (by omega) (by omega)]
    dsimp only
    rw [gdI (by omega) (by omega), clI (by omega), a1, FX7_chanceOf_27, mnoChance_eq a2, bd_s, if_pos hkc]
  · have hkg : guS g v one = true ∧ k = cn (suM v one n) n := by
      unfold kaN at hk
      cases hg : guS g v one with
      | true => rw [hg] at hk; simp only [if_true] at hk; exact ⟨rfl, by omega⟩
      | false => rw [hg] at hk; simp only [Bool.false_eq_true, if_false] at hk; omega
    rw [fX7_chanceOf, gdI (by omega) (by omega), clI (by omega), hkg.2, hgu hkg.1, if_pos (by decide), FX7_chanceOf_27, li_9, mnoChance_eq (by omega), bd_s, if_neg (by omega)]
end
