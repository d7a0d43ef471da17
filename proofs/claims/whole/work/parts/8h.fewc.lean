/-! ===== the class: lessonsFrom, fewest, the row ===== -/
def CI1 (S : St) (t0 : Nat) (k : Sk) (g : Bool) : Prop := gN S t0 1 = -1 ∨ ∃ set, set < 64 ∧ gN S t0 1 = nI set ∧ cn set (np k) ≤ 4 ∧ Ch S t0 (cn set (np k)) (fun i => kq k (nth set (np k) i)) (fun i => kb k (nth set (np k) i)) g
def CI (S : St) (k : Sk) : Prop := CI1 S 38 k false ∧ CI1 S 40 k true
theorem CI1_of {S S' : St} {t0 : Nat} {k : Sk} {g : Bool} (h : CI1 S t0 k g) (h0 : gN S' t0 1 = gN S t0 1) (h1 : ∀ j, gN S' (t0 + 1) j = gN S (t0 + 1) j) : CI1 S' t0 k g := by
  rcases h with h | ⟨set, a, b, c, d⟩
  · exact Or.inl (h0.trans h)
  · exact Or.inr ⟨set, a, h0.trans b, c, Ch_of d h1⟩
theorem fill_eq {S : St} {c m : Nat} (hm : m ≤ 10000) : ∃ S', fJ7_fill_fda19 c 0 (nI m) (-2) S = some ((), S') ∧ ∀ j, j < m → gN S' c j = -2 := by
  have key := loopFU (fun fu (x : Int32 × St) => FJ7_fill_fda19_10 fu c (nI m) (-2) x.1 x.2) (fun j x => ∃ S1, x = (nI j, S1) ∧ ∀ i, i < j → gN S1 c i = -2) (fun r => ∃ S', r = some ((), S') ∧ ∀ j, j < m → gN S' c j = -2) m (FU_lt (by omega))
    (by
      intro j fu x hj ⟨S1, e, h1⟩
      subst e
      refine Or.inl ⟨(nI (j + 1), sN S1 c j (-2)), ?_, _, rfl, fun i hi => ?_⟩
      · dsimp only
        rw [FJ7_fill_fda19_10, if_neg (by rw [leI (by omega) (by omega)]; omega), gdI (by omega) (by omega), clI (by omega)]
        simp only [nI_1]
      · by_cases hij : i = j
        · subst hij; rw [gN_sN_s]
        · rw [gN_sN_j hij]; exact h1 i (by omega))
    (by
      intro fu x ⟨S1, e, h1⟩
      subst e
      refine ⟨S1, ?_, h1⟩
      dsimp only
      rw [FJ7_fill_fda19_10, if_pos (Int32.le_refl _)])
    (nI 0, S) ⟨S, rfl, fun i hi => absurd hi (by omega)⟩
  obtain ⟨S', e, h⟩ := key
  refine ⟨S', ?_, h⟩
  rw [fJ7_fill_fda19, fJ7_rangeCheck_23922, if_pos (by rw [li_0, leI (by omega) (by omega)]; omega), if_pos (by decide), if_pos (by rw [show (10000 : Int32) = nI 10000 from rfl, leI (by omega) (by omega)]; omega), bd_s]
  exact e
section
variable {S : St} {k : Sk} {t0 set sd : Nat} {lv top pr : Nat → Nat} {g : Bool}
theorem from47 (ht0 : 33 ≤ t0) {n : Nat} {qk bl : Nat → Nat} (hn : n ≤ 4) (hB : Bn S n lv top qk bl pr g sd) (hb : ∀ i, i < n → lv i = 9 ∨ top i = 9) (hC : Ch S t0 n qk bl g) :
    ∃ x S', FX4_lessonsFrom_47 t0 S = some (x, S') ∧ Least (fun m => RR n (fun _ => true) (fun _ => 9) qk bl g m lv) x ∧ Ch S' t0 n qk bl g ∧ gN S' (t0 + 1) (hc lv n 0) = x ∧ gN S' t0 1 = gN S t0 1 := by
  have h9 : ∀ i, i < n → lv i ≤ 9 := fun i hi => (hB.2.2.2.2.2 i hi).1.2
  have hdg : ∀ i, i < n → dg (hc lv n 0) i = lv i := fun i hi => by rw [dg_hc n 0 i (fun j _ hj => h9 j (by omega)) hi, Nat.zero_add]
  have hlt : hc lv n 0 < 10 ^ n := hc_lt n 0 (fun j _ hj => h9 j (by omega))
  obtain ⟨x, S', e, hL, -, hC', hf, -⟩ := look_eq ht0 hn 64 (S := S) (code := hc lv n 0) (depth := 0) (by omega) (Nat.zero_le _) hB hlt (fun i hi => by rw [hdg i hi]; exact hb i hi) hC
  refine ⟨x, S', ?_, hL.iff (fun m => RR_congr m (fun i hi _ => hdg i hi)), hC', hf, (wX4_look 64 e).n t0 1 (by simp; try omega) (by simp; try omega)⟩
  rw [FX4_lessonsFrom_47, code_eq hB, bd_s, li_0, e, bd_s]
theorem from_eq (ht0 : 33 ≤ t0) (hs : set < 64) (hn : cn set (np k) ≤ 4) (hB : Bn S (cn set (np k)) lv top (fun i => kq k (nth set (np k) i)) (fun i => kb k (nth set (np k) i)) pr g sd) (h25 : gN S 25 1 = nI set) (hb : ∀ i, i < cn set (np k) → lv i = 9 ∨ top i = 9) (hC : CI1 S t0 k g) :
    ∃ x S', fX4_lessonsFrom t0 S = some (x, S') ∧ Least (fun m => RR (cn set (np k)) (fun _ => true) (fun _ => 9) (fun i => kq k (nth set (np k) i)) (fun i => kb k (nth set (np k) i)) g m lv) x ∧ gN S' t0 1 = nI set ∧ Ch S' t0 (cn set (np k)) (fun i => kq k (nth set (np k) i)) (fun i => kb k (nth set (np k) i)) g ∧ gN S' (t0 + 1) (hc lv (cn set (np k)) 0) = x := by
  by_cases hq : gN S t0 1 = nI set
  · have hCh : Ch S t0 (cn set (np k)) (fun i => kq k (nth set (np k) i)) (fun i => kb k (nth set (np k) i)) g := by
      rcases hC with h | ⟨set', a, b, c, d⟩
      · rw [hq] at h; exact absurd h (nI_nm1 (by omega))
      · rw [hq, eqI (by omega) (by omega)] at b
        subst b; exact d
    obtain ⟨x, S', e, a1, a2, a3, a4⟩ := from47 ht0 hn hB hb hCh
    refine ⟨x, S', ?_, a1, a4.trans hq, a2, a3⟩
    rw [fX4_lessonsFrom, hB.1, if_pos (by rw [li_4, leI (by omega) (by omega)]; exact hn), h25, hq, if_pos rfl, e]
  · have hp := p10_4 hn
    obtain ⟨S2, e2, h2⟩ := fill_eq (S := sN S t0 1 (nI set)) (c := t0 + 1) (m := 10 ^ cn set (np k)) hp
    have u2 := wJ7_fill_fda19 e2
    have hB2 : Bn S2 (cn set (np k)) lv top (fun i => kq k (nth set (np k) i)) (fun i => kb k (nth set (np k) i)) pr g sd := Bn_of hB (fun cc jj a b => by rw [u2.n cc jj (by simp; omega) (by simp; omega), gN_sN_c (by omega)])
    obtain ⟨x, S', e, a1, a2, a3, a4⟩ := from47 ht0 hn hB2 hb (fun code hc => Or.inl (h2 code hc))
    have q2 : gN S2 t0 1 = nI set := by rw [u2.n t0 1 (by simp) (by simp), gN_sN_s]
    refine ⟨x, S', ?_, a1, a4.trans q2, a2, a3⟩
    rw [fX4_lessonsFrom, hB.1, if_pos (by rw [li_4, leI (by omega) (by omega)]; exact hn), h25, if_neg (fun q => hq q.symm)]
    dsimp only
    rw [gN_sN_c (show (25 : Nat) ≠ t0 by omega), hB.1, gdI (by omega) (by omega), clI (by omega), tensF_eq _ hn, e2, bd_s, e]
end
/-- in how many likely lessons of a thing those of a set come to know it -/
def fwP (k : Sk) (lv : Nat → Nat → Nat) (known mask t : Nat) (g : Bool) (m : Nat) : Prop := RR (cn mask (np k)) (fun _ => true) (fun i => tpv k lv known (nth mask (np k) i) t) (fun i => kq k (nth mask (np k) i)) (fun i => kb k (nth mask (np k) i)) g m (fun i => lv (nth mask (np k) i) t)
/-- sit, whether one is barred, search -/
def fwC (t0 a b : Nat) (mask t g : Int32) (S : St) : Option (Int32 × St) :=
  bd (fX0_sit a b mask t S) fun _ S3 => bd (fX0_isBarred (sN S3 25 2 g)) fun r8 S9 => if r8 = 0 then (bd (fX4_lessonsFrom t0 S9) fun r18 S19 => some (r18, S19)) else some (-1, S9)
theorem fwC_eq {S : St} {k : Sk} {s : Sd} {t0 a b mask t : Nat} {g : Bool} (hk : WK k) (hs : WS k s) (h1 : SkC S a k) (h2 : SdC S b k s) (ha : a ≤ 9) (hb : b ≤ 21) (ht : t < nt k) (hm : mask < 64) (hn : cn mask (np k) ≤ 4) (ht0 : 33 ≤ t0) (hC : CI1 S t0 k g) :
    ∃ x S', fwC t0 a b (nI mask) (nI t) (bI g) S = some (x, S') ∧ Least (fwP k (dl s) 0 mask t g) x ∧ CI1 S' t0 k g ∧ (∀ cc jj, cc < 25 ∨ 33 ≤ cc → cc ≠ t0 → cc ≠ t0 + 1 → gN S' cc jj = gN S cc jj) ∧ (∀ cc jj, gR S' cc jj = gR S cc jj) ∧
      (¬ x = -1 → (∀ i, i < cn mask (np k) → dl s (nth mask (np k) i) t = 9 ∨ tpv k (dl s) 0 (nth mask (np k) i) t = 9) ∧ Ch S' t0 (cn mask (np k)) (fun i => kq k (nth mask (np k) i)) (fun i => kb k (nth mask (np k) i)) g ∧ gN S' (t0 + 1) (hc (fun i => dl s (nth mask (np k) i) t) (cn mask (np k)) 0) = x) := by
  obtain ⟨S1, e1, hB1, h25, -⟩ := sit_eq (mask := mask) hk hs h1 h2 ha hb ht (by omega)
  have u1 := wX0_sit e1
  have hB2 : Bn (sN S1 25 2 (bI g)) (cn mask (np k)) (fun i => dl s (nth mask (np k) i) t) (fun i => tpv k (dl s) 0 (nth mask (np k) i) t) (fun i => kq k (nth mask (np k) i)) (fun i => kb k (nth mask (np k) i)) (fun i => kp k (nth mask (np k) i)) g (dS s) := by
    obtain ⟨b0, b6, bg, bs, bs1, bb⟩ := hB1
    refine ⟨by rw [gN_sN_j (by decide)]; exact b0, b6, gN_sN_s, by rw [gN_sN_j (by decide)]; exact bs, bs1, fun i hi => ?_⟩
    simp only [gN_sN_c (show (27 : Nat) ≠ 25 by decide), gN_sN_c (show (28 : Nat) ≠ 25 by decide), gN_sN_c (show (29 : Nat) ≠ 25 by decide), gN_sN_c (show (30 : Nat) ≠ 25 by decide), gN_sN_c (show (31 : Nat) ≠ 25 by decide)]
    exact bb i hi
  have hfr : ∀ cc jj, cc < 25 ∨ 33 ≤ cc → gN (sN S1 25 2 (bI g)) cc jj = gN S cc jj := fun cc jj q => by rw [gN_sN_c (by omega), u1.n cc jj (by simp; omega) (by simp; omega)]
  have hC2 : CI1 (sN S1 25 2 (bI g)) t0 k g := CI1_of hC (hfr _ _ (by omega)) (fun j => hfr _ _ (by omega))
  have hbar := isBarred_eq hB2
  cases hbr : bar (fun i => dl s (nth mask (np k) i) t) (fun i => tpv k (dl s) 0 (nth mask (np k) i) t) (cn mask (np k)) with
  | true =>
    rw [hbr] at hbar
    refine ⟨-1, sN S1 25 2 (bI g), ?_, Or.inl ⟨rfl, fun m => ?_⟩, hC2, fun cc jj a _ _ => hfr cc jj a, fun cc jj => u1.r cc jj (by simp), fun q => absurd rfl q⟩
    · rw [fwC, e1, bd_s, hbar, bd_s, if_neg bI_t0]
    · obtain ⟨i, a, b, c⟩ := of_decide_eq_true hbr
      exact RR_bar a rfl c m b
  | false =>
    rw [hbr] at hbar
    have hno := of_decide_eq_false hbr
    have h9 : ∀ i, i < cn mask (np k) → dl s (nth mask (np k) i) t = 9 ∨ tpv k (dl s) 0 (nth mask (np k) i) t = 9 := fun i hi => by
      have q1 := (hB2.2.2.2.2.2 i hi).1.2
      have q2 := (hB2.2.2.2.2.2 i hi).2.1.2
      dsimp only at q1 q2
      by_cases h : dl s (nth mask (np k) i) t = 9
      · exact Or.inl h
      · rcases q2 with q2 | q2
        · exact absurd ⟨i, hi, (show dl s (nth mask (np k) i) t < 9 by omega), (show tpv k (dl s) 0 (nth mask (np k) i) t < 9 by omega)⟩ hno
        · exact Or.inr q2
    obtain ⟨x, S', e, a1, a2, a3, a4⟩ := from_eq ht0 hm hn hB2 (by rw [gN_sN_j (by decide)]; exact h25) h9 hC2
    have u2 := wX4_lessonsFrom e
    refine ⟨x, S', ?_, a1.iff (fun m => ?_), Or.inr ⟨mask, hm, a2, hn, a3⟩, fun cc jj b1 b2 b3 => ?_, fun cc jj => ?_, fun _ => ⟨h9, a3, a4⟩⟩
    · rw [fwC, e1, bd_s, hbar, bd_s, if_pos bI_f0, e, bd_s]
    · exact RR_tops (fun i _ => Nat.le_refl _) (fun i _ => tpv_le _ _ _ _ _) m (fun i hi _ => (h9 i hi).imp id (fun q => q.symm))
    · rw [u2.n cc jj (by simp; omega) (by simp; omega)]; exact hfr cc jj b1
    · rw [u2.r cc jj (by simp)]; exact u1.r cc jj (by simp)
