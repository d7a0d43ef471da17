/-! ===== odds in the reference: one part ===== -/
section
variable {S0 S : St} {n : Nat} {v top qk bl pr th : Nat → Nat} {g : Bool} {sd : Nat} {A : Nat → Nat}
/-- what one part brings -/
def dN (n : Nat) (v top qk bl pr : Nat → Nat) (one : Nat) (r : Bool) (m b x : Nat) : Nat :=
  if r = true then (if m = 0 then (if x = hc (tA v top one) n 0 then b else 0) else (if x = hc v n 0 then b * pr one / 100 else 0) + if x = hc (fup v one (v one - 1)) n 0 then b - b * pr one / 100 else 0)
  else (if m = 0 then sg (fun m' => if x = hc (tB v one n m') n 0 then vl (chB v bl one n) b (cn (beM v one n) n) m' else 0) 0 (2 ^ cn (beM v one n) n) else if x = hc (tW v top qk one n m) n 0 then b else 0)
theorem oMW_54 {i : Nat} {w : Int32} (h : oMW S0 S n v top qk bl pr g sd A) : oMW S0 (sN S 54 i w) n v top qk bl pr g sd A :=
  ⟨Mn_th h.1, h.2.1, by rw [gN_sN_c (by decide)]; exact h.2.2.1, h.2.2.2⟩
def uk (v top : Nat → Nat) (one n m k i : Nat) : Nat := if bt1 (suM v one n) i = true ∧ cn (suM v one n) i < k ∧ bt1 m (cn (suM v one n) i) = true then ri (v i) (top i) 1 else v i
theorem partWrong_m {one m b : Nat} (hn : n ≤ 3) (ho : one < n) (hm8 : m < 8) (h : oMW S0 S n v top qk bl pr g sd A) (hT : Th S n v) (h34 : gN S 44 34 = nI (kaN v g one n)) (h63 : ∀ k, k < cn (suM v one n) n → gN S 63 k = nI (nth (suM v one n) n k)) (hgu : guS g v one = true → gN S 63 (cn (suM v one n) n) = nI 6) :
    ∃ S', FX7_partNo_15 FU (nI one) (nI m) (lN b) (nI 0) S = some ((), S') ∧ oMW S0 S' n v top qk bl pr g sd (ad A (hc (tW v top qk one n m) n 0) b) ∧ (∀ cc jj, cc ≠ 54 → gN S' cc jj = gN S cc jj) := by
  have hka := kaN_le (v := v) (g := g) ho
  have h9 : ∀ i, i < n → v i ≤ 9 := fun i hi => (hT i hi).2
  have ht : ∀ i, i < n → top i ≤ 9 := fun i hi => by have := (h.1.2.2.2.2 i hi).2.1.2; omega
  have hone : bt1 (suM v one n) one = false := by rw [suM_bt ho]; simp
  exact loopFU (fun fu (x : Int32 × St) => FX7_partNo_15 fu (nI one) (nI m) (lN b) x.1 x.2) (fun k x => ∃ S1, x = (nI k, S1) ∧ oMW S0 S1 n v top qk bl pr g sd A ∧ Th S1 n (uk v top one n m k) ∧ (∀ cc jj, cc ≠ 54 → gN S1 cc jj = gN S cc jj)) (fun r => ∃ S', r = some ((), S') ∧ oMW S0 S' n v top qk bl pr g sd (ad A (hc (tW v top qk one n m) n 0) b) ∧ (∀ cc jj, cc ≠ 54 → gN S' cc jj = gN S cc jj)) (kaN v g one n) (FU_lt (by omega))
    (by
      intro k fu x hk ⟨S1, e, h1, hT1, hf1⟩
      subst e
      have hhas := has_eq (S := S1) (m := m) (k := k) (by omega) (by omega)
      have q34 : gN S1 44 34 = nI (kaN v g one n) := (hf1 _ _ (by decide)).trans h34
      have same : (∀ i, i < n → uk v top one n m (k + 1) i = uk v top one n m k i) → FX7_partNo_57 (fun l1_ l3_ l4_ l6_ S_ => FX7_partNo_15 fu l1_ l3_ l4_ l6_ S_) (nI one) (nI m) (lN b) (nI k) S1 = FX7_partNo_15 fu (nI one) (nI m) (lN b) (nI (k + 1)) S1 ∧ Th S1 n (uk v top one n m (k + 1)) := fun q => ⟨by rw [FX7_partNo_57]; simp only [nI_1], Th_congr hT1 (fun i hi => (q i hi).symm)⟩
      left
      cases hb : bt1 m k with
      | false =>
        rw [hb] at hhas
        obtain ⟨e1, hT2⟩ := same (fun i hi => by
          unfold uk
          by_cases hz : bt1 (suM v one n) i = true ∧ cn (suM v one n) i < k ∧ bt1 m (cn (suM v one n) i) = true
          · rw [if_pos hz, if_pos ⟨hz.1, by omega, hz.2.2⟩]
          · rw [if_neg hz, if_neg (fun q => hz ⟨q.1, by
              have : cn (suM v one n) i ≠ k := fun z => by rw [z, hb] at q; cases q.2.2
              omega, q.2.2⟩)])
        refine ⟨(nI (k + 1), S1), ?_, S1, rfl, h1, hT2, hf1⟩
        dsimp only
        rw [FX7_partNo_15, q34, if_neg (by rw [leI (by omega) (by omega)]; omega), hhas, bd_s, if_pos bI_f0, e1]
      | true =>
        rw [hb] at hhas
        by_cases hkc : k < cn (suM v one n) n
        · obtain ⟨n1, n2, n3⟩ := nth_is (mask := suM v one n) n k hkc
          have q63 : gN S1 63 k = nI (nth (suM v one n) n k) := (hf1 _ _ (by decide)).trans (h63 k hkc)
          have hold : uk v top one n m k (nth (suM v one n) n k) = v (nth (suM v one n) n k) := by unfold uk; rw [if_neg (by omega)]
          have hr := mrise_eq h1.1 hT1 (b := 1) n1 (by omega)
          rw [hold] at hr
          refine ⟨(nI (k + 1), sN S1 54 (nth (suM v one n) n k) (nI (ri (v (nth (suM v one n) n k)) (top (nth (suM v one n) n k)) 1))), ?_, _, rfl, oMW_54 h1, ?_, fun cc jj q => by rw [gN_sN_c q]; exact hf1 cc jj q⟩
          · dsimp only
            rw [FX7_partNo_15, q34, if_neg (by rw [leI (by omega) (by omega)]; omega), hhas, bd_s, if_neg bI_t0, gdI (by omega) (by omega), clI (by omega), q63, if_neg (by rw [li_6, leI (by omega) (by omega)]; omega), gdI (by omega) (by omega), li_1, hr, bd_s, FX7_partNo_57]
            simp only [li_1, nI_add]
          · refine Th_congr (Th_th hT1 (ri_le (h9 _ n1) (ht _ n1))) (fun i hi => ?_)
            by_cases hin : i = nth (suM v one n) n k
            · rw [hin, fup_s]; unfold uk; rw [if_pos ⟨n2, by omega, by rw [n3]; exact hb⟩]
            · rw [fup_n hin]
              unfold uk
              have hcne : bt1 (suM v one n) i = true → cn (suM v one n) i ≠ k := fun hbi z => hin (by rw [← z, nth_cn n i hi hbi])
              by_cases hbi : bt1 (suM v one n) i = true
              · have := hcne hbi
                by_cases hlt : cn (suM v one n) i < k ∧ bt1 m (cn (suM v one n) i) = true
                · rw [if_pos ⟨hbi, hlt⟩, if_pos ⟨hbi, by omega, hlt.2⟩]
                · rw [if_neg (fun z => hlt z.2), if_neg (fun z => hlt ⟨by omega, z.2.2⟩)]
              · rw [if_neg (fun z => hbi z.1), if_neg (fun z => hbi z.1)]
        · have hkg : guS g v one = true ∧ k = cn (suM v one n) n := by
            unfold kaN at hk
            cases hg : guS g v one with
            | true => rw [hg] at hk; simp only [if_true] at hk; exact ⟨rfl, by omega⟩
            | false => rw [hg] at hk; simp only [Bool.false_eq_true, if_false] at hk; omega
          have q63 : gN S1 63 k = nI 6 := by rw [hkg.2]; exact (hf1 _ _ (by decide)).trans (hgu hkg.1)
          obtain ⟨e1, hT2⟩ := same (fun i hi => by
            unfold uk
            by_cases hbi : bt1 (suM v one n) i = true
            · have := cn_lt hi hbi
              by_cases hlt : cn (suM v one n) i < k ∧ bt1 m (cn (suM v one n) i) = true
              · rw [if_pos ⟨hbi, by omega, hlt.2⟩, if_pos ⟨hbi, hlt⟩]
              · rw [if_neg (fun z => hlt ⟨by omega, z.2.2⟩), if_neg (fun z => hlt z.2)]
            · rw [if_neg (fun z => hbi z.1), if_neg (fun z => hbi z.1)])
          refine ⟨(nI (k + 1), S1), ?_, S1, rfl, h1, hT2, hf1⟩
          dsimp only
          rw [FX7_partNo_15, q34, if_neg (by rw [leI (by omega) (by omega)]; omega), hhas, bd_s, if_neg bI_t0, gdI (by omega) (by omega), clI (by omega), q63, if_pos (by decide), e1])
    (by
      intro fu x ⟨S1, e, h1, hT1, hf1⟩
      subst e
      have q34 : gN S1 44 34 = nI (kaN v g one n) := (hf1 _ _ (by decide)).trans h34
      obtain ⟨-, -, ⟨u1, u2, u3⟩, -⟩ := h1.1.2.2.2.2 one ho
      have hold : uk v top one n m (kaN v g one n) one = v one := by unfold uk; rw [if_neg (by rw [hone]; intro q; cases q.1)]
      have hr := mrise_eq h1.1 hT1 (b := qk one) ho u3
      rw [hold] at hr
      have hT2 : Th (sN S1 54 one (nI (ri (v one) (top one) (qk one)))) n (tW v top qk one n m) := by
        refine Th_congr (Th_th hT1 (ri_le (h9 _ ho) (ht _ ho))) (fun i hi => ?_)
        unfold tW
        by_cases hio : i = one
        · rw [hio, fup_s, if_pos rfl]
        · rw [fup_n hio, if_neg hio]
          unfold uk
          by_cases hbi : bt1 (suM v one n) i = true
          · have := cn_lt hi hbi
            have hkk : cn (suM v one n) n ≤ kaN v g one n := by unfold kaN; omega
            by_cases hlt : bt1 m (cn (suM v one n) i) = true
            · rw [if_pos ⟨hbi, by omega, hlt⟩, if_pos ⟨hbi, hlt⟩]
            · rw [if_neg (fun z => hlt z.2.2), if_neg (fun z => hlt z.2)]
          · rw [if_neg (fun z => hbi z.1), if_neg (fun z => hbi z.1)]
      obtain ⟨S2, e2, h2, -, hf2⟩ := come_eq (b := b) hn (oMW_54 h1) hT2
      refine ⟨S2, ?_, h2, fun cc jj q => by rw [hf2, gN_sN_c q]; exact hf1 cc jj q⟩
      dsimp only
      rw [FX7_partNo_15, q34, if_pos (Int32.le_refl _), li_3, pk_mul]
      dsimp only
      rw [gdI (by omega) (by omega), clI (by omega), u1, hr, bd_s, e2, bd_s])
    (nI 0, S) ⟨S, rfl, h, Th_congr hT (fun i hi => by unfold uk; rw [if_neg (by omega)]), fun _ _ _ => rfl⟩
theorem partShaken_m {one b : Nat} (hn : n ≤ 3) (ho : one < n) (hb : b ≤ 1000000000) (h : oMW S0 S n v top qk bl pr g sd A) (hT : Th S n v) :
    ∃ S', FX7_partNo_111 (nI one) 1 (lN b) S = some ((), S') ∧ oMW S0 S' n v top qk bl pr g sd (ad (ad A (hc v n 0) (b * pr one / 100)) (hc (fup v one (v one - 1)) n 0) (b - b * pr one / 100)) ∧ (∀ cc jj, cc ≠ 54 → gN S' cc jj = gN S cc jj) := by
  obtain ⟨-, -, -, -, o3, o4⟩ := h.1.2.2.2.2 one ho
  have hle := pc_le (w := b) o4
  obtain ⟨S1, e1, h1, hT1, hf1⟩ := come_eq (b := b * pr one / 100) hn h hT
  have q54 := hT1 one ho
  have hT2 : Th (sN S1 54 one (nI (v one - 1))) n (fup v one (v one - 1)) := Th_th hT1 (by have := q54.2; omega)
  obtain ⟨S2, e2, h2, -, hf2⟩ := come_eq (b := b - b * pr one / 100) hn (oMW_54 h1) hT2
  refine ⟨S2, ?_, h2, fun cc jj q => by rw [hf2, gN_sN_c q]; exact hf1 cc jj⟩
  rw [FX7_partNo_111, if_neg (by decide), li_3, pk_mul, li_2, nI_add]
  dsimp only
  rw [gdI (by omega) (by omega), clI (by omega), o3, pc_eq hb o4, e1, bd_s, gdI (by omega) (by omega), gdI (by omega) (by omega), clI (by omega), q54.1]
  by_cases h0 : v one = 0
  · rw [if_pos (by rw [h0]; decide), FX7_partNo_162, gdI (by omega) (by omega), clI (by omega), lN_sub hle, show nI (v one) - 0 = nI (v one - 1) by rw [h0]; rfl]
    dsimp only
    rw [e2, bd_s]
  · have := q54.2
    rw [if_neg (by rw [li_0, leI (by omega) (by omega)]; omega), FX7_partNo_162, gdI (by omega) (by omega), clI (by omega), lN_sub hle, li_1, subI (by omega)]
    dsimp only
    rw [e2, bd_s]
/-- belief parts -/
theorem partBelief_m {one b : Nat} (hn : n ≤ 3) (ho : one < n) (hb : b ≤ 1000000000) (h : oMW S0 S n v top qk bl pr g sd A) : ∃ S', fX7_partBelief (nI one) (lN b) S = some ((), S') ∧ oMW S0 S' n v top qk bl pr g sd (fun x => A x + sg (fun m' => if x = hc (tB v one n m') n 0 then vl (chB v bl one n) b (cn (beM v one n) n) m' else 0) 0 (2 ^ cn (beM v one n) n)) := by
  have hcl := beN_le (v := v) ho
  have h8 := p2_3 (show cn (beM v one n) n ≤ 3 by omega)
  have h9 : ∀ i, i < n → v i ≤ 9 := fun i hi => (h.1.2.2.2.2 i hi).1.2
  have hbl : ∀ i, i < n → bl i ≤ 100 := fun i hi => (h.1.2.2.2.2 i hi).2.2.2.1.2
  -- one set's part
  have inner : ∀ (k71 : Int64 → Int32 → St → Option (Unit × St)) (m : Nat) (B : Nat → Nat) (S1 : St), m < 8 → oMW S0 S1 n v top qk bl pr g sd B → Th S1 n v → gN S1 44 34 = nI (cn (beM v one n) n) → (∀ k, k < cn (beM v one n) n → gN S1 63 k = nI (nth (beM v one n) n k)) → ∃ S2, FX7_partBelief_92 k71 FU (lN b) (nI m) (lN b) (nI 0) S1 = k71 (lN b) (nI (m + 1)) S2 ∧ oMW S0 S2 n v top qk bl pr g sd (ad B (hc (tB v one n m) n 0) (vl (chB v bl one n) b (cn (beM v one n) n) m)) ∧ (∀ cc jj, cc ≠ 54 → gN S2 cc jj = gN S1 cc jj) := by
    intro k71 m B S1 hm8 h1 hT1 q34 q63
    exact loopFU (fun fu (x : Int64 × Int32 × St) => FX7_partBelief_92 k71 fu (lN b) (nI m) x.1 x.2.1 x.2.2) (fun k x => ∃ S2, x = (lN (vl (chB v bl one n) b k m), nI k, S2) ∧ oMW S0 S2 n v top qk bl pr g sd B ∧ Th S2 n (bk v one n m k) ∧ (∀ cc jj, cc ≠ 54 → gN S2 cc jj = gN S1 cc jj)) (fun r => ∃ S2, r = k71 (lN b) (nI (m + 1)) S2 ∧ oMW S0 S2 n v top qk bl pr g sd (ad B (hc (tB v one n m) n 0) (vl (chB v bl one n) b (cn (beM v one n) n) m)) ∧ (∀ cc jj, cc ≠ 54 → gN S2 cc jj = gN S1 cc jj)) (cn (beM v one n) n) (FU_lt (by omega))
      (by
        intro k fu x hk ⟨S2, e, h2, hT2, hf2⟩
        subst e
        obtain ⟨n1, n2, n3⟩ := nth_is (mask := beM v one n) n k hk
        have hhas := has_eq (S := S2) (m := m) (k := k) (by omega) (by omega)
        have p34 : gN S2 44 34 = nI (cn (beM v one n) n) := (hf2 _ _ (by decide)).trans q34
        have p63 : gN S2 63 k = nI (nth (beM v one n) n k) := (hf2 _ _ (by decide)).trans (q63 k hk)
        obtain ⟨-, -, -, ⟨b1, b2⟩, -⟩ := h2.1.2.2.2.2 _ n1
        have hch : chB v bl one n k = bl (nth (beM v one n) n k) := by unfold chB; rw [if_pos hk]
        have hvl := Nat.le_trans (vl_le (ch := chB v bl one n) (b := b) (m := m) (fun k => chB_le hbl) k) hb
        have hle := pc_le (w := vl (chB v bl one n) b k m) b2
        have hbe : 1 ≤ v (nth (beM v one n) n k) := by
          rw [beM_bt n1] at n2
          exact (of_decide_eq_true n2).2.1
        have hold : bk v one n m k (nth (beM v one n) n k) = v (nth (beM v one n) n k) := by unfold bk; rw [if_neg (by omega)]
        have q54 := hT2 _ n1
        rw [hold] at q54
        have hnew : ∀ w, w = (if bt1 m k = true then v (nth (beM v one n) n k) - 1 else v (nth (beM v one n) n k)) → Th (sN S2 54 (nth (beM v one n) n k) (nI w)) n (bk v one n m (k + 1)) := fun w hw => by
          refine Th_congr (Th_th hT2 (by rw [hw]; have := h9 _ n1; split <;> omega)) (fun i hi => ?_)
          by_cases hin : i = nth (beM v one n) n k
          · rw [hin, fup_s, hw]
            unfold bk
            rw [n3]
            by_cases hbm : bt1 m k = true
            · rw [if_pos hbm, if_pos ⟨n2, by omega, hbm⟩]
            · rw [if_neg hbm, if_neg (fun q => hbm q.2.2)]
          · rw [fup_n hin]
            unfold bk
            have hcne : bt1 (beM v one n) i = true → cn (beM v one n) i ≠ k := fun hbi z => hin (by rw [← z, nth_cn n i hi hbi])
            by_cases hbi : bt1 (beM v one n) i = true
            · have := hcne hbi
              by_cases hlt : cn (beM v one n) i < k ∧ bt1 m (cn (beM v one n) i) = true
              · rw [if_pos ⟨hbi, hlt⟩, if_pos ⟨hbi, by omega, hlt.2⟩]
              · rw [if_neg (fun z => hlt z.2), if_neg (fun z => hlt ⟨by omega, z.2.2⟩)]
            · rw [if_neg (fun z => hbi z.1), if_neg (fun z => hbi z.1)]
        left
        cases hbm : bt1 m k with
        | false =>
          rw [hbm] at hhas
          refine ⟨(lN (vl (chB v bl one n) b (k + 1) m), nI (k + 1), sN S2 54 (nth (beM v one n) n k) (nI (v (nth (beM v one n) n k)))), ?_, _, rfl, oMW_54 h2, hnew _ (by rw [hbm]; rfl), fun cc jj q => by rw [gN_sN_c q]; exact hf2 cc jj q⟩
          dsimp only
          rw [FX7_partBelief_92, p34, if_neg (by rw [leI (by omega) (by omega)]; omega), gdI (by omega) (by omega), clI (by omega), p63, li_3, pk_mul, li_1, nI_add]
          dsimp only
          rw [gdI (by omega) (by omega), clI (by omega), b1, pc_eq hvl b2, hhas, bd_s, if_pos bI_f0, FX7_partBelief_147, gdI (by omega) (by omega), clI (by omega), p63]
          dsimp only
          rw [gdI (by omega) (by omega), hhas, bd_s, if_pos bI_f0, clI (by omega), q54.1, FX7_partBelief_177, gdI (by omega) (by omega), clI (by omega), lN_sub hle, vl, hbm, if_neg (by decide), hch, li_0, sub_zero, li_1, nI_add]
        | true =>
          rw [hbm] at hhas
          refine ⟨(lN (vl (chB v bl one n) b (k + 1) m), nI (k + 1), sN S2 54 (nth (beM v one n) n k) (nI (v (nth (beM v one n) n k) - 1))), ?_, _, rfl, oMW_54 h2, hnew _ (by rw [hbm]; rfl), fun cc jj q => by rw [gN_sN_c q]; exact hf2 cc jj q⟩
          dsimp only
          rw [FX7_partBelief_92, p34, if_neg (by rw [leI (by omega) (by omega)]; omega), gdI (by omega) (by omega), clI (by omega), p63, li_3, pk_mul, li_1, nI_add]
          dsimp only
          rw [gdI (by omega) (by omega), clI (by omega), b1, pc_eq hvl b2, hhas, bd_s, if_neg bI_t0, FX7_partBelief_147, gdI (by omega) (by omega), clI (by omega), p63]
          dsimp only
          rw [gdI (by omega) (by omega), hhas, bd_s, if_neg bI_t0, clI (by omega), q54.1, FX7_partBelief_177, gdI (by omega) (by omega), clI (by omega), vl, hbm, if_pos rfl, hch, li_1, subI hbe, nI_add])
      (by
        intro fu x ⟨S2, e, h2, hT2, hf2⟩
        subst e
        have p34 : gN S2 44 34 = nI (cn (beM v one n) n) := (hf2 _ _ (by decide)).trans q34
        obtain ⟨S3, e3, h3, -, hf3⟩ := come_eq (b := vl (chB v bl one n) b (cn (beM v one n) n) m) hn h2 (Th_congr hT2 (fun i hi => bk_last (Nat.le_refl _) hi))
        refine ⟨S3, ?_, h3, fun cc jj q => by rw [hf3]; exact hf2 cc jj q⟩
        dsimp only
        rw [FX7_partBelief_92, p34, if_pos (Int32.le_refl _), e3, bd_s]
        simp only [nI_1])
      (lN b, nI 0, S1) ⟨S1, rfl, h1, Th_congr hT1 (fun i hi => by unfold bk; rw [if_neg (by omega)]), fun _ _ _ => rfl⟩
  -- all sets
  have sets : ∀ (S1 : St), oMW S0 S1 n v top qk bl pr g sd A → gN S1 44 34 = nI (cn (beM v one n) n) → (∀ k, k < cn (beM v one n) n → gN S1 63 k = nI (nth (beM v one n) n k)) → ∃ S', FX7_partBelief_71 FU (lN b) (nI 0) S1 = some ((), S') ∧ oMW S0 S' n v top qk bl pr g sd (fun x => A x + sg (fun m' => if x = hc (tB v one n m') n 0 then vl (chB v bl one n) b (cn (beM v one n) n) m' else 0) 0 (2 ^ cn (beM v one n) n)) := by
    intro S1 h1 q34 q63
    have sh : ∀ k, k ≤ 3 → (1 : Int32) <<< (nI k &&& 31) = nI (2 ^ k) := by decide
    exact loopFU (fun fu (x : Int32 × St) => FX7_partBelief_71 fu (lN b) x.1 x.2) (fun m x => ∃ S2, x = (nI m, S2) ∧ oMW S0 S2 n v top qk bl pr g sd (fun x => A x + sg (fun m' => if x = hc (tB v one n m') n 0 then vl (chB v bl one n) b (cn (beM v one n) n) m' else 0) 0 m) ∧ (∀ cc jj, cc ≠ 54 → gN S2 cc jj = gN S1 cc jj)) (fun r => ∃ S', r = some ((), S') ∧ oMW S0 S' n v top qk bl pr g sd (fun x => A x + sg (fun m' => if x = hc (tB v one n m') n 0 then vl (chB v bl one n) b (cn (beM v one n) n) m' else 0) 0 (2 ^ cn (beM v one n) n))) (2 ^ cn (beM v one n) n) (FU_lt (by omega))
      (by
        intro m fu x hm ⟨S2, e, h2, hf2⟩
        subst e
        have p34 : gN S2 44 34 = nI (cn (beM v one n) n) := (hf2 _ _ (by decide)).trans q34
        obtain ⟨S3, e3, h3, hT3⟩ := asNow_eq h2
        have u3 := wX7_asNow e3
        have hf3 : ∀ cc jj, cc ≠ 54 → gN S3 cc jj = gN S2 cc jj := fun cc jj q => u3.n cc jj (by simp; omega) (by simp; omega)
        obtain ⟨S4, e4, h4, hf4⟩ := inner (fun l2_ l4_ S_ => FX7_partBelief_71 fu l2_ l4_ S_) m _ S3 (by omega) h3 hT3 ((hf3 _ _ (by decide)).trans p34) (fun k hk => (hf3 _ _ (by decide)).trans ((hf2 _ _ (by decide)).trans (q63 k hk)))
        refine Or.inl ⟨(nI (m + 1), S4), ?_, S4, rfl, oMW_congr h4 (fun x => ?_), fun cc jj q => (hf4 cc jj q).trans ((hf3 cc jj q).trans (hf2 cc jj q))⟩
        · dsimp only
          rw [FX7_partBelief_71, p34, sh _ (by omega), if_neg (by rw [leI (by omega) (by omega)]; omega), e3, bd_s]
          exact e4
        · unfold ad
          dsimp only
          rw [sg, Nat.zero_add]
          omega)
      (by
        intro fu x ⟨S2, e, h2, hf2⟩
        subst e
        have p34 : gN S2 44 34 = nI (cn (beM v one n) n) := (hf2 _ _ (by decide)).trans q34
        refine ⟨S2, ?_, h2⟩
        dsimp only
        rw [FX7_partBelief_71, p34, sh _ (by omega), if_pos (Int32.le_refl _)])
      (nI 0, S1) ⟨S1, rfl, oMW_congr h1 (fun x => rfl), fun _ _ _ => rfl⟩
  exact loopFU (fun fu (x : Int32 × St) => FX7_partBelief_8 fu (nI one) (lN b) x.1 x.2) (fun i x => ∃ S1, x = (nI i, S1) ∧ oMW S0 S1 n v top qk bl pr g sd A ∧ gN S1 44 34 = nI (cn (beM v one n) i) ∧ ∀ k, k < cn (beM v one n) i → gN S1 63 k = nI (nth (beM v one n) n k)) (fun r => ∃ S', r = some ((), S') ∧ oMW S0 S' n v top qk bl pr g sd (fun x => A x + sg (fun m' => if x = hc (tB v one n m') n 0 then vl (chB v bl one n) b (cn (beM v one n) n) m' else 0) 0 (2 ^ cn (beM v one n) n))) n (FU_lt (by omega))
    (by
      intro i fu x hi ⟨S1, e, h1, h2, h3⟩
      subst e
      have q1 : gN S1 44 1 = nI n := h1.1.1
      obtain ⟨⟨a1, a2⟩, -⟩ := h1.1.2.2.2.2 i hi
      have hbt := beM_bt (v := v) (one := one) hi
      have hci' := cn_le (beM v one n) i
      have hin : fX7_in (nI (v i)).toInt64 1 6 S1 = some (bI (decide (1 ≤ v i ∧ v i ≤ 6)), S1) := by
        rw [toI64 (by omega), show (1 : Int64) = lN 1 from rfl, show (6 : Int64) = lN 6 from rfl, in_eq (by omega) (by omega) (by omega)]
      left
      by_cases hc' : i ≠ one ∧ 1 ≤ v i ∧ v i ≤ 6
      · rw [decide_eq_true hc'] at hbt
        have hci : cn (beM v one n) (i + 1) = cn (beM v one n) i + 1 := by rw [cn, if_pos hbt]
        have hnth := nth_cn (mask := beM v one n) n i hi hbt
        refine ⟨(nI (i + 1), sN (sN S1 63 (cn (beM v one n) i) (nI i)) 44 34 (nI (cn (beM v one n) i + 1))), ?_, _, rfl, ?_, by rw [hci, gN_sN_s], fun k hk => ?_⟩
        · dsimp only
          rw [FX7_partBelief_8, q1, if_neg (by rw [leI (by omega) (by omega)]; omega), if_neg (by rw [eqI (by omega) (by omega)]; exact hc'.1), gdI (by omega) (by omega), clI (by omega), a1, hin, decide_eq_true hc'.2, bd_s, if_neg bI_t0, h2]
          dsimp only
          rw [gdI (by omega) (by omega), clI (by omega), gN_sN_c (show (44 : Nat) ≠ 63 by decide), h2, nI_1, FX7_partBelief_62]
          simp only [nI_1]
        · exact ⟨Mn_of h1.1 (by rw [gN_sN_j (by decide), gN_sN_c (by decide)]) (by rw [gN_sN_j (by decide), gN_sN_c (by decide)]) (fun cc jj q => by rw [gN_sN_c (by omega), gN_sN_c (by omega)]), h1.2.1, by rw [gN_sN_j (by decide), gN_sN_c (by decide)]; exact h1.2.2.1, h1.2.2.2⟩
        · rw [gN_sN_c (by decide)]
          rw [hci] at hk
          by_cases hkc : k = cn (beM v one n) i
          · rw [hkc, gN_sN_s, hnth]
          · rw [gN_sN_j hkc]; exact h3 k (by omega)
      · rw [decide_eq_false hc'] at hbt
        have hci : cn (beM v one n) (i + 1) = cn (beM v one n) i := by rw [cn, hbt]; rfl
        refine ⟨(nI (i + 1), S1), ?_, S1, rfl, h1, by rw [hci]; exact h2, by rw [hci]; exact h3⟩
        dsimp only
        rw [FX7_partBelief_8, q1, if_neg (by rw [leI (by omega) (by omega)]; omega), gdI (by omega) (by omega), clI (by omega), a1, hin, bd_s]
        by_cases hio : i = one
        · rw [if_pos (by rw [hio]), FX7_partBelief_62]
          simp only [nI_1]
        · rw [if_neg (by rw [eqI (by omega) (by omega)]; exact hio), decide_eq_false (fun q => hc' ⟨hio, q⟩), if_pos bI_f0, FX7_partBelief_62]
          simp only [nI_1])
    (by
      intro fu x ⟨S1, e, h1, h2, h3⟩
      subst e
      obtain ⟨S2, e2, r⟩ := sets S1 h1 h2 h3
      refine ⟨S2, ?_, r⟩
      dsimp only
      rw [FX7_partBelief_8, h1.1.1, if_pos (Int32.le_refl _)]
      exact e2)
    (nI 0, sN S 44 34 0) ⟨sN S 44 34 0, rfl, ⟨Mn_of h.1 (by rw [gN_sN_j (by decide)]) (by rw [gN_sN_j (by decide)]) (fun cc jj q => by rw [gN_sN_c (by omega)]), h.2.1, by rw [gN_sN_j (by decide)]; exact h.2.2.1, h.2.2.2⟩, by rw [gN_sN_s]; rfl, fun k hk => by rw [cn] at hk; omega⟩
end
