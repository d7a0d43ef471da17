/-! ===== odds: wrong, in the class; one lesson ===== -/
section
variable {S0 S : St} {n : Nat} {v top qk bl pr : Nat → Nat} {g : Bool} {sd cx hx : Nat} {A : Nat → Nat}
/-- those surer below the k-th rose -/
def wk (v top qk : Nat → Nat) (one n m k i : Nat) : Nat := if i = one then ri (v i) (top i) (qk i) else if bt1 (suM v one n) i = true ∧ cn (suM v one n) i < k ∧ bt1 m (cn (suM v one n) i) = true then ri (v i) (top i) 1 else v i
theorem wk_le {one m k i : Nat} (h9 : ∀ i, v i ≤ 9) (ht : top i ≤ 9) : wk v top qk one n m k i ≤ 9 := by
  unfold wk; split
  · exact ri_le (h9 i) ht
  · split
    · exact ri_le (h9 i) ht
    · exact h9 i
theorem tW_le {one m i : Nat} (h9 : ∀ i, v i ≤ 9) (ht : top i ≤ 9) : tW v top qk one n m i ≤ 9 := by
  unfold tW; split
  · exact ri_le (h9 i) ht
  · split
    · exact ri_le (h9 i) ht
    · exact h9 i
theorem wk_last {one m k : Nat} (hk : cn (suM v one n) n ≤ k) {i : Nat} (hi : i < n) : wk v top qk one n m k i = tW v top qk one n m i := by
  unfold wk tW
  by_cases h1 : i = one
  · rw [if_pos h1, if_pos h1]
  · rw [if_neg h1, if_neg h1]
    by_cases hb : bt1 (suM v one n) i = true
    · have := cn_lt hi hb
      by_cases hm : bt1 m (cn (suM v one n) i) = true
      · rw [if_pos ⟨hb, by omega, hm⟩, if_pos ⟨hb, hm⟩]
      · rw [if_neg (fun q => hm q.2.2), if_neg (fun q => hm q.2)]
    · rw [if_neg (fun q => hb q.1), if_neg (fun q => hb q.1)]
/-- one part's target in the class -/
theorem target_c {one m K : Nat} {P : Nat → Nat} {l4 : Int32} (k27 : Int32 → Int32 → Int32 → Int32 → St → Option (Unit × St)) (hX : isX cx hx) (hr1 : gR S0 33 1 = cx) (hn : n ≤ 3) (h9 : ∀ i, v i ≤ 9) (ho : one < n) (hK : K = kaN v g one n) (h : oCW S0 S n v top qk bl pr g sd cx hx A) (hP : PS S K P) (h37 : ∀ k, k < cn (suM v one n) n → gN S 37 k = nI (nth (suM v one n) n k)) (hgu : guS g v one = true → gN S 37 (cn (suM v one n) n) = -1) (hm : m < 2 ^ K) :
    FX1_endWrong_43 k27 FU (nI one) (nI (hc v n 0)) l4 (nI m) (nI (hc (fup v one (ri (v one) (top one) (qk one))) n 0)) (nI 0) S = k27 (nI one) (nI (hc v n 0)) l4 (nI (m + 1)) (sJ S cx (hc (tW v top qk one n m) n 0) (gJ S cx (hc (tW v top qk one n m) n 0) + lN (P m))) := by
  have hka := kaN_le (v := v) (g := g) ho
  have h8 := p2_3 hP.2.2.1
  have hcl : cn (suM v one n) n < n := cn_miss ho (by rw [suM_bt ho]; simp)
  have ht : ∀ i, i < n → top i ≤ 9 := fun i hi => by have := (h.1.2.2.2.2.2 i hi).2.1.2; omega
  exact loopFU (fun fu (x : Int32 × Int32) => FX1_endWrong_43 k27 fu (nI one) (nI (hc v n 0)) l4 (nI m) x.1 x.2 S) (fun k x => x = (nI (hc (wk v top qk one n m k) n 0), nI k)) (fun r => r = k27 (nI one) (nI (hc v n 0)) l4 (nI (m + 1)) (sJ S cx (hc (tW v top qk one n m) n 0) (gJ S cx (hc (tW v top qk one n m) n 0) + lN (P m)))) K (FU_lt (by omega))
    (by
      intro k fu x hk e
      subst e
      have hbit := bit_is (m := m) (k := k) (by omega) (by omega)
      refine Or.inl ⟨(nI (hc (wk v top qk one n m (k + 1)) n 0), nI (k + 1)), ?_, rfl⟩
      dsimp only
      rw [FX1_endWrong_43, hP.2.1, if_neg (by rw [leI (by omega) (by omega)]; omega), gdI (by omega) (by omega)]
      dsimp only
      rw [clI (show k < 2147483648 by omega)]
      have same : (∀ i, i < n → wk v top qk one n m (k + 1) i = wk v top qk one n m k i) → FX1_endWrong_98 (fun l2_ l3_ l4_ l5_ l6_ l7_ S_ => FX1_endWrong_43 k27 fu l2_ l3_ l4_ l5_ l6_ l7_ S_) (nI one) (nI (hc v n 0)) l4 (nI m) (nI (hc (wk v top qk one n m k) n 0)) (nI k) S = FX1_endWrong_43 k27 fu (nI one) (nI (hc v n 0)) l4 (nI m) (nI (hc (wk v top qk one n m (k + 1)) n 0)) (nI (k + 1)) S := fun q => by
        rw [FX1_endWrong_98, hc_congr n 0 (fun i _ hi => q i (by omega)), nI_1]
      by_cases hb : bt1 m k = true
      · rw [if_pos (hbit.mpr hb)]
        by_cases hkc : k < cn (suM v one n) n
        · obtain ⟨n1, n2, n3⟩ := nth_is (mask := suM v one n) n k hkc
          obtain ⟨⟨a1, a2⟩, ⟨b1, b2⟩, -⟩ := h.1.2.2.2.2.2 _ n1
          have hne : nth (suM v one n) n k ≠ one := fun q => by
            rw [q, suM_bt ho] at n2; simp at n2
          have hold : wk v top qk one n m k (nth (suM v one n) n k) = v (nth (suM v one n) n k) := by
            unfold wk; rw [if_neg hne, if_neg (by omega)]
          have hnew : wk v top qk one n m (k + 1) (nth (suM v one n) n k) = ri (v (nth (suM v one n) n k)) (top (nth (suM v one n) n k)) 1 := by
            unfold wk; rw [if_neg hne, if_pos ⟨n2, by omega, by rw [n3]; exact hb⟩]
          have hoth : ∀ i, i < n → i ≠ nth (suM v one n) n k → wk v top qk one n m (k + 1) i = wk v top qk one n m k i := fun i hi q => by
            unfold wk
            by_cases hio : i = one
            · rw [if_pos hio, if_pos hio]
            · rw [if_neg hio, if_neg hio]
              have hcne : bt1 (suM v one n) i = true → cn (suM v one n) i ≠ k := fun hbi z => q (by rw [← z, nth_cn n i hi hbi])
              by_cases hbi : bt1 (suM v one n) i = true
              · have := hcne hbi
                by_cases hlt : cn (suM v one n) i < k ∧ bt1 m (cn (suM v one n) i) = true
                · rw [if_pos ⟨hbi, by omega, hlt.2⟩, if_pos ⟨hbi, hlt⟩]
                · rw [if_neg (fun z => hlt ⟨by omega, z.2.2⟩), if_neg (fun z => hlt z.2)]
              · rw [if_neg (fun z => hbi z.1), if_neg (fun z => hbi z.1)]
          rw [h37 k hkc, if_neg (nI_nm1 (by omega)), room_eq h.1 n1, bd_s]
          by_cases hroom : top (nth (suM v one n) n k) - v (nth (suM v one n) n k) = 0
          · rw [if_pos (by rw [hroom]; decide)]
            refine same (fun i hi => ?_)
            by_cases hin : i = nth (suM v one n) n k
            · rw [hin, hnew, hold]; unfold ri; rw [if_neg (by omega)]
            · exact hoth i hi hin
          · have hri : ri (v (nth (suM v one n) n k)) (top (nth (suM v one n) n k)) 1 = v (nth (suM v one n) n k) + 1 := by unfold ri; rw [if_pos (by omega)]; split <;> omega
            have hup : hc (wk v top qk one n m (k + 1)) n 0 = hc (wk v top qk one n m k) n 0 + 10 ^ nth (suM v one n) n k := by
              have := hc_up (v := wk v top qk one n m k) (w := v (nth (suM v one n) n k) + 1) n1 (by rw [hold]; omega)
              rw [hold, Nat.add_sub_cancel_left, Nat.one_mul] at this
              rw [← this]
              refine hc_congr n 0 (fun i _ hi => ?_)
              by_cases hin : i = nth (suM v one n) n k
              · rw [hin, fup_s, hnew, hri]
              · rw [fup_n hin]; exact hoth i (by omega) hin
            rw [if_neg (by rw [li_0, leI (by omega) (by omega)]; omega), gdI (by omega) (by omega), tens5 (by omega), nI_add, FX1_endWrong_98, hup, nI_1]
        · have hkg : guS g v one = true ∧ k = cn (suM v one n) n := by
            unfold kaN at hK
            cases hg : guS g v one with
            | true => rw [hg] at hK; simp only [if_true] at hK; exact ⟨rfl, by omega⟩
            | false => rw [hg] at hK; simp only [Bool.false_eq_true, if_false] at hK; omega
          rw [hkg.2, hgu hkg.1, if_pos rfl, ← hkg.2]
          refine same (fun i hi => ?_)
          rw [wk_last (by omega) hi, wk_last (by omega) hi]
      · rw [if_neg (fun q => hb (hbit.mp q))]
        refine same (fun i hi => ?_)
        unfold wk
        by_cases hio : i = one
        · rw [if_pos hio, if_pos hio]
        · rw [if_neg hio, if_neg hio]
          by_cases hz : bt1 (suM v one n) i = true ∧ cn (suM v one n) i < k ∧ bt1 m (cn (suM v one n) i) = true
          · rw [if_pos hz, if_pos ⟨hz.1, by omega, hz.2.2⟩]
          · rw [if_neg hz, if_neg (fun q => hz ⟨q.1, by
              have : cn (suM v one n) i ≠ k := fun z => hb (by rw [← z]; exact q.2.2)
              omega, q.2.2⟩)])
    (by
      intro fu x e
      subst e
      have hcode : hc (wk v top qk one n m K) n 0 = hc (tW v top qk one n m) n 0 := hc_congr n 0 (fun i _ hi => wk_last (by rw [hK]; unfold kaN; omega) (by omega))
      have hlt : hc (tW v top qk one n m) n 0 < 1000 := hc_l3 hn (fun i hi => tW_le h9 (ht i hi))
      dsimp only
      rw [FX1_endWrong_43, hP.2.1, if_pos (Int32.le_refl _), hcode, h.2.2.1, hr1, gd_t (isX_LA hX).1, gdI (by omega) (by omega), gdI (by omega) (by omega), gdI (by omega) (by omega), clI (by omega), clI (by omega), hP.2.2.2 m hm, nI_1])
    (nI (hc (fup v one (ri (v one) (top one) (qk one))) n 0), nI 0) (by
      have : hc (wk v top qk one n m 0) n 0 = hc (fup v one (ri (v one) (top one) (qk one))) n 0 := hc_congr n 0 (fun i _ _ => by
        unfold wk
        by_cases hio : i = one
        · rw [if_pos hio, hio, fup_s]
        · rw [if_neg hio, if_neg (by omega), fup_n hio])
      rw [this])
end
