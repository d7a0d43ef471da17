/-! ===== odds: misled; one lesson of one state ===== -/
section
variable {S0 S : St} {n : Nat} {v top qk bl pr : Nat → Nat} {g : Bool} {sd cx hx : Nat} {A : Nat → Nat}
def bk (v : Nat → Nat) (one n m k i : Nat) : Nat := if bt1 (beM v one n) i = true ∧ cn (beM v one n) i < k ∧ bt1 m (cn (beM v one n) i) = true then v i - 1 else v i
theorem bk_last {one m k : Nat} (hk : cn (beM v one n) n ≤ k) {i : Nat} (hi : i < n) : bk v one n m k i = tB v one n m i := by
  unfold bk tB
  by_cases hb : bt1 (beM v one n) i = true
  · have := cn_lt hi hb
    by_cases hm : bt1 m (cn (beM v one n) i) = true
    · rw [if_pos ⟨hb, by omega, hm⟩, if_pos ⟨hb, hm⟩]
    · rw [if_neg (fun q => hm q.2.2), if_neg (fun q => hm q.2)]
  · rw [if_neg (fun q => hb q.1), if_neg (fun q => hb q.1)]
theorem tB_le {one m i : Nat} (h9 : ∀ i, v i ≤ 9) : tB v one n m i ≤ 9 := by
  have := h9 i
  unfold tB; split <;> omega
theorem targetB_c {one m : Nat} {P : Nat → Nat} (k54 : Int32 → Int32 → St → Option (Unit × St)) (hX : isX cx hx) (hr1 : gR S0 33 1 = cx) (hn : n ≤ 3) (h9 : ∀ i, v i ≤ 9) (ho : one < n) (h : oCW S0 S n v top qk bl pr g sd cx hx A) (hP : PS S (cn (beM v one n) n) P) (h37 : ∀ k, k < cn (beM v one n) n → gN S 37 k = nI (nth (beM v one n) n k)) (hm : m < 2 ^ cn (beM v one n) n) :
    FX1_endMisled_69 k54 FU (nI (hc v n 0)) (nI m) (nI (hc v n 0)) (nI 0) S = k54 (nI (hc v n 0)) (nI (m + 1)) (sJ S cx (hc (tB v one n m) n 0) (gJ S cx (hc (tB v one n m) n 0) + lN (P m))) := by
  have h8 := p2_3 hP.2.2.1
  have hcl := beN_le (v := v) ho
  exact loopFU (fun fu (x : Int32 × Int32) => FX1_endMisled_69 k54 fu (nI (hc v n 0)) (nI m) x.1 x.2 S) (fun k x => x = (nI (hc (bk v one n m k) n 0), nI k)) (fun r => r = k54 (nI (hc v n 0)) (nI (m + 1)) (sJ S cx (hc (tB v one n m) n 0) (gJ S cx (hc (tB v one n m) n 0) + lN (P m)))) (cn (beM v one n) n) (FU_lt (by omega))
    (by
      intro k fu x hk e
      subst e
      obtain ⟨n1, n2, n3⟩ := nth_is (mask := beM v one n) n k hk
      have hbe : 1 ≤ v (nth (beM v one n) n k) := by
        rw [beM_bt n1] at n2
        exact (of_decide_eq_true n2).2.1
      have hold : bk v one n m k (nth (beM v one n) n k) = v (nth (beM v one n) n k) := by
        unfold bk; rw [if_neg (by omega)]
      have hnew : bk v one n m (k + 1) (nth (beM v one n) n k) = if bt1 m k = true then v (nth (beM v one n) n k) - 1 else v (nth (beM v one n) n k) := by
        unfold bk
        rw [n3]
        by_cases hb : bt1 m k = true
        · rw [if_pos ⟨n2, by omega, hb⟩, if_pos hb]
        · rw [if_neg (fun q => hb q.2.2), if_neg hb]
      have hoth : ∀ i, i < n → i ≠ nth (beM v one n) n k → bk v one n m (k + 1) i = bk v one n m k i := fun i hi q => by
        unfold bk
        have hcne : bt1 (beM v one n) i = true → cn (beM v one n) i ≠ k := fun hbi z => q (by rw [← z, nth_cn n i hi hbi])
        by_cases hbi : bt1 (beM v one n) i = true
        · have := hcne hbi
          by_cases hlt : cn (beM v one n) i < k ∧ bt1 m (cn (beM v one n) i) = true
          · rw [if_pos ⟨hbi, by omega, hlt.2⟩, if_pos ⟨hbi, hlt⟩]
          · rw [if_neg (fun z => hlt ⟨by omega, z.2.2⟩), if_neg (fun z => hlt z.2)]
        · rw [if_neg (fun z => hbi z.1), if_neg (fun z => hbi z.1)]
      have hdn : hc (bk v one n m (k + 1)) n 0 + (m / 2 ^ k % 2) * 10 ^ nth (beM v one n) n k = hc (bk v one n m k) n 0 := by
        have := hc_dn (v := bk v one n m k) (w := bk v one n m (k + 1) (nth (beM v one n) n k)) n1 (by rw [hold, hnew]; split <;> omega)
        rw [← this]
        congr 1
        · refine hc_congr n 0 (fun i _ hi => ?_)
          by_cases hin : i = nth (beM v one n) n k
          · rw [hin, fup_s]
          · rw [fup_n hin]; exact hoth i (by omega) hin
        · congr 1
          rw [hold, hnew]
          by_cases hb : bt1 m k = true
          · rw [if_pos hb]; unfold bt1 at hb; have := of_decide_eq_true hb; omega
          · rw [if_neg hb]
            have : ¬ m / 2 ^ k % 2 = 1 := fun q => hb (by unfold bt1; exact decide_eq_true q)
            omega
      refine Or.inl ⟨(nI (hc (bk v one n m (k + 1)) n 0), nI (k + 1)), ?_, rfl⟩
      dsimp only
      rw [FX1_endMisled_69, hP.2.1, if_neg (by rw [leI (by omega) (by omega)]; omega), gdI (by omega) (by omega)]
      dsimp only
      rw [clI (show k < 2147483648 by omega), h37 k hk, gdI (by omega) (by omega), tens5 (by omega), bit_eq (by omega) (by omega), pk_mul, subI (by omega), show hc (bk v one n m k) n 0 - m / 2 ^ k % 2 * 10 ^ nth (beM v one n) n k = hc (bk v one n m (k + 1)) n 0 by omega, nI_1])
    (by
      intro fu x e
      subst e
      have hcode : hc (bk v one n m (cn (beM v one n) n)) n 0 = hc (tB v one n m) n 0 := hc_congr n 0 (fun i _ hi => bk_last (Nat.le_refl _) (by omega))
      have hlt : hc (tB v one n m) n 0 < 1000 := hc_l3 hn (fun i hi => tB_le h9)
      dsimp only
      rw [FX1_endMisled_69, hP.2.1, if_pos (Int32.le_refl _), hcode, h.2.2.1, hr1, gd_t (isX_LA hX).1, gdI (by omega) (by omega), gdI (by omega) (by omega), gdI (by omega) (by omega), clI (by omega), clI (by omega), hP.2.2.2 m hm, nI_1])
    (nI (hc v n 0), nI 0) (by
      have : hc (bk v one n m 0) n 0 = hc v n 0 := hc_congr n 0 (fun i _ _ => by unfold bk; rw [if_neg (by omega)])
      rw [this])
theorem endMisled_o {one b : Nat} (hX : isX cx hx) (hr1 : gR S0 33 1 = cx) (hn : n ≤ 3) (h9 : ∀ i, v i ≤ 9) (ho : one < n) (hb : b ≤ 1000000000) (h : oCW S0 S n v top qk bl pr g sd cx hx A) (h0 : gJ S 36 0 = lN b) : ∃ S', fX1_endMisled (nI one) (nI (hc v n 0)) S = some ((), S') ∧ oCW S0 S' n v top qk bl pr g sd cx hx (fun x => A x + sg (fun m => if x = hc (tB v one n m) n 0 then vl (chB v bl one n) b (cn (beM v one n) n) m else 0) 0 (2 ^ cn (beM v one n) n)) := by
  have hcl := beN_le (v := v) ho
  have hbl : ∀ i, i < n → bl i ≤ 100 := fun i hi => (h.1.2.2.2.2.2 i hi).2.2.2.1.2
  obtain ⟨S1, e1, hP1⟩ := begin_eq (S := S) (b := b)
  have h1 := oCW_fr hX h (wX1_begin e1) (by decide) (by decide)
  have h8 := p2_3 (show cn (beM v one n) n ≤ 3 by omega)
  -- the second loop
  have fin : ∀ {S2 : St}, oCW S0 S2 n v top qk bl pr g sd cx hx A → PS S2 (cn (beM v one n) n) (vl (chB v bl one n) b (cn (beM v one n) n)) → (∀ k, k < cn (beM v one n) n → gN S2 37 k = nI (nth (beM v one n) n k)) → ∃ S', FX1_endMisled_54 FU (nI (hc v n 0)) (nI 0) S2 = some ((), S') ∧ oCW S0 S' n v top qk bl pr g sd cx hx (fun x => A x + sg (fun m => if x = hc (tB v one n m) n 0 then vl (chB v bl one n) b (cn (beM v one n) n) m else 0) 0 (2 ^ cn (beM v one n) n)) := by
    intro S2 h2 hP2 hs2
    exact loopFU (fun fu (x : Int32 × St) => FX1_endMisled_54 fu (nI (hc v n 0)) x.1 x.2) (fun m x => ∃ S3, x = (nI m, S3) ∧ oCW S0 S3 n v top qk bl pr g sd cx hx (fun x => A x + sg (fun m => if x = hc (tB v one n m) n 0 then vl (chB v bl one n) b (cn (beM v one n) n) m else 0) 0 m) ∧ PS S3 (cn (beM v one n) n) (vl (chB v bl one n) b (cn (beM v one n) n)) ∧ ∀ k, k < cn (beM v one n) n → gN S3 37 k = nI (nth (beM v one n) n k)) (fun r => ∃ S', r = some ((), S') ∧ oCW S0 S' n v top qk bl pr g sd cx hx (fun x => A x + sg (fun m => if x = hc (tB v one n m) n 0 then vl (chB v bl one n) b (cn (beM v one n) n) m else 0) 0 (2 ^ cn (beM v one n) n))) (2 ^ cn (beM v one n) n) (FU_lt (by omega))
      (by
        intro m fu x hm ⟨S3, e, h3, hP3, hs3⟩
        subst e
        have hlt : hc (tB v one n m) n 0 < 1000 := hc_l3 hn (fun i hi => tB_le h9)
        have e3 := targetB_c (fun l3_ l4_ S_ => FX1_endMisled_54 fu l3_ l4_ S_) hX hr1 hn h9 ho h3 hP3 hs3 hm
        refine Or.inl ⟨(nI (m + 1), _), ?_, _, rfl, oCW_congr (oCW_add (w := vl (chB v bl one n) b (cn (beM v one n) n) m) hX h3 hlt) (fun x => ?_), PS_add hX hP3, hs3⟩
        · dsimp only
          rw [FX1_endMisled_54, hP3.1, if_neg (by rw [leI (by omega) (by omega)]; omega)]
          exact e3
        · unfold ad
          dsimp only
          rw [sg, Nat.zero_add]
          omega)
      (by
        intro fu x ⟨S3, e, h3, hP3, hs3⟩
        subst e
        refine ⟨S3, ?_, h3⟩
        dsimp only
        rw [FX1_endMisled_54, hP3.1, if_pos (Int32.le_refl _)])
      (nI 0, S2) ⟨S2, rfl, oCW_congr h2 (fun x => rfl), hP2, hs2⟩
  have key := loopFU (fun fu (x : Int32 × St) => FX1_endMisled_13 fu (nI one) (nI (hc v n 0)) x.1 x.2) (fun i x => ∃ S2, x = (nI i, S2) ∧ oCW S0 S2 n v top qk bl pr g sd cx hx A ∧ PS S2 (cn (beM v one n) i) (vl (chB v bl one n) b (cn (beM v one n) i)) ∧ ∀ k, k < cn (beM v one n) i → gN S2 37 k = nI (nth (beM v one n) n k)) (fun r => ∃ S', r = some ((), S') ∧ oCW S0 S' n v top qk bl pr g sd cx hx (fun x => A x + sg (fun m => if x = hc (tB v one n m) n 0 then vl (chB v bl one n) b (cn (beM v one n) n) m else 0) 0 (2 ^ cn (beM v one n) n))) n (FU_lt (by omega))
    (by
      intro i fu x hi ⟨S2, e, h2, hP2, hs2⟩
      subst e
      have hbt := beM_bt (v := v) (one := one) hi
      obtain ⟨-, -, -, ⟨a1, a2⟩, -⟩ := h2.1.2.2.2.2.2 i hi
      have hdec : decide (nI i ≠ nI one ∧ 1 ≤ v i ∧ v i ≤ 6) = decide (i ≠ one ∧ 1 ≤ v i ∧ v i ≤ 6) := decide_eq_decide.mpr (by rw [Ne, eqI (by omega) (by omega)])
      left
      by_cases hc' : i ≠ one ∧ 1 ≤ v i ∧ v i ≤ 6
      · rw [decide_eq_true hc'] at hbt
        have hci : cn (beM v one n) (i + 1) = cn (beM v one n) i + 1 := by rw [cn, if_pos hbt]
        have hcl2 : cn (beM v one n) i < cn (beM v one n) n := cn_lt hi hbt
        have hnth := nth_cn (mask := beM v one n) n i hi hbt
        have hch : chB v bl one n (cn (beM v one n) i) = bl i := by unfold chB; rw [if_pos hcl2, hnth]
        obtain ⟨S3, e3, hP3, q1, q2⟩ := split_eq (seat := nI i) (ch := bl i) hP2 (by omega) (fun m _ => Nat.le_trans (vl_le (fun k => chB_le hbl) _) hb) a2
        refine ⟨(nI (i + 1), S3), ?_, S3, rfl, oCW_fr hX h2 (wX1_split e3) (by decide) (by decide), ?_, fun k hk => ?_⟩
        · dsimp only
          rw [FX1_endMisled_13, h2.1.1, if_neg (by rw [leI (by omega) (by omega)]; omega), mayBelieve_eq h2.1 hi, hdec, decide_eq_true hc', bd_s, if_neg bI_t0, gdI (by omega) (by omega), clI (by omega), a1, e3, bd_s, FX1_endMisled_45]
          simp only [nI_1]
        · rw [hci]
          refine PS_congr hP3 (fun m hm => ?_)
          rw [← hch]
          exact vl_split hm
        · rw [hci] at hk
          by_cases hkc : k = cn (beM v one n) i
          · rw [hkc, q1, hnth]
          · rw [q2 k hkc]; exact hs2 k (by omega)
      · rw [decide_eq_false hc'] at hbt
        have hci : cn (beM v one n) (i + 1) = cn (beM v one n) i := by rw [cn, hbt]; rfl
        refine ⟨(nI (i + 1), S2), ?_, S2, rfl, h2, by rw [hci]; exact hP2, by rw [hci]; exact hs2⟩
        dsimp only
        rw [FX1_endMisled_13, h2.1.1, if_neg (by rw [leI (by omega) (by omega)]; omega), mayBelieve_eq h2.1 hi, hdec, decide_eq_false hc', bd_s, if_pos bI_f0, FX1_endMisled_45]
        simp only [nI_1])
    (by
      intro fu x ⟨S2, e, h2, hP2, hs2⟩
      subst e
      obtain ⟨S3, e3, h3⟩ := fin h2 hP2 hs2
      refine ⟨S3, ?_, h3⟩
      dsimp only
      rw [FX1_endMisled_13, h2.1.1, if_pos (Int32.le_refl _)]
      exact e3)
    (nI 0, S1) ⟨S1, rfl, h1, hP1, fun k hk => by rw [cn] at hk; omega⟩
  obtain ⟨S', e, r⟩ := key
  refine ⟨S', ?_, r⟩
  rw [fX1_endMisled, gd_t (by decide), show (0 : Int32).toNatClampNeg = 0 from rfl, h0, e1, bd_s]
  exact e
theorem endWrong_o {one : Nat} {P : Nat → Nat} (hX : isX cx hx) (hr1 : gR S0 33 1 = cx) (hn : n ≤ 3) (h9 : ∀ i, v i ≤ 9) (ho : one < n) (h : oCW S0 S n v top qk bl pr g sd cx hx A) (hP : PS S (kaN v g one n) P) (h37 : ∀ k, k < cn (suM v one n) n → gN S 37 k = nI (nth (suM v one n) n k)) (hgu : guS g v one = true → gN S 37 (cn (suM v one n) n) = -1) (hPl : P 0 ≤ 1000000000) : ∃ S', fX1_endWrong (nI one) (nI (hc v n 0)) S = some ((), S') ∧ oCW S0 S' n v top qk bl pr g sd cx hx (fun x => A x + sg (fun m => if x = hc (tW v top qk one n m) n 0 then P m else 0) 1 (2 ^ kaN v g one n - 1) + sg (fun m => if x = hc (tB v one n m) n 0 then vl (chB v bl one n) (P 0) (cn (beM v one n) n) m else 0) 0 (2 ^ cn (beM v one n) n)) := by
  have h8 := p2_3 hP.2.2.1
  have hp := Nat.pow_pos (n := kaN v g one n) (show 0 < 2 by decide)
  have ht : ∀ i, i < n → top i ≤ 9 := fun i hi => by have := (h.1.2.2.2.2.2 i hi).2.1.2; omega
  obtain ⟨⟨o1, o2⟩, ⟨t1, t2⟩, ⟨u1, u2, u3⟩, -⟩ := h.1.2.2.2.2.2 one ho
  have key := loopFU (fun fu (x : Int32 × St) => FX1_endWrong_27 fu (nI one) (nI (hc v n 0)) (nI (hc (fup v one (ri (v one) (top one) (qk one))) n 0)) x.1 x.2) (fun j x => ∃ S1, x = (nI (1 + j), S1) ∧ oCW S0 S1 n v top qk bl pr g sd cx hx (fun x => A x + sg (fun m => if x = hc (tW v top qk one n m) n 0 then P m else 0) 1 j) ∧ PS S1 (kaN v g one n) P ∧ (∀ k, gN S1 37 k = gN S 37 k)) (fun r => ∃ S', r = some ((), S') ∧ oCW S0 S' n v top qk bl pr g sd cx hx (fun x => A x + sg (fun m => if x = hc (tW v top qk one n m) n 0 then P m else 0) 1 (2 ^ kaN v g one n - 1) + sg (fun m => if x = hc (tB v one n m) n 0 then vl (chB v bl one n) (P 0) (cn (beM v one n) n) m else 0) 0 (2 ^ cn (beM v one n) n))) (2 ^ kaN v g one n - 1) (FU_lt (by omega))
    (by
      intro j fu x hj ⟨S1, e, h1, hP1, hs1⟩
      subst e
      have hlt : hc (tW v top qk one n (1 + j)) n 0 < 1000 := hc_l3 hn (fun i hi => tW_le h9 (ht i hi))
      have e3 := target_c (m := 1 + j) (l4 := nI (hc (fup v one (ri (v one) (top one) (qk one))) n 0)) (fun l2_ l3_ l4_ l5_ S_ => FX1_endWrong_27 fu l2_ l3_ l4_ l5_ S_) hX hr1 hn h9 ho rfl h1 hP1 (fun k hk => by rw [hs1]; exact h37 k hk) (fun q => by rw [hs1]; exact hgu q) (by omega)
      refine Or.inl ⟨(nI (1 + (j + 1)), _), ?_, _, rfl, oCW_congr (oCW_add (w := P (1 + j)) hX h1 hlt) (fun x => ?_), PS_add hX hP1, hs1⟩
      · dsimp only
        rw [FX1_endWrong_27, hP1.1, if_neg (by rw [leI (by omega) (by omega)]; omega)]
        exact e3
      · unfold ad
        dsimp only
        rw [sg]
        omega)
    (by
      intro fu x ⟨S1, e, h1, hP1, hs1⟩
      subst e
      obtain ⟨S2, e2, h2⟩ := endMisled_o (b := P 0) hX hr1 hn h9 ho hPl h1 (hP1.2.2.2 0 hp)
      refine ⟨S2, ?_, h2⟩
      dsimp only
      rw [FX1_endWrong_27, hP1.1, if_pos (by rw [leI (by omega) (by omega)]; omega), e2, bd_s])
    (nI 1, S) ⟨S, rfl, oCW_congr h (fun x => rfl), hP, fun _ => rfl⟩
  obtain ⟨S', e, r⟩ := key
  refine ⟨S', ?_, r⟩
  have hup := hc_up (v := v) (w := ri (v one) (top one) (qk one)) ho ri_ge
  have hmin : (if nI (top one - v one) < nI (qk one) then nI (top one - v one) else nI (qk one)) = nI (ri (v one) (top one) (qk one) - v one) := by
    unfold ri
    by_cases hlt : top one - v one < qk one
    · rw [if_pos (by rw [ltI (by omega) (by omega)]; exact hlt)]
      congr 1
      by_cases hv : v one < top one
      · rw [if_pos hv, if_neg (by omega)]
      · rw [if_neg hv]; omega
    · rw [if_neg (by rw [ltI (by omega) (by omega)]; exact hlt)]
      congr 1
      rw [if_pos (show v one < top one by omega)]
      split <;> omega
  have e2 := tens5 (i := one) (by omega)
  rw [fX1_endWrong, gdI (by omega) (by omega), room_eq h.1 ho, bd_s, clI (by omega), u1]
  dsimp only
  rw [gdI (by omega) (by omega)]
  rw [clI (by omega)] at e2
  rw [e2, hmin, pk_mul, nI_add, ← hup]
  exact e
/-- what one state's lesson brings to a state -/
def dAll (n : Nat) (v top qk bl pr : Nat → Nat) (g : Bool) (one D x : Nat) : Nat :=
  sg (dRm (hc v n 0) (hc (fup v one (v one - 1)) n 0) (pr one) (vl (chN v one n true) (D * (10 * v one + 5) / 100) (kaN v g one n)) x) 1 (2 ^ kaN v g one n - 1) + (if x = hc (tA v top one) n 0 then vl (chN v one n true) (D * (10 * v one + 5) / 100) (kaN v g one n) 0 else 0)
  + (sg (fun m => if x = hc (tW v top qk one n m) n 0 then vl (chN v one n false) (D - D * (10 * v one + 5) / 100) (kaN v g one n) m else 0) 1 (2 ^ kaN v g one n - 1)
  + sg (fun m => if x = hc (tB v one n m) n 0 then vl (chB v bl one n) (vl (chN v one n false) (D - D * (10 * v one + 5) / 100) (kaN v g one n) 0) (cn (beM v one n) n) m else 0) 0 (2 ^ cn (beM v one n) n))
theorem teach_o {one D : Nat} (hX : isX cx hx) (hr1 : gR S0 33 1 = cx) (hr0 : gR S0 33 0 = hx) (hn : n ≤ 3) (h9 : ∀ i, v i ≤ 9) (ho : one < n) (h : oCW S0 S n v top qk bl pr g sd cx hx A) (hD : gJ S0 hx (hc v n 0) = lN D) (hDl : D ≤ 1000000000) : ∃ S', fX1_teach (nI one) (nI (hc v n 0)) S = some ((), S') ∧ oCW S0 S' n v top qk bl pr g sd cx hx (fun x => A x + dAll n v top qk bl pr g one D x) := by
  have hsl : hc v n 0 < 1000 := hc_l3 hn (fun i _ => h9 i)
  have h95 : 10 * v one + 5 ≤ 100 := by have := h9 one; omega
  have hle := pc_le (w := D) h95
  obtain ⟨S1, e1, hP1, hs1, hg1⟩ := partByNo_eq (r := true) (b := D * (10 * v one + 5) / 100) h.1 h9 hn ho (by omega)
  have h1 := oCW_fr hX h (wX1_partByNo e1) (by decide) (by decide)
  obtain ⟨S2, e2, h2⟩ := endRight_eq hX hr1 hn h9 ho h1 hP1 (fun m => Nat.le_trans (vl_le (fun k => chN_le h9) _) (by omega))
  obtain ⟨S3, e3, hP3, hs3, hg3⟩ := partByNo_eq (r := false) (b := D - D * (10 * v one + 5) / 100) h2.1 h9 hn ho (by omega)
  have h3 := oCW_fr hX h2 (wX1_partByNo e3) (by decide) (by decide)
  obtain ⟨S4, e4, h4⟩ := endWrong_o hX hr1 hn h9 ho h3 hP3 hs3 hg3 (Nat.le_trans (vl_le (fun k => chN_le h9) _) (by omega))
  refine ⟨S4, ?_, oCW_congr h4 (fun x => ?_)⟩
  · have e1' : fX1_partByNo (nI one) (lN (D * (10 * v one + 5) / 100)) 1 S = some ((), S1) := e1
    have e3' : fX1_partByNo (nI one) (lN (D - D * (10 * v one + 5) / 100)) 0 S2 = some ((), S3) := e3
    rw [fX1_teach, h.2.2.1, hr0, gd_t (isX_LA hX).2, gdI (by omega) (by omega), rightChance_eq h.1 ho, bd_s]
    dsimp only
    rw [clI (by omega), h.2.2.2, hD, pc_eq hDl h95, e1', bd_s, e2, bd_s, h2.2.2.1, hr0, gd_t (isX_LA hX).2, gdI (by omega) (by omega), h2.2.2.2, hD, lN_sub hle, e3', bd_s, e4, bd_s]
  · unfold dAll ad
    dsimp only
    omega
end
