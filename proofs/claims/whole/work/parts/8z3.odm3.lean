/-! ===== odds in the reference: lessons ===== -/
section
variable {S0 S : St} {n : Nat} {v top qk bl pr th : Nat → Nat} {g : Bool} {sd : Nat} {A : Nat → Nat}
theorem partNo_eq {one m b : Nat} {r : Bool} (hn : n ≤ 3) (ho : one < n) (hm8 : m < 8) (hb : b ≤ 1000000000) (h : oMW S0 S n v top qk bl pr g sd A) (h34 : gN S 44 34 = nI (kaN v g one n)) (h63 : ∀ k, k < cn (suM v one n) n → gN S 63 k = nI (nth (suM v one n) n k)) (hgu : guS g v one = true → gN S 63 (cn (suM v one n) n) = nI 6) :
    ∃ S', fX7_partNo (nI one) (bI r) (nI m) (lN b) S = some ((), S') ∧ oMW S0 S' n v top qk bl pr g sd (fun x => A x + dN n v top qk bl pr one r m b x) ∧ (m ≠ 0 → ∀ cc jj, cc ≠ 54 → gN S' cc jj = gN S cc jj) := by
  have h6 := h.1.2.1
  obtain ⟨S1, e1, h1, hT1⟩ := asNow_eq h
  have u1 := wX7_asNow e1
  have hf1 : ∀ cc jj, cc ≠ 54 → gN S1 cc jj = gN S cc jj := fun cc jj q => u1.n cc jj (by simp; omega) (by simp; omega)
  have hm0 : nI m = 0 ↔ m = 0 := by rw [li_0, eqI (by omega) (by omega)]
  cases r with
  | false =>
    by_cases hz : m = 0
    · obtain ⟨S2, e2, h2⟩ := partBelief_m hn ho hb h1
      refine ⟨S2, ?_, oMW_congr h2 (fun x => ?_), fun q => absurd hz q⟩
      · rw [fX7_partNo, e1, bd_s, if_pos bI_f0, if_pos (hm0.mpr hz), FX7_partNo_85, if_pos bI_f0, FX7_partNo_111, if_pos bI_f0, e2, bd_s]
      · unfold dN; rw [if_neg (by decide), if_pos hz]
    · obtain ⟨S2, e2, h2, hf2⟩ := partWrong_m (b := b) hn ho hm8 h1 hT1 ((hf1 _ _ (by decide)).trans h34) (fun k hk => (hf1 _ _ (by decide)).trans (h63 k hk)) (fun q => (hf1 _ _ (by decide)).trans (hgu q))
      refine ⟨S2, ?_, oMW_congr h2 (fun x => ?_), fun _ cc jj q => (hf2 cc jj q).trans (hf1 cc jj q)⟩
      · rw [fX7_partNo, e1, bd_s, if_pos bI_f0, if_neg (fun q => hz (hm0.mp q))]
        exact e2
      · have hd : dN n v top qk bl pr one false m b x = if x = hc (tW v top qk one n m) n 0 then b else 0 := by unfold dN; rw [if_neg (show ¬ false = true by decide), if_neg hz]
        rw [hd]; rfl
  | true =>
    by_cases hz : m = 0
    · have hfull : 2 ^ n - 1 < 2147483648 := by have := Nat.pow_le_pow_right (show 0 < 2 by decide) h6; omega
      obtain ⟨S2, e2, hB2, hT2⟩ := follow_loop (one := one) (mask := 2 ^ n - 1) ho hfull n 0 S1 v FU (by omega) (by unfold FU; omega) h1.1 hT1 (fun _ _ => rfl)
      have e2' : fX7_follow (nI one) (nI (2 ^ n - 1)) S1 = some ((), S2) := e2
      have h2 := oMW_fr h1 (wX7_follow e2') (by decide)
      have hT3 : Th S2 n (tA v top one) := Th_congr hT2 (fun i hi => by
        unfold tA
        by_cases hv : v i ≤ v one
        · rw [if_pos ⟨Nat.zero_le _, hi, bt1_full hi, hv⟩, if_pos hv]
        · rw [if_neg (fun q => hv q.2.2.2), if_neg hv])
      obtain ⟨S3, e3, h3, -, -⟩ := come_eq (b := b) hn h2 hT3
      refine ⟨S3, ?_, oMW_congr h3 (fun x => ?_), fun q => absurd hz q⟩
      · rw [fX7_partNo, e1, bd_s, if_neg bI_t0, FX7_partNo_85, if_neg bI_t0, if_pos (hm0.mpr hz), everybody_eq h1.1.1 h6, bd_s, e2', bd_s, e3, bd_s]
      · unfold dN ad; rw [if_pos rfl, if_pos hz]
    · obtain ⟨S2, e2, h2, hf2⟩ := partShaken_m hn ho hb h1 hT1
      refine ⟨S2, ?_, oMW_congr h2 (fun x => ?_), fun _ cc jj q => (hf2 cc jj q).trans (hf1 cc jj q)⟩
      · rw [fX7_partNo, e1, bd_s, if_neg bI_t0, FX7_partNo_85, if_neg bI_t0, if_neg (fun q => hz (hm0.mp q))]
        exact e2
      · unfold dN ad; rw [if_pos rfl, if_neg hz]; omega
/-- what is said: all its parts -/
theorem partRight_eq {one b : Nat} {r : Bool} (hn : n ≤ 3) (h9 : ∀ i, v i ≤ 9) (ho : one < n) (hb : b ≤ 1000000000) (h : oMW S0 S n v top qk bl pr g sd A) : ∃ S', fX7_partRight (nI one) (bI r) (lN b) S = some ((), S') ∧ oMW S0 S' n v top qk bl pr g sd (fun x => A x + sg (fun m => dN n v top qk bl pr one r m (vl (chN v one n r) b (kaN v g one n) m) x) 0 (2 ^ kaN v g one n)) := by
  have hka := kaN_le (v := v) (g := g) ho
  have h8 := p2_3 (show kaN v g one n ≤ 3 by omega)
  have hp := Nat.pow_pos (n := kaN v g one n) (show 0 < 2 by decide)
  have sh : ∀ k, k ≤ 3 → (1 : Int32) <<< (nI k &&& 31) - 1 = nI (2 ^ k - 1) := by decide
  obtain ⟨S1, e1, h1, q34, q63, qg⟩ := listSurer_eq hn ho h
  have key := loopFU (fun fu (x : Int32 × St) => FX7_partRight_19 fu (nI one) (bI r) (lN b) (nI (kaN v g one n)) x.1 x.2) (fun j x => ∃ S2, x = (nI (2 ^ kaN v g one n - j) - nI 1, S2) ∧ oMW S0 S2 n v top qk bl pr g sd (fun x => A x + sdn (fun m => dN n v top qk bl pr one r m (vl (chN v one n r) b (kaN v g one n) m) x) (2 ^ kaN v g one n) j) ∧ (j < 2 ^ kaN v g one n → ∀ cc jj, cc ≠ 54 → gN S2 cc jj = gN S1 cc jj)) (fun z => ∃ S', z = some ((), S') ∧ oMW S0 S' n v top qk bl pr g sd (fun x => A x + sg (fun m => dN n v top qk bl pr one r m (vl (chN v one n r) b (kaN v g one n) m) x) 0 (2 ^ kaN v g one n))) (2 ^ kaN v g one n) (FU_lt (by omega))
    (by
      intro j fu x hj ⟨S2, e, h2, hf2⟩
      subst e
      have hf := hf2 hj
      have ei : nI (2 ^ kaN v g one n - j) - nI 1 = nI (2 ^ kaN v g one n - 1 - j) := by rw [subI (by omega)]; congr 1; omega
      have p34 : gN S2 44 34 = nI (kaN v g one n) := (hf _ _ (by decide)).trans q34
      have p63 : ∀ k, k < cn (suM v one n) n → gN S2 63 k = nI (nth (suM v one n) n k) := fun k hk => (hf _ _ (by decide)).trans (q63 k hk)
      have pg : guS g v one = true → gN S2 63 (cn (suM v one n) n) = nI 6 := fun q => (hf _ _ (by decide)).trans (qg q)
      obtain ⟨S3, e3, h3, hf3⟩ := partNo_eq (r := r) (m := 2 ^ kaN v g one n - 1 - j) (b := vl (chN v one n r) b (kaN v g one n) (2 ^ kaN v g one n - 1 - j)) hn ho (by omega) (Nat.le_trans (vl_le (fun k => chN_le h9) _) hb) h2 p34 p63 pg
      have inner : FX7_partRight_30 (fun l1_ l2_ l3_ l5_ l6_ S_ => FX7_partRight_19 fu l1_ l2_ l3_ l5_ l6_ S_) FU (nI one) (bI r) (lN b) (nI (kaN v g one n)) (nI (2 ^ kaN v g one n - 1 - j)) (lN b) (nI 0) S2 = FX7_partRight_19 fu (nI one) (bI r) (lN b) (nI (kaN v g one n)) (nI (2 ^ kaN v g one n - 1 - j) + -1) S3 :=
        loopFU (fun fu2 (y : Int64 × Int32) => FX7_partRight_30 (fun l1_ l2_ l3_ l5_ l6_ S_ => FX7_partRight_19 fu l1_ l2_ l3_ l5_ l6_ S_) fu2 (nI one) (bI r) (lN b) (nI (kaN v g one n)) (nI (2 ^ kaN v g one n - 1 - j)) y.1 y.2 S2) (fun k y => y = (lN (vl (chN v one n r) b k (2 ^ kaN v g one n - 1 - j)), nI k)) (fun z => z = FX7_partRight_19 fu (nI one) (bI r) (lN b) (nI (kaN v g one n)) (nI (2 ^ kaN v g one n - 1 - j) + -1) S3) (kaN v g one n) (FU_lt (by omega))
          (by
            intro k fu2 y hk e
            subst e
            have hhas := has_eq (S := S2) (m := 2 ^ kaN v g one n - 1 - j) (k := k) (by omega) (by omega)
            have hvl := Nat.le_trans (vl_le (ch := chN v one n r) (b := b) (m := 2 ^ kaN v g one n - 1 - j) (fun k => chN_le h9) k) hb
            have hc100 : chN v one n r k ≤ 100 := chN_le h9
            have hle := pc_le (w := vl (chN v one n r) b k (2 ^ kaN v g one n - 1 - j)) hc100
            refine Or.inl ⟨(lN (vl (chN v one n r) b (k + 1) (2 ^ kaN v g one n - 1 - j)), nI (k + 1)), ?_, rfl⟩
            dsimp only
            rw [FX7_partRight_30, if_neg (by rw [leI (by omega) (by omega)]; omega), chanceOf_eq hn ho h2 p63 pg hk, bd_s]
            dsimp only
            rw [pc_eq hvl hc100, hhas, bd_s, vl]
            cases hb' : bt1 (2 ^ kaN v g one n - 1 - j) k with
            | false => rw [if_pos bI_f0, if_neg (by decide), lN_sub hle, FX7_partRight_74]; simp only [nI_1]
            | true => rw [if_neg bI_t0, if_pos rfl, FX7_partRight_74]; simp only [nI_1])
          (by
            intro fu2 y e
            subst e
            dsimp only
            rw [FX7_partRight_30, if_pos (Int32.le_refl _), e3, bd_s])
          (lN b, nI 0) rfl
      refine Or.inl ⟨(nI (2 ^ kaN v g one n - (j + 1)) - nI 1, S3), ?_, S3, rfl, oMW_congr h3 (fun x => ?_), fun hj1 cc jj q => (hf3 (by omega) cc jj q).trans (hf cc jj q)⟩
      · dsimp only
        rw [ei, FX7_partRight_19, if_neg (nI_pos (by omega))]
        refine Eq.trans inner ?_
        rw [show (-1 : Int32) = -nI 1 from rfl, addm1, show 2 ^ kaN v g one n - 1 - j = 2 ^ kaN v g one n - (j + 1) by omega]
      · rw [sdn]
        omega)
    (by
      intro fu x ⟨S2, e, h2, hf2⟩
      subst e
      refine ⟨S2, ?_, oMW_congr h2 (fun x => by rw [sdn_all])⟩
      dsimp only
      rw [FX7_partRight_19, Nat.sub_self, neg1, if_pos (by decide)])
    (nI (2 ^ kaN v g one n) - nI 1, S1) ⟨S1, rfl, oMW_congr h1 (fun x => rfl), fun _ _ _ _ => rfl⟩
  obtain ⟨S', e, q⟩ := key
  refine ⟨S', ?_, q⟩
  rw [fX7_partRight, e1, bd_s, q34]
  dsimp only
  rw [sh _ (by omega)]
  rw [show nI (2 ^ kaN v g one n - 1) = nI (2 ^ kaN v g one n) - nI 1 by rw [subI (by omega)]]
  exact e
/-- both halves are what the class adds -/
theorem dAll_dN {one D x : Nat} : sg (fun m => dN n v top qk bl pr one true m (vl (chN v one n true) (D * (10 * v one + 5) / 100) (kaN v g one n) m) x) 0 (2 ^ kaN v g one n) + sg (fun m => dN n v top qk bl pr one false m (vl (chN v one n false) (D - D * (10 * v one + 5) / 100) (kaN v g one n) m) x) 0 (2 ^ kaN v g one n) = dAll n v top qk bl pr g one D x := by
  have hp := Nat.pow_pos (n := kaN v g one n) (show 0 < 2 by decide)
  obtain ⟨q, hq⟩ : ∃ q, 2 ^ kaN v g one n = q + 1 := ⟨2 ^ kaN v g one n - 1, by omega⟩
  unfold dAll
  rw [hq, sg_head, sg_head, Nat.add_sub_cancel]
  have e1 : sg (fun m => dN n v top qk bl pr one true m (vl (chN v one n true) (D * (10 * v one + 5) / 100) (kaN v g one n) m) x) 1 q = sg (dRm (hc v n 0) (hc (fup v one (v one - 1)) n 0) (pr one) (vl (chN v one n true) (D * (10 * v one + 5) / 100) (kaN v g one n)) x) 1 q := sg_congr q (fun i _ => by unfold dN dRm; rw [if_pos rfl, if_neg (by omega)])
  have e2 : sg (fun m => dN n v top qk bl pr one false m (vl (chN v one n false) (D - D * (10 * v one + 5) / 100) (kaN v g one n) m) x) 1 q = sg (fun m => if x = hc (tW v top qk one n m) n 0 then vl (chN v one n false) (D - D * (10 * v one + 5) / 100) (kaN v g one n) m else 0) 1 q := sg_congr q (fun i _ => by unfold dN; rw [if_neg (by decide), if_neg (by omega)])
  rw [e1, e2]
  have e3 : ∀ b, dN n v top qk bl pr one true 0 b x = if x = hc (tA v top one) n 0 then b else 0 := fun b => by unfold dN; rw [if_pos rfl, if_pos rfl]
  have e4 : ∀ b, dN n v top qk bl pr one false 0 b x = sg (fun m' => if x = hc (tB v one n m') n 0 then vl (chB v bl one n) b (cn (beM v one n) n) m' else 0) 0 (2 ^ cn (beM v one n) n) := fun b => by unfold dN; rw [if_neg (by decide), if_pos rfl]
  rw [e3, e4]
  omega
end
