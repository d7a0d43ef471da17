/-! ===== words and signs: the reference ===== -/
section
variable {L : Nat} {T : Nat → Nat} {S : St}
theorem wcd_on {s : Nat} (hs : s ≤ L) : (wcd L T s = 419 ↔ isW L T 2 s) ∧ (wcd L T s = 10793230 ↔ isW L T 0 s) ∧ (wcd L T s = 8928318 ↔ isW L T 1 s) := by
  unfold wcd
  by_cases q : kd L T s = 1
  · rw [if_pos q]
    have hl : ∀ j, j < te L T s - s → 97 ≤ T (s + j) ∧ T (s + j) ≤ 122 := fun j hj => (kd_1.mp (te_in hs q (Or.inl rfl) (by omega) (show s + j < te L T s by omega))).2
    by_cases h5 : te L T s - s ≤ 5
    · obtain ⟨a, b, c⟩ := wcn_5 (s := s) h5 hl
      refine ⟨a.trans ⟨fun z => ⟨q, z.1, fun j hj => ?_⟩, fun z => ⟨z.2.1, z.2.2 0 (by decide), z.2.2 1 (by decide)⟩⟩, b.trans ⟨fun z => ⟨q, z.1, fun j hj => ?_⟩, fun z => ⟨z.2.1, z.2.2 0 (by decide), z.2.2 1 (by decide), z.2.2 2 (by decide), z.2.2 3 (by decide), z.2.2 4 (by decide)⟩⟩, c.trans ⟨fun z => ⟨q, z.1, fun j hj => ?_⟩, fun z => ⟨z.2.1, z.2.2 0 (by decide), z.2.2 1 (by decide), z.2.2 2 (by decide), z.2.2 3 (by decide), z.2.2 4 (by decide)⟩⟩⟩
      · have hj2 : j < 2 := hj
        match j, hj2 with
        | 0, _ => exact z.2.1
        | 1, _ => exact z.2.2
      · have hj5 : j < 5 := hj
        match j, hj5 with
        | 0, _ => exact z.2.1
        | 1, _ => exact z.2.2.1
        | 2, _ => exact z.2.2.2.1
        | 3, _ => exact z.2.2.2.2.1
        | 4, _ => exact z.2.2.2.2.2
      · have hj5 : j < 5 := hj
        match j, hj5 with
        | 0, _ => exact z.2.1
        | 1, _ => exact z.2.2.1
        | 2, _ => exact z.2.2.2.1
        | 3, _ => exact z.2.2.2.2.1
        | 4, _ => exact z.2.2.2.2.2
    · have hbig := wcn_big (T := T) (s := s) (te L T s - s - 6) (fun j hj => (hl j (by omega)).1)
      rw [show 6 + (te L T s - s - 6) = te L T s - s by omega] at hbig
      refine ⟨⟨fun z => by omega, fun z => ?_⟩, ⟨fun z => by omega, fun z => ?_⟩, ⟨fun z => by omega, fun z => ?_⟩⟩
      · have : te L T s - s = 2 := z.2.1
        omega
      · have : te L T s - s = 5 := z.2.1
        omega
      · have : te L T s - s = 5 := z.2.1
        omega
  · rw [if_neg q]
    refine ⟨⟨fun z => ?_, fun z => absurd z.1 q⟩, ⟨fun z => ?_, fun z => absurd z.1 q⟩, ⟨fun z => ?_, fun z => absurd z.1 q⟩⟩ <;> (rw [wcn] at z; omega)
/-- where a word ends -/
def we (L : Nat) (T : Nat → Nat) (s : Nat) : Nat := if kd L T s = 1 then te L T s else s
theorem readWord_m {p : Nat} (ho : okT L T) (hp : p ≤ L) (h : TxM S L T) (h10 : gN S 44 10 = nI p) : ∃ S', fX7_readWord S = some ((), S') ∧ gJ S' 44 11 = lN (wcd L T (sk L T p)) ∧ gN S' 44 12 = nI (we L T (sk L T p)) ∧ gN S' 44 10 = nI (sk L T p) := by
  have h4 := ho.1
  obtain ⟨S1, e1, f10⟩ := here_m ho hp h h10
  have u1 := wX7_here e1
  have t1 : TxM S1 L T := ⟨(u1.n _ _ (by simp) (by simp)).trans h.1, fun i hi => (u1.n _ _ (by simp) (by simp)).trans (h.2 i hi)⟩
  have hs := sk_le (T := T) hp
  generalize sk L T p = s at *
  obtain ⟨g1, g2⟩ := te_le (T := T) hs
  have w1 : s ≤ we L T s ∧ we L T s ≤ L := by unfold we; split <;> omega
  have win : ∀ j, s ≤ j → j < we L T s → j < L ∧ 97 ≤ T j ∧ T j ≤ 122 := fun j a b => by
    unfold we at b
    by_cases q : kd L T s = 1
    · rw [if_pos q] at b; exact kd_1.mp (te_in hs q (Or.inl rfl) a b)
    · rw [if_neg q] at b; omega
  have wend : ¬ kd L T (we L T s) = 1 := by
    unfold we
    by_cases q : kd L T s = 1
    · rw [if_pos q]; exact te_end hs q (Or.inl rfl)
    · rw [if_neg q]; exact q
  have wc : wcd L T s = wcn T s (we L T s - s) := by
    unfold wcd we
    by_cases q : kd L T s = 1
    · rw [if_pos q, if_pos q]
    · rw [if_neg q, if_neg q, Nat.sub_self]
  have hin : ∀ (x : St) (b : Nat), b < 256 → fX7_in ((nI b : Int32).toInt64) 97 122 x = some (bI (decide (97 ≤ b ∧ b ≤ 122)), x) := fun x b hb => by
    rw [show (97 : Int64) = lN 97 from rfl, show (122 : Int64) = lN 122 from rfl, in_nat (by decide) (by decide)]
    congr 3
    exact decide_eq_decide.mpr (by rw [leI (by omega) (by omega), leI (by omega) (by omega)])
  have e0 : fX7_readWord S = FX7_readWord_18 FU (sN (sJ S1 44 11 (lN 0)) 44 12 (nI s)) := by
    rw [fX7_readWord, e1, bd_s]
    dsimp only
    rw [gN_sJ, f10]
    rfl
  rw [e0]
  exact loopFU (fun fu (x : St) => FX7_readWord_18 fu x) (fun k x => TxM x L T ∧ gN x 44 10 = nI s ∧ gN x 44 12 = nI (s + k) ∧ gJ x 44 11 = lN (wcn T s k)) (fun r => ∃ S', r = some ((), S') ∧ gJ S' 44 11 = lN (wcd L T s) ∧ gN S' 44 12 = nI (we L T s) ∧ gN S' 44 10 = nI s) (we L T s - s) (FU_lt (by omega))
    (by
      intro k fu x hk ⟨x0, x10, x12, xj⟩
      have dl := win (s + k) (by omega) (by omega)
      have hle := wcn_le (T := T) (s := s) k (fun j hj => (win (s + j) (by omega) (by omega)).2.2)
      have step : ∀ v : Nat, FX7_readWord_92 (fun S_ => FX7_readWord_18 fu S_) (lN v) x = FX7_readWord_18 fu (sN (sJ x 44 11 (lN v)) 44 12 (nI (s + k + 1))) := fun v => by
        rw [FX7_readWord_92, gN_sJ, x12, nI_1]
      refine Or.inl ⟨sN (sJ x 44 11 (lN (wcn T s (k + 1)))) 44 12 (nI (s + k + 1)), ?_, TxM_s (by decide) x0, ?_, gN_sN_s, ?_⟩
      · rw [FX7_readWord_18, x0.1, x12, if_neg (by rw [leI (by omega) (by omega)]; omega)]
        rw [gdI (by omega) (by omega), clI (by omega), x0.2 _ dl.1, hin _ _ (by omega), bd_s, decide_eq_true dl.2, if_neg bI_t0, xj, show (1000000000000 : Int64) = lN 1000000000000 from rfl]
        by_cases q : wcn T s k ≤ 1000000000000
        · rw [if_pos (by rw [← Int32.not_lt, lcmp_gt (by omega) (by decide)]; omega), x12, gdI (by omega) (by omega), clI (by omega), x0.2 _ dl.1, toI64 (by omega), show (27 : Int64) = lN 27 from rfl, lN_mul, lN_add, show (96 : Int64) = lN 96 from rfl, lN_sub (by omega), step, wcn, if_pos q]
        · rw [if_neg (by rw [← Int32.not_lt, lcmp_gt (by omega) (by decide)]; omega), show (2000000000000 : Int64) = lN 2000000000000 from rfl, step, wcn, if_neg q]
      · rw [gN_sN_j (by decide)]; exact x10
      · rw [gJ_sN, gJ_sJ_s])
    (by
      intro fu x ⟨x0, x10, x12, xj⟩
      rw [show s + (we L T s - s) = we L T s by omega] at x12
      refine ⟨x, ?_, xj.trans (by rw [wc]), x12, x10⟩
      rw [FX7_readWord_18, x0.1, x12]
      by_cases q : L ≤ we L T s
      · rw [if_pos (by rw [leI (by omega) (by omega)]; exact q)]
      · have hb := ho.2 (we L T s) (by omega)
        rw [if_neg (by rw [leI (by omega) (by omega)]; exact q)]
        rw [gdI (by omega) (by omega), clI (by omega), x0.2 _ (by omega), hin _ _ hb, bd_s, decide_eq_false (fun z => wend (kd_1.mpr ⟨by omega, z⟩)), if_pos bI_f0])
    (sN (sJ S1 44 11 (lN 0)) 44 12 (nI s)) ⟨TxM_s (by decide) t1, by rw [gN_sN_j (by decide)]; exact f10, gN_sN_s, by rw [gJ_sN, gJ_sJ_s]; rfl⟩
theorem comma_m {p : Nat} (ho : okT L T) (hp : p ≤ L) (h : TxM S L T) (h10 : gN S 44 10 = nI p) : ∃ S', fX7_isComma S = some (bI (decide (sk L T p < L ∧ T (sk L T p) = 44)), S') ∧ gN S' 44 10 = nI (if sk L T p < L ∧ T (sk L T p) = 44 then sk L T p + 1 else sk L T p) := by
  have h4 := ho.1
  obtain ⟨S1, e1, f10⟩ := here_m ho hp h h10
  by_cases q : sk L T p < L ∧ T (sk L T p) = 44
  · refine ⟨sN S1 44 10 (nI (sk L T p) + 1), ?_, by rw [gN_sN_s, if_pos q, nI_1]⟩
    rw [decide_eq_true q, fX7_isComma, e1, bd_s, if_pos q.1, q.2, if_pos (by rfl), FX7_isComma_14, if_neg (by decide), FX7_isComma_29, f10, gd_t (by decide)]
    rfl
  · refine ⟨sN S1 44 10 (nI (sk L T p) + 0), ?_, by rw [gN_sN_s, if_neg q, li_0, nI_add]; rfl⟩
    rw [fX7_isComma, e1, bd_s]
    have : ¬ (if sk L T p < L then nI (T (sk L T p)) else -1) = (44 : Int32) := by
      by_cases z : sk L T p < L
      · have hb := ho.2 _ z
        rw [if_pos z, show (44 : Int32) = nI 44 from rfl, eqI (by omega) (by omega)]
        exact fun y => q ⟨z, y⟩
      · rw [if_neg z]; decide
    rw [if_neg this, FX7_isComma_14, if_pos rfl, FX7_isComma_29, f10, gd_t (by decide), decide_eq_false q]
    rfl
end
