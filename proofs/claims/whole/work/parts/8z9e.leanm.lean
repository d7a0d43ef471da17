/-! ===== what a thing leans on: the reference ===== -/
section
variable {L : Nat} {T : Nat → Nat} {S : St} {nt : Nat}
theorem nerr_pos {s : Nat} : 0 < nerr L T s ∧ nerr L T s ≤ 2 := by unfold nerr; split <;> omega
theorem lean_m {p : Nat} (ho : okT L T) (hp : p ≤ L) (h6 : nt ≤ 5) (h : TxM S L T) (h10 : gN S 44 10 = nI p) (h15 : gN S 44 15 = nI nt) (h49 : gN S 49 nt = nI 0) :
    ∃ S', FX7_takeThing_35 FU 1 S = some (nI (leanR L T nt 6 0 p).1, S') ∧ ((leanR L T nt 6 0 p).1 = 0 → gN S' 49 nt = nI (leanR L T nt 6 0 p).2.2 ∧ gN S' 44 15 = nI (nt + 1) ∧ gN S' 44 10 = nI (leanR L T nt 6 0 p).2.1 ∧ (∀ j, j ≠ nt → gN S' 49 j = gN S 49 j) ∧ sk L T (leanR L T nt 6 0 p).2.1 = (leanR L T nt 6 0 p).2.1 ∧ (leanR L T nt 6 0 p).2.1 ≤ L ∧ gN S' 44 9 = gN S 44 9) ∧ (¬ (leanR L T nt 6 0 p).1 = 0 → gN S' 44 9 = nI (leanR L T nt 6 0 p).2.1) := by
  have h4 := ho.1
  have h64 : 2 ^ nt ≤ 32 := Nat.pow_le_pow_right (show 0 < 2 by decide) h6
  generalize hR : leanR L T nt 6 0 p = R
  have ret : ∀ fu (x : St), gN x 44 15 = nI nt → FX7_takeThing_35 (fu + 1) 0 x = some (0, sN x 44 15 (nI (nt + 1))) := by
    intro fu x hx
    rw [FX7_takeThing_35, if_pos rfl, FX7_takeThing_120, hx, nI_1]
  have done : ∀ fu (S1 : St), R.1 = 0 ∧ gN S1 49 nt = nI R.2.2 ∧ gN S1 44 15 = nI nt ∧ gN S1 44 10 = nI R.2.1 ∧ (∀ j, j ≠ nt → gN S1 49 j = gN S 49 j) ∧ sk L T R.2.1 = R.2.1 ∧ R.2.1 ≤ L ∧ gN S1 44 9 = gN S 44 9 → ∃ S', FX7_takeThing_35 (fu + 1) 0 S1 = some (nI R.1, S') ∧ (R.1 = 0 → gN S' 49 nt = nI R.2.2 ∧ gN S' 44 15 = nI (nt + 1) ∧ gN S' 44 10 = nI R.2.1 ∧ (∀ j, j ≠ nt → gN S' 49 j = gN S 49 j) ∧ sk L T R.2.1 = R.2.1 ∧ R.2.1 ≤ L ∧ gN S' 44 9 = gN S 44 9) ∧ (¬ R.1 = 0 → gN S' 44 9 = nI R.2.1) := by
    intro fu S1 ⟨c0, c1, c2, c3, c4, c5, c6, c7⟩
    refine ⟨sN S1 44 15 (nI (nt + 1)), by rw [ret _ _ c2, c0]; rfl, fun _ => ⟨by rw [gN_sN_c (by decide)]; exact c1, gN_sN_s, by rw [gN_sN_j (by decide)]; exact c3, fun j hj => by rw [gN_sN_c (by decide)]; exact c4 j hj, c5, c6, by rw [gN_sN_j (by decide)]; exact c7⟩, fun z => absurd c0 z⟩
  exact loopFU (fun fu (x : Int32 × St) => FX7_takeThing_35 fu x.1 x.2)
    (fun k x => (∃ S1 m q, x = (1, S1) ∧ m < 2 ^ nt ∧ cn m nt = k ∧ leanR L T nt (6 - k) m q = R ∧ q ≤ L ∧ TxM S1 L T ∧ gN S1 44 10 = nI q ∧ gN S1 44 15 = nI nt ∧ gN S1 49 nt = nI m ∧ (∀ j, j ≠ nt → gN S1 49 j = gN S 49 j) ∧ gN S1 44 9 = gN S 44 9) ∨ (∃ S1, x = (0, S1) ∧ R.1 = 0 ∧ gN S1 49 nt = nI R.2.2 ∧ gN S1 44 15 = nI nt ∧ gN S1 44 10 = nI R.2.1 ∧ (∀ j, j ≠ nt → gN S1 49 j = gN S 49 j) ∧ sk L T R.2.1 = R.2.1 ∧ R.2.1 ≤ L ∧ gN S1 44 9 = gN S 44 9))
    (fun z => ∃ S', z = some (nI R.1, S') ∧ (R.1 = 0 → gN S' 49 nt = nI R.2.2 ∧ gN S' 44 15 = nI (nt + 1) ∧ gN S' 44 10 = nI R.2.1 ∧ (∀ j, j ≠ nt → gN S' 49 j = gN S 49 j) ∧ sk L T R.2.1 = R.2.1 ∧ R.2.1 ≤ L ∧ gN S' 44 9 = gN S 44 9) ∧ (¬ R.1 = 0 → gN S' 44 9 = nI R.2.1)) 7 (FU_lt (by omega))
    (by
      intro k fu x hk hI
      rcases hI with ⟨S1, m, q, e, hm, hc, hl, hq, t0, t10, t15, t49, tf, t9⟩ | ⟨S1, e, c0⟩
      · subst e
        have hk5 : k ≤ 5 := by have := cn_le m nt; omega
        have hs := sk_le (T := T) hq
        rw [show 6 - k = (6 - (k + 1)) + 1 by omega, leanR] at hl
        have num := number_m (lo := 0) (hi := nI nt - 1) ho hq t0 t10
        generalize sk L T q = s at *
        by_cases hn : numIs L T 0 (nI nt - 1) s
        · obtain ⟨S3, e3, b13, b10, b14, b9⟩ := num.1 hn
          have hv := num_lt (by omega) hn hs
          have hte := (te_le (T := T) hs).2
          have u3 := wX7_takeNumber e3
          rw [if_pos hn] at hl
          generalize nv T s (te L T s - s) = v at *
          have b0 : TxM S3 L T := ⟨(u3.n _ _ (by simp) (by simp)).trans t0.1, fun i hi => (u3.n _ _ (by simp) (by simp)).trans (t0.2 i hi)⟩
          have b15 : gN S3 44 15 = nI nt := (u3.n _ _ (by simp) (by simp)).trans t15
          have b49 : gN S3 49 nt = nI m := (u3.n _ _ (by simp) (by simp)).trans t49
          by_cases hb : bt1 m v = true
          · rw [if_pos hb] at hl
            subst hl
            refine Or.inr ⟨sN S3 44 9 (nI s), ?_, fun z => absurd (show 3 = 0 from z) (by decide), fun _ => gN_sN_s⟩
            dsimp only
            rw [FX7_takeThing_35, if_neg (by decide), t15, e3, bd_s, if_pos rfl]
            dsimp only
            rw [b15, gdI (by omega) (by omega), clI (by omega), b49, b13, has_eq (by omega) (by omega), bd_s, hb, if_neg bI_t0, b14, fX7_fails, bd_s, FX7_takeThing_87, if_neg (by decide)]
            rfl
          · have hb' : bt1 m v = false := by simpa using hb
            rw [if_neg hb] at hl
            left
            have c0 : TxM (sN S3 49 nt (nI (m + 2 ^ v))) L T := ⟨(gN_sN_c (by decide)).trans b0.1, fun i hi => (gN_sN_c (by decide)).trans (b0.2 i hi)⟩
            obtain ⟨S5, e5, d10⟩ := comma_m ho hte c0 ((gN_sN_c (by decide)).trans b10)
            have u5 := wX7_isComma e5
            have hs1 := sk_le (T := T) hte
            have hss := sk_sk (T := T) hte
            generalize sk L T (te L T s) = s1 at *
            have d0 : TxM S5 L T := ⟨(u5.n _ _ (by simp) (by simp)).trans c0.1, fun i hi => (u5.n _ _ (by simp) (by simp)).trans (c0.2 i hi)⟩
            have d15 : gN S5 44 15 = nI nt := (u5.n _ _ (by simp) (by simp)).trans ((gN_sN_c (by decide)).trans b15)
            have d49 : gN S5 49 nt = nI (m + 2 ^ v) := (u5.n _ _ (by simp) (by simp)).trans gN_sN_s
            have df : ∀ j, j ≠ nt → gN S5 49 j = gN S 49 j := fun j hj => (u5.n _ _ (by simp) (by simp)).trans ((gN_sN_j hj).trans ((u3.n _ _ (by simp) (by simp)).trans (tf j hj)))
            have d9 : gN S5 44 9 = gN S 44 9 := (u5.n _ _ (by simp) (by simp)).trans ((gN_sN_c (by decide)).trans (b9.trans t9))
            have e4 : FX7_takeThing_35 (fu + 1) 1 S1 = FX7_takeThing_35 fu (bI (decide (s1 < L ∧ T s1 = 44))) S5 := by
              rw [FX7_takeThing_35, if_neg (by decide), t15, e3, bd_s, if_pos rfl]
              dsimp only
              rw [b15, gdI (by omega) (by omega), clI (by omega), b49, b13, has_eq (by omega) (by omega), bd_s, hb', if_pos bI_f0, FX7_takeThing_86, FX7_takeThing_87, if_pos (by decide), b15]
              dsimp only
              rw [gdI (by omega) (by omega), gdI (by omega) (by omega), clI (by omega), b49, b13, or_bit m (by omega) v (by omega) hb', e5, bd_s]
            have hlt := add_lt6 nt (by omega) m (by omega) v (by omega) hm hv hb'
            have hcn := cn_add6 nt (by omega) m (by omega) v (by omega) hm hv hb'
            by_cases hcm : s1 < L ∧ T s1 = 44
            · rw [if_pos hcm] at hl d10
              refine ⟨(1, S5), ?_, Or.inl ⟨S5, m + 2 ^ v, s1 + 1, rfl, hlt, by omega, hl, by omega, d0, d10, d15, d49, df, d9⟩⟩
              dsimp only
              rw [e4, decide_eq_true hcm]; rfl
            · rw [if_neg hcm] at hl d10
              subst hl
              refine ⟨(0, S5), ?_, Or.inr ⟨S5, rfl, rfl, d49, d15, d10, df, hss, hs1, d9⟩⟩
              dsimp only
              rw [e4, decide_eq_false hcm]; rfl
        · obtain ⟨S3, e3, b9⟩ := num.2 hn
          have hp2 := nerr_pos (L := L) (T := T) (s := s)
          rw [if_neg hn] at hl
          subst hl
          refine Or.inr ⟨S3, ?_, fun z => absurd (show nerr L T s = 0 from z) (by omega), fun _ => b9⟩
          dsimp only
          rw [FX7_takeThing_35, if_neg (by decide), t15, e3, bd_s, if_neg nerr_nz, FX7_takeThing_86, FX7_takeThing_87, if_neg (by rw [li_0, leI (by omega) (by omega)]; omega)]
      · subst e
        exact Or.inr (done _ _ c0))
    (by
      intro fu x hI
      rcases hI with ⟨S1, m, q, e, hm, hc, hl, hq, t0, t10, t15, t49, tf, t9⟩ | ⟨S1, e, c0⟩
      · have := cn_le m nt
        omega
      · subst e
        exact done _ _ c0)
    (1, S) (Or.inl ⟨S, 0, p, rfl, Nat.pow_pos (by decide), cn_zero nt, hR, hp, h, h10, h15, h49, fun _ _ => rfl, rfl⟩)
end
