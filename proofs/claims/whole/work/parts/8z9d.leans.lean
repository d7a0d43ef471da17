/-! ===== what a thing leans on ===== -/
/-- the error (0: none), where, and the set -/
def leanR (L : Nat) (T : Nat → Nat) (nt : Nat) : Nat → Nat → Nat → Nat × Nat × Nat
  | 0, m, p => (0, p, m)
  | n + 1, m, p =>
    if numIs L T 0 (nI nt - 1) (sk L T p) then
      if bt1 m (nv T (sk L T p) (te L T (sk L T p) - sk L T p)) = true then (3, sk L T p, 0)
      else if sk L T (te L T (sk L T p)) < L ∧ T (sk L T (te L T (sk L T p))) = 44 then leanR L T nt n (m + 2 ^ nv T (sk L T p) (te L T (sk L T p) - sk L T p)) (sk L T (te L T (sk L T p)) + 1)
      else (0, sk L T (te L T (sk L T p)), m + 2 ^ nv T (sk L T p) (te L T (sk L T p) - sk L T p))
    else (nerr L T (sk L T p), sk L T p, 0)
section
variable {L : Nat} {T : Nat → Nat} {S : St} {nt : Nat}
theorem num_lt {s : Nat} (h6 : nt ≤ 6) (h : numIs L T 0 (nI nt - 1) s) (hs : s ≤ L) : nv T s (te L T s - s) < nt := by
  have hv := nv_le (T := T) (s := s) (te L T s - s) (fun j a b => (kd_2.mp (te_in hs h.1 (Or.inr rfl) a (by omega))).2.2)
  have := p10s h.2.1
  have h4 := h.2.2.2
  cases nt with
  | zero =>
    rw [show nI 0 - 1 = -1 from by decide] at h4
    exact absurd (Int32.lt_of_le_of_lt h4 (show (-1 : Int32) < 0 by decide)) (nI_pos (by omega))
  | succ n =>
    rw [show nI (n + 1) - 1 = nI n from nI_pred n, leI (by omega) (by omega)] at h4
    omega
theorem cn_zero : ∀ k, cn 0 k = 0 := by
  intro k
  induction k with
  | zero => rfl
  | succ k ih => rw [cn, ih, bt1_zero]; rfl
theorem nerr_nz {s : Nat} : ¬ nI (nerr L T s) = 0 := by unfold nerr; split <;> decide
/-- the class; at the word or comma that ends at p -/
theorem lean_c {p : Nat} (ho : okT L T) (hp : p ≤ L) (h6 : nt ≤ 5) (h : TxC S L T) (h5 : gN S 1 5 = nI p) (h3 : gN S 1 3 = 0) {r : Nat} (hr : gR S 1 4 = r) (hrs : isSch r = true) (hrn : gN S r 0 = nI nt) (hr3 : 3 ≤ r) :
    ∃ S' x, fX2_readLeaning S = some (x, S') ∧ ((leanR L T nt 6 0 p).1 = 0 → x = nI (leanR L T nt 6 0 p).2.2 ∧ (leanR L T nt 6 0 p).2.2 < 2 ^ nt ∧ gN S' 1 3 = 0 ∧ Tok S' L T (leanR L T nt 6 0 p).2.1 ∧ (leanR L T nt 6 0 p).2.1 ≤ L ∧ gN S' 1 2 = gN S 1 2) ∧ (¬ (leanR L T nt 6 0 p).1 = 0 → gN S' 1 3 = nI (leanR L T nt 6 0 p).1 ∧ gN S' 1 2 = nI (leanR L T nt 6 0 p).2.1) := by
  have h4 := ho.1
  have h64 : 2 ^ nt ≤ 32 := Nat.pow_le_pow_right (show 0 < 2 by decide) h6
  generalize hR : leanR L T nt 6 0 p = R
  have ret : ∀ fu (y l3 : Int32) (x : St), FX2_readLeaning_6 (fu + 1) y 0 l3 x = some (y, x) := by
    intro fu y l3 x
    rw [FX2_readLeaning_6]
    split
    · rfl
    · rw [if_pos rfl]; rfl
  exact loopFU (fun fu (x : Int32 × Int32 × Int32 × St) => FX2_readLeaning_6 fu x.1 x.2.1 x.2.2.1 x.2.2.2)
    (fun k x => (∃ S1 m q, x = (nI m, 1, nI k, S1) ∧ m < 2 ^ nt ∧ cn m nt = k ∧ leanR L T nt (6 - k) m q = R ∧ q ≤ L ∧ TxC S1 L T ∧ gN S1 1 5 = nI q ∧ gN S1 1 3 = 0 ∧ gR S1 1 4 = r ∧ gN S1 r 0 = nI nt ∧ gN S1 1 2 = gN S 1 2) ∨ (∃ S1 y l3, x = (y, 0, l3, S1) ∧ (R.1 = 0 → y = nI R.2.2 ∧ R.2.2 < 2 ^ nt ∧ gN S1 1 3 = 0 ∧ Tok S1 L T R.2.1 ∧ R.2.1 ≤ L ∧ gN S1 1 2 = gN S 1 2) ∧ (¬ R.1 = 0 → gN S1 1 3 = nI R.1 ∧ gN S1 1 2 = nI R.2.1)))
    (fun z => ∃ S' x, z = some (x, S') ∧ (R.1 = 0 → x = nI R.2.2 ∧ R.2.2 < 2 ^ nt ∧ gN S' 1 3 = 0 ∧ Tok S' L T R.2.1 ∧ R.2.1 ≤ L ∧ gN S' 1 2 = gN S 1 2) ∧ (¬ R.1 = 0 → gN S' 1 3 = nI R.1 ∧ gN S' 1 2 = nI R.2.1)) 7 (FU_lt (by omega))
    (by
      intro k fu x hk hI
      rcases hI with ⟨S1, m, q, e, hm, hc, hl, hq, t0, t5, t3, tr, tn, t2⟩ | ⟨S1, y, l3, e, c1, c2⟩
      · subst e
        have hk5 : k ≤ 5 := by have := cn_le m nt; omega
        obtain ⟨S2, e2, k2⟩ := advance_c ho hq t0 t5
        have u2 := wX2_advance e2
        have hs := sk_le (T := T) hq
        rw [show 6 - k = (6 - (k + 1)) + 1 by omega, leanR] at hl
        generalize sk L T q = s at *
        have a0 : TxC S2 L T := ⟨(u2.n _ _ (by simp) (by simp)).trans t0.1, fun i hi => (u2.n _ _ (by simp) (by simp)).trans (t0.2 i hi)⟩
        have a3 : gN S2 1 3 = 0 := (u2.n _ _ (by simp) (by simp)).trans t3
        have a2 : gN S2 1 2 = gN S 1 2 := (u2.n _ _ (by simp) (by simp)).trans t2
        have ar : gR S2 1 4 = r := (u2.r _ _ (by simp)).trans tr
        have an : gN S2 r 0 = nI nt := (u2.n _ _ (by simp) (by simp)).trans tn
        have e0 : FX2_readLeaning_6 (fu + 1) (nI m) 1 (nI k) S1 = bd (fX2_takeNumber 0 (nI nt - 1) S2) (fun r9 S10 => if gN S10 1 3 = 0 then (if ((nI m >>> (r9 &&& 31)) &&& 1) = (1 : Int32) then bd (fX2_refuse 3 (nI s) S10) (fun _ S16 => FX2_readLeaning_66 (fun l1_ l2_ l3_ S_ => FX2_readLeaning_6 fu l1_ l2_ l3_ S_) (nI m) (nI k) r9 S16) else FX2_readLeaning_66 (fun l1_ l2_ l3_ S_ => FX2_readLeaning_6 fu l1_ l2_ l3_ S_) (nI m) (nI k) r9 S10) else FX2_readLeaning_66 (fun l1_ l2_ l3_ S_ => FX2_readLeaning_6 fu l1_ l2_ l3_ S_) (nI m) (nI k) r9 S10) := by
          rw [FX2_readLeaning_6, if_neg (by rw [li_6, ltI (by omega) (by omega)]; omega), if_neg (by decide), e2, bd_s, k2.1, ar, gd_t hrs, an]
        have stop : ∀ (x : St) (v : Int32) (m' : Int32), ¬ gN x 1 3 = 0 → FX2_readLeaning_66 (fun l1_ l2_ l3_ S_ => FX2_readLeaning_6 fu l1_ l2_ l3_ S_) m' (nI k) v x = FX2_readLeaning_6 fu (m' ||| (1 <<< (v &&& 31))) 0 (nI k + 1) x := by
          intro x v m' hx
          rw [FX2_readLeaning_66, if_neg hx, FX2_readLeaning_93, FX2_readLeaning_94]
        have num := number_c (lo := 0) (hi := nI nt - 1) ho hs a0 k2 a3
        left
        by_cases hn : numIs L T 0 (nI nt - 1) s
        · obtain ⟨S3, e3, b3, bT, b2⟩ := num.1 hn
          have b2 : gN S3 1 2 = gN S 1 2 := b2.trans a2
          have hv := num_lt (by omega) hn hs
          have u3 := wX2_takeNumber e3
          rw [if_pos hn] at hl
          generalize nv T s (te L T s - s) = v at *
          have hs1 := sk_le (T := T) (te_le (T := T) hs).2
          generalize sk L T (te L T s) = s1 at *
          have b0 : TxC S3 L T := ⟨(u3.n _ _ (by simp) (by simp)).trans a0.1, fun i hi => (u3.n _ _ (by simp) (by simp)).trans (a0.2 i hi)⟩
          have br : gR S3 1 4 = r := (u3.r _ _ (by simp)).trans ar
          have bn : gN S3 r 0 = nI nt := (u3.n _ _ (by simp) (by simp)).trans an
          by_cases hb : bt1 m v = true
          · rw [if_pos hb] at hl
            subst hl
            refine ⟨(nI m ||| (1 <<< (nI v &&& 31)), 0, nI k + 1, sN (sN S3 1 3 3) 1 2 (nI s)), ?_, Or.inr ⟨_, _, _, rfl, fun z => absurd (show 3 = 0 from z) (by decide), fun _ => ⟨by rw [gN_sN_j (by decide), gN_sN_s]; rfl, gN_sN_s⟩⟩⟩
            rw [e0, e3, bd_s, if_pos b3, if_pos ((bit_is (by omega) (by omega)).mpr hb), refuse_c b3, bd_s, stop _ _ _ (by rw [gN_sN_j (by decide), gN_sN_s]; decide)]
          · have hb' : bt1 m v = false := by simpa using hb
            rw [if_neg hb] at hl
            have e4 : FX2_readLeaning_6 (fu + 1) (nI m) 1 (nI k) S1 = if decide (s1 < L ∧ T s1 = 44) = false then FX2_readLeaning_6 fu (nI (m + 2 ^ v)) 0 (nI (k + 1)) S3 else FX2_readLeaning_6 fu (nI (m + 2 ^ v)) 1 (nI (k + 1)) S3 := by
              rw [e0, e3, bd_s, if_pos b3, if_neg (fun z => hb ((bit_is (by omega) (by omega)).mp z)), FX2_readLeaning_66, if_pos b3, show (44 : Int32) = nI 44 from rfl, isSign_c ho b0 bT (by omega), bd_s, or_bit m (by omega) v (by omega) hb']
              cases decide (s1 < L ∧ T s1 = 44) with
              | false => rw [if_pos bI_f0, if_pos rfl, FX2_readLeaning_93, FX2_readLeaning_94, nI_1]
              | true => rw [if_neg bI_t0, if_neg (by decide), FX2_readLeaning_94, nI_1]
            have hlt := add_lt6 nt (by omega) m (by omega) v (by omega) hm hv hb'
            have hcn := cn_add6 nt (by omega) m (by omega) v (by omega) hm hv hb'
            by_cases hcm : s1 < L ∧ T s1 = 44
            · rw [if_pos hcm] at hl
              refine ⟨(nI (m + 2 ^ v), 1, nI (k + 1), S3), ?_, Or.inl ⟨S3, m + 2 ^ v, s1 + 1, rfl, hlt, by omega, hl, by omega, b0, ?_, b3, br, bn, b2⟩⟩
              · rw [e4, if_neg (by rw [decide_eq_true hcm]; decide)]
              · rw [bT.2.2, te_sign (by omega) hcm]
            · rw [if_neg hcm] at hl
              subst hl
              refine ⟨(nI (m + 2 ^ v), 0, nI (k + 1), S3), ?_, Or.inr ⟨_, _, _, rfl, fun _ => ⟨rfl, hlt, b3, bT, hs1, b2⟩, fun z => absurd rfl z⟩⟩
              rw [e4, if_pos (decide_eq_false hcm)]
        · obtain ⟨S3, e3, b3, b2⟩ := num.2 hn
          rw [if_neg hn] at hl
          subst hl
          have hz : ¬ gN S3 1 3 = 0 := by rw [b3]; exact nerr_nz
          refine ⟨(nI m ||| (1 <<< ((0 : Int32) &&& 31)), 0, nI k + 1, S3), ?_, Or.inr ⟨_, _, _, rfl, fun z => ?_, fun _ => ⟨b3, b2⟩⟩⟩
          · rw [e0, e3, bd_s, if_neg hz, stop _ _ _ hz]
          · exact absurd (show nI (nerr L T s) = 0 by rw [show nerr L T s = 0 from z]; rfl) nerr_nz
      · subst e
        exact Or.inr ⟨S1, y, ret _ _ _ _, c1, c2⟩)
    (by
      intro fu x hI
      rcases hI with ⟨S1, m, q, e, hm, hc, hl, hq, t0, t5, t3, tr, tn, t2⟩ | ⟨S1, y, l3, e, c1, c2⟩
      · have := cn_le m nt
        omega
      · subst e
        exact ⟨S1, y, ret _ _ _ _, c1, c2⟩)
    (nI 0, 1, nI 0, S) (Or.inl ⟨S, 0, p, rfl, Nat.pow_pos (by decide), cn_zero nt, hR, hp, h, h5, h3, hr, hrn, rfl⟩)
end
