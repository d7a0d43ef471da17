/-! ===== the order in the class ===== -/
def lvd (lv : Nat → Nat → Nat) (s : Nat) : Nat → Nat → Nat := fun p u => if bt1 s u = true then 9 else lv p u
theorem tpv_lvd {k : Sk} {lv : Nat → Nat → Nat} {s p t : Nat} : tpv k (lvd lv s) 0 p t = tpv k lv s p t := by
  have : (∃ u, u < nt k ∧ bt1 (ln k t) u = true ∧ bt1 0 u = false ∧ lvd lv s p u ≤ 4) ↔ ∃ u, u < nt k ∧ bt1 (ln k t) u = true ∧ bt1 s u = false ∧ lv p u ≤ 4 := by
    unfold lvd
    constructor
    · rintro ⟨u, a, b, _, d⟩
      cases hs : bt1 s u with
      | true => rw [if_pos hs] at d; omega
      | false => rw [if_neg (by rw [hs]; decide)] at d; exact ⟨u, a, b, hs, d⟩
    · rintro ⟨u, a, b, hs, d⟩
      exact ⟨u, a, b, bt1_zero u, by rw [if_neg (by rw [hs]; decide)]; exact d⟩
  unfold tpv
  by_cases h : ∃ u, u < nt k ∧ bt1 (ln k t) u = true ∧ bt1 s u = false ∧ lv p u ≤ 4
  · rw [if_pos h, if_pos (this.mpr h)]
  · rw [if_neg h, if_neg (fun q => h (this.mp q))]
theorem lvd_at {lv : Nat → Nat → Nat} {s p t : Nat} (h : bt1 s t = false) : lvd lv s p t = lv p t := by unfold lvd; rw [if_neg (by rw [h]; decide)]
theorem fwP_lvd {k : Sk} {lv : Nat → Nat → Nat} {s t m : Nat} {g : Bool} (h : bt1 s t = false) : fwP k (lvd lv s) 0 63 t g m ↔ fwP k lv s 63 t g m := by
  unfold fwP
  simp only [tpv_lvd, lvd_at h]
/-! things lean on those told ahead: the order told -/
theorem full_bit {t u : Nat} (h : t ≤ u) : bt1 (2 ^ t - 1) u = false := by
  have : (2 ^ t - 1).testBit u = false := by rw [Nat.testBit_two_pow_sub_one]; simpa using h
  simpa [bt1, Nat.testBit_eq_decide_div_mod_eq] using this
theorem full_add (t : Nat) : 2 ^ t - 1 + 2 ^ t = 2 ^ (t + 1) - 1 := by
  have := Nat.pow_pos (n := t) (show 0 < 2 by decide)
  rw [Nat.pow_succ]
  omega
theorem ln_bit {k : Sk} (hk : WK k) {t u : Nat} (ht : t < nt k) (h : bt1 (ln k t) u = true) : u < t := by
  apply Classical.byContradiction
  intro q
  have h1 := hk.2.2.1 t ht
  have h2 : 2 ^ t ≤ 2 ^ u := Nat.pow_le_pow_right (by decide) (by omega)
  unfold bt1 at h
  rw [Nat.div_eq_of_lt (by omega)] at h
  exact absurd (of_decide_eq_true h) (by decide)
theorem tpv_told {k : Sk} {lv : Nat → Nat → Nat} (hk : WK k) {p t : Nat} (ht : t < nt k) : tpv k lv (2 ^ t - 1) p t = 9 := by
  unfold tpv
  rw [if_neg]
  rintro ⟨u, _, b, d, _⟩
  rw [bt1_full (ln_bit hk ht b)] at d
  cases d
theorem opn_told {k : Sk} {lv : Nat → Nat → Nat} (hk : WK k) {t : Nat} (ht : t < nt k) : opn k lv (2 ^ t - 1) t := by
  rintro ⟨i, _, _, d⟩
  rw [tpv_told hk ht] at d
  omega
theorem gpk_told {k : Sk} {lv : Nat → Nat → Nat} {g : Bool} (hk : WK k) {t : Nat} (ht : t < nt k) (hf : ¬ fvo k lv g t = -1) : gpk k lv g (2 ^ t - 1) = t :=
  gpk_is ⟨ht, ⟨full_bit (Nat.le_refl _), opn_told hk ht, hf⟩, fun q hq z => by have z1 := z.1; rw [bt1_full hq] at z1; cases z1⟩
section
variable {c : Cx} {S : St}
def trd (c : Cx) (s : Nat) : Sd := (lvd (dl (xS c)) s, dG (xS c), dS (xS c), dT (xS c))
theorem trd_WS (hw : WC c) {s : Nat} : WS (xK c) (trd c s) := by
  refine ⟨fun p t hp ht => ?_, hw.2.1.2⟩
  show lvd (dl (xS c)) s p t ≤ 9
  unfold lvd
  split
  · exact Nat.le_refl _
  · exact hw.2.1.1 p t hp ht
/-- all know the thing that is done -/
theorem done_c (hw : WC c) (h : RC S c) {s t : Nat} {l1 : Int32} (k15 : Int32 → Int32 → St → Option (Int32 × St)) (hs : s < 64) (ht : t < nt (xK c)) (hb : bt1 s t = false) (h17 : SdC S 17 (xK c) (trd c s)) :
    ∃ S', FX6_lessonsAsTold_57 k15 FU l1 (nI t) (nI 0) S = k15 l1 (nI t + 1) S' ∧ SdC S' 17 (xK c) (trd c (s + 2 ^ t)) ∧ (∀ cc jj, cc ≠ 18 → gN S' cc jj = gN S cc jj) ∧ ∀ cc jj, gR S' cc jj = gR S cc jj := by
  have k1 := hw.1.1
  have k2 := hw.1.2.1
  exact loopFU (fun fu (x : Int32 × St) => FX6_lessonsAsTold_57 k15 fu l1 (nI t) x.1 x.2) (fun p x => ∃ S1, x = (nI p, S1) ∧ (∀ q u, q < np (xK c) → u < nt (xK c) → gN S1 18 (6 * q + u) = nI (if q < p ∧ u = t then 9 else lvd (dl (xS c)) s q u)) ∧ (∀ cc jj, cc ≠ 18 → gN S1 cc jj = gN S cc jj) ∧ ∀ cc jj, gR S1 cc jj = gR S cc jj) (fun r => ∃ S', r = k15 l1 (nI t + 1) S' ∧ SdC S' 17 (xK c) (trd c (s + 2 ^ t)) ∧ (∀ cc jj, cc ≠ 18 → gN S' cc jj = gN S cc jj) ∧ ∀ cc jj, gR S' cc jj = gR S cc jj) (np (xK c)) (FU_lt (by omega))
    (by
      intro p fu x hp ⟨S1, e, h1, h2, h3⟩
      subst e
      have hn : gN S1 (gR S 0 1) 1 = nI (np (xK c)) := by rw [h2 _ _ (by have := told_le h; omega)]; exact np_c h
      refine Or.inl ⟨(nI (p + 1), sN S1 18 (p * 6 + t) 9), ?_, _, rfl, fun q u hq hu => ?_, fun cc jj q => by rw [gN_sN_c q]; exact h2 cc jj q, h3⟩
      · dsimp only
        rw [FX6_lessonsAsTold_57, h3, gd_t (told_is h), hn, if_neg (by rw [leI (by omega) (by omega)]; omega)]
        dsimp only
        rw [li_6, pk_mul, nI_add, gdI (by omega) (by omega), clI (by omega), nI_1]
      · by_cases hqu : q = p ∧ u = t
        · obtain ⟨rfl, rfl⟩ := hqu
          rw [show 6 * q + u = q * 6 + u by omega, gN_sN_s, if_pos ⟨by omega, rfl⟩]; rfl
        · rw [gN_sN_j (by omega), h1 q u hq hu]
          by_cases hqp : q < p ∧ u = t
          · rw [if_pos hqp, if_pos ⟨by omega, hqp.2⟩]
          · rw [if_neg hqp, if_neg (fun z => hqu ⟨by omega, z.2⟩)])
    (by
      intro fu x ⟨S1, e, h1, h2, h3⟩
      subst e
      have hn : gN S1 (gR S 0 1) 1 = nI (np (xK c)) := by rw [h2 _ _ (by have := told_le h; omega)]; exact np_c h
      refine ⟨S1, ?_, ⟨fun q u hq hu => ?_, (h2 17 1 (by decide)).trans h17.2.1, (h2 17 2 (by decide)).trans h17.2.2.1, (h2 17 3 (by decide)).trans h17.2.2.2⟩, h2, h3⟩
      · dsimp only
        rw [FX6_lessonsAsTold_57, h3, gd_t (told_is h), hn, if_pos (Int32.le_refl _)]
      · rw [h1 q u hq hu]
        congr 1
        show _ = lvd (dl (xS c)) (s + 2 ^ t) q u
        unfold lvd
        rw [bt1_add s hs t (by omega) hb u (by omega)]
        by_cases hut : u = t
        · rw [if_pos ⟨hq, hut⟩, if_pos (by simp [hut])]
        · rw [if_neg (fun z => hut z.2)]
          simp only [hut, decide_false, Bool.false_or])
    (nI 0, S) ⟨S, rfl, fun q u hq hu => by rw [if_neg (by omega)]; exact h17.1 q u hq hu, fun _ _ _ => rfl, fun _ _ => rfl⟩
theorem order_c (hw : WC c) (hn : np (xK c) ≤ 4) (h : RC S c) (hC : CI S (xK c)) : ∃ r S', fX6_lessonsAsTold S = some (r, S') ∧ RC S' c ∧ CI S' (xK c) ∧ ((Co (xK c) (dl (xS c)) (dG (xS c)) 0 ∧ r = nI (Wo (xK c) (dl (xS c)) (dG (xS c)) 0 (nt (xK c))) ∧ ∀ q, q < nt (xK c) → gpk (xK c) (dl (xS c)) (dG (xS c)) (gst (xK c) (dl (xS c)) (dG (xS c)) q) = q) ∨ (¬ Co (xK c) (dl (xS c)) (dG (xS c)) 0 ∧ r = -1)) := by
  have k1 := hw.1.1
  have k2 := hw.1.2.1
  have h64 := p2_6 k1
  obtain ⟨S0, e0, h0⟩ := stake_eq (a := 17) (b := 15) hw.1 h.2.2.2.1 (by decide) (by decide)
  have u0 := wX5_take e0
  have hl0 : SdC S0 17 (xK c) (trd c (2 ^ 0 - 1)) := by
    refine ⟨fun p t hp ht => ?_, h0.2⟩
    rw [h0.1 p t hp ht]
    congr 1
    exact (lvd_at (bt1_zero t)).symm
  have key := loopFU (fun fu (x : Int32 × Int32 × St) => FX6_lessonsAsTold_15 fu x.1 x.2.1 x.2.2) (fun i x => ∃ S1 ls, x = (nI ls, nI i, S1) ∧ gst (xK c) (dl (xS c)) (dG (xS c)) i = 2 ^ i - 1 ∧ RC S1 c ∧ CI S1 (xK c) ∧ SdC S1 17 (xK c) (trd c (2 ^ i - 1)) ∧ (Co (xK c) (dl (xS c)) (dG (xS c)) 0 ↔ Co (xK c) (dl (xS c)) (dG (xS c)) (2 ^ i - 1)) ∧ ls + Wo (xK c) (dl (xS c)) (dG (xS c)) (2 ^ i - 1) (nt (xK c)) = Wo (xK c) (dl (xS c)) (dG (xS c)) 0 (nt (xK c)) ∧ ∀ q, q < i → gpk (xK c) (dl (xS c)) (dG (xS c)) (gst (xK c) (dl (xS c)) (dG (xS c)) q) = q) (fun z => ∃ r S', z = some (r, S') ∧ RC S' c ∧ CI S' (xK c) ∧ ((Co (xK c) (dl (xS c)) (dG (xS c)) 0 ∧ r = nI (Wo (xK c) (dl (xS c)) (dG (xS c)) 0 (nt (xK c))) ∧ ∀ q, q < nt (xK c) → gpk (xK c) (dl (xS c)) (dG (xS c)) (gst (xK c) (dl (xS c)) (dG (xS c)) q) = q) ∨ (¬ Co (xK c) (dl (xS c)) (dG (xS c)) 0 ∧ r = -1))) (nt (xK c)) (FU_lt (by omega))
    (by
      intro i fu x hi ⟨S1, ls, e, hsg, h1, hC1, hd1, hCo, hW, hrow⟩
      subst e
      have hpw : 2 ^ i ≤ 2 ^ nt (xK c) := Nat.pow_le_pow_right (by decide) (by omega)
      have hpi := Nat.pow_pos (n := i) (show 0 < 2 by decide)
      have hs : 2 ^ i - 1 < 2 ^ nt (xK c) := by omega
      have hb : bt1 (2 ^ i - 1) i = false := full_bit (Nat.le_refl _)
      have hnf := cn_not6 (nt (xK c)) (by omega) (2 ^ i - 1) (by omega) hs i (by omega) hi hb
      obtain ⟨x, S3, e3, a1, h3, hC3, hfr, -⟩ := fewAll_c (g := dG (xS c)) hw h1 hC1 (trd_WS hw) hd1 (by omega) hi hn
      have hval := fw_val (s := 2 ^ i - 1) hw.1 hn (fun p hp => hw.2.1.1 p i hp hi) (a1.iff (fun m => fwP_lvd hb))
      have hmid : FX6_lessonsAsTold_15 (fu + 1) (nI ls) (nI i) S1 = if x = -1 then some (-1, S3) else FX6_lessonsAsTold_57 (fun l1_ l2_ S_ => FX6_lessonsAsTold_15 fu l1_ l2_ S_) FU (nI ls + x) (nI i) 0 S3 := by
        rw [FX6_lessonsAsTold_15, gd_t (told_is h1), h1.2.2.1.1, if_neg (by rw [leI (by omega) (by omega)]; omega), h1.2.2.2.1.2.1, e3, bd_s]
      rcases hval with ⟨hA, rfl⟩ | ⟨hA, rfl⟩
      · left
        have hgp : gpk (xK c) (dl (xS c)) (dG (xS c)) (2 ^ i - 1) = i := gpk_told hw.1 hi hA.2
        have hd3 : SdC S3 17 (xK c) (trd c (2 ^ i - 1)) := SdC_of hd1 (fun cc jj a b => hfr cc jj (by omega))
        obtain ⟨S4, e4, b1, b2, b3⟩ := done_c (l1 := nI (ls + fno (xK c) (dl (xS c)) (dG (xS c)) i)) hw h3 (fun l1_ l2_ S_ => FX6_lessonsAsTold_15 fu l1_ l2_ S_) (by omega) hi hb hd3
        have hWa := Wo_add (lv := dl (xS c)) (g := dG (xS c)) hw.1 hs hi hb (nt (xK c)) (Nat.le_refl _)
        rw [if_pos hi, full_add] at hWa
        rw [full_add] at b1
        refine ⟨(nI (ls + fno (xK c) (dl (xS c)) (dG (xS c)) i), nI (i + 1), S4), ?_, S4, ls + fno (xK c) (dl (xS c)) (dG (xS c)) i, rfl, by rw [gst, hsg, hgp, full_add], RC_of h3 b3 (fun cc jj a => b2 cc jj (by omega)), ?_, b1, ?_, by omega, fun q hq => ?_⟩
        · dsimp only
          rw [hmid, if_neg (nI_nm1 (by have := (fno_is (lv := dl (xS c)) (g := dG (xS c)) hw.1 hn (t := i) (fun p hp => hw.2.1.1 p i hp hi)).2; omega)), nI_add]
          refine Eq.trans e4 ?_
          rw [nI_1]
        · exact ⟨CI1_of hC3.1 (b2 _ _ (by decide)) (fun j => b2 _ _ (by decide)), CI1_of hC3.2 (b2 _ _ (by decide)) (fun j => b2 _ _ (by decide))⟩
        · rw [hCo, ← full_add]
          exact ⟨fun z => Co_any hw.1 hs hi hb z, fun z => (Co_step hw.1 hs hnf).mpr ⟨i, hi, hb, hA, z⟩⟩
        · by_cases hqi : q = i
          · subst hqi; rw [hsg, hgp]
          · exact hrow q (by omega)
      · right
        refine ⟨-1, S3, ?_, h3, hC3, Or.inr ⟨fun z => ?_, rfl⟩⟩
        · dsimp only
          rw [hmid, if_pos rfl]
        · exact hA ⟨opn_told hw.1 hi, Co_all hw.1 _ hs rfl (hCo.mp z) i hi hb⟩)
    (by
      intro fu x ⟨S1, ls, e, hsg, h1, hC1, hd1, hCo, hW, hrow⟩
      subst e
      have hz : Wo (xK c) (dl (xS c)) (dG (xS c)) (2 ^ nt (xK c) - 1) (nt (xK c)) = 0 := Wo_full _ (Nat.le_refl _)
      refine ⟨nI ls, S1, ?_, h1, hC1, Or.inl ⟨hCo.mpr Co_full, by congr 1; omega, hrow⟩⟩
      dsimp only
      rw [FX6_lessonsAsTold_15, gd_t (told_is h1), h1.2.2.1.1, if_pos (Int32.le_refl _)])
    (nI 0, nI 0, S0) ⟨S0, 0, rfl, rfl, u0.okC h (by decide), CI_of hC u0 (by decide), hl0, Iff.rfl, Nat.zero_add _, fun q hq => absurd hq (by omega)⟩
  obtain ⟨r, S', e, q⟩ := key
  refine ⟨r, S', ?_, q⟩
  rw [fX6_lessonsAsTold, e0, bd_s]
  exact e
theorem ag_order (hw : WC c) (y : Int32) : Ag2 c (fX6_order y) (fX7_order y) := by
  have k1 := hw.1.1
  have k2 := hw.1.2.1
  by_cases hn : np (xK c) ≤ 4
  · have hWl := Wo_le (lv := dl (xS c)) (g := dG (xS c)) (s := 0) hw.1 hn hw.2.1.1 (nt (xK c)) (Nat.le_refl _)
    have hcbeg : ∀ S, RC S c → CI S (xK c) → ∃ r S', RC S' c ∧ CI S' (xK c) ∧ ((Co (xK c) (dl (xS c)) (dG (xS c)) 0 ∧ r = nI (Wo (xK c) (dl (xS c)) (dG (xS c)) 0 (nt (xK c))) ∧ ∀ q, q < nt (xK c) → gpk (xK c) (dl (xS c)) (dG (xS c)) (gst (xK c) (dl (xS c)) (dG (xS c)) q) = q) ∨ (¬ Co (xK c) (dl (xS c)) (dG (xS c)) 0 ∧ r = -1)) ∧ fX6_order y S = if r = -1 then some (-1, S') else if y < -1 then some (-1, S') else if y < nI (nt (xK c)) then (if y = -1 then some (r, S') else some (y, S')) else some (-1, S') := fun S h hC => by
      obtain ⟨r, S', e, a1, a2, a3⟩ := order_c hw hn h hC
      refine ⟨r, S', a1, a2, a3, ?_⟩
      rw [fX6_order, gd_t (told_is h), np_c h, if_pos (by rw [li_4, leI (by omega) (by omega)]; exact hn), e, bd_s, gd_t (told_is a1), a1.2.2.1.1]
      rfl
    have hmbeg : ∀ S, RM S c → PI S → ∃ S', RM S' c ∧ PI S' ∧ RST c S' 0 ∧ TKS c S' 0 ∧ fX7_order y S = if gN S' 60 0 < 0 then some (gN S' 60 0, S') else if y = -1 then some (gN S' 60 0, S') else if bI (inB y (nt (xK c))) = 0 then some (-1, S') else FX7_order_61 FU y (nI 0) (-1) (nI 0) S' := fun S h hP => by
      obtain ⟨S', e, a1, a2, a3, a4⟩ := ord_all hw hn h hP
      refine ⟨S', a1, a2, a3, a4, ?_⟩
      rw [fX7_order, small_m hw h, bd_s, decide_eq_true hn, if_neg bI_t0, e, bd_s, gd_t (by decide), a1.1.1, show (0 : Int64) = (0 : Int32).toInt64 from rfl, in_gen, inB_dec (by omega), bd_s, FX7_order_29, gd_t (by decide)]
      rfl
    by_cases hC0 : Co (xK c) (dl (xS c)) (dG (xS c)) 0
    · have hm0 : ∀ {S'}, RST c S' 0 → gN S' 60 0 = nI (Wo (xK c) (dl (xS c)) (dG (xS c)) 0 (nt (xK c))) := fun hR => (hR 0 (Nat.le_refl _) (Nat.pow_pos (by decide))).elim (fun z => z.2) (fun z => absurd hC0 z.1)
      by_cases hy : y = -1
      · subst hy
        refine ⟨nI (Wo (xK c) (dl (xS c)) (dG (xS c)) 0 (nt (xK c))), c, hw, fun S h hC => ?_, fun S h hP => ?_⟩
        · obtain ⟨r, S', a1, a2, a3, e⟩ := hcbeg S h hC
          obtain ⟨-, hr, -⟩ := a3.resolve_right (fun z => z.1 hC0)
          refine ⟨S', ?_, a1, a2⟩
          rw [e, hr, if_neg (nI_nm1 (by omega)), if_neg (by decide), if_pos (Int32.lt_of_lt_of_le (by decide : (-1 : Int32) < 0) (nI_pos' (by omega))), if_pos rfl]
        · obtain ⟨S', a1, a2, a3, a4, e⟩ := hmbeg S h hP
          refine ⟨S', ?_, a1, a2⟩
          rw [e, hm0 a3, if_neg (nI_pos (by omega)), if_pos rfl]
      · cases hin : inB y (nt (xK c)) with
        | false =>
          refine ⟨-1, c, hw, fun S h hC => ?_, fun S h hP => ?_⟩
          · obtain ⟨r, S', a1, a2, a3, e⟩ := hcbeg S h hC
            obtain ⟨-, hr, -⟩ := a3.resolve_right (fun z => z.1 hC0)
            refine ⟨S', ?_, a1, a2⟩
            rw [e, hr, if_neg (nI_nm1 (by omega))]
            by_cases hlt : y < -1
            · rw [if_pos hlt]
            · rw [if_neg hlt]
              have h0 : ¬ y < 0 := fun q => by
                have h1 : -1 ≤ y := Int32.not_lt.mp hlt
                have h2 : y.toInt < 0 := Int32.lt_iff_toInt_lt.mp q
                have h3 : (-1 : Int) ≤ y.toInt := Int32.le_iff_toInt_le.mp h1
                exact hy (Int32.toInt_inj.mp (by rw [show (-1 : Int32).toInt = -1 by decide]; omega))
              obtain ⟨j, hj, rfl⟩ := nI_of h0
              rw [if_neg]
              intro q
              rw [ltI hj (by omega)] at q
              rw [inB_n q (by omega)] at hin
              cases hin
          · obtain ⟨S', a1, a2, a3, a4, e⟩ := hmbeg S h hP
            refine ⟨S', ?_, a1, a2⟩
            rw [e, hm0 a3, if_neg (nI_pos (by omega)), if_neg hy, hin, if_pos bI_f0]
        | true =>
          obtain ⟨j, hj, hj2, rfl⟩ := inB_get hin
          refine ⟨nI (gpk (xK c) (dl (xS c)) (dG (xS c)) (gst (xK c) (dl (xS c)) (dG (xS c)) j)), c, hw, fun S h hC => ?_, fun S h hP => ?_⟩
          · obtain ⟨r, S', a1, a2, a3, e⟩ := hcbeg S h hC
            obtain ⟨-, hr, hrow⟩ := a3.resolve_right (fun z => z.1 hC0)
            refine ⟨S', ?_, a1, a2⟩
            rw [e, hr, if_neg (nI_nm1 (by omega)), if_neg (fun q => absurd (Int32.lt_trans q (by decide : (-1 : Int32) < 0)) (nI_pos hj2)), if_pos (by rw [ltI (by omega) (by omega)]; exact hj), if_neg (nI_nm1 hj2), hrow j hj]
          · obtain ⟨S', a1, a2, a3, a4, e⟩ := hmbeg S h hP
            refine ⟨S', ?_, a1, a2⟩
            rw [e, hm0 a3, if_neg (nI_pos (by omega)), if_neg (nI_nm1 hj2), hin, if_neg bI_t0, ord_row hw hn a3 a4 a1 hC0 hj]
    · refine ⟨-1, c, hw, fun S h hC => ?_, fun S h hP => ?_⟩
      · obtain ⟨r, S', a1, a2, a3, e⟩ := hcbeg S h hC
        have hr := (a3.resolve_left (fun z => hC0 z.1)).2
        exact ⟨S', by rw [e, if_pos hr], a1, a2⟩
      · obtain ⟨S', a1, a2, a3, a4, e⟩ := hmbeg S h hP
        have hr := ((a3 0 (Nat.le_refl _) (Nat.pow_pos (by decide))).resolve_left (fun z => hC0 z.1)).2
        exact ⟨S', by rw [e, hr, if_pos (by decide)], a1, a2⟩
  · refine ⟨-1000003, c, hw, fun S h hC => ⟨S, ?_, h, hC⟩, fun S h hP => ⟨S, ?_, h, hP⟩⟩
    · rw [fX6_order, gd_t (told_is h), np_c h, if_neg (by rw [li_4, leI (by omega) (by omega)]; exact hn)]
    · rw [fX7_order, small_m hw h, bd_s, decide_eq_false hn, if_pos bI_f0]
end
