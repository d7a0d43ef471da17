/-! ===== the order in the class ===== -/
def lvd (lv : Nat → Nat → Nat) (s : Nat) : Nat → Nat → Nat := fun p u => if bt1 s u = true then 9 else lv p u
theorem tpv_lvd {k : Sk} {lv : Nat → Nat → Nat} {s p t : Nat} : tpv k (lvd lv s) 0 p t = tpv k lv s p t := by
  have : (∃ u, u < nt k ∧ bt1 (ln k t) u = true ∧ bt1 0 u = false ∧ lvd lv s p u ≤ 4) ↔ ∃ u, u < nt k ∧ bt1 (ln k t) u = true ∧ bt1 s u = false ∧ lv p u ≤ 4 := by
    unfold lvd
    constructor
    · rintro ⟨u, a, b, _, d⟩
      cases hs : bt1 s u with
      | true => rw [if_pos hs] at d; omega
      | false => rw [if_neg (by rw [hs]; decide)] at d; exact ⟨u, a, b, hs, d⟩
    · rintro ⟨u, a, b, hs, d⟩
      exact ⟨u, a, b, bt1_zero u, by rw [if_neg (by rw [hs]; decide)]; exact d⟩
  unfold tpv
  by_cases h : ∃ u, u < nt k ∧ bt1 (ln k t) u = true ∧ bt1 s u = false ∧ lv p u ≤ 4
  · rw [if_pos h, if_pos (this.mpr h)]
  · rw [if_neg h, if_neg (fun q => h (this.mp q))]
theorem lvd_at {lv : Nat → Nat → Nat} {s p t : Nat} (h : bt1 s t = false) : lvd lv s p t = lv p t := by unfold lvd; rw [if_neg (by rw [h]; decide)]
theorem fwP_lvd {k : Sk} {lv : Nat → Nat → Nat} {s t m : Nat} {g : Bool} (h : bt1 s t = false) : fwP k (lvd lv s) 0 63 t g m ↔ fwP k lv s 63 t g m := by
  unfold fwP
  simp only [tpv_lvd, lvd_at h]
theorem bit0 {m k : Nat} (hm : m < 2147483648) (hk : k < 31) : ((nI m >>> (nI k &&& 31)) &&& 1) = 0 ↔ bt1 m k = false := by
  rw [bit_eq hm hk, li_0, eqI (by omega) (by omega)]
  unfold bt1
  simp only [decide_eq_false_iff_not]
  omega
section
variable {c : Cx} {S : St}
def trd (c : Cx) (s : Nat) : Sd := (lvd (dl (xS c)) s, dG (xS c), dS (xS c), dT (xS c))
theorem trd_WS (hw : WC c) {s : Nat} : WS (xK c) (trd c s) := by
  refine ⟨fun p t hp ht => ?_, hw.2.1.2⟩
  show lvd (dl (xS c)) s p t ≤ 9
  unfold lvd
  split
  · exact Nat.le_refl _
  · exact hw.2.1.1 p t hp ht
theorem leastOpen_c (hw : WC c) (h : RC S c) {s : Nat} (hs : s < 64) (h17 : SdC S 17 (xK c) (trd c s)) :
    ∃ r S', fX6_leastOpen (nI s) S = some (r, S') ∧ ((∃ t, r = nI t ∧ Pick (nt (xK c)) (fun t => bt1 s t = false ∧ opn (xK c) (dl (xS c)) s t) t) ∨ (r = -1 ∧ ∀ t, t < nt (xK c) → bt1 s t = false → ¬ opn (xK c) (dl (xS c)) s t)) := by
  have k1 := hw.1.1
  exact loopFU (fun fu (x : Int32 × St) => FX6_leastOpen_2 fu (nI s) x.1 x.2) (fun t x => ∃ S1, x = (nI t, S1) ∧ RC S1 c ∧ SdC S1 17 (xK c) (trd c s) ∧ ∀ u, u < t → ¬ (bt1 s u = false ∧ opn (xK c) (dl (xS c)) s u)) (fun r => ∃ x S', r = some (x, S') ∧ ((∃ t, x = nI t ∧ Pick (nt (xK c)) (fun t => bt1 s t = false ∧ opn (xK c) (dl (xS c)) s t) t) ∨ (x = -1 ∧ ∀ t, t < nt (xK c) → bt1 s t = false → ¬ opn (xK c) (dl (xS c)) s t))) (nt (xK c)) (FU_lt (by omega))
    (by
      intro t fu x ht ⟨S1, e, h1, hd1, hno⟩
      subst e
      have hbit := bit0 (m := s) (k := t) (by omega) (by omega)
      cases hb : bt1 s t with
      | true =>
        left
        refine ⟨(nI (t + 1), S1), ?_, S1, rfl, h1, hd1, fun u hu q => ?_⟩
        · dsimp only
          rw [FX6_leastOpen_2, gd_t (told_is h1), h1.2.2.1.1, if_neg (by rw [leI (by omega) (by omega)]; omega), if_neg (fun q => by rw [hbit.mp q] at hb; cases hb), FX6_leastOpen_51]
          simp only [nI_1]
        · by_cases hut : u = t
          · subst hut; rw [hb] at q; cases q.1
          · exact hno u (by omega) q
      | false =>
        obtain ⟨S2, e2, hB2, -, -⟩ := sit_eq (mask := 63) hw.1 (trd_WS hw) h1.2.2.1 hd1 (told_le h1) (by omega) ht (by decide)
        have u2 := wX0_sit e2
        have hbar := isBarred_eq hB2
        have hopn : bar (fun i => dl (trd c s) (nth 63 (np (xK c)) i) t) (fun i => tpv (xK c) (dl (trd c s)) 0 (nth 63 (np (xK c)) i) t) (cn 63 (np (xK c))) = false ↔ opn (xK c) (dl (xS c)) s t := by
          unfold bar opn
          rw [decide_eq_false_iff_not]
          have e1 : ∀ p, dl (trd c s) p t = dl (xS c) p t := fun p => lvd_at hb
          have e2 : ∀ p, tpv (xK c) (dl (trd c s)) 0 p t = tpv (xK c) (dl (xS c)) s p t := fun p => tpv_lvd
          simp only [e1, e2]
        have e0 : FX6_leastOpen_2 (fu + 1) (nI s) (nI t) S1 = if bI (bar (fun i => dl (trd c s) (nth 63 (np (xK c)) i) t) (fun i => tpv (xK c) (dl (trd c s)) 0 (nth 63 (np (xK c)) i) t) (cn 63 (np (xK c)))) = 0 then some (nI t, S2) else FX6_leastOpen_2 fu (nI s) (nI (t + 1)) S2 := by
          rw [FX6_leastOpen_2, gd_t (told_is h1), h1.2.2.1.1, if_neg (by rw [leI (by omega) (by omega)]; omega), if_pos (hbit.mpr hb), gd_t (told_is h1), show (63 : Int32) = nI 63 from rfl, e2, bd_s, hbar, bd_s, FX6_leastOpen_51]
          simp only [nI_1]
        by_cases ho : opn (xK c) (dl (xS c)) s t
        · right
          refine ⟨nI t, S2, ?_, Or.inl ⟨t, rfl, ht, ⟨hb, ho⟩, hno⟩⟩
          dsimp only
          rw [e0, hopn.mpr ho, if_pos bI_f0]
        · left
          refine ⟨(nI (t + 1), S2), ?_, S2, rfl, u2.okC h1 (by decide), SdC_of hd1 (fun cc jj a b => u2.n cc jj (by simp; omega) (by simp; omega)), fun u hu q => ?_⟩
          · dsimp only
            rw [e0, if_neg (fun q => ho (hopn.mp (by
              cases hx : bar (fun i => dl (trd c s) (nth 63 (np (xK c)) i) t) (fun i => tpv (xK c) (dl (trd c s)) 0 (nth 63 (np (xK c)) i) t) (cn 63 (np (xK c))) with
              | false => rfl
              | true => rw [hx] at q; exact absurd q bI_t0)))]
          · by_cases hut : u = t
            · subst hut; exact ho q.2
            · exact hno u (by omega) q)
    (by
      intro fu x ⟨S1, e, h1, hd1, hno⟩
      subst e
      refine ⟨-1, S1, ?_, Or.inr ⟨rfl, fun t ht hb q => hno t ht ⟨hb, q⟩⟩⟩
      dsimp only
      rw [FX6_leastOpen_2, gd_t (told_is h1), h1.2.2.1.1, if_pos (Int32.le_refl _)])
    (nI 0, S) ⟨S, rfl, h, h17, fun u hu => absurd hu (by omega)⟩
/-- all know the thing that is done -/
theorem done_c (hw : WC c) (h : RC S c) {s t : Nat} {l1 l2 l3 : Int32} (k17 : Int32 → Int32 → Int32 → St → Option (Int32 × St)) (hs : s < 64) (ht : t < nt (xK c)) (hb : bt1 s t = false) (h17 : SdC S 17 (xK c) (trd c s)) :
    ∃ S', FX6_findOrder_95 k17 FU l1 l2 l3 (nI t) (nI 0) S = k17 l1 l2 (l3 + 1) S' ∧ SdC S' 17 (xK c) (trd c (s + 2 ^ t)) ∧ (∀ cc jj, cc ≠ 18 → gN S' cc jj = gN S cc jj) ∧ ∀ cc jj, gR S' cc jj = gR S cc jj := by
  have k1 := hw.1.1
  have k2 := hw.1.2.1
  exact loopFU (fun fu (x : Int32 × St) => FX6_findOrder_95 k17 fu l1 l2 l3 (nI t) x.1 x.2) (fun p x => ∃ S1, x = (nI p, S1) ∧ (∀ q u, q < np (xK c) → u < nt (xK c) → gN S1 18 (6 * q + u) = nI (if q < p ∧ u = t then 9 else lvd (dl (xS c)) s q u)) ∧ (∀ cc jj, cc ≠ 18 → gN S1 cc jj = gN S cc jj) ∧ ∀ cc jj, gR S1 cc jj = gR S cc jj) (fun r => ∃ S', r = k17 l1 l2 (l3 + 1) S' ∧ SdC S' 17 (xK c) (trd c (s + 2 ^ t)) ∧ (∀ cc jj, cc ≠ 18 → gN S' cc jj = gN S cc jj) ∧ ∀ cc jj, gR S' cc jj = gR S cc jj) (np (xK c)) (FU_lt (by omega))
    (by
      intro p fu x hp ⟨S1, e, h1, h2, h3⟩
      subst e
      have hn : gN S1 (gR S 0 1) 1 = nI (np (xK c)) := by rw [h2 _ _ (by have := told_le h; omega)]; exact np_c h
      refine Or.inl ⟨(nI (p + 1), sN S1 18 (p * 6 + t) 9), ?_, _, rfl, fun q u hq hu => ?_, fun cc jj q => by rw [gN_sN_c q]; exact h2 cc jj q, h3⟩
      · dsimp only
        rw [FX6_findOrder_95, h3, gd_t (told_is h), hn, if_neg (by rw [leI (by omega) (by omega)]; omega)]
        dsimp only
        rw [li_6, pk_mul, nI_add, gdI (by omega) (by omega), clI (by omega), nI_1]
      · by_cases hqu : q = p ∧ u = t
        · obtain ⟨rfl, rfl⟩ := hqu
          rw [show 6 * q + u = q * 6 + u by omega, gN_sN_s, if_pos ⟨by omega, rfl⟩]; rfl
        · rw [gN_sN_j (by omega), h1 q u hq hu]
          by_cases hqp : q < p ∧ u = t
          · rw [if_pos hqp, if_pos ⟨by omega, hqp.2⟩]
          · rw [if_neg hqp, if_neg (fun z => hqu ⟨by omega, z.2⟩)])
    (by
      intro fu x ⟨S1, e, h1, h2, h3⟩
      subst e
      have hn : gN S1 (gR S 0 1) 1 = nI (np (xK c)) := by rw [h2 _ _ (by have := told_le h; omega)]; exact np_c h
      refine ⟨S1, ?_, ⟨fun q u hq hu => ?_, (h2 17 1 (by decide)).trans h17.2.1, (h2 17 2 (by decide)).trans h17.2.2.1, (h2 17 3 (by decide)).trans h17.2.2.2⟩, h2, h3⟩
      · dsimp only
        rw [FX6_findOrder_95, h3, gd_t (told_is h), hn, if_pos (Int32.le_refl _)]
      · rw [h1 q u hq hu]
        congr 1
        show _ = lvd (dl (xS c)) (s + 2 ^ t) q u
        unfold lvd
        rw [bt1_add s hs t (by omega) hb u (by omega)]
        by_cases hut : u = t
        · rw [if_pos ⟨hq, hut⟩, if_pos (by simp [hut])]
        · rw [if_neg (fun z => hut z.2)]
          simp only [hut, decide_false, Bool.false_or])
    (nI 0, S) ⟨S, rfl, fun q u hq hu => by rw [if_neg (by omega)]; exact h17.1 q u hq hu, fun _ _ _ => rfl, fun _ _ => rfl⟩
theorem order_c (hw : WC c) (hn : np (xK c) ≤ 4) (h : RC S c) (hC : CI S (xK c)) : ∃ r S', fX6_findOrder S = some (r, S') ∧ RC S' c ∧ CI S' (xK c) ∧ ((Co (xK c) (dl (xS c)) (dG (xS c)) 0 ∧ r = nI (Wo (xK c) (dl (xS c)) (dG (xS c)) 0 (nt (xK c))) ∧ ∀ q, q < nt (xK c) → gN S' 24 q = nI (gpk (xK c) (dl (xS c)) (dG (xS c)) (gst (xK c) (dl (xS c)) (dG (xS c)) q))) ∨ (¬ Co (xK c) (dl (xS c)) (dG (xS c)) 0 ∧ r = -1)) := by
  have k1 := hw.1.1
  have k2 := hw.1.2.1
  have h64 := p2_6 k1
  have hpos := Nat.pow_pos (n := nt (xK c)) (show 0 < 2 by decide)
  have cn0 : ∀ m, cn 0 m = 0 := by
    intro m
    induction m with
    | zero => rfl
    | succ m ih => rw [cn, ih, bt1_zero]; rfl
  obtain ⟨S0, e0, h0⟩ := stake_eq (a := 17) (b := 15) hw.1 h.2.2.2.1 (by decide) (by decide)
  have u0 := wX5_take e0
  have hl0 : SdC S0 17 (xK c) (trd c 0) := by
    refine ⟨fun p t hp ht => ?_, h0.2⟩
    rw [h0.1 p t hp ht]
    congr 1
    exact (lvd_at (bt1_zero t)).symm
  have key := loopFU (fun fu (x : Int32 × Int32 × Int32 × St) => FX6_findOrder_17 fu x.1 x.2.1 x.2.2.1 x.2.2.2) (fun i x => ∃ S1 s ls, x = (nI s, nI ls, nI i, S1) ∧ s = gst (xK c) (dl (xS c)) (dG (xS c)) i ∧ s < 2 ^ nt (xK c) ∧ cn s (nt (xK c)) = i ∧ RC S1 c ∧ CI S1 (xK c) ∧ SdC S1 17 (xK c) (trd c s) ∧ (Co (xK c) (dl (xS c)) (dG (xS c)) 0 ↔ Co (xK c) (dl (xS c)) (dG (xS c)) s) ∧ ls + Wo (xK c) (dl (xS c)) (dG (xS c)) s (nt (xK c)) = Wo (xK c) (dl (xS c)) (dG (xS c)) 0 (nt (xK c)) ∧ ∀ q, q < i → gN S1 24 q = nI (gpk (xK c) (dl (xS c)) (dG (xS c)) (gst (xK c) (dl (xS c)) (dG (xS c)) q))) (fun z => ∃ r S', z = some (r, S') ∧ RC S' c ∧ CI S' (xK c) ∧ ((Co (xK c) (dl (xS c)) (dG (xS c)) 0 ∧ r = nI (Wo (xK c) (dl (xS c)) (dG (xS c)) 0 (nt (xK c))) ∧ ∀ q, q < nt (xK c) → gN S' 24 q = nI (gpk (xK c) (dl (xS c)) (dG (xS c)) (gst (xK c) (dl (xS c)) (dG (xS c)) q))) ∨ (¬ Co (xK c) (dl (xS c)) (dG (xS c)) 0 ∧ r = -1))) (nt (xK c)) (FU_lt (by omega))
    (by
      intro i fu x hi ⟨S1, s, ls, e, hsg, hs, hcn, h1, hC1, hd1, hCo, hW, hrow⟩
      subst e
      obtain ⟨r, S2, e2, hr⟩ := leastOpen_c hw h1 (by omega) hd1
      have u2 := wX6_leastOpen e2
      have h2 := u2.okC h1 (by decide)
      have hC2 := CI_of hC1 u2 (by decide)
      have hd2 : SdC S2 17 (xK c) (trd c s) := SdC_of hd1 (fun cc jj a b => u2.n cc jj (by simp; omega) (by simp; omega))
      have hbeg : FX6_findOrder_17 (fu + 1) (nI s) (nI ls) (nI i) S1 = if r = -1 then FX6_findOrder_62 (fun l1_ l2_ l3_ S_ => FX6_findOrder_17 fu l1_ l2_ l3_ S_) (nI s) (nI ls) (nI i) r (-1) S2 else (bd (fX6_fewestOfAll 17 r (gN S2 15 1) S2) fun r12 S13 => FX6_findOrder_62 (fun l1_ l2_ l3_ S_ => FX6_findOrder_17 fu l1_ l2_ l3_ S_) (nI s) (nI ls) (nI i) r r12 S13) := by
        rw [FX6_findOrder_17, gd_t (told_is h1), h1.2.2.1.1, if_neg (by rw [leI (by omega) (by omega)]; omega), e2, bd_s]
      rcases hr with ⟨t, rfl, hpk⟩ | ⟨rfl, hno⟩
      · have htn := hpk.1
        have hb := hpk.2.1.1
        obtain ⟨x, S3, e3, a1, h3, hC3, hfr, -⟩ := fewAll_c (g := dG (xS c)) hw h2 hC2 (trd_WS hw) hd2 (by omega) hpk.1 hn
        have hval := fw_val (s := s) hw.1 hn (fun p hp => hw.2.1.1 p t hp htn) (a1.iff (fun m => fwP_lvd hb))
        have hmid : FX6_findOrder_17 (fu + 1) (nI s) (nI ls) (nI i) S1 = FX6_findOrder_62 (fun l1_ l2_ l3_ S_ => FX6_findOrder_17 fu l1_ l2_ l3_ S_) (nI s) (nI ls) (nI i) (nI t) x S3 := by
          rw [hbeg, if_neg (nI_nm1 (by omega)), h2.2.2.2.1.2.1, e3, bd_s]
        rcases hval with ⟨hA, rfl⟩ | ⟨hA, rfl⟩
        · left
          have hlt := add_lt6 (nt (xK c)) (by omega) s (by omega) t (by omega) hs htn hb
          have hcn' := cn_add6 (nt (xK c)) (by omega) s (by omega) t (by omega) hs htn hb
          have hgp : gpk (xK c) (dl (xS c)) (dG (xS c)) s = t := gpk_is ⟨htn, ⟨hb, hA⟩, fun q hq z => hpk.2.2 q hq ⟨z.1, z.2.1⟩⟩
          have hd3 : SdC (sN S3 24 i (nI t)) 17 (xK c) (trd c s) := SdC_of hd2 (fun cc jj a b => by rw [gN_sN_c (by omega), hfr cc jj (by omega)])
          have h3' : RC (sN S3 24 i (nI t)) c := RC_of h3 (fun _ _ => rfl) (fun cc jj a => by rw [gN_sN_c (by omega)])
          obtain ⟨S4, e4, b1, b2, b3⟩ := done_c (l1 := nI (s + 2 ^ t)) (l2 := nI (ls + fno (xK c) (dl (xS c)) (dG (xS c)) t)) (l3 := nI i) hw h3' (fun l1_ l2_ l3_ S_ => FX6_findOrder_17 fu l1_ l2_ l3_ S_) (by omega) htn hb hd3
          have hWa := Wo_add (lv := dl (xS c)) (g := dG (xS c)) hw.1 hs htn hb (nt (xK c)) (Nat.le_refl _)
          rw [if_pos htn] at hWa
          refine ⟨(nI (s + 2 ^ t), nI (ls + fno (xK c) (dl (xS c)) (dG (xS c)) t), nI (i + 1), S4), ?_, S4, s + 2 ^ t, ls + fno (xK c) (dl (xS c)) (dG (xS c)) t, rfl, by rw [gst, ← hsg, hgp], hlt, by omega, RC_of h3' b3 (fun cc jj a => b2 cc jj (by omega)), ?_, b1, ?_, by omega, fun q hq => ?_⟩
          · dsimp only
            rw [hmid, FX6_findOrder_62, if_neg (nI_nm1 (by have := (fno_is (lv := dl (xS c)) (g := dG (xS c)) hw.1 hn (t := t) (fun p hp => hw.2.1.1 p t hp htn)).2; omega))]
            dsimp only
            rw [nI_add, gdI (by omega) (by omega), clI (by omega), or_bit s (by omega) t (by omega) hb]
            refine Eq.trans e4 ?_
            rw [nI_1]
          · exact ⟨CI1_of hC3.1 (by rw [b2 _ _ (by decide), gN_sN_c (by decide)]) (fun j => by rw [b2 _ _ (by decide), gN_sN_c (by decide)]), CI1_of hC3.2.1 (by rw [b2 _ _ (by decide), gN_sN_c (by decide)]) (fun j => by rw [b2 _ _ (by decide), gN_sN_c (by decide)]), CI1_of hC3.2.2 (by rw [b2 _ _ (by decide), gN_sN_c (by decide)]) (fun j => by rw [b2 _ _ (by decide), gN_sN_c (by decide)])⟩
          · rw [hCo]
            exact ⟨fun z => Co_any hw.1 hs htn hb z, fun z => (Co_step hw.1 hs (by omega)).mpr ⟨t, htn, hb, hA, z⟩⟩
          · rw [b2 _ _ (by decide)]
            by_cases hqi : q = i
            · subst hqi; rw [gN_sN_s, ← hsg, hgp]
            · rw [gN_sN_j hqi, hfr _ _ (by omega), u2.n _ _ (by simp) (by simp)]; exact hrow q (by omega)
        · right
          refine ⟨-1, S3, ?_, h3, hC3, Or.inr ⟨fun z => ?_, rfl⟩⟩
          · dsimp only
            rw [hmid, FX6_findOrder_62, if_pos rfl]
          · exact hA ⟨hpk.2.1.2, Co_all hw.1 _ hs rfl (hCo.mp z) t htn hb⟩
      · right
        refine ⟨-1, S2, ?_, h2, hC2, Or.inr ⟨fun z => ?_, rfl⟩⟩
        · dsimp only
          rw [hbeg, if_pos rfl, FX6_findOrder_62, if_pos rfl]
        · obtain ⟨t, a, b, d, _⟩ := (Co_step hw.1 hs (by omega)).mp (hCo.mp z)
          exact hno t a b d.1)
    (by
      intro fu x ⟨S1, s, ls, e, hsg, hs, hcn, h1, hC1, hd1, hCo, hW, hrow⟩
      subst e
      have hall := cn_all6 (nt (xK c)) (by omega) s (by omega) hs hcn
      have hz : Wo (xK c) (dl (xS c)) (dG (xS c)) s (nt (xK c)) = 0 := by rw [hall]; exact Wo_full _ (Nat.le_refl _)
      refine ⟨nI ls, S1, ?_, h1, hC1, Or.inl ⟨hCo.mpr (by rw [hall]; exact Co_full), by congr 1; omega, hrow⟩⟩
      dsimp only
      rw [FX6_findOrder_17, gd_t (told_is h1), h1.2.2.1.1, if_pos (Int32.le_refl _)])
    (nI 0, nI 0, nI 0, S0) ⟨S0, 0, 0, rfl, rfl, hpos, cn0 _, u0.okC h (by decide), CI_of hC u0 (by decide), hl0, Iff.rfl, by omega, fun q hq => absurd hq (by omega)⟩
  obtain ⟨r, S', e, q⟩ := key
  refine ⟨r, S', ?_, q⟩
  rw [fX6_findOrder, e0, bd_s]
  exact e
theorem ag_order (hw : WC c) (y : Int32) : Ag2 c (fX6_order y) (fX7_order y) := by
  have k1 := hw.1.1
  have k2 := hw.1.2.1
  by_cases hn : np (xK c) ≤ 4
  · have hWl := Wo_le (lv := dl (xS c)) (g := dG (xS c)) (s := 0) hw.1 hn hw.2.1.1 (nt (xK c)) (Nat.le_refl _)
    have hcbeg : ∀ S, RC S c → CI S (xK c) → ∃ r S', RC S' c ∧ CI S' (xK c) ∧ ((Co (xK c) (dl (xS c)) (dG (xS c)) 0 ∧ r = nI (Wo (xK c) (dl (xS c)) (dG (xS c)) 0 (nt (xK c))) ∧ ∀ q, q < nt (xK c) → gN S' 24 q = nI (gpk (xK c) (dl (xS c)) (dG (xS c)) (gst (xK c) (dl (xS c)) (dG (xS c)) q))) ∨ (¬ Co (xK c) (dl (xS c)) (dG (xS c)) 0 ∧ r = -1)) ∧ fX6_order y S = if r = -1 then some (-1, S') else if y < -1 then some (-1, S') else if y < nI (nt (xK c)) then (if y = -1 then some (r, S') else gd (inB y 6) (some (gN S' 24 y.toNatClampNeg, S'))) else some (-1, S') := fun S h hC => by
      obtain ⟨r, S', e, a1, a2, a3⟩ := order_c hw hn h hC
      refine ⟨r, S', a1, a2, a3, ?_⟩
      rw [fX6_order, gd_t (told_is h), np_c h, if_pos (by rw [li_4, leI (by omega) (by omega)]; exact hn), e, bd_s, gd_t (told_is a1), a1.2.2.1.1]
      rfl
    have hmbeg : ∀ S, RM S c → PI S → ∃ S', RM S' c ∧ PI S' ∧ RST c S' 0 ∧ TKS c S' 0 ∧ fX7_order y S = if gN S' 60 0 < 0 then some (gN S' 60 0, S') else if y = -1 then some (gN S' 60 0, S') else if bI (inB y (nt (xK c))) = 0 then some (-1, S') else FX7_order_61 FU y (nI 0) (-1) (nI 0) S' := fun S h hP => by
      obtain ⟨S', e, a1, a2, a3, a4⟩ := ord_all hw hn h hP
      refine ⟨S', a1, a2, a3, a4, ?_⟩
      rw [fX7_order, small_m hw h, bd_s, decide_eq_true hn, if_neg bI_t0, e, bd_s, gd_t (by decide), a1.1.1, show (0 : Int64) = (0 : Int32).toInt64 from rfl, in_gen, inB_dec (by omega), bd_s, FX7_order_29, gd_t (by decide)]
      rfl
    by_cases hC0 : Co (xK c) (dl (xS c)) (dG (xS c)) 0
    · have hm0 : ∀ {S'}, RST c S' 0 → gN S' 60 0 = nI (Wo (xK c) (dl (xS c)) (dG (xS c)) 0 (nt (xK c))) := fun hR => (hR 0 (Nat.le_refl _) (Nat.pow_pos (by decide))).elim (fun z => z.2) (fun z => absurd hC0 z.1)
      by_cases hy : y = -1
      · subst hy
        refine ⟨nI (Wo (xK c) (dl (xS c)) (dG (xS c)) 0 (nt (xK c))), c, hw, fun S h hC => ?_, fun S h hP => ?_⟩
        · obtain ⟨r, S', a1, a2, a3, e⟩ := hcbeg S h hC
          obtain ⟨-, hr, -⟩ := a3.resolve_right (fun z => z.1 hC0)
          refine ⟨S', ?_, a1, a2⟩
          rw [e, hr, if_neg (nI_nm1 (by omega)), if_neg (by decide), if_pos (Int32.lt_of_lt_of_le (by decide : (-1 : Int32) < 0) (nI_pos' (by omega))), if_pos rfl]
        · obtain ⟨S', a1, a2, a3, a4, e⟩ := hmbeg S h hP
          refine ⟨S', ?_, a1, a2⟩
          rw [e, hm0 a3, if_neg (nI_pos (by omega)), if_pos rfl]
      · cases hin : inB y (nt (xK c)) with
        | false =>
          refine ⟨-1, c, hw, fun S h hC => ?_, fun S h hP => ?_⟩
          · obtain ⟨r, S', a1, a2, a3, e⟩ := hcbeg S h hC
            obtain ⟨-, hr, -⟩ := a3.resolve_right (fun z => z.1 hC0)
            refine ⟨S', ?_, a1, a2⟩
            rw [e, hr, if_neg (nI_nm1 (by omega))]
            by_cases hlt : y < -1
            · rw [if_pos hlt]
            · rw [if_neg hlt]
              have h0 : ¬ y < 0 := fun q => by
                have h1 : -1 ≤ y := Int32.not_lt.mp hlt
                have h2 : y.toInt < 0 := Int32.lt_iff_toInt_lt.mp q
                have h3 : (-1 : Int) ≤ y.toInt := Int32.le_iff_toInt_le.mp h1
                exact hy (Int32.toInt_inj.mp (by rw [show (-1 : Int32).toInt = -1 by decide]; omega))
              obtain ⟨j, hj, rfl⟩ := nI_of h0
              rw [if_neg]
              intro q
              rw [ltI hj (by omega)] at q
              rw [inB_n q (by omega)] at hin
              cases hin
          · obtain ⟨S', a1, a2, a3, a4, e⟩ := hmbeg S h hP
            refine ⟨S', ?_, a1, a2⟩
            rw [e, hm0 a3, if_neg (nI_pos (by omega)), if_neg hy, hin, if_pos bI_f0]
        | true =>
          obtain ⟨j, hj, hj2, rfl⟩ := inB_get hin
          refine ⟨nI (gpk (xK c) (dl (xS c)) (dG (xS c)) (gst (xK c) (dl (xS c)) (dG (xS c)) j)), c, hw, fun S h hC => ?_, fun S h hP => ?_⟩
          · obtain ⟨r, S', a1, a2, a3, e⟩ := hcbeg S h hC
            obtain ⟨-, hr, hrow⟩ := a3.resolve_right (fun z => z.1 hC0)
            refine ⟨S', ?_, a1, a2⟩
            rw [e, hr, if_neg (nI_nm1 (by omega)), if_neg (fun q => absurd (Int32.lt_trans q (by decide : (-1 : Int32) < 0)) (nI_pos hj2)), if_pos (by rw [ltI (by omega) (by omega)]; exact hj), if_neg (nI_nm1 hj2), gdI (by omega) (by omega), clI hj2, hrow j hj]
          · obtain ⟨S', a1, a2, a3, a4, e⟩ := hmbeg S h hP
            refine ⟨S', ?_, a1, a2⟩
            rw [e, hm0 a3, if_neg (nI_pos (by omega)), if_neg (nI_nm1 hj2), hin, if_neg bI_t0, ord_row hw hn a3 a4 a1 hC0 hj]
    · refine ⟨-1, c, hw, fun S h hC => ?_, fun S h hP => ?_⟩
      · obtain ⟨r, S', a1, a2, a3, e⟩ := hcbeg S h hC
        have hr := (a3.resolve_left (fun z => hC0 z.1)).2
        exact ⟨S', by rw [e, if_pos hr], a1, a2⟩
      · obtain ⟨S', a1, a2, a3, a4, e⟩ := hmbeg S h hP
        have hr := ((a3 0 (Nat.le_refl _) (Nat.pow_pos (by decide))).resolve_left (fun z => hC0 z.1)).2
        exact ⟨S', by rw [e, hr, if_pos (by decide)], a1, a2⟩
  · refine ⟨-1000003, c, hw, fun S h hC => ⟨S, ?_, h, hC⟩, fun S h hP => ⟨S, ?_, h, hP⟩⟩
    · rw [fX6_order, gd_t (told_is h), np_c h, if_neg (by rw [li_4, leI (by omega) (by omega)]; exact hn)]
    · rw [fX7_order, small_m hw h, bd_s, decide_eq_false hn, if_pos bI_f0]
end
