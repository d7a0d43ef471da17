/-! ===== row ===== -/
section
variable {N mask : Nat} {top qk bl pr : Nat → Nat} {g : Bool} {sd st K L : Nat} {ln fr : Nat → Nat} {S : St}
theorem find_m {a : Nat} {l2 l8 : Int32} (k225 : Int32 → Int32 → Int32 → Int32 → Int32 → St → Option (Int32 × St)) (hn : cn mask N ≤ 4) (hm : mask < 64) (ht : ∀ i, i < N → top i ≤ 9) (hfull : ∀ p, p < N → bt1 mask p = true) (hK : K < L) (hG : ln K = 10 ^ cn mask N - 1) (ha : a < K) (hla : LD N mask top qk bl g K ln fr a) (h : RWI N mask top qk bl pr g sd st K L ln fr 0 S) :
    ∃ q j S', FX7_row_246 k225 FU l2 (nI mask) (nI a) (-1) l8 (nI a) (nI N - nI 1) S = k225 l2 (nI mask) (nI j) (nI q) (l8 + 1) S' ∧ RWI N mask top qk bl pr g sd st K L ln fr 0 S' ∧ Pick N (TT N mask top qk bl g K L ln fr a) q ∧ j < L ∧ ln j = nxm N mask top qk bl g (ln a) q ∧ fr j = fr a + 1 ∧ LD N mask top qk bl g K ln fr j := by
  have h4 := p10_4 hn
  have h6 : N ≤ 6 := by obtain ⟨⟨lv, hB⟩, _⟩ := h; exact hB.2.1
  have hLM : L ≤ 10 ^ cn mask N := h.2.1.1.2.2.2
  have hex := (LD_iff hn ht h.2.1 hK hG hfull ha).mp hla
  exact loopFU (fun fu (x : Int32 × Int32 × Int32 × St) => FX7_row_246 k225 fu l2 (nI mask) (nI a) x.1 l8 x.2.1 x.2.2.1 x.2.2.2) (fun m x => ∃ S1 fo th, x = (fo, th, nI (N - m) - nI 1, S1) ∧ RWI N mask top qk bl pr g sd st K L ln fr 0 S1 ∧ ((fo = -1 ∧ ∀ q, N - m ≤ q → q < N → ¬ TT N mask top qk bl g K L ln fr a q) ∨ ∃ q j, fo = nI q ∧ th = nI j ∧ (N - m ≤ q ∧ q < N ∧ TT N mask top qk bl g K L ln fr a q ∧ ∀ q', N - m ≤ q' → q' < q → ¬ TT N mask top qk bl g K L ln fr a q') ∧ j < L ∧ ln j = nxm N mask top qk bl g (ln a) q ∧ fr j = fr a + 1 ∧ LD N mask top qk bl g K ln fr j)) (fun r => ∃ q j S', r = k225 l2 (nI mask) (nI j) (nI q) (l8 + 1) S' ∧ RWI N mask top qk bl pr g sd st K L ln fr 0 S' ∧ Pick N (TT N mask top qk bl g K L ln fr a) q ∧ j < L ∧ ln j = nxm N mask top qk bl g (ln a) q ∧ fr j = fr a + 1 ∧ LD N mask top qk bl g K ln fr j) N (FU_lt (by omega))
    (by
      intro m fu x hmN ⟨S1, fo, th, e, h1, hst⟩
      subst e
      have ei : nI (N - m) - nI 1 = nI (N - (m + 1)) := by rw [subI (by omega)]; congr 1
      have hp : N - (m + 1) < N := by omega
      have hl56 : gN S1 56 a = nI (ln a) := (h1.2.1.2.1 a (by omega)).1
      obtain ⟨S2, e2, h2, h58'⟩ := RWI_next (i := a) hn hm (by omega) hp (hfull _ hp) h1
      have htl : nxm N mask top qk bl g (ln a) (N - (m + 1)) < 10 ^ cn mask N := nxm_lt ht
      have e0 : FX7_row_246 k225 (fu + 1) l2 (nI mask) (nI a) fo l8 th (nI (N - (m + 1))) S1 = brE S2 (gN S2 55 (nxm N mask top qk bl g (ln a) (N - (m + 1))) - 1) (nI a) (FX7_row_246 k225 fu l2 (nI mask) (nI a) fo l8 th (nI (N - (m + 1)) + -1) S2) (FX7_row_246 k225 fu l2 (nI mask) (nI a) (nI (N - (m + 1))) l8 (gN S2 55 (nxm N mask top qk bl g (ln a) (N - (m + 1))) - 1) (nI (N - (m + 1)) + -1) S2) := by
        rw [FX7_row_246, if_neg (nI_pos (by omega)), gdI (by omega) (by omega), clI (by omega), h1.2.2.1, hl56, e2, bd_s, gdI (by omega) (by omega), clI (by omega)]
        simp -implicitDefEqProofs only [FX7_row_317, FX7_row_318, FX7_row_332, FX7_row_346, if_true, show ¬ (1 : Int32) = 0 by decide, if_false, brE, clI (show a < 2147483648 by omega)]
      obtain ⟨b1, b2⟩ := brE_eq (A := FX7_row_246 k225 fu l2 (nI mask) (nI a) fo l8 th (nI (N - (m + 1)) + -1) S2) (B := FX7_row_246 k225 fu l2 (nI mask) (nI a) (nI (N - (m + 1))) l8 (gN S2 55 (nxm N mask top qk bl g (ln a) (N - (m + 1))) - 1) (nI (N - (m + 1)) + -1) S2) (i := a) (p := N - (m + 1)) hn ht h2.2.1 (by omega) (fun j _ b => h2.2.2.2 j (by omega) b)
      left
      by_cases hT : TT N mask top qk bl g K L ln fr a (N - (m + 1))
      · obtain ⟨j, hj, f1, f2, f3⟩ := hT
        have hpl : gN S2 55 (nxm N mask top qk bl g (ln a) (N - (m + 1))) - 1 = nI j := by
          have := (h2.2.1.2.1 j hj).2.2.2.1
          rw [f1] at this
          rw [this, nI_pred]
        refine ⟨(nI (N - (m + 1)), nI j, nI (N - (m + 1)) - nI 1, S2), ?_, S2, _, _, rfl, h2, Or.inr ⟨N - (m + 1), j, rfl, rfl, ⟨Nat.le_refl _, hp, ⟨j, hj, f1, f2, f3⟩, fun q' a b => by omega⟩, hj, f1, f2, f3⟩⟩
        dsimp only
        rw [ei, e0, b1 ⟨j, hj, f1, f2, f3⟩, hpl, show (-1 : Int32) = -nI 1 from rfl, addm1]
      · refine ⟨(fo, th, nI (N - (m + 1)) - nI 1, S2), ?_, S2, fo, th, rfl, h2, hst.imp (fun ⟨z1, z2⟩ => ⟨z1, fun q hq hqN => ?_⟩) (fun ⟨q, j, z1, z2, ⟨z3, z4, z5, z6⟩, z7⟩ => ⟨q, j, z1, z2, ⟨by omega, z4, z5, fun q' hq' hlt => ?_⟩, z7⟩)⟩
        · dsimp only
          rw [ei, e0, b2 hT, show (-1 : Int32) = -nI 1 from rfl, addm1]
        · by_cases hqq : q = N - (m + 1)
          · rw [hqq]; exact hT
          · exact z2 q (by omega) hqN
        · by_cases hqq : q' = N - (m + 1)
          · rw [hqq]; exact hT
          · exact z6 q' (by omega) hlt)
    (by
      intro fu x ⟨S1, fo, th, e, h1, hst⟩
      subst e
      rcases hst with ⟨_, hno⟩ | ⟨q, j, z1, z2, ⟨z3, z4, z5, z6⟩, z7⟩
      · obtain ⟨p, hp, hT⟩ := hex
        exact absurd hT (hno p (by omega) hp)
      · refine ⟨q, j, S1, ?_, h1, ⟨z4, z5, fun q' hq' => z6 q' (by omega) hq'⟩, z7⟩
        dsimp only
        rw [FX7_row_246, Nat.sub_self, neg1, if_pos (by decide), z1, z2])
    (-1, nI a, nI N - nI 1, S) ⟨S, -1, nI a, rfl, h, Or.inl ⟨rfl, fun q a b => by omega⟩⟩
theorem T_seat {a q m : Nat} (ht : ∀ i, i < N → top i ≤ 9) (hcf : cn mask N = N) (hnth : ∀ q, q < N → nth mask N q = q) (hq : q < N) : Pm N mask top qk bl g m (nxm N mask top qk bl g (ln a) q) ↔ RR (cn mask N) (fun _ => true) (fun i => top (nth mask N i)) (fun i => qk (nth mask N i)) (fun i => bl (nth mask N i)) g m (lkv (cn mask N) (fun _ => true) (fun i => top (nth mask N i)) (fun i => qk (nth mask N i)) (fun i => bl (nth mask N i)) g (fun i => stv mask N (ln a) (nth mask N i)) q) := by
  rw [Pm_nx ht, RR_nth]
  refine RR_congr m (fun i hi _ => ?_)
  have := lkv_nth (mask := mask) (N := N) (top := top) (qk := qk) (bl := bl) (g := g) (v := stv mask N (ln a)) (one := q) (i := i) (by omega) hi
  rw [hnth q hq] at this
  exact this
theorem stands_m {j : Nat} (hn : cn mask N ≤ 4) (hm : mask < 64) (ht : ∀ i, i < N → top i ≤ 9) (hfull : ∀ p, p < N → bt1 mask p = true) (hcf : cn mask N = N) (hnth : ∀ q, q < N → nth mask N q = q) (hK : K < L) (hG : ln K = 10 ^ cn mask N - 1) (hj : j < fr K) (h : RWI N mask top qk bl pr g sd st K L ln fr 0 S) :
    ∃ p S', FX7_row_225 FU (nI j) (nI mask) (nI 0) (-1) (nI 0) S = some (nI p, S') ∧ RWI N mask top qk bl pr g sd st K L ln fr 0 S' ∧ RowR (cn mask N) (fun i => top (nth mask N i)) (fun i => qk (nth mask N i)) (fun i => bl (nth mask N i)) g j (fr K) (fun i => stv mask N (ln 0) (nth mask N i)) p := by
  have h4 := p10_4 hn
  have h6 : N ≤ 6 := by obtain ⟨⟨lv, hB⟩, _⟩ := h; exact hB.2.1
  have hLM : L ≤ 10 ^ cn mask N := h.2.1.1.2.2.2
  have hfK := (h.2.1.2.1 K hK).2.2.2.2
  have hI0 := h.2.1
  have h0 : LD N mask top qk bl g K ln fr 0 := by
    refine ⟨Nat.zero_le _, ?_⟩
    have := hI0.2.2.2.2.2.2.1 K hK 0 ((Pm_zero (hI0.2.1 K hK).2.2.1).mpr hG)
    rw [hI0.2.2.2.1.2, hI0.2.2.2.1.1]
    exact this
  have hi0 := hI0.2.2.2.1.2
  exact loopFU (fun fu (x : Int32 × Int32 × Int32 × St) => FX7_row_225 fu (nI j) (nI mask) x.1 x.2.1 x.2.2.1 x.2.2.2) (fun k x => ∃ S1 a fo, x = (nI a, fo, nI k, S1) ∧ RWI N mask top qk bl pr g sd st K L ln fr 0 S1 ∧ (k ≤ j → a ≤ K ∧ fr a = k ∧ LD N mask top qk bl g K ln fr a ∧ ∀ p, RowR (cn mask N) (fun i => top (nth mask N i)) (fun i => qk (nth mask N i)) (fun i => bl (nth mask N i)) g (j - k) (fr K - k) (fun i => stv mask N (ln a) (nth mask N i)) p → RowR (cn mask N) (fun i => top (nth mask N i)) (fun i => qk (nth mask N i)) (fun i => bl (nth mask N i)) g j (fr K) (fun i => stv mask N (ln 0) (nth mask N i)) p) ∧ (k = j + 1 → ∃ p, fo = nI p ∧ RowR (cn mask N) (fun i => top (nth mask N i)) (fun i => qk (nth mask N i)) (fun i => bl (nth mask N i)) g j (fr K) (fun i => stv mask N (ln 0) (nth mask N i)) p)) (fun r => ∃ p S', r = some (nI p, S') ∧ RWI N mask top qk bl pr g sd st K L ln fr 0 S' ∧ RowR (cn mask N) (fun i => top (nth mask N i)) (fun i => qk (nth mask N i)) (fun i => bl (nth mask N i)) g j (fr K) (fun i => stv mask N (ln 0) (nth mask N i)) p) (j + 1) (FU_lt (by omega))
    (by
      intro k fu x hk ⟨S1, a, fo, e, h1, hA, _⟩
      subst e
      obtain ⟨a1, a2, a3, a4⟩ := hA (by omega)
      have haK : a < K := by
        apply Classical.byContradiction
        intro q
        have : a = K := by omega
        subst this
        omega
      have hN : gN S1 44 1 = nI N := by obtain ⟨⟨lv, hB⟩, _⟩ := h1; exact hB.1
      obtain ⟨q, jn, S2, e2, h2, hpk, b1, b2, b3, b4⟩ := find_m (l2 := nI j) (l8 := nI k) (fun l2_ l4_ l6_ l7_ l8_ S_ => FX7_row_225 fu l2_ l4_ l6_ l7_ l8_ S_) hn hm ht hfull hK hG haK a3 h1
      have hpick : Pick (cn mask N) (fun one => RR (cn mask N) (fun _ => true) (fun i => top (nth mask N i)) (fun i => qk (nth mask N i)) (fun i => bl (nth mask N i)) g (fr K - k - 1) (lkv (cn mask N) (fun _ => true) (fun i => top (nth mask N i)) (fun i => qk (nth mask N i)) (fun i => bl (nth mask N i)) g (fun i => stv mask N (ln a) (nth mask N i)) one)) q := by
        rw [hcf]
        refine (Pick.iff (fun q' hq' => ?_)).mp hpk
        rw [TT_iff hn ht h1.2.1 hK hG haK hq' (hfull q' hq'), a2]
        have := T_seat (top := top) (qk := qk) (bl := bl) (g := g) (ln := ln) (a := a) (m := fr K - k - 1) ht hcf hnth hq'
        rw [hcf] at this
        rw [this]
        exact ⟨fun z => z.2, fun z => ⟨by omega, z⟩⟩
      have hstep : ∀ i, i < cn mask N → stv mask N (ln jn) (nth mask N i) = lkv (cn mask N) (fun _ => true) (fun i => top (nth mask N i)) (fun i => qk (nth mask N i)) (fun i => bl (nth mask N i)) g (fun i => stv mask N (ln a) (nth mask N i)) q i := by
        intro i hi
        obtain ⟨n1, n2, _⟩ := nth_is (mask := mask) N i hi
        have hq := hpk.1
        have := lkv_nth (mask := mask) (N := N) (top := top) (qk := qk) (bl := bl) (g := g) (v := stv mask N (ln a)) (one := q) (i := i) (by omega) hi
        rw [hnth q hq] at this
        rw [← this, b2]
        exact stv_mcm (fun i hi => lkv_le stv_le (ht i hi)) n1 n2
      refine Or.inl ⟨(nI jn, nI q, nI (k + 1), S2), ?_, S2, jn, nI q, rfl, h2, fun hkj => ⟨b4.1, by omega, b4, fun p hp => a4 p ?_⟩, fun hkj => ⟨q, rfl, a4 q ?_⟩⟩
      · dsimp only
        rw [FX7_row_225, if_neg (by rw [ltI (by omega) (by omega)]; omega), hN]
        refine Eq.trans e2 ?_
        rw [nI_1]
      · rw [show j - k = (j - (k + 1)) + 1 by omega]
        refine ⟨q, hpick, ?_⟩
        rw [show fr K - k - 1 = fr K - (k + 1) by omega]
        exact (RowR_congr _ hstep).mp hp
      · rw [show j - k = 0 by omega]
        exact hpick)
    (by
      intro fu x ⟨S1, a, fo, e, h1, _, hB⟩
      subst e
      obtain ⟨p, rfl, hp⟩ := hB rfl
      refine ⟨p, S1, ?_, h1, hp⟩
      dsimp only
      rw [FX7_row_225, if_pos (by rw [ltI (by omega) (by omega)]; omega)])
    (nI 0, -1, nI 0, S) ⟨S, 0, -1, rfl, h, fun _ => ⟨Nat.zero_le _, hi0, h0, fun p hp => hp⟩, fun q => absurd q (by omega)⟩
end
theorem RowR_ex {n : Nat} {top qk bl : Nat → Nat} {g : Bool} : ∀ j {d : Nat} {v : Nat → Nat}, RR n (fun _ => true) top qk bl g d v → j < d → ∃ p, RowR n top qk bl g j d v p := by
  intro j
  induction j with
  | zero =>
    intro d v h hd
    obtain ⟨d, rfl⟩ : ∃ e, d = e + 1 := ⟨d - 1, by omega⟩
    obtain ⟨one, a, _, b⟩ := h
    exact Pick.ex ⟨one, a, b⟩
  | succ j ih =>
    intro d v h hd
    obtain ⟨d, rfl⟩ : ∃ e, d = e + 1 := ⟨d - 1, by omega⟩
    obtain ⟨one, a, _, b⟩ := h
    obtain ⟨q, hq⟩ := Pick.ex (n := n) (P := fun one => RR n (fun _ => true) top qk bl g (d + 1 - 1) (lkv n (fun _ => true) top qk bl g v one)) ⟨one, a, b⟩
    obtain ⟨p, hp⟩ := ih (d := d) hq.2.1 (by omega)
    exact ⟨p, q, hq, hp⟩
section
variable {c : Cx}
/-- the row of a thing, as both say it -/
def rowP (c : Cx) (t j d p : Nat) : Prop := RowR (cn 63 (np (xK c))) (fun i => tpv (xK c) (dl (xS c)) 0 (nth 63 (np (xK c)) i) t) (fun i => kq (xK c) (nth 63 (np (xK c)) i)) (fun i => kb (xK c) (nth 63 (np (xK c)) i)) (dG (xS c)) j d (fun i => dl (xS c) (nth 63 (np (xK c)) i) t) p
theorem row_c {S : St} (hw : WC c) (h : RC S c) (hC : CI S (xK c)) {t j d : Nat} (ht : t < nt (xK c)) (hn : np (xK c) ≤ 4) (hL : Least (fwP (xK c) (dl (xS c)) 0 63 t (dG (xS c))) (nI d)) (hd : d ≤ 36) (hj : j < d) : ∃ p S', fX6_row (nI t) (nI j) S = some (nI p, S') ∧ rowP c t j d p ∧ RC S' c ∧ CI S' (xK c) := by
  obtain ⟨x, S1, e1, a1, r1, hC1, hrest⟩ := fewest_c hw h hC ht hn
  have hx : x = nI d := a1.uniq hL
  subst hx
  have hcn : cn 63 (np (xK c)) ≤ 4 := by rw [cn63 _ hw.1.2.1]; exact hn
  obtain ⟨hb, hCh, hfar⟩ := hrest (nI_nm1 (by omega))
  obtain ⟨S2, e2, hB2, -, -⟩ := sit_eq (mask := 63) hw.1 hw.2.1 r1.2.2.1 r1.2.2.2.1 (told_le r1) (by omega) ht (by decide)
  have u2 := wX0_sit e2
  have h9 : ∀ i, i < cn 63 (np (xK c)) → dl (xS c) (nth 63 (np (xK c)) i) t ≤ 9 := fun i hi => (hB2.2.2.2.2.2 i hi).1.2
  have hdg : ∀ i, i < cn 63 (np (xK c)) → dg (hc (fun i => dl (xS c) (nth 63 (np (xK c)) i) t) (cn 63 (np (xK c))) 0) i = dl (xS c) (nth 63 (np (xK c)) i) t := fun i hi => by rw [dg_hc _ 0 i (fun j _ hj => h9 j (by omega)) hi, Nat.zero_add]
  have hs0 : 33 ≤ seaOf (dG (xS c)) := by unfold seaOf; split <;> omega
  have hg2 : gN S2 15 1 = bI (dG (xS c)) := by rw [u2.n 15 1 (by simp) (by simp)]; exact r1.2.2.2.1.2.1
  obtain ⟨p, S3, e3, hR⟩ := stands_c (t0 := seaOf (dG (xS c))) (d := d) (j := j) hs0 hcn (Bn_congr hB2 (fun i hi => (hdg i hi).symm)) (hc_lt _ 0 (fun j _ hj => h9 j (by omega))) (fun i hi => by rw [hdg i hi]; exact hb i hi) (Ch_of hCh (fun j => u2.n _ _ (by simp; omega) (by simp; omega))) hd (by rw [u2.n _ _ (by simp; omega) (by simp; omega)]; exact hfar) hj
  have e : fX6_row (nI t) (nI j) S = some (nI p, S3) := by
    rw [fX6_row, e1, bd_s, if_pos hL.gem1, if_neg (nI_pos (by omega)), if_pos (by rw [ltI (by omega) (by omega)]; exact hj), fX6_sitAll, gd_t (told_is r1), show (63 : Int32) = nI 63 from rfl, e2, bd_s, bd_s, hg2]
    have hsf : fX6_searchFor (bI (dG (xS c))) S2 = some (seaOf (dG (xS c)), S2) := by cases dG (xS c) <;> rfl
    have hse : isSea (seaOf (dG (xS c))) = true := by cases dG (xS c) <;> rfl
    rw [hsf, bd_s, gd_t hse, e3, bd_s]
  refine ⟨p, S3, e, ?_, (wX6_row e).okC h (by decide), CI_of (CI_of hC1 u2 (by decide)) (wX4_standsUp e3) (by decide)⟩
  exact (RowR_tops (fun i _ => Nat.le_refl _) (fun i _ => tpv_le _ _ _ _ _) j (fun i hi => (hb i hi).imp id (fun q => q.symm))).mp ((RowR_congr j hdg).mp hR)
theorem row_m {S : St} (hw : WC c) (h : RM S c) (hP : PI S) {t j d : Nat} (ht : t < nt (xK c)) (hn : np (xK c) ≤ 4) (hL : Least (fwP (xK c) (dl (xS c)) 0 63 t (dG (xS c))) (nI d)) (hd : d ≤ 36) (hj : j < d) : ∃ p S', fX7_row (nI t) (nI j) S = some (nI p, S') ∧ rowP c t j d p ∧ RM S' c ∧ PI S' := by
  have k1 := hw.1.1
  have k2 := hw.1.2.1
  obtain ⟨x, S1, e1, a1, r1, hP1, ⟨lv1, hB1⟩, hBF⟩ := fewOf_m (g := dG (xS c)) (known := 0) hw h hP ht (by decide) hn
  have hx : x = nI d := a1.uniq hL
  subst hx
  obtain ⟨K, L, ln, fr, hI, hK, hG, hfr⟩ := hBF (nI_nm1 (by omega))
  have hcf := cn_full (n := np (xK c)) (np (xK c)) (Nat.le_refl _)
  have hmm : 2 ^ np (xK c) - 1 < 64 := by have := Nat.pow_le_pow_right (show 0 < 2 by decide) k2; omega
  have hcn : cn (2 ^ np (xK c) - 1) (np (xK c)) ≤ 4 := by rw [hcf]; exact hn
  have h4 := p10_4 hcn
  have hfull : ∀ p, p < np (xK c) → bt1 (2 ^ np (xK c) - 1) p = true := fun p hp => bt1_full hp
  have hnth : ∀ q, q < np (xK c) → nth (2 ^ np (xK c) - 1) (np (xK c)) q = q := fun q hq => by
    have := nth_cn (mask := 2 ^ np (xK c) - 1) (np (xK c)) q hq (hfull q hq)
    rwa [cn_full q (by omega)] at this
  have htp : ∀ i, i < np (xK c) → tpv (xK c) (dl (xS c)) 0 i t ≤ 9 := fun i _ => tpv_le _ _ _ _ _
  have hfK := (hI.2.1 K hK).2.2.2.2
  have hLM := hI.1.2.2.2
  have hdK : d = fr K := by rw [eqI (by omega) (by omega)] at hfr; exact hfr
  subst hdK
  have hg1 : gN S1 44 5 = bI (dG (xS c)) := r1.2.1.2.1
  obtain ⟨S2, e2, h2⟩ := leads_all (l2 := nI j) hcn hmm htp hfull hK hG ⟨⟨lv1, hB1⟩, hI, hg1, fun j a b => by omega⟩
  obtain ⟨p, S3, e3, h3, hR⟩ := stands_m hcn hmm htp hfull hcf hnth hK hG hj h2
  have hplace := (hI.2.1 K hK).2.2.2.1
  have hst : ln 0 = mcm (2 ^ np (xK c) - 1) (fun p => dl (xS c) p t) (np (xK c)) := hI.2.2.2.1.1
  have e : fX7_row (nI t) (nI j) S = some (nI p, S3) := by
    have e1' : fX7_fewestOf (nI t) 0 (bI (dG (xS c))) S = some (nI (fr K), S1) := e1
    rw [fX7_row, isThing_m h hw, inB_n ht (by omega), bd_s, if_neg bI_t0, small_m hw h, bd_s, decide_eq_true hn, if_neg bI_t0, h.2.1.2.1, e1', bd_s, show (0 : Int64) = (0 : Int32).toInt64 from rfl, in_gen, inB_dec (by omega), inB_n hj (by omega), bd_s, if_neg bI_t0, everybody_eq hB1.1 k2, bd_s, goal_eq hmm, cn_big k2 (by have := Nat.pow_pos (n := np (xK c)) (show 0 < 2 by decide); omega), bd_s, gdI (by omega) (by omega), clI (by omega), ← hG, hplace, hI.1.1]
    dsimp only
    rw [nI_pred]
    exact e2.trans e3
  obtain ⟨⟨lv3, hB3⟩, hI3, -⟩ := h3
  refine ⟨p, S3, e, ?_, RM_seed h (wX7_row e) (by decide) hB3.2.2.1, BI_PI hcn hI3⟩
  unfold rowP
  rw [← nth_cg (np (xK c)) (fun k hk => (b63 k2 k hk).symm), ← cn_cg (fun k hk => (b63 k2 k hk).symm) (np (xK c)) (Nat.le_refl _)]
  refine (RowR_congr j (fun i hi => ?_)).mp hR
  obtain ⟨n1, n2, _⟩ := nth_is (mask := 2 ^ np (xK c) - 1) (np (xK c)) i hi
  rw [hst]
  exact stv_mcm (fun i hi => hw.2.1.1 i t hi ht) n1 n2
theorem ag_row (hw : WC c) (y u : Int32) : Ag2 c (fX6_row y u) (fX7_row y u) := by
  have k1 := hw.1.1
  have k2 := hw.1.2.1
  cases ht : inB y (nt (xK c)) with
  | false =>
    exact ⟨-1000001, c, hw, fun S h hC => ⟨S, by rw [fX6_row, fewest_no hw h ht, bd_s, if_neg (by decide)], h, hC⟩, fun S h hP => ⟨S, by rw [fX7_row, isThing_m h hw, ht, bd_s, if_pos bI_f0], h, hP⟩⟩
  | true =>
    obtain ⟨t, h1, h2, rfl⟩ := inB_get ht
    by_cases hn : np (xK c) ≤ 4
    · obtain ⟨r, hr⟩ := few_ex (g := dG (xS c)) hw h1 hn
      -- nobody, where the number is out of the row
      have hout : ¬ (0 ≤ u ∧ u ≤ r - 1) → Ag2 c (fX6_row (nI t) u) (fX7_row (nI t) u) := by
        intro hno
        refine ⟨-1, c, hw, fun S h hC => ?_, fun S h hP => ?_⟩
        · obtain ⟨x, S', e, a1, a2, a3, -⟩ := fewest_c hw h hC h1 hn
          refine ⟨S', ?_, a2, a3⟩
          rw [fX6_row, e, bd_s, if_pos a1.gem1, a1.uniq hr]
          by_cases hu : u < 0
          · rw [if_pos hu]; rfl
          · rw [if_neg hu, if_neg]
            · rfl
            · intro hlt
              obtain ⟨j, hj, rfl⟩ := nI_of hu
              rcases hr with ⟨rfl, _⟩ | ⟨k, hk, rfl, _⟩
              · exact absurd (Int32.lt_trans (Int32.lt_of_le_of_lt (nI_pos' hj) hlt) (by decide : (-1 : Int32) < 0)) (Int32.lt_irrefl)
              · rw [ltI hj (by omega)] at hlt
                refine hno ⟨nI_pos' hj, ?_⟩
                rw [li_1, subI (by omega), leI hj (by omega)]
                omega
        · obtain ⟨x, S', e, a1, a2, a3, -⟩ := fewOf_m (g := dG (xS c)) (known := 0) hw h hP h1 (by decide) hn
          have e1' : fX7_fewestOf (nI t) 0 (bI (dG (xS c))) S = some (x, S') := e
          refine ⟨S', ?_, a2, a3⟩
          rw [fX7_row, isThing_m h hw, ht, bd_s, if_neg bI_t0, small_m hw h, bd_s, decide_eq_true hn, if_neg bI_t0, h.2.1.2.1, e1', bd_s, show (0 : Int64) = (0 : Int32).toInt64 from rfl, in_gen, a1.uniq hr, decide_eq_false hno, bd_s, if_pos bI_f0]
      by_cases hin : 0 ≤ u ∧ u ≤ r - 1
      · obtain ⟨j, hj, rfl⟩ := nI_of (Int32.not_lt.mpr hin.1)
        have hrr := hr
        rcases hr with ⟨rfl, _⟩ | ⟨d, hd, rfl, hR, _⟩
        · exact absurd (Int32.le_trans hin.1 hin.2) (by decide)
        · have hjd : j < d := by
            have := hin.2
            cases d with
            | zero => exact absurd (Int32.le_trans hin.1 this) (by decide)
            | succ d => rw [nI_pred, leI hj (by omega)] at this; omega
          obtain ⟨p, hp⟩ := RowR_ex j hR hjd
          refine ⟨nI p, c, hw, fun S h hC => ?_, fun S h hP => ?_⟩
          · obtain ⟨q, S', e, a1, a2, a3⟩ := row_c hw h hC h1 hn hrr hd hjd
            have := RowR_uniq j a1 hp
            subst this
            exact ⟨S', e, a2, a3⟩
          · obtain ⟨q, S', e, a1, a2, a3⟩ := row_m hw h hP h1 hn hrr hd hjd
            have := RowR_uniq j a1 hp
            subst this
            exact ⟨S', e, a2, a3⟩
      · exact hout hin
    · refine ⟨-1000003, c, hw, fun S h hC => ⟨S, ?_, h, hC⟩, fun S h hP => ⟨S, ?_, h, hP⟩⟩
      · rw [fX6_row, fewest_not hw h ht hn, bd_s, if_neg (by decide)]
      · rw [fX7_row, isThing_m h hw, ht, bd_s, if_neg bI_t0, small_m hw h, bd_s, decide_eq_false hn, if_pos bI_f0]
end
