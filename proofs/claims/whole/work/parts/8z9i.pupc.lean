/-! ===== a pupil's clause: the class ===== -/
def cmR (L : Nat) (T : Nat → Nat) (k : Nat) (x : Nat × Nat) : Nat × Nat := if k = 0 then x else sgnR L T 44 x.1 x.2
def levN (L : Nat) (T : Nat → Nat) (k : Nat) (x : Nat × Nat) : Nat × Nat × Nat := numR L T 0 9 (cmR L T k x).1 (cmR L T k x).2
/-- behind k levels -/
def levP (L : Nat) (T : Nat → Nat) (x : Nat × Nat) : Nat → Nat × Nat
  | 0 => x
  | k + 1 => ((levN L T k (levP L T x k)).1, (levN L T k (levP L T x k)).2.1)
def pu1 (L : Nat) (T : Nat → Nat) (p : Nat) : Nat × Nat × Nat := numR L T 1 5 0 p
def pu2 (L : Nat) (T : Nat → Nat) (p : Nat) : Nat × Nat × Nat := numR L T 0 100 (pu1 L T p).1 (pu1 L T p).2.1
def pu3 (L : Nat) (T : Nat → Nat) (p : Nat) : Nat × Nat × Nat := numR L T 0 100 (pu2 L T p).1 (pu2 L T p).2.1
def puX (L : Nat) (T : Nat → Nat) (p : Nat) : Nat × Nat := ((pu3 L T p).1, (pu3 L T p).2.1)
def levV (L : Nat) (T : Nat → Nat) (x : Nat × Nat) (k : Nat) : Nat := (levN L T k (levP L T x k)).2.2
/-- the error and the place -/
def pupR (L : Nat) (T : Nat → Nat) (nt p : Nat) : Nat × Nat := sgnR L T 59 (levP L T (puX L T p) nt).1 (levP L T (puX L T p) nt).2
section
variable {L : Nat} {T : Nat → Nat} {S S' : St} {e p nt r np : Nat}
theorem un1 (h : Un [(1, 2), (1, 3), (1, 5), (1, 6), (1, 7)] [] [] S S') {cc jj : Nat} (hc : cc ≠ 1) : gN S' cc jj = gN S cc jj := h.n _ _ (by simp [hc]) (by simp [hc])
theorem un1_T (h : Un [(1, 2), (1, 3), (1, 5), (1, 6), (1, 7)] [] [] S S') (t : TxC S L T) : TxC S' L T := ⟨(h.n _ _ (by simp) (by simp)).trans t.1, fun i hi => (un1 h (by decide)).trans (t.2 i hi)⟩
theorem un1_r (h : Un [(1, 2), (1, 3), (1, 5), (1, 6), (1, 7)] [] [] S S') {cc jj : Nat} : gR S' cc jj = gR S cc jj := h.r _ _ (by simp)
theorem TxC_w {cc jj : Nat} {v : Int32} (h1 : cc ≠ 1) (h2 : cc ≠ 2) (h : TxC S L T) : TxC (sN S cc jj v) L T :=
  ⟨(gN_sN_c (fun z => h1 z.symm)).trans h.1, fun i hi => (gN_sN_c (fun z => h2 z.symm)).trans (h.2 i hi)⟩
theorem PosC_w {cc jj : Nat} {v : Int32} (h1 : cc ≠ 1) (h : PosC S L T e p) : PosC (sN S cc jj v) L T e p := by
  have k : ∀ j, gN (sN S cc jj v) 1 j = gN S 1 j := fun j => gN_sN_c (fun z => h1 z.symm)
  obtain ⟨a, b, c, d⟩ := h
  refine ⟨a, b, fun z => ?_, fun z => ?_⟩
  · obtain ⟨c1, ⟨c2, c3, c4⟩, c5⟩ := c z
    exact ⟨(k 3).trans c1, ⟨(k 6).trans c2, (k 7).trans c3, (k 5).trans c4⟩, (k 2).trans c5⟩
  · exact ⟨(k 3).trans (d z).1, (k 2).trans (d z).2⟩
theorem pup77_c {x : Nat × Nat} (ho : okT L T) (h : TxC S L T) (hP : PosC S L T x.1 x.2) (hr : gR S 1 4 = r) (hrs : isSch r = true) (hrn : gN S r 0 = nI nt) (h6 : nt ≤ 6) (hp5 : np ≤ 5) :
    ∃ S', FX2_readPupil_77 FU (nI np) (nI 0) S = some ((), S') ∧ PosC S' L T (sgnR L T 59 (levP L T x nt).1 (levP L T x nt).2).1 (sgnR L T 59 (levP L T x nt).1 (levP L T x nt).2).2 ∧ gN S' r 1 = nI (np + 1) ∧ (∀ j, j < nt → gN S' (r + 5) (6 * np + j) = nI (levV L T x j)) ∧ ∀ cc jj, cc ≠ 1 → ¬ (cc = r ∧ jj = 1) → ¬ (cc = r + 5 ∧ 6 * np ≤ jj) → gN S' cc jj = gN S cc jj := by
  have h4 := ho.1
  have hr3 := sch_or hrs
  exact loopFU (fun fu (y : Int32 × St) => FX2_readPupil_77 fu (nI np) y.1 y.2) (fun k y => ∃ S1, y = (nI k, S1) ∧ TxC S1 L T ∧ PosC S1 L T (levP L T x k).1 (levP L T x k).2 ∧ gR S1 1 4 = r ∧ (∀ j, j < k → gN S1 (r + 5) (6 * np + j) = nI (levV L T x j)) ∧ ∀ cc jj, cc ≠ 1 → ¬ (cc = r + 5 ∧ 6 * np ≤ jj) → gN S1 cc jj = gN S cc jj)
    (fun z => ∃ S', z = some ((), S') ∧ PosC S' L T (sgnR L T 59 (levP L T x nt).1 (levP L T x nt).2).1 (sgnR L T 59 (levP L T x nt).1 (levP L T x nt).2).2 ∧ gN S' r 1 = nI (np + 1) ∧ (∀ j, j < nt → gN S' (r + 5) (6 * np + j) = nI (levV L T x j)) ∧ ∀ cc jj, cc ≠ 1 → ¬ (cc = r ∧ jj = 1) → ¬ (cc = r + 5 ∧ 6 * np ≤ jj) → gN S' cc jj = gN S cc jj) nt (FU_lt (by omega))
    (by
      intro k fu y hk ⟨S1, e1, t0, t1, tr, tv, tf⟩
      subst e1
      dsimp only
      have tn : gN S1 r 0 = nI nt := (tf r 0 (by omega) (by omega)).trans hrn
      have mid : ∃ S2, FX2_readPupil_77 (fu + 1) (nI np) (nI k) S1 = FX2_readPupil_98 (fun l1_ l2_ S_ => FX2_readPupil_77 fu l1_ l2_ S_) (nI np) (nI k) S2 ∧ TxC S2 L T ∧ PosC S2 L T (cmR L T k (levP L T x k)).1 (cmR L T k (levP L T x k)).2 ∧ gR S2 1 4 = r ∧ ∀ cc jj, cc ≠ 1 → gN S2 cc jj = gN S1 cc jj := by
        by_cases q : k = 0
        · refine ⟨S1, ?_, t0, by unfold cmR; rw [if_pos q]; exact t1, tr, fun _ _ _ => rfl⟩
          rw [FX2_readPupil_77, tr, gd_t hrs, tn, if_neg (by rw [leI (by omega) (by omega)]; omega), if_pos (by rw [li_0, leI (by omega) (by omega)]; omega)]
        · obtain ⟨S2, e2, a2⟩ := sgn_pc (ch := 44) (by omega) ho t0 t1
          have u2 := wX2_takeSign e2
          refine ⟨S2, ?_, un1_T u2 t0, by unfold cmR; rw [if_neg q]; exact a2, (un1_r u2).trans tr, fun cc jj hc => un1 u2 hc⟩
          rw [FX2_readPupil_77, tr, gd_t hrs, tn, if_neg (by rw [leI (by omega) (by omega)]; omega), if_neg (by rw [li_0, leI (by omega) (by omega)]; omega), show (44 : Int32) = nI 44 from rfl, e2, bd_s]
      obtain ⟨S2, e2, b0, b1, br, bf⟩ := mid
      obtain ⟨S3, e3, c1⟩ := num_pc (lo := 0) (hi := 9) ho b0 b1
      have u3 := wX2_takeNumber e3
      left
      refine ⟨(nI (k + 1), sN S3 (r + 5) (np * 6 + k) (nI (levV L T x k))), ?_, _, rfl, TxC_w (by omega) (by omega) (un1_T u3 b0), PosC_w (by omega) c1, (un1_r u3).trans br, fun j hj => ?_, fun cc jj hc hn => ?_⟩
      · dsimp only
        rw [e2, FX2_readPupil_98, br, gd_t hrs, e3, bd_s]
        dsimp only
        rw [li_6, pk_mul, nI_add, gdI (by omega) (by omega), clI (by omega), nI_1]
        rfl
      · by_cases z : j = k
        · rw [z, Nat.mul_comm 6 np, gN_sN_s]
        · rw [gN_sN_j (by omega), un1 u3 (by omega), bf _ _ (by omega)]; exact tv j (by omega)
      · have key : gN (sN S3 (r + 5) (np * 6 + k) (nI (levV L T x k))) cc jj = gN S3 cc jj := by
          by_cases z : cc = r + 5
          · subst z; exact gN_sN_j (by omega)
          · exact gN_sN_c z
        rw [key, un1 u3 hc, bf _ _ hc]; exact tf cc jj hc hn)
    (by
      intro fu y ⟨S1, e1, t0, t1, tr, tv, tf⟩
      subst e1
      dsimp only
      have tn : gN S1 r 0 = nI nt := (tf r 0 (by omega) (by omega)).trans hrn
      obtain ⟨S2, e2, a2⟩ := sgn_pc (ch := 59) (by omega) ho t0 t1
      have u2 := wX2_takeSign e2
      have ar : gR S2 1 4 = r := (un1_r u2).trans tr
      refine ⟨sN S2 r 1 (nI (np + 1)), ?_, PosC_w (by omega) a2, gN_sN_s, fun j hj => ?_, fun cc jj hc h1 h2 => ?_⟩
      · rw [FX2_readPupil_77, tr, gd_t hrs, tn, if_pos (Int32.le_refl _), show (59 : Int32) = nI 59 from rfl, e2, bd_s, ar, gd_t hrs, nI_1]
      · rw [gN_sN_c (by omega), un1 u2 (by omega)]; exact tv j hj
      · have key : gN (sN S2 r 1 (nI (np + 1))) cc jj = gN S2 cc jj := by
          by_cases z : cc = r
          · subst z; exact gN_sN_j (by omega)
          · exact gN_sN_c z
        rw [key, un1 u2 hc]; exact tf cc jj hc h2)
    (nI 0, S) ⟨S, rfl, h, hP, hr, fun j hj => absurd hj (by omega), fun _ _ _ _ => rfl⟩
theorem pupil_c {s : Nat} (ho : okT L T) (hs : s ≤ L) (hp : te L T s = p) (h : TxC S L T) (ht : Tok S L T s) (h3 : gN S 1 3 = 0) (h2 : gN S 1 2 = -1) (hr : gR S 1 4 = r) (hrs : isSch r = true) (hrn : gN S r 0 = nI nt) (hr1 : gN S r 1 = nI np) (h6 : nt ≤ 6) (hp5 : np ≤ 5) :
    ∃ S', fX2_readPupil S = some ((), S') ∧ PosC S' L T (pupR L T nt p).1 (pupR L T nt p).2 ∧ gN S' r 1 = nI (np + 1) ∧ (gN S' (r + 2) np = nI (pu1 L T p).2.2 ∧ gN S' (r + 3) np = nI (pu2 L T p).2.2 ∧ gN S' (r + 4) np = nI (pu3 L T p).2.2) ∧ (∀ j, j < nt → gN S' (r + 5) (6 * np + j) = nI (levV L T (puX L T p) j)) ∧ (∀ j, j ≠ np → gN S' (r + 2) j = gN S (r + 2) j ∧ gN S' (r + 3) j = gN S (r + 3) j ∧ gN S' (r + 4) j = gN S (r + 4) j) ∧ (∀ j, j < 6 * np → gN S' (r + 5) j = gN S (r + 5) j) ∧ ∀ cc jj, cc ≠ 1 → cc < r ∨ r + 5 < cc → gN S' cc jj = gN S cc jj := by
  have h4 := ho.1
  have hr3 := sch_or hrs
  have hpL : p ≤ L := by rw [← hp]; exact (te_le (T := T) hs).2
  obtain ⟨S5, e5, b5⟩ := advance_c ho hpL h (by rw [ht.2.2, hp])
  have u5 := wX2_advance e5
  have f5 : ∀ cc jj, cc ≠ 1 → gN S5 cc jj = gN S cc jj := fun cc jj hc => u5.n _ _ (by simp [hc]) (by simp [hc])
  have t5 : TxC S5 L T := ⟨(u5.n _ _ (by simp) (by simp)).trans h.1, fun i hi => (f5 _ _ (by decide)).trans (h.2 i hi)⟩
  have r5 : gR S5 1 4 = r := (u5.r _ _ (by simp)).trans hr
  have P5 : PosC S5 L T 0 p := ⟨Nat.zero_le _, hpL, fun _ => ⟨(u5.n _ _ (by simp) (by simp)).trans h3, b5, (u5.n _ _ (by simp) (by simp)).trans h2⟩, fun z => absurd rfl z⟩
  obtain ⟨S10, e10, P10⟩ := num_pc (lo := 1) (hi := 5) ho t5 P5
  have u10 := wX2_takeNumber e10
  have r10 : gR S10 1 4 = r := (un1_r u10).trans r5
  have t10 : TxC (sN S10 (r + 2) np (nI (pu1 L T p).2.2)) L T := TxC_w (by omega) (by omega) (un1_T u10 t5)
  obtain ⟨S17, e17, P17⟩ := num_pc (lo := 0) (hi := 100) ho t10 (PosC_w (by omega) P10)
  have u17 := wX2_takeNumber e17
  have r17 : gR S17 1 4 = r := (un1_r u17).trans r10
  have t17 : TxC (sN S17 (r + 3) np (nI (pu2 L T p).2.2)) L T := TxC_w (by omega) (by omega) (un1_T u17 t10)
  obtain ⟨S24, e24, P24⟩ := num_pc (lo := 0) (hi := 100) ho t17 (PosC_w (by omega) P17)
  have u24 := wX2_takeNumber e24
  have r24 : gR S24 1 4 = r := (un1_r u24).trans r17
  have t24 : TxC (sN S24 (r + 4) np (nI (pu3 L T p).2.2)) L T := TxC_w (by omega) (by omega) (un1_T u24 t17)
  have n24 : gN (sN S24 (r + 4) np (nI (pu3 L T p).2.2)) r 0 = nI nt := by
    rw [gN_sN_c (by omega), un1 u24 (by omega), gN_sN_c (by omega), un1 u17 (by omega), gN_sN_c (by omega), un1 u10 (by omega), f5 _ _ (by omega)]; exact hrn
  obtain ⟨S', e', g1, g2, g3, g4⟩ := pup77_c (x := puX L T p) (np := np) ho t24 (PosC_w (by omega) P24) r24 hrs n24 h6 hp5
  have v2 : ∀ j, gN S' (r + 2) j = gN (sN S10 (r + 2) np (nI (pu1 L T p).2.2)) (r + 2) j := fun j => by
    rw [g4 _ _ (by omega) (by omega) (by omega), gN_sN_c (by omega), un1 u24 (by omega), gN_sN_c (by omega), un1 u17 (by omega)]
  have v3 : ∀ j, gN S' (r + 3) j = gN (sN S17 (r + 3) np (nI (pu2 L T p).2.2)) (r + 3) j := fun j => by
    rw [g4 _ _ (by omega) (by omega) (by omega), gN_sN_c (by omega), un1 u24 (by omega)]
  have v4 : ∀ j, gN S' (r + 4) j = gN (sN S24 (r + 4) np (nI (pu3 L T p).2.2)) (r + 4) j := fun j => by
    rw [g4 _ _ (by omega) (by omega) (by omega)]
  refine ⟨S', ?_, g1, g2, ⟨?_, ?_, ?_⟩, g3, fun j hj => ⟨?_, ?_, ?_⟩, fun j hj => ?_, fun cc jj hc hr => ?_⟩
  · rw [fX2_readPupil, hr, gd_t hrs, hr1]
    dsimp only
    rw [if_pos (by rw [li_6, ltI (by omega) (by omega)]; omega), e5, bd_s, r5, gd_t hrs, e10, bd_s, gdI (by omega) (by omega), clI (by omega), gR_sN, r10, gd_t hrs]
    change bd (fX2_takeNumber 0 100 (sN S10 (r + 2) np (nI (pu1 L T p).2.2))) _ = _
    rw [e17, bd_s, gdI (by omega) (by omega), gR_sN, r17, gd_t hrs]
    change bd (fX2_takeNumber 0 100 (sN S17 (r + 3) np (nI (pu2 L T p).2.2))) _ = _
    rw [e24, bd_s, gdI (by omega) (by omega)]
    exact e'
  · rw [v2, gN_sN_s]
  · rw [v3, gN_sN_s]
  · rw [v4, gN_sN_s]
  · rw [v2, gN_sN_j hj, un1 u10 (by omega), f5 _ _ (by omega)]
  · rw [v3, gN_sN_j hj, un1 u17 (by omega), gN_sN_c (by omega), un1 u10 (by omega), f5 _ _ (by omega)]
  · rw [v4, gN_sN_j hj, un1 u24 (by omega), gN_sN_c (by omega), un1 u17 (by omega), gN_sN_c (by omega), un1 u10 (by omega), f5 _ _ (by omega)]
  · rw [g4 _ _ (by omega) (by omega) (by omega), gN_sN_c (by omega), un1 u24 (by omega), gN_sN_c (by omega), un1 u17 (by omega), gN_sN_c (by omega), un1 u10 (by omega), f5 _ _ (by omega)]
  · rw [g4 _ _ (by omega) (by omega) (by omega), gN_sN_c (by omega), un1 u24 hc, gN_sN_c (by omega), un1 u17 hc, gN_sN_c (by omega), un1 u10 hc, f5 _ _ hc]
end
