/-! ===== odds: what comes of one state; the class's parts ===== -/
def suM (v : Nat → Nat) (one n : Nat) : Nat := pm (fun i => decide (i ≠ one ∧ v one < v i)) n
def beM (v : Nat → Nat) (one n : Nat) : Nat := pm (fun i => decide (i ≠ one ∧ 1 ≤ v i ∧ v i ≤ 6)) n
def guS (g : Bool) (v : Nat → Nat) (one : Nat) : Bool := g && decide (v one < 9)
def kaN (v : Nat → Nat) (g : Bool) (one n : Nat) : Nat := cn (suM v one n) n + if guS g v one = true then 1 else 0
def chN (v : Nat → Nat) (one n : Nat) (r : Bool) (k : Nat) : Nat := if k < cn (suM v one n) n then noc (v (nth (suM v one n) n k)) r else noc 9 r
def chB (v bl : Nat → Nat) (one n k : Nat) : Nat := if k < cn (beM v one n) n then bl (nth (beM v one n) n k) else 0
def tW (v top qk : Nat → Nat) (one n m i : Nat) : Nat := if i = one then ri (v i) (top i) (qk i) else if bt1 (suM v one n) i = true ∧ bt1 m (cn (suM v one n) i) = true then ri (v i) (top i) 1 else v i
def tB (v : Nat → Nat) (one n m i : Nat) : Nat := if bt1 (beM v one n) i = true ∧ bt1 m (cn (beM v one n) i) = true then v i - 1 else v i
def tA (v top : Nat → Nat) (one i : Nat) : Nat := if v i ≤ v one then ri (v i) (top i) 1 else v i
def ad (A : Nat → Nat) (y w : Nat) : Nat → Nat := fun x => A x + if x = y then w else 0
theorem noc_le (l : Nat) (r : Bool) (h : l ≤ 9) : noc l r ≤ 100 := by unfold noc; split <;> omega
theorem chN_le {v : Nat → Nat} {one n k : Nat} {r : Bool} (h : ∀ i, v i ≤ 9) : chN v one n r k ≤ 100 := by
  unfold chN; split
  · exact noc_le _ _ (h _)
  · exact noc_le _ _ (Nat.le_refl _)
theorem chB_le {v bl : Nat → Nat} {one n k : Nat} (h : ∀ i, i < n → bl i ≤ 100) : chB v bl one n k ≤ 100 := by
  unfold chB; split
  · next q => exact h _ (nth_is n k q).1
  · omega
theorem suM_bt {v : Nat → Nat} {one n i : Nat} (hi : i < n) : bt1 (suM v one n) i = decide (i ≠ one ∧ v one < v i) := pm_bt n i hi
theorem beM_bt {v : Nat → Nat} {one n i : Nat} (hi : i < n) : bt1 (beM v one n) i = decide (i ≠ one ∧ 1 ≤ v i ∧ v i ≤ 6) := pm_bt n i hi
theorem cn_miss {M n i : Nat} (hi : i < n) (hb : bt1 M i = false) : cn M n < n := by
  have h1 : ∀ j, i < j → cn M j < j := by
    intro j
    induction j with
    | zero => intro h; omega
    | succ j ih =>
      intro h
      rw [cn]
      by_cases hij : i = j
      · subst hij
        rw [hb, if_neg (by decide)]
        have := cn_le M i; omega
      · have := ih (by omega)
        split <;> omega
  exact h1 n hi
theorem kaN_le {v : Nat → Nat} {g : Bool} {one n : Nat} (ho : one < n) : kaN v g one n ≤ n := by
  have : cn (suM v one n) n < n := cn_miss ho (by rw [suM_bt ho]; simp)
  unfold kaN; split <;> omega
theorem beN_le {v : Nat → Nat} {one n : Nat} (ho : one < n) : cn (beM v one n) n < n := cn_miss ho (by rw [beM_bt ho]; simp)
def AC (S : St) (cell : Nat) (A : Nat → Nat) : Prop := ∀ x, x < 1000 → gJ S cell x = lN (A x)
theorem AC_add {S : St} {cell y w : Nat} {A : Nat → Nat} (h : AC S cell A) (hy : y < 1000) : AC (sJ S cell y (gJ S cell y + lN w)) cell (ad A y w) := by
  intro x hx
  unfold ad
  by_cases hxy : x = y
  · subst hxy; rw [gJ_sJ_s, h x hx, lN_add, if_pos rfl]
  · rw [gJ_sJ_j hxy, if_neg hxy, Nat.add_zero]; exact h x hx
theorem AC_of {S S' : St} {cell : Nat} {A : Nat → Nat} (h : AC S cell A) (h0 : ∀ x, gJ S' cell x = gJ S cell x) : AC S' cell A := fun x hx => (h0 x).trans (h x hx)
theorem AC_congr {S : St} {cell : Nat} {A B : Nat → Nat} (h : AC S cell A) (h0 : ∀ x, A x = B x) : AC S cell B := fun x hx => by rw [← h0]; exact h x hx
/-- v * chance / 100 in longs -/
theorem pc_eq {w ch : Nat} (hw : w ≤ 1000000000) (hc : ch ≤ 100) : (lN w * (nI ch).toInt64) / 100 = lN (w * ch / 100) := by
  have : w * ch ≤ 1000000000 * 100 := Nat.mul_le_mul hw hc
  rw [toI64 (by omega), lN_mul, show (100 : Int64) = lN 100 from rfl, pk_lDiv (by omega) (by decide) (by decide)]
theorem pc_le {w ch : Nat} (hc : ch ≤ 100) : w * ch / 100 ≤ w := by
  rw [Nat.div_le_iff_le_mul_add_pred (by decide)]
  have := Nat.mul_le_mul_left w hc
  omega
/-- the parts under way -/
def PS (S : St) (k : Nat) (P : Nat → Nat) : Prop := gN S 33 3 = nI (2 ^ k) ∧ gN S 33 5 = nI k ∧ k ≤ 3 ∧ ∀ m, m < 2 ^ k → gJ S 36 m = lN (P m)
theorem PS_of {S S' : St} {k : Nat} {P : Nat → Nat} (h : PS S k P) (h3 : gN S' 33 3 = gN S 33 3) (h5 : gN S' 33 5 = gN S 33 5) (h6 : ∀ m, gJ S' 36 m = gJ S 36 m) : PS S' k P := ⟨h3.trans h.1, h5.trans h.2.1, h.2.2.1, fun m hm => (h6 m).trans (h.2.2.2 m hm)⟩
theorem p2_3 {k : Nat} (h : k ≤ 3) : 2 ^ k ≤ 8 := Nat.le_trans (Nat.pow_le_pow_right (by decide) h) (by decide)
theorem begin_eq {S : St} {b : Nat} : ∃ S', fX1_begin (lN b) S = some ((), S') ∧ PS S' 0 (fun _ => b) := by
  refine ⟨sN (sN (sJ S 36 0 (lN b)) 33 3 1) 33 5 0, rfl, by rw [gN_sN_j (by decide), gN_sN_s]; rfl, by rw [gN_sN_s]; rfl, by omega, fun m hm => ?_⟩
  have : m = 0 := by have := hm; simp at this; omega
  subst this
  exact gJ_sJ_s
theorem split_eq {S : St} {k ch : Nat} {seat : Int32} {P : Nat → Nat} (h : PS S k P) (hk : k < 3) (hP : ∀ m, m < 2 ^ k → P m ≤ 1000000000) (hc : ch ≤ 100) : ∃ S', fX1_split seat (nI ch) S = some ((), S') ∧ PS S' (k + 1) (fun m => if m < 2 ^ k then P m - P m * ch / 100 else P (m - 2 ^ k) * ch / 100) ∧ gN S' 37 k = seat ∧ ∀ j, j ≠ k → gN S' 37 j = gN S 37 j := by
  have h8 := p2_3 (show k + 1 ≤ 3 from hk)
  have h2 : 2 ^ (k + 1) = 2 ^ k + 2 ^ k := by rw [Nat.pow_succ]; omega
  obtain ⟨a1, a2, a3, a4⟩ := h
  have key := loopFU (fun fu (x : Int32 × St) => FX1_split_35 fu (nI ch) x.1 x.2) (fun j x => ∃ S1, x = (nI j, S1) ∧ gN S1 33 3 = nI (2 ^ k) ∧ gN S1 33 5 = nI (k + 1) ∧ (∀ i, gN S1 37 i = gN (sN S 37 k seat) 37 i) ∧ (∀ m, m < 2 ^ k → gJ S1 36 m = lN (if m < j then P m - P m * ch / 100 else P m)) ∧ ∀ m, m < j → gJ S1 36 (2 ^ k + m) = lN (P m * ch / 100)) (fun r => ∃ S', r = some ((), S') ∧ PS S' (k + 1) (fun m => if m < 2 ^ k then P m - P m * ch / 100 else P (m - 2 ^ k) * ch / 100) ∧ gN S' 37 k = seat ∧ ∀ j, j ≠ k → gN S' 37 j = gN S 37 j) (2 ^ k) (FU_lt (by omega))
    (by
      intro j fu x hj ⟨S1, e, b1, b2, b3, b4, b5⟩
      subst e
      have c1 := b4 j hj
      rw [if_neg (Nat.lt_irrefl _)] at c1
      have hle := pc_le (w := P j) hc
      refine Or.inl ⟨(nI (j + 1), sJ (sJ S1 36 (2 ^ k + j) (lN (P j * ch / 100))) 36 j (lN (P j - P j * ch / 100))), ?_, _, rfl, b1, b2, b3, fun m hm => ?_, fun m hm => ?_⟩
      · dsimp only
        rw [FX1_split_35, b1, if_neg (by rw [leI (by omega) (by omega)]; omega), gdI (by omega) (by omega)]
        dsimp only
        rw [clI (by omega), c1, pc_eq (hP j hj) hc, nI_add, gdI (by omega) (by omega), clI (by omega), gdI (by omega) (by omega), gdI (by omega) (by omega), Nat.add_comm j (2 ^ k), gJ_sJ_j (by omega), c1, lN_sub hle, nI_1]
      · by_cases hmj : m = j
        · subst hmj; rw [gJ_sJ_s, if_pos (by omega)]
        · rw [gJ_sJ_j hmj, gJ_sJ_j (by omega), b4 m hm]
          by_cases hlt : m < j
          · rw [if_pos hlt, if_pos (by omega)]
          · rw [if_neg hlt, if_neg (by omega)]
      · rw [gJ_sJ_j (by omega)]
        by_cases hmj : m = j
        · subst hmj; rw [gJ_sJ_s]
        · rw [gJ_sJ_j (by omega)]; exact b5 m (by omega))
    (by
      intro fu x ⟨S1, e, b1, b2, b3, b4, b5⟩
      subst e
      refine ⟨sN S1 33 3 (nI (2 ^ (k + 1))), ?_, ⟨gN_sN_s, by rw [gN_sN_j (by decide)]; exact b2, by omega, fun m hm => ?_⟩, ?_, fun j hj => ?_⟩
      · dsimp only
        rw [FX1_split_35, b1, if_pos (Int32.le_refl _), li_2, pk_mul, Nat.pow_succ]
      · rw [gJ_sN]
        by_cases hlt : m < 2 ^ k
        · have := b4 m hlt
          rw [if_pos hlt] at this
          dsimp only
          rw [if_pos hlt]; exact this
        · have := b5 (m - 2 ^ k) (by omega)
          rw [show 2 ^ k + (m - 2 ^ k) = m by omega] at this
          dsimp only
          rw [if_neg hlt]; exact this
      · rw [gN_sN_c (by decide), b3, gN_sN_s]
      · rw [gN_sN_c (by decide), b3, gN_sN_j hj])
    (nI 0, sN (sN S 37 k seat) 33 5 (nI (k + 1))) ⟨_, rfl, by rw [gN_sN_j (by decide), gN_sN_c (by decide)]; exact a1, gN_sN_s, fun i => by rw [gN_sN_c (by decide)], fun m hm => by rw [if_neg (by omega)]; exact a4 m hm, fun m hm => absurd hm (by omega)⟩
  obtain ⟨S', e, r⟩ := key
  refine ⟨S', ?_, r⟩
  rw [fX1_split, a2, if_pos (by rw [li_4, ltI (by omega) (by omega)]; omega)]
  dsimp only
  rw [gdI (by omega) (by omega), clI (by omega), gN_sN_c (by decide), a2, nI_1]
  exact e
theorem vl_split {ch : Nat → Nat} {b k m : Nat} (hm : m < 2 ^ (k + 1)) : (if m < 2 ^ k then vl ch b k m - vl ch b k m * ch k / 100 else vl ch b k (m - 2 ^ k) * ch k / 100) = vl ch b (k + 1) m := by
  have h2 : 2 ^ (k + 1) = 2 ^ k + 2 ^ k := by rw [Nat.pow_succ]; omega
  rw [vl]
  by_cases h : m < 2 ^ k
  · rw [if_pos h, if_neg (by rw [bt1_big h (Nat.le_refl _)]; decide)]
  · have e : m = 2 ^ k + (m - 2 ^ k) := by omega
    have hb : bt1 m k = true := by rw [e]; exact bt1_hi (by omega)
    rw [if_neg h, if_pos hb, vl_bits (m := m) (m' := m - 2 ^ k) k (fun i hi => by
      have := bt1_low (m := m - 2 ^ k) hi
      rw [← e] at this
      exact this)]
theorem PS_congr {S : St} {k : Nat} {P Q : Nat → Nat} (h : PS S k P) (h0 : ∀ m, m < 2 ^ k → P m = Q m) : PS S k Q := ⟨h.1, h.2.1, h.2.2.1, fun m hm => by rw [← h0 m hm]; exact h.2.2.2 m hm⟩
section
variable {S : St} {n : Nat} {v top qk bl pr : Nat → Nat} {g : Bool} {sd : Nat}
theorem Bn_fr1 {la lb lc : List (Nat × Nat)} {S' : St} (hB : Bn S n v top qk bl pr g sd) (hu : Un la lb lc S S') (hl : ∀ x ∈ la, ¬ (25 ≤ x.1 ∧ x.1 ≤ 31)) : Bn S' n v top qk bl pr g sd :=
  Bn_of hB (fun cc jj a b => hu.n cc jj (fun m => hl _ m ⟨a, b⟩) (fun m => hl _ m ⟨a, b⟩))
/-- the rows of parts by NO -/
theorem partByNo_eq (hB : Bn S n v top qk bl pr g sd) (h9 : ∀ i, v i ≤ 9) (hn : n ≤ 3) {one b : Nat} {r : Bool} (ho : one < n) (hb : b ≤ 1000000000) : ∃ S', fX1_partByNo (nI one) (lN b) (bI r) S = some ((), S') ∧ PS S' (kaN v g one n) (vl (chN v one n r) b (kaN v g one n)) ∧ (∀ k, k < cn (suM v one n) n → gN S' 37 k = nI (nth (suM v one n) n k)) ∧ (guS g v one = true → gN S' 37 (cn (suM v one n) n) = -1) := by
  have hka := kaN_le (v := v) (g := g) ho
  have hcl : cn (suM v one n) n < n := cn_miss ho (by rw [suM_bt ho]; simp)
  obtain ⟨S0, e0, h0⟩ := begin_eq (S := S) (b := b)
  have hB0 := Bn_fr1 hB (wX1_begin e0) (by decide)
  have key := loopFU (fun fu (x : Int32 × St) => FX1_partByNo_8 fu (nI one) (bI r) x.1 x.2) (fun i x => ∃ S1, x = (nI i, S1) ∧ Bn S1 n v top qk bl pr g sd ∧ PS S1 (cn (suM v one n) i) (vl (chN v one n r) b (cn (suM v one n) i)) ∧ ∀ k, k < cn (suM v one n) i → gN S1 37 k = nI (nth (suM v one n) n k)) (fun z => ∃ S', z = some ((), S') ∧ PS S' (kaN v g one n) (vl (chN v one n r) b (kaN v g one n)) ∧ (∀ k, k < cn (suM v one n) n → gN S' 37 k = nI (nth (suM v one n) n k)) ∧ (guS g v one = true → gN S' 37 (cn (suM v one n) n) = -1)) n (FU_lt (by omega))
    (by
      intro i fu x hi ⟨S1, e, hB1, hP1, hs1⟩
      subst e
      have hbt := suM_bt (v := v) (one := one) hi
      obtain ⟨⟨a1, a2⟩, -⟩ := hB1.2.2.2.2.2 i hi
      left
      by_cases hc : i ≠ one ∧ v one < v i
      · rw [decide_eq_true hc] at hbt
        have hci : cn (suM v one n) (i + 1) = cn (suM v one n) i + 1 := by rw [cn, if_pos hbt]
        have hcl2 : cn (suM v one n) i < cn (suM v one n) n := cn_lt hi hbt
        have hnth := nth_cn (mask := suM v one n) n i hi hbt
        have hch : chN v one n r (cn (suM v one n) i) = noc (v i) r := by unfold chN; rw [if_pos hcl2, hnth]
        obtain ⟨S2, e2, hP2, q1, q2⟩ := split_eq (seat := nI i) (ch := noc (v i) r) hP1 (by omega) (fun m _ => Nat.le_trans (vl_le (fun k => chN_le h9) _) hb) (noc_le _ _ a2)
        refine ⟨(nI (i + 1), S2), ?_, S2, rfl, Bn_fr1 hB1 (wX1_split e2) (by decide), ?_, fun k hk => ?_⟩
        · dsimp only
          rw [FX1_partByNo_8, hB1.1, if_neg (by rw [leI (by omega) (by omega)]; omega), isSurer_eq hB1 hi ho, decide_eq_true hc, bd_s, if_neg bI_t0, gdI (by omega) (by omega), clI (by omega), a1, noChance_eq a2, bd_s, e2, bd_s, FX1_partByNo_46]
          simp only [nI_1]
        · rw [hci]
          refine PS_congr hP2 (fun m hm => ?_)
          rw [← hch]
          exact vl_split hm
        · rw [hci] at hk
          by_cases hkc : k = cn (suM v one n) i
          · rw [hkc, q1, hnth]
          · rw [q2 k hkc]; exact hs1 k (by omega)
      · rw [decide_eq_false hc] at hbt
        have hci : cn (suM v one n) (i + 1) = cn (suM v one n) i := by rw [cn, hbt]; rfl
        refine ⟨(nI (i + 1), S1), ?_, S1, rfl, hB1, by rw [hci]; exact hP1, by rw [hci]; exact hs1⟩
        dsimp only
        rw [FX1_partByNo_8, hB1.1, if_neg (by rw [leI (by omega) (by omega)]; omega), isSurer_eq hB1 hi ho, decide_eq_false hc, bd_s, if_pos bI_f0, FX1_partByNo_46]
        simp only [nI_1])
    (by
      intro fu x ⟨S1, e, hB1, hP1, hs1⟩
      subst e
      cases hg : guS g v one with
      | true =>
        have hka1 : kaN v g one n = cn (suM v one n) n + 1 := by unfold kaN; rw [hg]; rfl
        have hch : chN v one n r (cn (suM v one n) n) = noc 9 r := by unfold chN; rw [if_neg (by omega)]
        obtain ⟨S2, e2, hP2, q1, q2⟩ := split_eq (seat := -1) (ch := noc 9 r) hP1 (by omega) (fun m _ => Nat.le_trans (vl_le (fun k => chN_le h9) _) hb) (noc_le _ _ (Nat.le_refl _))
        refine ⟨S2, ?_, ?_, fun k hk => by rw [q2 k (by omega)]; exact hs1 k hk, fun _ => q1⟩
        · dsimp only
          rw [FX1_partByNo_8, hB1.1, if_pos (Int32.le_refl _), isGuestSurer_eq hB1 ho, bd_s, show (g && decide (v one < 9)) = true from hg, if_neg bI_t0, li_9, noChance_eq (by omega), bd_s, e2, bd_s]
        · rw [hka1]
          refine PS_congr hP2 (fun m hm => ?_)
          rw [← hch]
          exact vl_split hm
      | false =>
        have hka1 : kaN v g one n = cn (suM v one n) n := by unfold kaN; rw [hg]; rfl
        refine ⟨S1, ?_, by rw [hka1]; exact hP1, hs1, fun q => by cases q⟩
        dsimp only
        rw [FX1_partByNo_8, hB1.1, if_pos (Int32.le_refl _), isGuestSurer_eq hB1 ho, bd_s, show (g && decide (v one < 9)) = false from hg, if_pos bI_f0])
    (nI 0, S0) ⟨S0, rfl, hB0, h0, fun k hk => by rw [cn] at hk; omega⟩
  obtain ⟨S', e, q⟩ := key
  refine ⟨S', ?_, q⟩
  rw [fX1_partByNo, e0, bd_s]
  exact e
end
