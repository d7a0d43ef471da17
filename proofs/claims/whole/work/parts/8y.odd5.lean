/-! ===== odds: lessons of all states; the class ===== -/
def nxD (n : Nat) (top qk bl pr : Nat → Nat) (g : Bool) (rule tu : Nat) (D : Nat → Nat) (x : Nat) : Nat := sg (fun s => if D s = 0 then 0 else dAll n (dg s) top qk bl pr g (chz (dg s) n rule tu) (D s) x) 0 (10 ^ n)
def DDk (n : Nat) (top qk bl pr : Nat → Nat) (g : Bool) (rule T s0 : Nat) : Nat → Nat → Nat
  | 0 => fun x => if x = s0 then 1000000000 else 0
  | k + 1 => nxD n top qk bl pr g rule ((T + k) % n) (DDk n top qk bl pr g rule T s0 k)
section
variable {n : Nat} {v top qk bl pr : Nat → Nat} {g : Bool}
theorem sg_if {a M w : Nat} (h : a < M) : sg (fun x => if x = a then w else 0) 0 M = w := by rw [sg_one, if_pos h]
theorem dAll_sum {one D : Nat} (hn : n ≤ 3) (h9 : ∀ i, v i ≤ 9) (ht : ∀ i, i < n → top i ≤ 9) (hbl : ∀ i, i < n → bl i ≤ 100) (hpr : pr one ≤ 100) : sg (dAll n v top qk bl pr g one D) 0 (10 ^ n) = D := by
  have hlt : ∀ w : Nat → Nat, (∀ i, i < n → w i ≤ 9) → hc w n 0 < 10 ^ n := fun w h => hc_lt n 0 (fun i _ hi => h i (by omega))
  have h95 : 10 * v one + 5 ≤ 100 := by have := h9 one; omega
  have hle := pc_le (w := D) h95
  have hs := hlt v (fun i _ => h9 i)
  have hf : hc (fup v one (v one - 1)) n 0 < 10 ^ n := hlt _ (fun i _ => by
    by_cases hi : i = one
    · subst hi; rw [fup_s]; have := h9 i; omega
    · rw [fup_n hi]; exact h9 i)
  have hA : hc (tA v top one) n 0 < 10 ^ n := hlt _ (fun i hi => by unfold tA; split; exact ri_le (h9 i) (ht i hi); exact h9 i)
  have hW : ∀ m, hc (tW v top qk one n m) n 0 < 10 ^ n := fun m => hlt _ (fun i hi => tW_le h9 (ht i hi))
  have hBt : ∀ m, hc (tB v one n m) n 0 < 10 ^ n := fun m => hlt _ (fun i hi => tB_le h9)
  have e : sg (dAll n v top qk bl pr g one D) 0 (10 ^ n) = sg (vl (chN v one n true) (D * (10 * v one + 5) / 100) (kaN v g one n)) 1 (2 ^ kaN v g one n - 1) + vl (chN v one n true) (D * (10 * v one + 5) / 100) (kaN v g one n) 0 + (sg (vl (chN v one n false) (D - D * (10 * v one + 5) / 100) (kaN v g one n)) 1 (2 ^ kaN v g one n - 1) + sg (vl (chB v bl one n) (vl (chN v one n false) (D - D * (10 * v one + 5) / 100) (kaN v g one n) 0) (cn (beM v one n) n)) 0 (2 ^ cn (beM v one n) n)) := by
    unfold dAll
    rw [sg_add, sg_add, sg_add, sg_if hA, sg_swap (f := fun x m => dRm (hc v n 0) (hc (fup v one (v one - 1)) n 0) (pr one) (vl (chN v one n true) (D * (10 * v one + 5) / 100) (kaN v g one n)) x m) (10 ^ n), sg_swap (f := fun x m => if x = hc (tW v top qk one n m) n 0 then vl (chN v one n false) (D - D * (10 * v one + 5) / 100) (kaN v g one n) m else 0) (10 ^ n), sg_swap (f := fun x m => if x = hc (tB v one n m) n 0 then vl (chB v bl one n) (vl (chN v one n false) (D - D * (10 * v one + 5) / 100) (kaN v g one n) 0) (cn (beM v one n) n) m else 0) (10 ^ n)]
    congr 1
    · congr 1
      refine sg_congr _ (fun m _ => ?_)
      unfold dRm
      rw [sg_add, sg_if hs, sg_if hf]
      have := pc_le (w := vl (chN v one n true) (D * (10 * v one + 5) / 100) (kaN v g one n) (1 + m)) hpr
      omega
    · congr 1
      · refine sg_congr _ (fun m _ => ?_)
        rw [sg_if (hW _)]
      · refine sg_congr _ (fun m _ => ?_)
        rw [sg_if (hBt _)]
  have s1 := vl_sum (ch := chN v one n true) (b := D * (10 * v one + 5) / 100) (fun k => chN_le h9) (kaN v g one n)
  have s2 := vl_sum (ch := chN v one n false) (b := D - D * (10 * v one + 5) / 100) (fun k => chN_le h9) (kaN v g one n)
  have s3 := vl_sum (ch := chB v bl one n) (b := vl (chN v one n false) (D - D * (10 * v one + 5) / 100) (kaN v g one n) 0) (fun k => chB_le hbl) (cn (beM v one n) n)
  have hp := Nat.pow_pos (n := kaN v g one n) (show 0 < 2 by decide)
  rw [show 2 ^ kaN v g one n = (2 ^ kaN v g one n - 1) + 1 by omega, sg_head] at s1 s2
  rw [e, s3]
  omega
/-- nothing is lost -/
theorem nxD_sum {rule tu : Nat} {D : Nat → Nat} (hn : n ≤ 3) (htu : tu < n) (ht : ∀ i, i < n → top i ≤ 9) (hbl : ∀ i, i < n → bl i ≤ 100) (hpr : ∀ i, i < n → pr i ≤ 100) : sg (nxD n top qk bl pr g rule tu D) 0 (10 ^ n) = sg D 0 (10 ^ n) := by
  unfold nxD
  rw [sg_swap (f := fun x s => if D s = 0 then 0 else dAll n (dg s) top qk bl pr g (chz (dg s) n rule tu) (D s) x) (10 ^ n)]
  refine sg_congr _ (fun s _ => ?_)
  rw [Nat.zero_add]
  by_cases h : D s = 0
  · simp only [h, if_true]
    exact sg_zero _
  · simp only [h, if_false]
    exact dAll_sum hn (fun i => dg_le _ _) ht hbl (hpr _ (chz_lt htu))
theorem DDk_sum {rule T s0 : Nat} (hn : n ≤ 3) (hT : T < n) (hs : s0 < 10 ^ n) (ht : ∀ i, i < n → top i ≤ 9) (hbl : ∀ i, i < n → bl i ≤ 100) (hpr : ∀ i, i < n → pr i ≤ 100) : ∀ k, sg (DDk n top qk bl pr g rule T s0 k) 0 (10 ^ n) = 1000000000 := by
  intro k
  induction k with
  | zero => exact sg_if hs
  | succ k ih => rw [DDk, nxD_sum hn (Nat.mod_lt _ (by omega)) ht hbl hpr]; exact ih
theorem DDk_le {rule T s0 : Nat} (hn : n ≤ 3) (hT : T < n) (hs : s0 < 10 ^ n) (ht : ∀ i, i < n → top i ≤ 9) (hbl : ∀ i, i < n → bl i ≤ 100) (hpr : ∀ i, i < n → pr i ≤ 100) {k x : Nat} (hx : x < 10 ^ n) : DDk n top qk bl pr g rule T s0 k x ≤ 1000000000 := by
  rw [← DDk_sum (rule := rule) (k := k) (g := g) (qk := qk) hn hT hs ht hbl hpr]
  exact sg_le (10 ^ n) hx
end
theorem fillJ_eq {S : St} {cx : Nat} : ∃ S', fJ7_fill_d0a16 cx 0 S = some ((), S') ∧ AC S' cx (fun _ => 0) := by
  have key := loopFU (fun fu (x : Int32 × St) => FJ7_fill_d0a16_6 fu cx 0 x.1 1000 x.2) (fun j x => ∃ S1, x = (nI j, S1) ∧ ∀ i, i < j → gJ S1 cx i = lN 0) (fun r => ∃ S', r = some ((), S') ∧ AC S' cx (fun _ => 0)) 1000 (FU_lt (by omega))
    (by
      intro j fu x hj ⟨S1, e, h1⟩
      subst e
      refine Or.inl ⟨(nI (j + 1), sJ S1 cx j 0), ?_, _, rfl, fun i hi => ?_⟩
      · dsimp only
        rw [FJ7_fill_d0a16_6, if_neg (by rw [li_1000, leI (by omega) (by omega)]; omega), gdI (by omega) (by omega), clI (by omega)]
        simp only [nI_1]
      · by_cases hij : i = j
        · subst hij; rw [gJ_sJ_s]; rfl
        · rw [gJ_sJ_j hij]; exact h1 i (by omega))
    (by
      intro fu x ⟨S1, e, h1⟩
      subst e
      refine ⟨S1, ?_, h1⟩
      dsimp only
      rw [FJ7_fill_d0a16_6, if_pos (by decide)])
    (nI 0, S) ⟨S, rfl, fun i hi => absurd hi (by omega)⟩
  exact key
theorem lpos {a : Nat} (h : a < 9223372036854775808) : lg_cmp (lN a) 0 ≤ 0 ↔ a = 0 := by
  rw [← Int32.not_lt, show (0 : Int64) = lN 0 from rfl, lcmp_gt h (by decide)]
  omega
section
variable {S : St} {n : Nat} {lv top qk bl pr : Nat → Nat} {g : Bool} {sd : Nat}
/-- one lesson of all states -/
theorem follow_in {rule tu cx hx : Nat} {D : Nat → Nat} {l4 l7 : Int32} (k53 : Int32 → Int32 → Int32 → Int32 → Int32 → St → Option (Unit × St)) (hX : isX cx hx) (hr1 : gR S 33 1 = cx) (hr0 : gR S 33 0 = hx) (hn : n ≤ 3) (hr : rule < 3) (htu : tu < n) (hB : Bn S n lv top qk bl pr g sd) (hA : AC S cx (fun _ => 0)) (hD : AC S hx D) (hDl : ∀ x, x < 10 ^ n → D x ≤ 1000000000) :
    ∃ S', FX1_follow_71 k53 FU (nI rule) l4 (nI (10 ^ n)) (nI tu) l7 (nI 0) S = k53 (nI rule) l4 (nI (10 ^ n)) (nI ((tu + 1) % n)) (l7 + 1) S' ∧ (∃ lv', Bn S' n lv' top qk bl pr g sd) ∧ gR S' 33 0 = cx ∧ gR S' 33 1 = hx ∧ AC S' cx (nxD n top qk bl pr g rule tu D) := by
  have h1000 := p10_3 hn
  exact loopFU (fun fu (x : Int32 × St) => FX1_follow_71 k53 fu (nI rule) l4 (nI (10 ^ n)) (nI tu) l7 x.1 x.2) (fun s x => ∃ S1 lv1, x = (nI s, S1) ∧ oCW S S1 n lv1 top qk bl pr g sd cx hx (fun x => sg (fun s => if D s = 0 then 0 else dAll n (dg s) top qk bl pr g (chz (dg s) n rule tu) (D s) x) 0 s)) (fun r => ∃ S', r = k53 (nI rule) l4 (nI (10 ^ n)) (nI ((tu + 1) % n)) (l7 + 1) S' ∧ (∃ lv', Bn S' n lv' top qk bl pr g sd) ∧ gR S' 33 0 = cx ∧ gR S' 33 1 = hx ∧ AC S' cx (nxD n top qk bl pr g rule tu D)) (10 ^ n) (FU_lt (by omega))
    (by
      intro s fu x hs ⟨S1, lv1, e, h1⟩
      subst e
      have hDs : gJ S1 hx s = lN (D s) := (h1.2.2.2 s).trans (hD s (by omega))
      have hDb := hDl s hs
      left
      by_cases hz : D s = 0
      · refine ⟨(nI (s + 1), S1), ?_, S1, lv1, rfl, oCW_congr h1 (fun x => ?_)⟩
        · dsimp only
          rw [FX1_follow_71, if_neg (by rw [leI (by omega) (by omega)]; omega), h1.2.2.1, hr0, gd_t (isX_LA hX).2, gdI (by omega) (by omega), clI (by omega), hDs, if_pos ((lpos (by omega)).mpr hz), FX1_follow_110]
          simp only [nI_1]
        · rw [sg, Nat.zero_add, if_pos hz, Nat.add_zero]
      · obtain ⟨S2, e2, hB2⟩ := setLevels_eq h1.1 (c := s) (by omega)
        have u2 := wX0_setLevels e2
        have h2 : oCW S S2 n (dg s) top qk bl pr g sd cx hx (fun x => sg (fun s => if D s = 0 then 0 else dAll n (dg s) top qk bl pr g (chz (dg s) n rule tu) (D s) x) 0 s) := ⟨hB2, AC_of h1.2.1 (fun x => u2.j _ _ (by simp) (by simp)), fun cc jj => (u2.r cc jj (by simp)).trans (h1.2.2.1 cc jj), fun j => (u2.j _ _ (by simp) (by simp)).trans (h1.2.2.2 j)⟩
        have hone := chz_lt (lv := dg s) (rule := rule) htu
        have hcode := hc_dg0 (n := n) hs
        obtain ⟨S3, e3, h3⟩ := teach_o (one := chz (dg s) n rule tu) (D := D s) hX hr1 hr0 hn (fun i => dg_le _ _) hone h2 (by rw [hcode]; exact hD s (by omega)) hDb
        rw [hcode] at e3
        refine ⟨(nI (s + 1), S3), ?_, S3, _, rfl, oCW_congr h3 (fun x => ?_)⟩
        · dsimp only
          rw [FX1_follow_71, if_neg (by rw [leI (by omega) (by omega)]; omega), h1.2.2.1, hr0, gd_t (isX_LA hX).2, gdI (by omega) (by omega), clI (by omega), hDs, if_neg (fun q => hz ((lpos (by omega)).mp q)), e2, bd_s, chosen_eq hB2 hr, bd_s, e3, bd_s, FX1_follow_110]
          simp only [nI_1]
        · rw [sg, Nat.zero_add, if_neg hz])
    (by
      intro fu x ⟨S1, lv1, e, h1⟩
      subst e
      have hBs : Bn (sR (sR S1 33 0 cx) 33 1 hx) n lv1 top qk bl pr g sd := Bn_of h1.1 (fun _ _ _ _ => rfl)
      refine ⟨sR (sR S1 33 0 cx) 33 1 hx, ?_, ⟨lv1, hBs⟩, by rw [gR_sR_j (by decide), gR_sR_s], by rw [gR_sR_s], AC_of h1.2.1 (fun x => rfl)⟩
      dsimp only
      rw [FX1_follow_71, if_pos (Int32.le_refl _), h1.2.2.1, h1.2.2.1, hr0, hr1, gd_t (isX_LA hX).2, gd_t (isX_LA hX).1]
      dsimp only
      rw [after_eq hBs htu, bd_s])
    (nI 0, S) ⟨S, lv, rfl, hB, hA, fun _ _ => rfl, fun _ => rfl⟩
theorem follow_eq {rule T m : Nat} (hX : isX (gR S 33 1) (gR S 33 0)) (hn : n ≤ 3) (hr : rule < 3) (hT : T < n) (hm : m ≤ 20) (hB : Bn S n lv top qk bl pr g sd) :
    ∃ S', fX1_follow (nI rule) (nI T) (nI m) S = some ((), S') ∧ isX (gR S' 33 1) (gR S' 33 0) ∧ AC S' (gR S' 33 0) (DDk n top qk bl pr g rule T (hc lv n 0) m) := by
  have h1000 := p10_3 hn
  have h9 : ∀ i, i < n → lv i ≤ 9 := fun i hi => (hB.2.2.2.2.2 i hi).1.2
  have ht : ∀ i, i < n → top i ≤ 9 := fun i hi => by have := (hB.2.2.2.2.2 i hi).2.1.2; omega
  have hbl : ∀ i, i < n → bl i ≤ 100 := fun i hi => (hB.2.2.2.2.2 i hi).2.2.2.1.2
  have hpr : ∀ i, i < n → pr i ≤ 100 := fun i hi => (hB.2.2.2.2.2 i hi).2.2.2.2.2
  have hs : hc lv n 0 < 10 ^ n := hc_lt n 0 (fun j _ hj => h9 j (by omega))
  obtain ⟨S1, e1, hA1⟩ := fillJ_eq (S := S) (cx := gR S 33 0)
  have u1 := wJ7_fill_d0a16 e1
  have r10 : gR S1 33 0 = gR S 33 0 := u1.r _ _ (by simp)
  have r11 : gR S1 33 1 = gR S 33 1 := u1.r _ _ (by simp)
  have hB1 : Bn S1 n lv top qk bl pr g sd := Bn_of hB (fun cc jj _ _ => u1.n cc jj (by simp) (by simp))
  have key := loopFU (fun fu (x : Int32 × Int32 × St) => FX1_follow_53 fu (nI rule) (nI m) (nI (10 ^ n)) x.1 x.2.1 x.2.2) (fun k x => ∃ S2 lv2, x = (nI ((T + k) % n), nI k, S2) ∧ Bn S2 n lv2 top qk bl pr g sd ∧ isX (gR S2 33 1) (gR S2 33 0) ∧ AC S2 (gR S2 33 0) (DDk n top qk bl pr g rule T (hc lv n 0) k)) (fun r => ∃ S', r = some ((), S') ∧ isX (gR S' 33 1) (gR S' 33 0) ∧ AC S' (gR S' 33 0) (DDk n top qk bl pr g rule T (hc lv n 0) m)) m (FU_lt (by omega))
    (by
      intro k fu x hk ⟨S2, lv2, e, hB2, hX2, hD2⟩
      subst e
      obtain ⟨S3, e3, hA3⟩ := fillJ_eq (S := S2) (cx := gR S2 33 1)
      have u3 := wJ7_fill_d0a16 e3
      have hne : gR S2 33 0 ≠ gR S2 33 1 := by rcases hX2 with ⟨a, b⟩ | ⟨a, b⟩ <;> omega
      have hD3 : AC S3 (gR S2 33 0) (DDk n top qk bl pr g rule T (hc lv n 0) k) := AC_of hD2 (fun x => u3.j _ _ (by simp; omega) (by simp; omega))
      have hB3 : Bn S3 n lv2 top qk bl pr g sd := Bn_of hB2 (fun cc jj _ _ => u3.n cc jj (by simp) (by simp))
      obtain ⟨S4, e4, ⟨lv4, hB4⟩, q0, q1, hA4⟩ := follow_in (tu := (T + k) % n) (l4 := nI m) (l7 := nI k) (fun l2_ l4_ l5_ l6_ l7_ S_ => FX1_follow_53 fu l2_ l4_ l5_ l6_ l7_ S_) hX2 (u3.r _ _ (by simp)) (u3.r _ _ (by simp)) hn hr (Nat.mod_lt _ (by omega)) hB3 hA3 hD3 (fun x hx => DDk_le hn hT hs ht hbl hpr hx)
      refine Or.inl ⟨(nI ((T + (k + 1)) % n), nI (k + 1), S4), ?_, S4, lv4, rfl, hB4, ?_, ?_⟩
      · dsimp only
        rw [FX1_follow_53, if_neg (by rw [leI (by omega) (by omega)]; omega), gd_t (isX_LA hX2).1, e3, bd_s]
        refine Eq.trans e4 ?_
        rw [Nat.mod_add_mod, Nat.add_assoc, nI_1]
      · rw [q0, q1]; exact hX2.elim (fun z => Or.inr ⟨z.2, z.1⟩) (fun z => Or.inl ⟨z.2, z.1⟩)
      · rw [q0]; exact hA4)
    (by
      intro fu x ⟨S2, lv2, e, hB2, hX2, hD2⟩
      subst e
      refine ⟨S2, ?_, hX2, hD2⟩
      dsimp only
      rw [FX1_follow_53, if_pos (Int32.le_refl _)])
    (nI T, nI 0, sJ S1 (gR S 33 0) (hc lv n 0) (lN 1000000000)) ⟨sJ S1 (gR S 33 0) (hc lv n 0) (lN 1000000000), lv, by rw [Nat.add_zero, Nat.mod_eq_of_lt hT], Bn_of hB1 (fun _ _ _ _ => rfl), by rw [gR_sJ, gR_sJ, r10, r11]; exact hX, fun x hx => by
      rw [gR_sJ, r10, DDk]
      dsimp only
      by_cases hxs : x = hc lv n 0
      · rw [if_pos hxs, hxs, gJ_sJ_s]
      · rw [if_neg hxs, gJ_sJ_j hxs]; exact hA1 x hx⟩
  obtain ⟨S', e, r⟩ := key
  refine ⟨S', ?_, r⟩
  rw [fX1_follow, hB.1, if_neg (by rw [li_1, ltI (by omega) (by omega)]; omega), if_pos (by rw [li_3, leI (by omega) (by omega)]; exact hn)]
  dsimp only
  rw [gdI (by omega) (by omega), gd_t (isX_LA hX).2, e1, bd_s, r10, gd_t (isX_LA hX).2, code_eq hB1, bd_s, gdI (by omega) (by omega), clI (by omega), clI (by omega), tensF_eq n (by omega)]
  exact e
end
