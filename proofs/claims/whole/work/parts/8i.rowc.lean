/-! ===== the row ===== -/
def Pick (n : Nat) (P : Nat → Prop) (p : Nat) : Prop := p < n ∧ P p ∧ ∀ q, q < p → ¬ P q
theorem Pick.uniq {n : Nat} {P : Nat → Prop} {p q : Nat} (h1 : Pick n P p) (h2 : Pick n P q) : p = q := by
  rcases Nat.lt_trichotomy p q with h | h | h
  · exact absurd h1.2.1 (h2.2.2 p h)
  · exact h
  · exact absurd h2.2.1 (h1.2.2 q h)
theorem Pick.ex {n : Nat} {P : Nat → Prop} (h : ∃ p, p < n ∧ P p) : ∃ p, Pick n P p := by
  obtain ⟨k, hk, hl⟩ := pk_least (fun p => p < n ∧ P p) h
  exact ⟨k, hk.1, hk.2, fun q hq hp => hl q hq ⟨by have := hk.1; omega, hp⟩⟩
theorem Pick.iff {n : Nat} {P Q : Nat → Prop} (h : ∀ q, q < n → (P q ↔ Q q)) {p : Nat} : Pick n P p ↔ Pick n Q p := by
  constructor
  · intro ⟨a, b, c⟩; exact ⟨a, (h p a).mp b, fun q hq r => c q hq ((h q (by omega)).mpr r)⟩
  · intro ⟨a, b, c⟩; exact ⟨a, (h p a).mpr b, fun q hq r => c q hq ((h q (by omega)).mp r)⟩
/-- who stands up in lesson j of the row, d lessons in all -/
def RowR (n : Nat) (top qk bl : Nat → Nat) (g : Bool) : Nat → Nat → (Nat → Nat) → Nat → Prop
  | 0, d, v, p => Pick n (fun one => RR n (fun _ => true) top qk bl g (d - 1) (lkv n (fun _ => true) top qk bl g v one)) p
  | j + 1, d, v, p => ∃ one, Pick n (fun one => RR n (fun _ => true) top qk bl g (d - 1) (lkv n (fun _ => true) top qk bl g v one)) one ∧ RowR n top qk bl g j (d - 1) (lkv n (fun _ => true) top qk bl g v one) p
section
variable {n : Nat} {top qk bl : Nat → Nat} {g : Bool}
theorem RowR_uniq : ∀ j {d : Nat} {v : Nat → Nat} {p q : Nat}, RowR n top qk bl g j d v p → RowR n top qk bl g j d v q → p = q := by
  intro j
  induction j with
  | zero => intro d v p q h1 h2; exact Pick.uniq h1 h2
  | succ j ih =>
    intro d v p q ⟨a, ha, h1⟩ ⟨b, hb, h2⟩
    have := ha.uniq hb
    subst this
    exact ih h1 h2
theorem RowR_congr : ∀ j {d : Nat} {v v' : Nat → Nat} {p : Nat}, (∀ i, i < n → v i = v' i) → (RowR n top qk bl g j d v p ↔ RowR n top qk bl g j d v' p) := by
  intro j
  induction j with
  | zero =>
    intro d v v' p h
    exact Pick.iff (fun q hq => RR_congr _ (fun i hi _ => lkv_congr (fun i hi _ => h i hi) hq rfl hi rfl))
  | succ j ih =>
    intro d v v' p h
    have hp : ∀ {one}, Pick n (fun one => RR n (fun _ => true) top qk bl g (d - 1) (lkv n (fun _ => true) top qk bl g v one)) one ↔ Pick n (fun one => RR n (fun _ => true) top qk bl g (d - 1) (lkv n (fun _ => true) top qk bl g v' one)) one := Pick.iff (fun q hq => RR_congr _ (fun i hi _ => lkv_congr (fun i hi _ => h i hi) hq rfl hi rfl))
    constructor
    · intro ⟨a, ha, h1⟩
      exact ⟨a, hp.mp ha, (ih (fun i hi => lkv_congr (fun i hi _ => h i hi) ha.1 rfl hi rfl)).mp h1⟩
    · intro ⟨a, ha, h1⟩
      exact ⟨a, hp.mpr ha, (ih (fun i hi => lkv_congr (fun i hi _ => h i hi) ha.1 rfl hi rfl)).mpr h1⟩
theorem RowR_tops {top' : Nat → Nat} (h1 : ∀ i, i < n → top i ≤ 9) (h2 : ∀ i, i < n → top' i ≤ 9) : ∀ j {d : Nat} {v : Nat → Nat} {p : Nat}, (∀ i, i < n → v i = 9 ∨ top i = top' i) → (RowR n top qk bl g j d v p ↔ RowR n top' qk bl g j d v p) := by
  have step : ∀ (d : Nat) {v : Nat → Nat}, (∀ i, i < n → v i = 9 ∨ top i = top' i) → ∀ q, q < n → (RR n (fun _ => true) top qk bl g d (lkv n (fun _ => true) top qk bl g v q) ↔ RR n (fun _ => true) top' qk bl g d (lkv n (fun _ => true) top' qk bl g v q)) := by
    intro d v h q hq
    rw [RR_tops h1 h2 d (v := lkv n (fun _ => true) top qk bl g v q) (fun i hi _ => (h i hi).imp (fun q => lkv_9 q (h1 i hi)) id)]
    exact RR_congr d (fun i hi _ => lkv_tops (h1 i hi) (h2 i hi) (h i hi))
  intro j
  induction j with
  | zero => intro d v p h; exact Pick.iff (step _ h)
  | succ j ih =>
    intro d v p h
    constructor
    · intro ⟨a, ha, q⟩
      exact ⟨a, (Pick.iff (step _ h)).mp ha, (RowR_congr j (fun i hi => lkv_tops (h1 i hi) (h2 i hi) (h i hi))).mp ((ih (fun i hi => (h i hi).imp (fun q => lkv_9 q (h1 i hi)) id)).mp q)⟩
    · intro ⟨a, ha, q⟩
      exact ⟨a, (Pick.iff (step _ h)).mpr ha, (ih (fun i hi => (h i hi).imp (fun q => lkv_9 q (h1 i hi)) id)).mpr ((RowR_congr j (fun i hi => lkv_tops (h1 i hi) (h2 i hi) (h i hi))).mpr q)⟩
end
section
variable {n t0 : Nat} {top qk bl pr : Nat → Nat} {g : Bool} {sd : Nat}
/-- the class's test says who may stand up -/
theorem far_test {S : St} {code d one : Nat} (hC : Ch S t0 n qk bl g) (hc : code < 10 ^ n) (ho : one < n) (hd : d ≤ 36) (hf : gN S (t0 + 1) code = nI (d + 1)) (hmin : ∀ j, j < d + 1 → ¬ RR n (fun _ => true) (fun _ => 9) qk bl g j (dg code)) : gN S (t0 + 1) (nxc n qk bl g code one) = nI (d + 1) - 1 ↔ RR n (fun _ => true) (fun _ => 9) qk bl g d (lkv n (fun _ => true) (fun _ => 9) qk bl g (dg code) one) := by
  rw [nI_pred]
  have hnd : ¬ nI d = -2 := fun q => by
    have h0 : (0 : Int32) ≤ nI d := nI_pos' (by omega)
    rw [q] at h0
    exact absurd h0 (by decide)
  constructor
  · intro q
    rcases hC _ (nxc_lt (n := n) (qk := qk) (bl := bl) (g := g) (code := code) (one := one)) with h | ⟨h, -⟩
    · rw [h] at q; exact absurd q.symm hnd
    · rw [q] at h
      rcases h with ⟨h, _⟩ | ⟨k, hk, h, h1, _⟩
      · exact absurd h (nI_nm1 (by omega))
      · rw [eqI (by omega) (by omega)] at h
        subst h
        exact RR_nxc.mp h1
  · intro q
    have hne : ¬ nxc n qk bl g code one = code := fun he => by
      have := RR_nxc.mpr q
      rw [he] at this
      exact hmin d (by omega) this
    have hg : gdB n (fun _ => true) (dg code) g = true := Classical.byContradiction fun hg => RR_bad (one := one) (d + 1) hg ⟨ho, rfl⟩ ⟨one, ho, rfl, q⟩
    have hlt : code < nxc n qk bl g code one := by have := nxc_good (qk := qk) (bl := bl) (one := one) hc hg; omega
    have hcl : ¬ gN S (t0 + 1) (nxc n qk bl g code one) = -2 := by
      rcases hC code hc with h | h
      · rw [hf] at h
        have h0 : (0 : Int32) ≤ nI (d + 1) := nI_pos' (by omega)
        rw [h] at h0
        exact absurd h0 (by decide)
      · exact h.2 one ho hlt
    have hL := ((hC _ (nxc_lt (n := n) (qk := qk) (bl := bl) (g := g) (code := code) (one := one))).resolve_left hcl).1
    have hme : Least (fun k => RR n (fun _ => true) (fun _ => 9) qk bl g k (dg (nxc n qk bl g code one))) (nI d) := Or.inr ⟨d, hd, rfl, RR_nxc.mpr q, fun j hj r => hmin (j + 1) (by omega) ⟨one, ho, rfl, RR_nxc.mp r⟩⟩
    exact hL.uniq hme
theorem find_c {S : St} {lv : Nat → Nat} {code d : Nat} {l2 l4 : Int32} (k5 : Nat → Int32 → Int32 → Int32 → St → Option (Int32 × St)) (ht0 : 33 ≤ t0) (hn : n ≤ 4) (hB : Bn S n lv top qk bl pr g sd) (hc : code < 10 ^ n) (ht : ∀ i, i < n → dg code i = 9 ∨ top i = 9) (hC : Ch S t0 n qk bl g) (hd : d ≤ 36) (hf : gN S (t0 + 1) code = nI (d + 1)) (hR : RR n (fun _ => true) (fun _ => 9) qk bl g (d + 1) (dg code)) (hmin : ∀ j, j < d + 1 → ¬ RR n (fun _ => true) (fun _ => 9) qk bl g j (dg code)) :
    ∃ p S', FX4_standsUp_22 k5 FU t0 l2 (-1) l4 (nI code) (nI 0) S = k5 t0 l2 (nI p) (l4 + 1) S' ∧ Pick n (fun one => RR n (fun _ => true) (fun _ => 9) qk bl g d (lkv n (fun _ => true) (fun _ => 9) qk bl g (dg code) one)) p ∧ Bn S' n (dg (nxc n qk bl g code p)) top qk bl pr g sd ∧ (∀ j, gN S' (t0 + 1) j = gN S (t0 + 1) j) := by
  have hp := p10_4 hn
  exact loopFU (fun fu (s : Int32 × Int32 × St) => FX4_standsUp_22 k5 fu t0 l2 s.1 l4 (nI code) s.2.1 s.2.2) (fun j s => ∃ S1, ((s = (-1, nI j, S1) ∧ (∃ lv1, Bn S1 n lv1 top qk bl pr g sd) ∧ ∀ q, q < j → ¬ RR n (fun _ => true) (fun _ => 9) qk bl g d (lkv n (fun _ => true) (fun _ => 9) qk bl g (dg code) q)) ∨ ∃ p, s = (nI p, nI j, S1) ∧ Pick n (fun one => RR n (fun _ => true) (fun _ => 9) qk bl g d (lkv n (fun _ => true) (fun _ => 9) qk bl g (dg code) one)) p ∧ Bn S1 n (dg (nxc n qk bl g code p)) top qk bl pr g sd) ∧ (∀ j, gN S1 (t0 + 1) j = gN S (t0 + 1) j)) (fun r => ∃ p S', r = k5 t0 l2 (nI p) (l4 + 1) S' ∧ Pick n (fun one => RR n (fun _ => true) (fun _ => 9) qk bl g d (lkv n (fun _ => true) (fun _ => 9) qk bl g (dg code) one)) p ∧ Bn S' n (dg (nxc n qk bl g code p)) top qk bl pr g sd ∧ (∀ j, gN S' (t0 + 1) j = gN S (t0 + 1) j)) n (FU_lt (by omega))
    (by
      intro j fu s hj ⟨S1, hs, hf1⟩
      rcases hs with ⟨e, ⟨lv1, hB1⟩, hno⟩ | ⟨p, e, hpk, hB1⟩
      · subst e
        left
        obtain ⟨S2, S3, e2, ⟨r3, e3⟩, e4, hB3, hf3, -⟩ := try_eq ht0 hn hB1 hc ht hj
        have hnl := nxc_lt (n := n) (qk := qk) (bl := bl) (g := g) (code := code) (one := j)
        have hfa : ∀ j, gN S3 (t0 + 1) j = gN S (t0 + 1) j := fun i => (hf3 i).trans (hf1 i)
        have htest := far_test hC hc hj hd hf hmin
        have e0 : FX4_standsUp_22 k5 (fu + 1) t0 l2 (-1) l4 (nI code) (nI j) S1 = if gN S (t0 + 1) (nxc n qk bl g code j) = nI (d + 1) - 1 then FX4_standsUp_22 k5 fu t0 l2 (nI j) l4 (nI code) (nI (j + 1)) S3 else FX4_standsUp_22 k5 fu t0 l2 (-1) l4 (nI code) (nI (j + 1)) S3 := by
          rw [FX4_standsUp_22, hB1.1, if_neg (by rw [leI (by omega) (by omega)]; omega), if_pos rfl, e2, bd_s, show (0 : Int32) = bI false from rfl, e3, bd_s, e4, bd_s, gdI (by omega) (by omega), gdI (by omega) (by omega), clI (by omega), clI (by omega), hfa, hfa, hf]
          simp only [FX4_standsUp_77, nI_1]
        by_cases hq : RR n (fun _ => true) (fun _ => 9) qk bl g d (lkv n (fun _ => true) (fun _ => 9) qk bl g (dg code) j)
        · refine ⟨(nI j, nI (j + 1), S3), ?_, S3, Or.inr ⟨j, rfl, ⟨hj, hq, hno⟩, hB3⟩, hfa⟩
          dsimp only
          rw [e0, if_pos (htest.mpr hq)]
        · refine ⟨(-1, nI (j + 1), S3), ?_, S3, Or.inl ⟨rfl, ⟨_, hB3⟩, fun q hql => ?_⟩, hfa⟩
          · dsimp only
            rw [e0, if_neg (fun q => hq (htest.mp q))]
          · by_cases hqj : q = j
            · subst hqj; exact hq
            · exact hno q (by omega)
      · subst e
        right
        have := hpk.1
        refine ⟨p, S1, ?_, hpk, hB1, hf1⟩
        dsimp only
        rw [FX4_standsUp_22, hB1.1, if_neg (by rw [leI (by omega) (by omega)]; omega), if_neg (nI_nm1 (by omega)), FX4_standsUp_84])
    (by
      intro fu s ⟨S1, hs, hf1⟩
      rcases hs with ⟨e, ⟨lv1, hB1⟩, hno⟩ | ⟨p, e, hpk, hB1⟩
      · obtain ⟨one, a, _, b⟩ := hR
        exact absurd b (hno one a)
      · subst e
        refine ⟨p, S1, ?_, hpk, hB1, hf1⟩
        dsimp only
        rw [FX4_standsUp_22, hB1.1, if_pos (Int32.le_refl _), FX4_standsUp_84])
    (-1, nI 0, S) ⟨S, Or.inl ⟨rfl, ⟨lv, hB⟩, fun q hq => absurd hq (by omega)⟩, fun _ => rfl⟩
theorem stands_c {S : St} {code d j : Nat} (ht0 : 33 ≤ t0) (hn : n ≤ 4) (hB : Bn S n (dg code) top qk bl pr g sd) (hc : code < 10 ^ n) (ht : ∀ i, i < n → dg code i = 9 ∨ top i = 9) (hC : Ch S t0 n qk bl g) (hd : d ≤ 36) (hf : gN S (t0 + 1) code = nI d) (hj : j < d) :
    ∃ p S', fX4_standsUp t0 (nI j) S = some (nI p, S') ∧ RowR n (fun _ => 9) qk bl g j d (dg code) p :=
  loopFU (fun fu (s : Int32 × Int32 × St) => FX4_standsUp_5 fu t0 (nI j) s.1 s.2.1 s.2.2) (fun k s => ∃ who S1, s = (who, nI k, S1) ∧ (k ≤ j → ∃ ck, ck < 10 ^ n ∧ Bn S1 n (dg ck) top qk bl pr g sd ∧ (∀ i, i < n → dg ck i = 9 ∨ top i = 9) ∧ Ch S1 t0 n qk bl g ∧ gN S1 (t0 + 1) ck = nI (d - k) ∧ ∀ p, RowR n (fun _ => 9) qk bl g (j - k) (d - k) (dg ck) p → RowR n (fun _ => 9) qk bl g j d (dg code) p) ∧ (k = j + 1 → ∃ p, who = nI p ∧ RowR n (fun _ => 9) qk bl g j d (dg code) p)) (fun r => ∃ p S', r = some (nI p, S') ∧ RowR n (fun _ => 9) qk bl g j d (dg code) p) (j + 1) (FU_lt (by omega))
    (by
      intro k fu s hk ⟨who, S1, e, h1, _⟩
      subst e
      have hp := p10_4 hn
      obtain ⟨ck, c1, c2, c3, c4, c5, c6⟩ := h1 (by omega)
      obtain ⟨d', hd'⟩ : ∃ d', d - k = d' + 1 := ⟨d - k - 1, by omega⟩
      rw [hd'] at c5
      have hL : Least (fun m => RR n (fun _ => true) (fun _ => 9) qk bl g m (dg ck)) (nI (d' + 1)) := by
        rcases c4 ck c1 with h | h
        · rw [c5] at h
          have h0 : (0 : Int32) ≤ nI (d' + 1) := nI_pos' (by omega)
          rw [h] at h0
          exact absurd h0 (by decide)
        · rw [c5] at h; exact h.1
      have hRm : RR n (fun _ => true) (fun _ => 9) qk bl g (d' + 1) (dg ck) ∧ ∀ i, i < d' + 1 → ¬ RR n (fun _ => true) (fun _ => 9) qk bl g i (dg ck) := by
        rcases hL with ⟨h, _⟩ | ⟨m, hm, h, a, b⟩
        · exact absurd h (nI_nm1 (by omega))
        · rw [eqI (by omega) (by omega)] at h
          subst h; exact ⟨a, b⟩
      obtain ⟨p, S2, e2, hpk, hB2, hf2⟩ := find_c (l2 := nI j) (l4 := nI k) (fun t0_ l2_ l3_ l4_ S_ => FX4_standsUp_5 fu t0_ l2_ l3_ l4_ S_) ht0 hn c2 c1 c3 c4 (by omega) c5 hRm.1 hRm.2
      have hC2 : Ch S2 t0 n qk bl g := Ch_of c4 hf2
      have hpick : ∀ {x}, Pick n (fun one => RR n (fun _ => true) (fun _ => 9) qk bl g (d - k - 1) (lkv n (fun _ => true) (fun _ => 9) qk bl g (dg ck) one)) x ↔ Pick n (fun one => RR n (fun _ => true) (fun _ => 9) qk bl g d' (lkv n (fun _ => true) (fun _ => 9) qk bl g (dg ck) one)) x := by
        intro x; rw [show d - k - 1 = d' by omega]
      refine Or.inl ⟨(nI p, nI (k + 1), S2), ?_, nI p, S2, rfl, fun hkj => ⟨nxc n qk bl g ck p, nxc_lt, hB2, fun i hi => (c3 i hi).imp (fun q => by rw [nxc_dg hi]; exact lkv_9 q (Nat.le_refl _)) id, hC2, ?_, fun x hx => c6 x ?_⟩, fun hkj => ⟨p, rfl, c6 p ?_⟩⟩
      · dsimp only
        rw [FX4_standsUp_5, if_neg (by rw [ltI (by omega) (by omega)]; omega), code_eq c2, bd_s, hc_dg0 c1]
        exact e2.trans (by rw [nI_1])
      · rw [hf2]
        have := (far_test c4 c1 hpk.1 (by omega) c5 hRm.2).mpr hpk.2.1
        rw [this, nI_pred, show d - (k + 1) = d' by omega]
      · rw [show j - k = (j - (k + 1)) + 1 by omega]
        refine ⟨p, hpick.mpr hpk, ?_⟩
        rw [show d - k - 1 = d - (k + 1) by omega]
        exact (RowR_congr _ (fun i hi => nxc_dg hi)).mp hx
      · rw [show j - k = 0 by omega]
        exact hpick.mpr hpk)
    (by
      intro fu s ⟨who, S1, e, _, h2⟩
      subst e
      obtain ⟨p, rfl, h⟩ := h2 rfl
      refine ⟨p, S1, ?_, h⟩
      dsimp only
      rw [FX4_standsUp_5, if_pos (by rw [ltI (by omega) (by omega)]; omega)])
    (-1, nI 0, S) ⟨-1, S, rfl, fun _ => ⟨code, hc, hB, ht, hC, hf, fun p h => h⟩, fun q => absurd q (by omega)⟩
end
