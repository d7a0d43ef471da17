/-! ===== the class's search ===== -/
theorem hc_mono {v v' : Nat → Nat} : ∀ m k, (∀ i, k ≤ i → i < k + m → v i ≤ v' i) → hc v m k ≤ hc v' m k := by
  intro m
  induction m with
  | zero => intro k _; exact Nat.le_refl _
  | succ m ih =>
    intro k h
    have h1 := ih (k + 1) (fun i a b => h i (by omega) (by omega))
    have h2 := h k (Nat.le_refl _) (by omega)
    rw [hc, hc]; omega
theorem p10_4 {n : Nat} (h : n ≤ 4) : 10 ^ n ≤ 10000 := Nat.le_trans (Nat.pow_le_pow_right (by decide) h) (by decide)
theorem tensF_eq : ∀ n, n ≤ 4 → tensF n = nI (10 ^ n) := by decide
theorem tens_m1 {n : Nat} (h : n ≤ 4) : tensF (nI n).toNatClampNeg - 1 = nI (10 ^ n - 1) := by
  have := Nat.pow_pos (n := n) (show 0 < 10 by decide)
  rw [nI_clamp (by omega), tensF_eq n h, li_1, subI (by omega)]
theorem nines_dg : ∀ n c, c < 10 ^ n → ((∀ i, i < n → dg c i = 9) ↔ c = 10 ^ n - 1) := by
  intro n
  induction n with
  | zero => intro c h; rw [Nat.pow_zero] at h ⊢; exact ⟨fun _ => by omega, fun _ i hi => absurd hi (by omega)⟩
  | succ n ih =>
    intro c h
    have hp := Nat.pow_pos (n := n) (show 0 < 10 by decide)
    have hc10 : c / 10 < 10 ^ n := by rw [Nat.pow_succ] at h; omega
    have hs : ∀ i, dg c (i + 1) = dg (c / 10) i := fun i => by
      unfold dg; rw [Nat.pow_succ, Nat.mul_comm (10 ^ i) 10, ← Nat.div_div_eq_div_mul]
    have h0 : dg c 0 = c % 10 := by unfold dg; rw [Nat.pow_zero, Nat.div_one]
    have := ih (c / 10) hc10
    rw [Nat.pow_succ]
    constructor
    · intro q
      have a := this.mp (fun i hi => by rw [← hs]; exact q (i + 1) (by omega))
      have b := q 0 (by omega)
      rw [h0] at b
      omega
    · intro q i hi
      cases i with
      | zero => rw [h0]; omega
      | succ i => rw [hs]; exact this.mpr (by omega) i (by omega)
/-- the code behind a likely lesson, nobody barred -/
def nxc (n : Nat) (qk bl : Nat → Nat) (g : Bool) (code one : Nat) : Nat := hc (lkv n (fun _ => true) (fun _ => 9) qk bl g (dg code) one) n 0
section
variable {n : Nat} {qk bl : Nat → Nat} {g : Bool} {code one : Nat}
theorem lk9_le {i : Nat} : lkv n (fun _ => true) (fun _ => 9) qk bl g (dg code) one i ≤ 9 := lkv_le (dg_le _ _) (Nat.le_refl _)
theorem nxc_dg {i : Nat} (hi : i < n) : dg (nxc n qk bl g code one) i = lkv n (fun _ => true) (fun _ => 9) qk bl g (dg code) one i := by
  unfold nxc
  rw [dg_hc n 0 i (fun j _ _ => lk9_le) hi, Nat.zero_add]
theorem nxc_lt : nxc n qk bl g code one < 10 ^ n := hc_lt n 0 (fun i _ _ => lk9_le)
theorem hc_dg0 (h : code < 10 ^ n) : hc (dg code) n 0 = code := by
  have := hc_dg n 0 code (by rw [Nat.pow_zero, Nat.div_one]; exact h)
  rwa [Nat.pow_zero, Nat.div_one] at this
theorem nxc_good (h : code < 10 ^ n) (hg : gdB n (fun _ => true) (dg code) g = true) : code ≤ nxc n qk bl g code one := by
  have := hc_mono (v := dg code) (v' := lkv n (fun _ => true) (fun _ => 9) qk bl g (dg code) one) n 0 (fun i _ _ => lkv_ge hg i)
  rwa [hc_dg0 h] at this
theorem nxc_bad (h : code < 10 ^ n) (ho : one < n) (hg : ¬ gdB n (fun _ => true) (dg code) g = true) : nxc n qk bl g code one ≤ code := by
  have := hc_mono (v' := dg code) (v := lkv n (fun _ => true) (fun _ => 9) qk bl g (dg code) one) n 0 (fun i _ _ => lkv_bad hg ho rfl i)
  rwa [hc_dg0 h] at this
theorem nxc_up (h : code < 10 ^ n) (ho : one < n) (hlt : code < nxc n qk bl g code one) : slv (dg code) n < slv (dg (nxc n qk bl g code one)) n := by
  have hg : gdB n (fun _ => true) (dg code) g = true := Classical.byContradiction fun hg => by
    have := nxc_bad (qk := qk) (bl := bl) h ho hg; omega
  refine slv_lt n (fun i hi => by rw [nxc_dg hi]; exact lkv_ge hg i) (ne_ex (fun q => ?_))
  have : hc (dg code) n 0 = hc (dg (nxc n qk bl g code one)) n 0 := hc_congr n 0 (fun i _ hi => q i (by omega))
  rw [hc_dg0 h, hc_dg0 nxc_lt] at this
  omega
end
/-- what one Search holds for those who sit -/
def Ch (S : St) (t0 n : Nat) (qk bl : Nat → Nat) (g : Bool) : Prop := ∀ code, code < 10 ^ n → gN S (t0 + 1) code = -2 ∨ (Least (fun k => RR n (fun _ => true) (fun _ => 9) qk bl g k (dg code)) (gN S (t0 + 1) code) ∧ ∀ one, one < n → code < nxc n qk bl g code one → ¬ gN S (t0 + 1) (nxc n qk bl g code one) = -2)
theorem Ch_of {S S' : St} {t0 n : Nat} {qk bl : Nat → Nat} {g : Bool} (h : Ch S t0 n qk bl g) (h0 : ∀ j, gN S' (t0 + 1) j = gN S (t0 + 1) j) : Ch S' t0 n qk bl g := by
  intro code hc
  rw [h0]
  exact (h code hc).imp id (fun q => ⟨q.1, fun one a b => by rw [h0]; exact q.2 one a b⟩)
/-- ways found with the first j standing up -/
def QJ (n : Nat) (qk bl : Nat → Nat) (g : Bool) (code j k : Nat) : Prop := (k = 0 ∧ RR n (fun _ => true) (fun _ => 9) qk bl g 0 (dg code)) ∨ ∃ one m, one < j ∧ k = m + 1 ∧ nxc n qk bl g code one ≠ code ∧ RR n (fun _ => true) (fun _ => 9) qk bl g m (dg (nxc n qk bl g code one))
section
variable {n : Nat} {qk bl : Nat → Nat} {g : Bool} {code : Nat}
theorem RR_nxc {one m : Nat} : RR n (fun _ => true) (fun _ => 9) qk bl g m (dg (nxc n qk bl g code one)) ↔ RR n (fun _ => true) (fun _ => 9) qk bl g m (lkv n (fun _ => true) (fun _ => 9) qk bl g (dg code) one) := RR_congr m (fun i hi _ => nxc_dg hi)
theorem QJ_same {j : Nat} (h : code < 10 ^ n) (hj : j < n) (hle : nxc n qk bl g code j ≤ code) (k : Nat) : QJ n qk bl g code j k ↔ QJ n qk bl g code (j + 1) k := by
  unfold QJ
  constructor
  · rintro (q | ⟨one, m, a, b, c, d⟩)
    · exact Or.inl q
    · exact Or.inr ⟨one, m, by omega, b, c, d⟩
  · rintro (q | ⟨one, m, a, b, c, d⟩)
    · exact Or.inl q
    · by_cases hoj : one = j
      · subst hoj
        have hg : ¬ gdB n (fun _ => true) (dg code) g = true := fun hg => by
          have := nxc_good (qk := qk) (bl := bl) (one := one) h hg; omega
        exact absurd (RR_nxc.mp d) (RR_bad (one := one) m (gdB_bad hg (fun i _ _ => lkv_bad hg hj rfl i)) ⟨hj, rfl⟩)
      · exact Or.inr ⟨one, m, by omega, b, c, d⟩
theorem QJ_more {j : Nat} (hgt : code < nxc n qk bl g code j) (k : Nat) : (QJ n qk bl g code j k ∨ ∃ m, k = m + 1 ∧ RR n (fun _ => true) (fun _ => 9) qk bl g m (dg (nxc n qk bl g code j))) ↔ QJ n qk bl g code (j + 1) k := by
  unfold QJ
  constructor
  · rintro ((q | ⟨one, m, a, b, c, d⟩) | ⟨m, b, d⟩)
    · exact Or.inl q
    · exact Or.inr ⟨one, m, by omega, b, c, d⟩
    · exact Or.inr ⟨j, m, by omega, b, by omega, d⟩
  · rintro (q | ⟨one, m, a, b, c, d⟩)
    · exact Or.inl (Or.inl q)
    · by_cases hoj : one = j
      · subst hoj; exact Or.inr ⟨m, b, d⟩
      · exact Or.inl (Or.inr ⟨one, m, by omega, b, c, d⟩)
theorem QJ_all {x : Int32} (hx : Least (QJ n qk bl g code n) x) : Least (fun k => RR n (fun _ => true) (fun _ => 9) qk bl g k (dg code)) x := by
  refine hx.mix (fun k q => ?_) (fun k => ?_)
  · rcases q with ⟨rfl, q⟩ | ⟨one, m, a, rfl, c, d⟩
    · exact q
    · exact ⟨one, a, rfl, RR_nxc.mp d⟩
  · induction k with
    | zero => intro q; exact ⟨0, Nat.le_refl _, Or.inl ⟨rfl, q⟩⟩
    | succ k ih =>
      intro ⟨one, a, _, q⟩
      by_cases hne : nxc n qk bl g code one = code
      · have := RR_nxc.mpr q
        rw [hne] at this
        obtain ⟨j, hj, r⟩ := ih this
        exact ⟨j, by omega, r⟩
      · exact ⟨k + 1, Nat.le_refl _, Or.inr ⟨one, k, a, rfl, hne, RR_nxc.mpr q⟩⟩
end
section
variable {n t0 : Nat} {top qk bl pr : Nat → Nat} {g : Bool} {sd : Nat}
/-- who stands up, tried from a code -/
theorem try_eq {S : St} {lv : Nat → Nat} {code one : Nat} (ht0 : 33 ≤ t0) (hn : n ≤ 4) (hB : Bn S n lv top qk bl pr g sd) (hc : code < 10 ^ n) (ht : ∀ i, i < n → dg code i = 9 ∨ top i = 9) (ho : one < n) :
    ∃ S1 S2, fX0_setLevels (nI code) S = some ((), S1) ∧ (∃ r, fX0_hold (nI one) (bI false) S1 = some (r, S2)) ∧ fX0_code S2 = some (nI (nxc n qk bl g code one), S2) ∧ Bn S2 n (dg (nxc n qk bl g code one)) top qk bl pr g sd ∧ (∀ j, gN S2 (t0 + 1) j = gN S (t0 + 1) j) ∧ (∀ j, gN S2 t0 j = gN S t0 j) := by
  have hp := p10_4 hn
  obtain ⟨S1, e1, hB1⟩ := setLevels_eq hB (c := code) (by omega)
  obtain ⟨S2, e2, hB2⟩ := hold_eq hB1 (one := one) (dw := false) ho
  rw [lesSd_f] at hB2
  have hB3 : Bn S2 n (dg (nxc n qk bl g code one)) top qk bl pr g sd := Bn_congr hB2 (fun i hi => by
    have h9 := (hB1.2.2.2.2.2 i hi).2.1.2
    rw [les_lkv ho hi, nxc_dg hi, lkv_tops (top' := fun _ => 9) (by omega) (Nat.le_refl _) (ht i hi)])
  refine ⟨S1, S2, e1, ⟨_, e2⟩, ?_, hB3, fun j => ?_, fun j => ?_⟩
  · rw [code_eq hB3, hc_dg0 nxc_lt]
  · rw [(wX0_hold e2).n _ _ (by simp; omega) (by simp; omega), (wX0_setLevels e1).n _ _ (by simp; omega) (by simp; omega)]
  · rw [(wX0_hold e2).n _ _ (by simp; omega) (by simp; omega), (wX0_setLevels e1).n _ _ (by simp; omega) (by simp; omega)]
theorem look_eq (ht0 : 33 ≤ t0) (hn : n ≤ 4) : ∀ (d : Nat) {S : St} {code depth : Nat} {lv : Nat → Nat}, d + depth = 64 → depth ≤ slv (dg code) n → Bn S n lv top qk bl pr g sd → code < 10 ^ n → (∀ i, i < n → dg code i = 9 ∨ top i = 9) → Ch S t0 n qk bl g →
    ∃ x S', fX4_look d t0 (nI code) (nI depth) S = some (x, S') ∧ Least (fun k => RR n (fun _ => true) (fun _ => 9) qk bl g k (dg code)) x ∧ (∃ lv', Bn S' n lv' top qk bl pr g sd) ∧ Ch S' t0 n qk bl g ∧ gN S' (t0 + 1) code = x ∧ ∀ c', ¬ gN S (t0 + 1) c' = -2 → gN S' (t0 + 1) c' = gN S (t0 + 1) c' := by
  have hp := p10_4 hn
  intro d
  induction d with
  | zero =>
    intro S code depth lv h1 h2
    have := slv_le (lv := dg code) n (fun i _ => dg_le _ _)
    omega
  | succ d ih =>
    intro S code depth lv h1 h2 hB hc ht hC
    have h36 := slv_le (lv := dg code) n (fun i _ => dg_le _ _)
    by_cases hu : gN S (t0 + 1) code = -2
    · have key : ∀ s0, Least (QJ n qk bl g code 0) s0 → ∃ x S', FX4_look_50 (fun t0_ l2_ l3_ S_ => fX4_look d t0_ l2_ l3_ S_) FU t0 (nI code) (nI depth) s0 (nI 0) S = some (x, S') ∧ Least (fun k => RR n (fun _ => true) (fun _ => 9) qk bl g k (dg code)) x ∧ (∃ lv', Bn S' n lv' top qk bl pr g sd) ∧ Ch S' t0 n qk bl g ∧ gN S' (t0 + 1) code = x ∧ ∀ c', ¬ gN S (t0 + 1) c' = -2 → gN S' (t0 + 1) c' = gN S (t0 + 1) c' := by
        intro s0 hs0
        exact loopFU (fun fu (s : Int32 × Int32 × St) => FX4_look_50 (fun t0_ l2_ l3_ S_ => fX4_look d t0_ l2_ l3_ S_) fu t0 (nI code) (nI depth) s.1 s.2.1 s.2.2) (fun j s => ∃ best S1, s = (best, nI j, S1) ∧ (∃ lv1, Bn S1 n lv1 top qk bl pr g sd) ∧ Ch S1 t0 n qk bl g ∧ Least (QJ n qk bl g code j) best ∧ (∀ one, one < j → code < nxc n qk bl g code one → ¬ gN S1 (t0 + 1) (nxc n qk bl g code one) = -2) ∧ ∀ c', ¬ gN S (t0 + 1) c' = -2 → gN S1 (t0 + 1) c' = gN S (t0 + 1) c') (fun r => ∃ x S', r = some (x, S') ∧ Least (fun k => RR n (fun _ => true) (fun _ => 9) qk bl g k (dg code)) x ∧ (∃ lv', Bn S' n lv' top qk bl pr g sd) ∧ Ch S' t0 n qk bl g ∧ gN S' (t0 + 1) code = x ∧ ∀ c', ¬ gN S (t0 + 1) c' = -2 → gN S' (t0 + 1) c' = gN S (t0 + 1) c') n (FU_lt (by omega))
          (by
            intro j fu s hj ⟨best, S1, e, ⟨lv1, hB1⟩, hC1, hL, hcl, hper⟩
            subst e
            obtain ⟨S2, S3, e2, ⟨r3, e3⟩, e4, hB3, hf3, -⟩ := try_eq ht0 hn hB1 hc ht hj
            have hnl := nxc_lt (n := n) (qk := qk) (bl := bl) (g := g) (code := code) (one := j)
            have e0 : FX4_look_50 (fun t0_ l2_ l3_ S_ => fX4_look d t0_ l2_ l3_ S_) (fu + 1) t0 (nI code) (nI depth) best (nI j) S1 = if nxc n qk bl g code j ≤ code then FX4_look_50 (fun t0_ l2_ l3_ S_ => fX4_look d t0_ l2_ l3_ S_) fu t0 (nI code) (nI depth) best (nI (j + 1)) S3 else (bd (fX4_look d t0 (nI (nxc n qk bl g code j)) (nI (depth + 1)) S3) fun r24 S25 => FX4_look_50 (fun t0_ l2_ l3_ S_ => fX4_look d t0_ l2_ l3_ S_) fu t0 (nI code) (nI depth) (if r24 = -1 then best else if best = -1 then r24 + 1 else if best ≤ r24 + 1 then best else r24 + 1) (nI (j + 1)) S25) := by
              rw [FX4_look_50, hB1.1, if_neg (by rw [leI (by omega) (by omega)]; omega), e2, bd_s, show (0 : Int32) = bI false from rfl, e3, bd_s, e4, bd_s]
              by_cases hle : nxc n qk bl g code j ≤ code
              · rw [if_pos hle, if_pos (by rw [leI (by omega) (by omega)]; exact hle)]
                simp only [FX4_look_98, if_true, FX4_look_127, nI_1]
              · rw [if_neg hle, if_neg (by rw [leI (by omega) (by omega)]; exact hle)]
                simp only [FX4_look_98, FX4_look_127, FX4_look_121, nI_1]
                congr 1
                funext r S_
                by_cases q1 : r = -1
                · rw [if_pos q1, if_pos q1]
                · rw [if_neg q1, if_neg q1]
                  by_cases q2 : best = -1
                  · rw [if_pos q2, if_pos q2]
                  · rw [if_neg q2, if_neg q2]
                    by_cases q3 : best ≤ r + 1
                    · rw [if_pos q3, if_pos q3]
                    · rw [if_neg q3, if_neg q3]
            left
            by_cases hle : nxc n qk bl g code j ≤ code
            · refine ⟨(best, nI (j + 1), S3), ?_, best, S3, rfl, ⟨_, hB3⟩, Ch_of hC1 hf3, hL.iff (QJ_same hc hj hle), fun one a b => ?_, fun c' q => by rw [hf3]; exact hper c' q⟩
              · dsimp only
                rw [e0, if_pos hle]
              · rw [hf3]
                by_cases hoj : one = j
                · subst hoj; omega
                · exact hcl one (by omega) b
            · have hup := nxc_up (qk := qk) (bl := bl) (g := g) hc hj (by omega)
              obtain ⟨x, S4, e5, hL5, hB5, hC5, hf5, hper5⟩ := ih (S := S3) (code := nxc n qk bl g code j) (depth := depth + 1) (by omega) (by omega) hB3 hnl (fun i hi => (ht i hi).imp (fun q => by rw [nxc_dg hi]; exact lkv_9 q (Nat.le_refl _)) id) (Ch_of hC1 hf3)
              have hmore := (hL.more hL5 (fun m a b => by
                have := RR_far (v := dg (nxc n qk bl g code j)) (fun i _ => Nat.le_refl 9) m (fun i _ => dg_le _ _) a b
                omega)).iff (QJ_more (by omega))
              refine ⟨(_, nI (j + 1), S4), ?_, _, S4, rfl, hB5, hC5, hmore, fun one a b => ?_, fun c' q => ?_⟩
              · dsimp only
                rw [e0, if_neg hle, e5, bd_s]
              · by_cases hoj : one = j
                · subst hoj; rw [hf5]; exact hL5.ne2
                · have := hcl one (by omega) b
                  rw [hper5 _ (by rw [hf3]; exact this), hf3]; exact this
              · rw [hper5 _ (by rw [hf3, hper c' q]; exact q), hf3]; exact hper c' q)
          (by
            intro fu s ⟨best, S1, e, ⟨lv1, hB1⟩, hC1, hL, hcl, hper⟩
            subst e
            have hLR := QJ_all hL
            refine ⟨best, sN S1 (t0 + 1) code best, ?_, hLR, ⟨lv1, Bn_of hB1 (fun cc jj a b => by rw [gN_sN_c (by omega)])⟩, fun code' hc' => ?_, gN_sN_s, fun c' q => ?_⟩
            · dsimp only
              rw [FX4_look_50, hB1.1, if_pos (Int32.le_refl _), gdI (by omega) (by omega), clI (by omega)]
            · by_cases hcc : code' = code
              · subst hcc
                right
                rw [gN_sN_s]
                refine ⟨hLR, fun one a b => ?_⟩
                rw [gN_sN_j (by omega)]
                exact hcl one a b
              · rw [gN_sN_j hcc]
                refine (hC1 code' hc').imp id (fun q => ⟨q.1, fun one a b => ?_⟩)
                by_cases hx : nxc n qk bl g code' one = code
                · rw [hx, gN_sN_s]; exact hLR.ne2
                · rw [gN_sN_j hx]; exact q.2 one a b
            · rw [gN_sN_j (by intro h; rw [h] at q; exact q hu)]; exact hper c' q)
          (s0, nI 0, S) ⟨s0, S, rfl, ⟨lv, hB⟩, hC, hs0, fun one a => absurd a (by omega), fun _ _ => rfl⟩
      have hgoal := nines_dg n code hc
      have hR0 : RR n (fun _ => true) (fun _ => 9) qk bl g 0 (dg code) ↔ code = 10 ^ n - 1 := ⟨fun q => hgoal.mp (fun i hi => q i hi rfl), fun q i hi _ => hgoal.mpr q i hi⟩
      by_cases hg : code = 10 ^ n - 1
      · obtain ⟨x, S', e, r⟩ := key 0 (Or.inr ⟨0, by omega, rfl, Or.inl ⟨rfl, hR0.mpr hg⟩, fun j hj => absurd hj (by omega)⟩)
        refine ⟨x, S', ?_, r⟩
        rw [fX4_look, if_pos (by rw [li_36, leI (by omega) (by omega)]; omega), gdI (by omega) (by omega), clI (by omega), hu, if_pos rfl, hB.1]
        dsimp only
        rw [gdI (by omega) (by omega), tens_m1 hn, if_pos (by rw [← hg]), FX4_look_45]
        exact e
      · obtain ⟨x, S', e, r⟩ := key (-1) (Or.inl ⟨rfl, fun k q => by
          rcases q with ⟨_, q⟩ | ⟨one, m, a, _⟩
          · exact hg (hR0.mp q)
          · omega⟩)
        refine ⟨x, S', ?_, r⟩
        rw [fX4_look, if_pos (by rw [li_36, leI (by omega) (by omega)]; omega), gdI (by omega) (by omega), clI (by omega), hu, if_pos rfl, hB.1]
        dsimp only
        rw [gdI (by omega) (by omega), tens_m1 hn, if_neg (by rw [eqI (by omega) (by omega)]; exact hg), FX4_look_45]
        exact e
    · have hx := (hC code hc).resolve_left hu
      refine ⟨gN S (t0 + 1) code, S, ?_, hx.1, ⟨lv, hB⟩, hC, rfl, fun _ _ => rfl⟩
      rw [fX4_look, if_pos (by rw [li_36, leI (by omega) (by omega)]; omega), gdI (by omega) (by omega), clI (by omega), if_neg hu, gdI (by omega) (by omega)]
end
