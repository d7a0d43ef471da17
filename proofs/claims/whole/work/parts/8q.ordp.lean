/-! ===== the order: in numbers ===== -/
theorem or_bit : ∀ s, s < 64 → ∀ t, t < 6 → bt1 s t = false → nI s ||| ((1 : Int32) <<< (nI t &&& 31)) = nI (s + 2 ^ t) := by decide +kernel
theorem bt1_add : ∀ s, s < 64 → ∀ t, t < 6 → bt1 s t = false → ∀ u, u < 6 → bt1 (s + 2 ^ t) u = (decide (u = t) || bt1 s u) := by decide +kernel
def chk6 : Bool := (List.range 7).all fun T => (List.range 64).all fun s => (List.range 6).all fun t => !(decide (s < 2 ^ T) && decide (t < T) && !bt1 s t) || (decide (s + 2 ^ t < 2 ^ T) && decide (cn (s + 2 ^ t) T = cn s T + 1) && decide (cn s T < T))
theorem chk6_t : chk6 = true := by decide +kernel
theorem add_lt6' (T : Nat) (h : T < 7) (s : Nat) (hs : s < 64) (t : Nat) (ht : t < 6) (q : s < 2 ^ T ∧ t < T ∧ bt1 s t = false) : s + 2 ^ t < 2 ^ T ∧ cn (s + 2 ^ t) T = cn s T + 1 ∧ cn s T < T := by
  have a := List.all_eq_true.mp (List.all_eq_true.mp (List.all_eq_true.mp chk6_t T (List.mem_range.mpr h)) s (List.mem_range.mpr hs)) t (List.mem_range.mpr ht)
  simp only [decide_eq_true q.1, decide_eq_true q.2.1, q.2.2, Bool.not_false, Bool.and_self, Bool.not_true, Bool.false_or, Bool.and_eq_true, decide_eq_true_eq] at a
  exact ⟨a.1.1, a.1.2, a.2⟩
theorem add_lt6 (T : Nat) (h : T < 7) (s : Nat) (hs : s < 64) (t : Nat) (ht : t < 6) (a : s < 2 ^ T) (b : t < T) (c : bt1 s t = false) : s + 2 ^ t < 2 ^ T := (add_lt6' T h s hs t ht ⟨a, b, c⟩).1
theorem cn_add6 (T : Nat) (h : T < 7) (s : Nat) (hs : s < 64) (t : Nat) (ht : t < 6) (a : s < 2 ^ T) (b : t < T) (c : bt1 s t = false) : cn (s + 2 ^ t) T = cn s T + 1 := (add_lt6' T h s hs t ht ⟨a, b, c⟩).2.1
theorem cn_all6 : ∀ T, T < 7 → ∀ s, s < 64 → s < 2 ^ T → cn s T = T → s = 2 ^ T - 1 := by decide +kernel
theorem cn_not6 (T : Nat) (h : T < 7) (s : Nat) (hs : s < 64) (a : s < 2 ^ T) (t : Nat) (ht : t < 6) (b : t < T) (c : bt1 s t = false) : cn s T < T := (add_lt6' T h s hs t ht ⟨a, b, c⟩).2.2
theorem p2_6 {n : Nat} (h : n ≤ 6) : 2 ^ n ≤ 64 := Nat.le_trans (Nat.pow_le_pow_right (by decide) h) (by decide)
section
variable (k : Sk) (lv : Nat → Nat → Nat) (g : Bool)
/-- nobody is barred from a thing, where those of a set are known -/
def opn (s t : Nat) : Prop := ¬ ∃ i, i < cn 63 (np k) ∧ lv (nth 63 (np k) i) t < 9 ∧ tpv k lv s (nth 63 (np k) i) t < 9
/-- lessons of a thing, nobody barred -/
def Fp (t m : Nat) : Prop := RR (cn 63 (np k)) (fun _ => true) (fun _ => 9) (fun i => kq k (nth 63 (np k) i)) (fun i => kb k (nth 63 (np k) i)) g m (fun i => lv (nth 63 (np k) i) t)
noncomputable def fvo (t : Nat) : Int32 := Classical.epsilon (fun x => Least (Fp k lv g t) x)
noncomputable def fno (t : Nat) : Nat := (fvo k lv g t).toNatClampNeg
def Ao (s t : Nat) : Prop := opn k lv s t ∧ ¬ fvo k lv g t = -1
/-- lessons of those left -/
noncomputable def Wo (s : Nat) : Nat → Nat
  | 0 => 0
  | t + 1 => Wo s t + if bt1 s t = true then 0 else fno k lv g t
def Cs : Nat → Nat → Prop
  | 0, _ => True
  | m + 1, s => ∃ t, t < nt k ∧ bt1 s t = false ∧ Ao k lv g s t ∧ Cs m (s + 2 ^ t)
/-- all can be finished from a set -/
def Co (s : Nat) : Prop := Cs k lv g (nt k - cn s (nt k)) s
noncomputable def gpk (s : Nat) : Nat := Classical.epsilon (fun t => Pick (nt k) (fun t => bt1 s t = false ∧ Ao k lv g s t) t)
noncomputable def gst : Nat → Nat
  | 0 => 0
  | i + 1 => gst i + 2 ^ gpk k lv g (gst i)
end
def sub (s s' T : Nat) : Prop := ∀ u, u < T → bt1 s u = true → bt1 s' u = true
section
variable {k : Sk} {lv : Nat → Nat → Nat} {g : Bool}
theorem fvo_is (hk : WK k) (hn : np k ≤ 4) {t : Nat} (h9 : ∀ p, p < np k → lv p t ≤ 9) : Least (Fp k lv g t) (fvo k lv g t) := by
  apply Classical.epsilon_spec
  have hcn : cn 63 (np k) ≤ 4 := by rw [cn63 _ hk.2.1]; exact hn
  by_cases h : ∃ m, Fp k lv g t m
  · obtain ⟨m, h1, h2⟩ := pk_least _ h
    have := RR_far (fun i _ => Nat.le_refl 9) m (fun i hi => h9 _ (nth_is (np k) i hi).1) h1 h2
    exact ⟨nI m, Or.inr ⟨m, by omega, rfl, h1, h2⟩⟩
  · exact ⟨-1, Or.inl ⟨rfl, fun m q => h ⟨m, q⟩⟩⟩
theorem fno_is (hk : WK k) (hn : np k ≤ 4) {t : Nat} (h9 : ∀ p, p < np k → lv p t ≤ 9) : (¬ fvo k lv g t = -1 → fvo k lv g t = nI (fno k lv g t)) ∧ fno k lv g t ≤ 36 := by
  unfold fno
  rcases fvo_is (g := g) hk hn h9 with ⟨h, _⟩ | ⟨m, hm, h, _⟩
  · rw [h]; exact ⟨fun q => absurd rfl q, by decide⟩
  · rw [h, nI_clamp (by omega)]; exact ⟨fun _ => rfl, hm⟩
/-- what a search says of a thing, where a set is known -/
theorem fw_val (hk : WK k) (hn : np k ≤ 4) {s t : Nat} (h9 : ∀ p, p < np k → lv p t ≤ 9) {x : Int32} (hx : Least (fwP k lv s 63 t g) x) : (Ao k lv g s t ∧ x = nI (fno k lv g t)) ∨ (¬ Ao k lv g s t ∧ x = -1) := by
  have hF := fvo_is (g := g) hk hn h9
  by_cases ho : opn k lv s t
  · have h99 : ∀ i, i < cn 63 (np k) → lv (nth 63 (np k) i) t = 9 ∨ tpv k lv s (nth 63 (np k) i) t = 9 := fun i hi => by
      have q1 := h9 _ (nth_is (mask := 63) (np k) i hi).1
      by_cases h : lv (nth 63 (np k) i) t = 9
      · exact Or.inl h
      · rcases tpv_is k lv s (nth 63 (np k) i) t with q | q
        · exact absurd ⟨i, hi, by omega, by omega⟩ ho
        · exact Or.inr q
    have hx2 : Least (Fp k lv g t) x := hx.iff (fun m => RR_tops (fun i _ => tpv_le _ _ _ _ _) (fun i _ => Nat.le_refl _) m (fun i hi _ => h99 i hi))
    have e := hx2.uniq hF
    by_cases hz : fvo k lv g t = -1
    · exact Or.inr ⟨fun q => q.2 hz, e.trans hz⟩
    · exact Or.inl ⟨⟨ho, hz⟩, e.trans ((fno_is hk hn h9).1 hz)⟩
  · refine Or.inr ⟨fun q => ho q.1, ?_⟩
    obtain ⟨i, a, b, d⟩ := Classical.byContradiction (fun q => ho q)
    rcases hx with ⟨h, _⟩ | ⟨m, _, _, h, _⟩
    · exact h
    · exact absurd h (RR_bar a rfl d m b)
theorem tpv_mono {s s' p t : Nat} (h : sub s s' (nt k)) (q : tpv k lv s' p t < 9) : tpv k lv s p t < 9 := by
  unfold tpv at q ⊢
  by_cases h1 : ∃ u, u < nt k ∧ bt1 (ln k t) u = true ∧ bt1 s' u = false ∧ lv p u ≤ 4
  · obtain ⟨u, a, b, d, e⟩ := h1
    have hs : bt1 s u = false := by
      cases hb : bt1 s u with
      | false => rfl
      | true => rw [h u a hb] at d; cases d
    rw [if_pos ⟨u, a, b, hs, e⟩]
    decide
  · rw [if_neg h1] at q; omega
theorem opn_mono {s s' t : Nat} (h : sub s s' (nt k)) (q : opn k lv s t) : opn k lv s' t := fun ⟨i, a, b, d⟩ => q ⟨i, a, b, tpv_mono h d⟩
theorem Ao_mono {s s' t : Nat} (h : sub s s' (nt k)) (q : Ao k lv g s t) : Ao k lv g s' t := ⟨opn_mono h q.1, q.2⟩
theorem sub_add {s s' t : Nat} (hk : WK k) (hs : s < 2 ^ nt k) (hs' : s' < 2 ^ nt k) (ht : t < nt k) (hb : bt1 s t = false) (h : sub s s' (nt k)) (hm : bt1 s' t = true) : sub (s + 2 ^ t) s' (nt k) := by
  have h6 := p2_6 hk.1
  have h1 := hk.1
  intro u hu q
  rw [bt1_add s (by omega) t (by omega) hb u (by omega)] at q
  by_cases hut : u = t
  · rw [hut]; exact hm
  · simp only [hut, decide_false, Bool.false_or] at q
    exact h u hu q
theorem sub_add2 {s s' t : Nat} (hk : WK k) (hs : s < 2 ^ nt k) (hs' : s' < 2 ^ nt k) (ht : t < nt k) (hb : bt1 s t = false) (hb' : bt1 s' t = false) (h : sub s s' (nt k)) : sub (s + 2 ^ t) (s' + 2 ^ t) (nt k) := by
  have h6 := p2_6 hk.1
  have h1 := hk.1
  intro u hu q
  rw [bt1_add s (by omega) t (by omega) hb u (by omega)] at q
  rw [bt1_add s' (by omega) t (by omega) hb' u (by omega)]
  by_cases hut : u = t
  · simp [hut]
  · simp only [hut, decide_false, Bool.false_or] at q ⊢
    exact h u hu q
theorem Cs_mono (hk : WK k) : ∀ m {s s' : Nat}, s < 2 ^ nt k → s' < 2 ^ nt k → nt k - cn s (nt k) = m → sub s s' (nt k) → Cs k lv g m s → Cs k lv g (nt k - cn s' (nt k)) s' := by
  have h6 := p2_6 hk.1
  have h1 := hk.1
  intro m
  induction m with
  | zero =>
    intro s s' hs hs' hm hsub _
    have hcs := cn_le s (nt k)
    have hall := cn_all6 (nt k) (by omega) s (by omega) hs (by omega)
    have : cn s' (nt k) = nt k := by
      apply Classical.byContradiction
      intro q
      have hle := cn_le s' (nt k)
      have hx : ∃ u, u < nt k ∧ bt1 s' u = false := by
        apply Classical.byContradiction
        intro q2
        have : ∀ j, j ≤ nt k → cn s' j = j := by
          intro j
          induction j with
          | zero => intro _; rfl
          | succ j ih =>
            intro hj
            have hb : bt1 s' j = true := by
              cases hb : bt1 s' j with
              | true => rfl
              | false => exact absurd ⟨j, by omega, hb⟩ q2
            rw [cn, ih (by omega), if_pos hb]
        exact q (this _ (Nat.le_refl _))
      obtain ⟨u, hu, hb⟩ := hx
      have hb1 : bt1 s u = true := by rw [hall]; exact bt1_full hu
      rw [hsub u hu hb1] at hb
      cases hb
    rw [this, Nat.sub_self]
    exact trivial
  | succ m ih =>
    intro s s' hs hs' hm hsub ⟨t, ht, hb, hA, hC⟩
    have hlt := add_lt6 (nt k) (by omega) s (by omega) t (by omega) hs ht hb
    have hcn := cn_add6 (nt k) (by omega) s (by omega) t (by omega) hs ht hb
    cases hb' : bt1 s' t with
    | true => exact ih hlt hs' (by omega) (sub_add hk hs hs' ht hb hsub hb') hC
    | false =>
      have hlt' := add_lt6 (nt k) (by omega) s' (by omega) t (by omega) hs' ht hb'
      have hcn' := cn_add6 (nt k) (by omega) s' (by omega) t (by omega) hs' ht hb'
      have hnf := cn_not6 (nt k) (by omega) s' (by omega) hs' t (by omega) ht hb'
      have := ih hlt hlt' (by omega) (sub_add2 hk hs hs' ht hb hb' hsub) hC
      rw [show nt k - cn s' (nt k) = (nt k - cn (s' + 2 ^ t) (nt k)) + 1 by omega]
      exact ⟨t, ht, hb', Ao_mono hsub hA, this⟩
theorem Co_full : Co k lv g (2 ^ nt k - 1) := by
  unfold Co
  rw [cn_full (nt k) (Nat.le_refl _), Nat.sub_self]
  exact trivial
/-- one step of it -/
theorem Co_step (hk : WK k) {s : Nat} (hs : s < 2 ^ nt k) (hnf : cn s (nt k) < nt k) : Co k lv g s ↔ ∃ t, t < nt k ∧ bt1 s t = false ∧ Ao k lv g s t ∧ Co k lv g (s + 2 ^ t) := by
  have h6 := p2_6 hk.1
  have h1 := hk.1
  unfold Co
  rw [show nt k - cn s (nt k) = (nt k - cn s (nt k) - 1) + 1 by omega]
  constructor
  · intro ⟨t, ht, hb, hA, hC⟩
    have hcn := cn_add6 (nt k) (by omega) s (by omega) t (by omega) hs ht hb
    refine ⟨t, ht, hb, hA, ?_⟩
    rw [show nt k - cn (s + 2 ^ t) (nt k) = nt k - cn s (nt k) - 1 by omega]
    exact hC
  · intro ⟨t, ht, hb, hA, hC⟩
    have hcn := cn_add6 (nt k) (by omega) s (by omega) t (by omega) hs ht hb
    refine ⟨t, ht, hb, hA, ?_⟩
    rw [show nt k - cn (s + 2 ^ t) (nt k) = nt k - cn s (nt k) - 1 by omega] at hC
    exact hC
theorem sub_self_add {s t : Nat} (hk : WK k) (hs : s < 2 ^ nt k) (ht : t < nt k) (hb : bt1 s t = false) : sub s (s + 2 ^ t) (nt k) := by
  have h6 := p2_6 hk.1
  have h1 := hk.1
  intro u hu q
  rw [bt1_add s (by omega) t (by omega) hb u (by omega), q, Bool.or_true]
theorem Co_any (hk : WK k) {s t : Nat} (hs : s < 2 ^ nt k) (ht : t < nt k) (hb : bt1 s t = false) (hC : Co k lv g s) : Co k lv g (s + 2 ^ t) := by
  have h6 := p2_6 hk.1
  have h1 := hk.1
  exact Cs_mono hk _ hs (add_lt6 (nt k) (by omega) s (by omega) t (by omega) hs ht hb) rfl (sub_self_add hk hs ht hb) hC
/-- what can be finished has its lessons -/
theorem Co_all (hk : WK k) : ∀ m {s : Nat}, s < 2 ^ nt k → nt k - cn s (nt k) = m → Cs k lv g m s → ∀ t, t < nt k → bt1 s t = false → ¬ fvo k lv g t = -1 := by
  have h6 := p2_6 hk.1
  have h1 := hk.1
  intro m
  induction m with
  | zero =>
    intro s hs hm _ t ht hb
    have := cn_not6 (nt k) (by omega) s (by omega) hs t (by omega) ht hb
    omega
  | succ m ih =>
    intro s hs hm ⟨u, hu, hbu, hA, hC⟩ t ht hb
    by_cases htu : t = u
    · rw [htu]; exact hA.2
    · have hlt := add_lt6 (nt k) (by omega) s (by omega) u (by omega) hs hu hbu
      have hcn := cn_add6 (nt k) (by omega) s (by omega) u (by omega) hs hu hbu
      refine ih hlt (by omega) hC t ht ?_
      rw [bt1_add s (by omega) u (by omega) hbu t (by omega), hb]
      simp [htu]
theorem Wo_add (hk : WK k) {s t : Nat} (hs : s < 2 ^ nt k) (ht : t < nt k) (hb : bt1 s t = false) : ∀ m, m ≤ nt k → Wo k lv g s m = Wo k lv g (s + 2 ^ t) m + if t < m then fno k lv g t else 0 := by
  have h6 := p2_6 hk.1
  have h1 := hk.1
  intro m
  induction m with
  | zero => intro _; rw [Wo, Wo, if_neg (by omega)]
  | succ m ih =>
    intro hm
    rw [Wo, Wo, ih (by omega), bt1_add s (by omega) t (by omega) hb m (by omega)]
    by_cases hmt : m = t
    · subst hmt
      rw [if_neg (by omega), if_neg (by rw [hb]; decide), if_pos (by simp), if_pos (by omega)]
    · by_cases htm : t < m
      · simp only [hmt, decide_false, Bool.false_or]
        rw [if_pos htm, if_pos (show t < m + 1 by omega)]
        omega
      · simp only [hmt, decide_false, Bool.false_or]
        rw [if_neg htm, if_neg (show ¬ t < m + 1 by omega)]
        omega
theorem Wo_le (hk : WK k) (hn : np k ≤ 4) (h9 : ∀ p t, p < np k → t < nt k → lv p t ≤ 9) {s : Nat} : ∀ m, m ≤ nt k → Wo k lv g s m ≤ 36 * m := by
  intro m
  induction m with
  | zero => intro _; exact Nat.le_refl _
  | succ m ih =>
    intro hm
    have a := ih (by omega)
    have b := (fno_is (g := g) hk hn (t := m) (fun p hp => h9 p m hp (by omega))).2
    rw [Wo]
    split <;> omega
theorem Wo_full : ∀ m, m ≤ nt k → Wo k lv g (2 ^ nt k - 1) m = 0 := by
  intro m
  induction m with
  | zero => intro _; rfl
  | succ m ih => intro hm; rw [Wo, ih (by omega), if_pos (bt1_full (by omega))]
/-- the greedy choice -/
theorem gpk_is {s t : Nat} (h : Pick (nt k) (fun t => bt1 s t = false ∧ Ao k lv g s t) t) : gpk k lv g s = t := Pick.uniq (Classical.epsilon_spec (p := fun t => Pick (nt k) (fun t => bt1 s t = false ∧ Ao k lv g s t) t) ⟨t, h⟩) h
end
