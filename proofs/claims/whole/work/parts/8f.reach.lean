/-! ===== from where likely lessons lead there, in how many ===== -/
def RR (n : Nat) (mk : Nat → Bool) (top qk bl : Nat → Nat) (g : Bool) : Nat → (Nat → Nat) → Prop
  | 0, v => ∀ i, i < n → mk i = true → v i = 9
  | k + 1, v => ∃ one, one < n ∧ mk one = true ∧ RR n mk top qk bl g k (lkv n mk top qk bl g v one)
/-- the least of which P holds, 36 at most; -1 -/
def Least (P : Nat → Prop) (x : Int32) : Prop := (x = -1 ∧ ∀ k, ¬ P k) ∨ ∃ k, k ≤ 36 ∧ x = nI k ∧ P k ∧ ∀ j, j < k → ¬ P j
theorem Least.uniq {P : Nat → Prop} {x y : Int32} (hx : Least P x) (hy : Least P y) : x = y := by
  rcases hx with ⟨rfl, h⟩ | ⟨k, _, rfl, h1, h2⟩
  · rcases hy with ⟨rfl, _⟩ | ⟨k, _, rfl, h1, _⟩
    · rfl
    · exact absurd h1 (h k)
  · rcases hy with ⟨rfl, h⟩ | ⟨k', _, rfl, h3, h4⟩
    · exact absurd h1 (h k)
    · have : k = k' := by
        rcases Nat.lt_trichotomy k k' with q | q | q
        · exact absurd h1 (h4 k q)
        · exact q
        · exact absurd h3 (h2 k' q)
      rw [this]
theorem Least.iff {P Q : Nat → Prop} {x : Int32} (h : ∀ k, P k ↔ Q k) (hx : Least P x) : Least Q x := by
  rcases hx with ⟨rfl, h1⟩ | ⟨k, hk, rfl, h1, h2⟩
  · exact Or.inl ⟨rfl, fun k q => h1 k ((h k).mpr q)⟩
  · exact Or.inr ⟨k, hk, rfl, (h k).mp h1, fun j hj q => h2 j hj ((h j).mpr q)⟩
theorem Least.ne2 {P : Nat → Prop} {x : Int32} (hx : Least P x) : ¬ x = -2 := by
  rcases hx with ⟨rfl, _⟩ | ⟨k, hk, rfl, _, _⟩
  · decide
  · intro q
    have h0 : (0 : Int32) ≤ nI k := nI_pos' (by omega)
    rw [q] at h0
    exact absurd h0 (by decide)
theorem nI_nm1 {k : Nat} (h : k < 2147483648) : ¬ nI k = -1 := by
  intro q
  have h0 : (0 : Int32) ≤ nI k := nI_pos' h
  rw [q] at h0
  exact absurd h0 (by decide)
/-- equal least ones, where each of the one has one of the other not above it -/
theorem Least.mix {P Q : Nat → Prop} {x : Int32} (h1 : ∀ k, P k → Q k) (h2 : ∀ k, Q k → ∃ j, j ≤ k ∧ P j) (hx : Least P x) : Least Q x := by
  rcases hx with ⟨rfl, h⟩ | ⟨k, hk, rfl, h3, h4⟩
  · exact Or.inl ⟨rfl, fun k q => by obtain ⟨j, _, hj⟩ := h2 k q; exact h j hj⟩
  · exact Or.inr ⟨k, hk, rfl, h1 k h3, fun j hj q => by obtain ⟨i, hi, hp⟩ := h2 j q; exact h4 i (by omega) hp⟩
/-- one way more -/
theorem Least.more {P Q : Nat → Prop} {b r : Int32} (hb : Least P b) (hr : Least Q r) (h36 : ∀ m, Q m → (∀ j, j < m → ¬ Q j) → m + 1 ≤ 36) :
    Least (fun k => P k ∨ ∃ m, k = m + 1 ∧ Q m) (if r = -1 then b else if b = -1 then r + 1 else if b ≤ r + 1 then b else r + 1) := by
  rcases hr with ⟨rfl, h⟩ | ⟨m, hm, rfl, h1, h2⟩
  · rw [if_pos rfl]
    exact hb.iff (fun k => ⟨Or.inl, fun q => q.elim id (fun ⟨m, _, q⟩ => absurd q (h m))⟩)
  · have hm36 := h36 m h1 h2
    rw [if_neg (nI_nm1 (by omega)), nI_1]
    rcases hb with ⟨rfl, h⟩ | ⟨k, hk, rfl, h3, h4⟩
    · rw [if_pos rfl]
      refine Or.inr ⟨m + 1, hm36, rfl, Or.inr ⟨m, rfl, h1⟩, fun j hj q => ?_⟩
      rcases q with q | ⟨m', rfl, q⟩
      · exact h j q
      · exact h2 m' (by omega) q
    · rw [if_neg (nI_nm1 (by omega))]
      by_cases hkm : k ≤ m + 1
      · rw [if_pos (by rw [leI (by omega) (by omega)]; exact hkm)]
        refine Or.inr ⟨k, hk, rfl, Or.inl h3, fun j hj q => ?_⟩
        rcases q with q | ⟨m', rfl, q⟩
        · exact h4 j hj q
        · exact h2 m' (by omega) q
      · rw [if_neg (by rw [leI (by omega) (by omega)]; exact hkm)]
        refine Or.inr ⟨m + 1, hm36, rfl, Or.inr ⟨m, rfl, h1⟩, fun j hj q => ?_⟩
        rcases q with q | ⟨m', rfl, q⟩
        · exact h4 j (by omega) q
        · exact h2 m' (by omega) q
section
variable {n : Nat} {mk : Nat → Bool} {top qk bl : Nat → Nat} {g : Bool} {v v' : Nat → Nat} {one : Nat}
theorem RR_congr : ∀ k {v v' : Nat → Nat}, (∀ i, i < n → mk i = true → v i = v' i) → (RR n mk top qk bl g k v ↔ RR n mk top qk bl g k v') := by
  intro k
  induction k with
  | zero => intro v v' h; exact ⟨fun q i a b => by rw [← h i a b]; exact q i a b, fun q i a b => by rw [h i a b]; exact q i a b⟩
  | succ k ih =>
    intro v v' h
    constructor
    · intro ⟨one, a, b, q⟩
      exact ⟨one, a, b, (ih (fun i hi hm => lkv_congr h a b hi hm)).mp q⟩
    · intro ⟨one, a, b, q⟩
      exact ⟨one, a, b, (ih (fun i hi hm => lkv_congr h a b hi hm)).mpr q⟩
theorem RR_bad : ∀ k {v : Nat → Nat}, ¬ gdB n mk v g = true → (one < n ∧ mk one = true) → ¬ RR n mk top qk bl g k v := by
  intro k
  induction k with
  | zero =>
    intro v hg ho q
    apply hg
    unfold gdB
    simp only [Bool.or_eq_true, decide_eq_true_eq]
    exact Or.inr ⟨one, ho.1, ho.2, by rw [q one ho.1 ho.2]; decide⟩
  | succ k ih =>
    intro v hg ho ⟨p, a, b, q⟩
    exact ih (gdB_bad hg (fun i _ _ => lkv_bad hg a b i)) ho q
/-- who is barred never comes there -/
theorem RR_bar {i : Nat} (hi : i < n) (hm : mk i = true) (ht : top i < 9) : ∀ k {v : Nat → Nat}, v i < 9 → ¬ RR n mk top qk bl g k v := by
  intro k
  induction k with
  | zero => intro v h q; have := q i hi hm; omega
  | succ k ih =>
    intro v h ⟨p, a, b, q⟩
    refine ih ?_ q
    have hr : ∀ b, ri (v i) (top i) b < 9 := fun b => by unfold ri; split <;> (try split) <;> omega
    unfold lkv
    split
    · split
      · exact hr _
      · exact h
    · split
      · split
        · exact hr _
        · split
          · exact hr _
          · exact h
      · split <;> omega
/-- tops matter only to those below 9 -/
theorem lkv_tops {top' : Nat → Nat} {i : Nat} (h1 : top i ≤ 9) (h2 : top' i ≤ 9) (h : v i = 9 ∨ top i = top' i) : lkv n mk top qk bl g v one i = lkv n mk top' qk bl g v one i := by
  rcases h with h | h
  · rw [lkv_9 h h1, lkv_9 h h2]
  · unfold lkv; rw [h]
theorem RR_tops {top' : Nat → Nat} (h1 : ∀ i, i < n → top i ≤ 9) (h2 : ∀ i, i < n → top' i ≤ 9) : ∀ k {v : Nat → Nat}, (∀ i, i < n → mk i = true → v i = 9 ∨ top i = top' i) → (RR n mk top qk bl g k v ↔ RR n mk top' qk bl g k v) := by
  intro k
  induction k with
  | zero => intro v _; exact Iff.rfl
  | succ k ih =>
    intro v h
    have step : ∀ p, (RR n mk top qk bl g k (lkv n mk top qk bl g v p) ↔ RR n mk top' qk bl g k (lkv n mk top' qk bl g v p)) := by
      intro p
      rw [ih (v := lkv n mk top qk bl g v p) (fun i hi hm => (h i hi hm).elim (fun q => Or.inl (lkv_9 q (h1 i hi))) Or.inr)]
      exact RR_congr k (fun i hi hm => lkv_tops (h1 i hi) (h2 i hi) (h i hi hm))
    exact ⟨fun ⟨p, a, b, q⟩ => ⟨p, a, b, (step p).mp q⟩, fun ⟨p, a, b, q⟩ => ⟨p, a, b, (step p).mpr q⟩⟩
end
/-! all sit: how far it is at most -/
theorem slv_mono {v v' : Nat → Nat} : ∀ n, (∀ i, i < n → v i ≤ v' i) → slv v n ≤ slv v' n := by
  intro n
  induction n with
  | zero => intro _; exact Nat.le_refl _
  | succ n ih => intro h; have := ih (fun i hi => h i (by omega)); have := h n (by omega); rw [slv, slv]; omega
theorem slv_lt {v v' : Nat → Nat} : ∀ n, (∀ i, i < n → v i ≤ v' i) → (∃ i, i < n ∧ v i ≠ v' i) → slv v n < slv v' n := by
  intro n
  induction n with
  | zero => intro _ ⟨i, hi, _⟩; omega
  | succ n ih =>
    intro h ⟨i, hi, hne⟩
    have h1 := slv_mono n (fun i hi => h i (by omega)) (v := v) (v' := v')
    have h2 := h n (by omega)
    rw [slv, slv]
    by_cases hin : i = n
    · subst hin; omega
    · have := ih (fun i hi => h i (by omega)) ⟨i, by omega, hne⟩
      omega
theorem slv_congr {v v' : Nat → Nat} : ∀ n, (∀ i, i < n → v i = v' i) → slv v n = slv v' n := by
  intro n
  induction n with
  | zero => intro _; rfl
  | succ n ih => intro h; rw [slv, slv, ih (fun i hi => h i (by omega)), h n (by omega)]
section
variable {n : Nat} {top qk bl : Nat → Nat} {g : Bool}
theorem ne_ex {v v' : Nat → Nat} (h : ¬ ∀ i, i < n → v i = v' i) : ∃ i, i < n ∧ v i ≠ v' i := by
  apply Classical.byContradiction
  intro q
  exact h (fun i hi => Classical.byContradiction fun q2 => q ⟨i, hi, q2⟩)
theorem RR_far (ht : ∀ i, i < n → top i ≤ 9) : ∀ k {v : Nat → Nat}, (∀ i, i < n → v i ≤ 9) → RR n (fun _ => true) top qk bl g k v → (∀ j, j < k → ¬ RR n (fun _ => true) top qk bl g j v) → k + slv v n ≤ 9 * n := by
  intro k
  induction k with
  | zero => intro v h9 _ _; have := slv_le n h9; omega
  | succ k ih =>
    intro v h9 ⟨one, a, b, q⟩ hmin
    have hmin' : ∀ j, j < k → ¬ RR n (fun _ => true) top qk bl g j (lkv n (fun _ => true) top qk bl g v one) := fun j hj r => hmin (j + 1) (by omega) ⟨one, a, b, r⟩
    have h9' : ∀ i, i < n → lkv n (fun _ => true) top qk bl g v one i ≤ 9 := fun i hi => lkv_le (h9 i hi) (ht i hi)
    have hk := ih h9' q hmin'
    have hg : gdB n (fun _ => true) v g = true := Classical.byContradiction fun hg => RR_bad (one := one) (k + 1) hg ⟨a, b⟩ ⟨one, a, b, q⟩
    have hne : ¬ ∀ i, i < n → v i = lkv n (fun _ => true) top qk bl g v one i := fun he => hmin k (by omega) ((RR_congr k (fun i hi _ => he i hi)).mpr q)
    have := slv_lt (v' := lkv n (fun _ => true) top qk bl g v one) n (fun i hi => lkv_ge hg i) (ne_ex hne)
    omega
end
/-! a set of pupils, and those who sit -/
section
variable {N mask : Nat} {top qk bl : Nat → Nat} {g : Bool}
theorem nth_inj {i j : Nat} (hi : i < cn mask N) (hj : j < cn mask N) (h : nth mask N i = nth mask N j) : i = j := by
  rw [← (nth_is N i hi).2.2, ← (nth_is N j hj).2.2, h]
theorem gdB_nth {v : Nat → Nat} : gdB N (bt1 mask) v g = gdB (cn mask N) (fun _ => true) (fun i => v (nth mask N i)) g := by
  unfold gdB
  congr 1
  refine decide_eq_decide.mpr ⟨fun ⟨i, a, b, c⟩ => ⟨cn mask i, cn_lt a b, rfl, by dsimp only; rw [nth_cn N i a b]; exact c⟩, fun ⟨i, a, _, c⟩ => ?_⟩
  obtain ⟨q1, q2, _⟩ := nth_is (mask := mask) N i a
  exact ⟨nth mask N i, q1, q2, c⟩
theorem lkv_nth {v : Nat → Nat} {one i : Nat} (ho : one < cn mask N) (hi : i < cn mask N) : lkv N (bt1 mask) top qk bl g v (nth mask N one) (nth mask N i) = lkv (cn mask N) (fun _ => true) (fun i => top (nth mask N i)) (fun i => qk (nth mask N i)) (fun i => bl (nth mask N i)) g (fun i => v (nth mask N i)) one i := by
  obtain ⟨q1, q2, _⟩ := nth_is (mask := mask) N i hi
  have hinj : nth mask N i = nth mask N one ↔ i = one := ⟨nth_inj hi ho, fun q => by rw [q]⟩
  unfold lkv
  rw [gdB_nth, q2]
  simp only [hinj, ne_eq]
theorem RR_nth : ∀ k {v : Nat → Nat}, (RR N (bt1 mask) top qk bl g k v ↔ RR (cn mask N) (fun _ => true) (fun i => top (nth mask N i)) (fun i => qk (nth mask N i)) (fun i => bl (nth mask N i)) g k (fun i => v (nth mask N i))) := by
  intro k
  induction k with
  | zero =>
    intro v
    constructor
    · intro q i hi _
      obtain ⟨q1, q2, _⟩ := nth_is (mask := mask) N i hi
      exact q _ q1 q2
    · intro q i hi hm
      have := q (cn mask i) (cn_lt hi hm) rfl
      dsimp only at this
      rw [nth_cn N i hi hm] at this
      exact this
  | succ k ih =>
    intro v
    constructor
    · intro ⟨p, a, b, q⟩
      refine ⟨cn mask p, cn_lt a b, rfl, ?_⟩
      have hp := nth_cn N p a b
      rw [← hp] at q
      exact (RR_congr k (fun i hi _ => lkv_nth (cn_lt a b) hi)).mp (ih.mp q)
    · intro ⟨one, a, _, q⟩
      obtain ⟨q1, q2, _⟩ := nth_is (mask := mask) N one a
      exact ⟨nth mask N one, q1, q2, ih.mpr ((RR_congr k (fun i hi _ => lkv_nth a hi)).mpr q)⟩
end
