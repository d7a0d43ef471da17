/-! ===== odds: sums, parts, targets ===== -/
def sg (f : Nat → Nat) (a : Nat) : Nat → Nat
  | 0 => 0
  | k + 1 => sg f a k + f (a + k)
theorem sg_congr {f h : Nat → Nat} {a : Nat} : ∀ k, (∀ i, i < k → f (a + i) = h (a + i)) → sg f a k = sg h a k := by
  intro k
  induction k with
  | zero => intro _; rfl
  | succ k ih => intro q; rw [sg, sg, ih (fun i hi => q i (by omega)), q k (by omega)]
theorem sg_zero {a : Nat} : ∀ k, sg (fun _ => 0) a k = 0 := by
  intro k
  induction k with
  | zero => rfl
  | succ k ih => rw [sg, ih]
theorem sg_add {f h : Nat → Nat} {a : Nat} : ∀ k, sg (fun i => f i + h i) a k = sg f a k + sg h a k := by
  intro k
  induction k with
  | zero => rfl
  | succ k ih => rw [sg, sg, sg, ih]; omega
theorem sg_mul {f : Nat → Nat} {a c : Nat} : ∀ k, sg (fun i => f i * c) a k = sg f a k * c := by
  intro k
  induction k with
  | zero => rw [sg, sg, Nat.zero_mul]
  | succ k ih => rw [sg, sg, ih, Nat.add_mul]
theorem sg_swap {f : Nat → Nat → Nat} {a b : Nat} {m : Nat} : ∀ k, sg (fun i => sg (fun j => f i j) b m) a k = sg (fun j => sg (fun i => f i j) a k) b m := by
  intro k
  induction k with
  | zero => rw [sg]; exact (sg_zero m).symm
  | succ k ih =>
    rw [sg, ih, ← sg_add]
    rfl
theorem sg_one {a c : Nat} : ∀ k, sg (fun i => if i = a then c else 0) 0 k = if a < k then c else 0 := by
  intro k
  induction k with
  | zero => rw [sg, if_neg (by omega)]
  | succ k ih =>
    rw [sg, ih, Nat.zero_add]
    by_cases h : a < k
    · rw [if_pos h, if_neg (by omega), if_pos (by omega), Nat.add_zero]
    · rw [if_neg h]
      by_cases h2 : k = a
      · rw [if_pos h2, if_pos (by omega), Nat.zero_add]
      · rw [if_neg h2, if_neg (by omega)]
theorem sg_head {f : Nat → Nat} : ∀ k, sg f 0 (k + 1) = f 0 + sg f 1 k := by
  intro k
  induction k with
  | zero => simp [sg]
  | succ k ih =>
    rw [sg, ih, sg, show (0 : Nat) + (k + 1) = 1 + k by omega]
    omega
/-- from above -/
def sdn (f : Nat → Nat) (N : Nat) : Nat → Nat
  | 0 => 0
  | k + 1 => sdn f N k + f (N - 1 - k)
theorem sdn_succ {f : Nat → Nat} {N : Nat} : ∀ k, k ≤ N → sdn f (N + 1) (k + 1) = f N + sdn f N k := by
  intro k
  induction k with
  | zero => intro _; simp [sdn]
  | succ k ih =>
    intro hk
    rw [sdn, ih (by omega), sdn, show N + 1 - 1 - (k + 1) = N - 1 - k by omega]
    omega
theorem sdn_all {f : Nat → Nat} : ∀ N, sdn f N N = sg f 0 N := by
  intro N
  induction N with
  | zero => rfl
  | succ N ih => rw [sdn_succ N (Nat.le_refl _), ih, sg, Nat.zero_add]; omega
/-- the summands in another order -/
theorem sg_perm {F : Nat → Nat} {σ τ : Nat → Nat} {M : Nat} (h1 : ∀ x, x < M → τ x < M) (h2 : ∀ y, y < M → σ y < M) (h : ∀ x y, x < M → y < M → (σ y = x ↔ y = τ x)) : sg (fun y => F (σ y)) 0 M = sg F 0 M := by
  have a1 : ∀ y, y < M → F (σ y) = sg (fun x => if x = σ y then F (σ y) else 0) 0 M := fun y hy => by rw [sg_one, if_pos (h2 y hy)]
  have a2 : sg (fun y => F (σ y)) 0 M = sg (fun y => sg (fun x => if σ y = x then F x else 0) 0 M) 0 M := by
    refine sg_congr M (fun y hy => ?_)
    rw [Nat.zero_add, a1 y hy]
    refine sg_congr M (fun x hx => ?_)
    rw [Nat.zero_add]
    by_cases q : σ y = x
    · rw [if_pos q.symm, if_pos q, q]
    · rw [if_neg (fun z => q z.symm), if_neg q]
  rw [a2, sg_swap]
  refine sg_congr M (fun x hx => ?_)
  rw [Nat.zero_add]
  have : sg (fun y => if σ y = x then F x else 0) 0 M = sg (fun y => if y = τ x then F x else 0) 0 M := by
    refine sg_congr M (fun y hy => ?_)
    rw [Nat.zero_add]
    by_cases q : σ y = x
    · rw [if_pos q, if_pos ((h x y hx hy).mp q)]
    · rw [if_neg q, if_neg (fun z => q ((h x y hx hy).mpr z))]
  rw [this, sg_one, if_pos (h1 x hx)]
theorem sg_le {f : Nat → Nat} {i : Nat} : ∀ k, i < k → f i ≤ sg f 0 k := by
  intro k
  induction k with
  | zero => intro h; omega
  | succ k ih =>
    intro h
    rw [sg, Nat.zero_add]
    by_cases hik : i = k
    · subst hik; omega
    · have := ih (by omega); omega
/-! parts -/
/-- the part m of what is parted by k chances -/
def vl (ch : Nat → Nat) (by' : Nat) : Nat → Nat → Nat
  | 0, _ => by'
  | k + 1, m => if bt1 m k = true then vl ch by' k m * ch k / 100 else vl ch by' k m - vl ch by' k m * ch k / 100
theorem vl_le {ch : Nat → Nat} {b m : Nat} (hc : ∀ k, ch k ≤ 100) : ∀ k, vl ch b k m ≤ b := by
  intro k
  induction k with
  | zero => exact Nat.le_refl _
  | succ k ih =>
    rw [vl]
    split
    · have : vl ch b k m * ch k / 100 ≤ vl ch b k m := by
        rw [Nat.div_le_iff_le_mul_add_pred (by decide)]
        have := Nat.mul_le_mul_left (vl ch b k m) (hc k)
        omega
      omega
    · omega
theorem vl_bits {ch : Nat → Nat} {b m m' : Nat} : ∀ k, (∀ i, i < k → bt1 m i = bt1 m' i) → vl ch b k m = vl ch b k m' := by
  intro k
  induction k with
  | zero => intro _; rfl
  | succ k ih => intro h; rw [vl, vl, ih (fun i hi => h i (by omega)), h k (by omega)]
theorem vl_ch {ch ch' : Nat → Nat} {b m : Nat} : ∀ k, (∀ i, i < k → ch i = ch' i) → vl ch b k m = vl ch' b k m := by
  intro k
  induction k with
  | zero => intro _; rfl
  | succ k ih => intro h; rw [vl, vl, ih (fun i hi => h i (by omega)), h k (by omega)]
theorem bt1_low {m k i : Nat} (hi : i < k) : bt1 (2 ^ k + m) i = bt1 m i := by
  unfold bt1
  have e : 2 ^ k = 2 ^ i * (2 * 2 ^ (k - i - 1)) := by
    rw [← Nat.mul_assoc, ← Nat.pow_succ, ← Nat.pow_add]
    congr 1; omega
  rw [e, Nat.mul_add_div (Nat.pow_pos (by decide)), Nat.add_comm]
  congr 1
  rw [Nat.add_mul_mod_self_left]
theorem bt1_hi {m k : Nat} (hm : m < 2 ^ k) : bt1 (2 ^ k + m) k = true := by
  unfold bt1
  have hp := Nat.pow_pos (n := k) (show 0 < 2 by decide)
  have e : (2 ^ k + m) / 2 ^ k = 1 := by
    rw [Nat.add_div_left _ hp, Nat.div_eq_of_lt hm]
  rw [e]; rfl
/-- all parts together are the whole -/
theorem vl_sum {ch : Nat → Nat} {b : Nat} (hc : ∀ k, ch k ≤ 100) : ∀ k, sg (vl ch b k) 0 (2 ^ k) = b := by
  have sg_split : ∀ (f : Nat → Nat) (a c : Nat), sg f 0 (a + c) = sg f 0 a + sg (fun i => f (a + i)) 0 c := by
    intro f a c
    induction c with
    | zero => rfl
    | succ c ih => rw [← Nat.add_assoc, sg, ih, sg, Nat.zero_add, Nat.zero_add]; omega
  intro k
  induction k with
  | zero => simp [sg, vl]
  | succ k ih =>
    rw [Nat.pow_succ, Nat.mul_two, sg_split, ← sg_add]
    refine Eq.trans (sg_congr (h := vl ch b k) (2 ^ k) (fun i hi => ?_)) ih
    rw [Nat.zero_add, vl, vl, if_neg (by rw [bt1_big hi (Nat.le_refl _)]; decide), if_pos (bt1_hi hi), vl_bits (m := 2 ^ k + i) (m' := i) k (fun j hj => bt1_low hj)]
    have : vl ch b k i * ch k / 100 ≤ vl ch b k i := by
      rw [Nat.div_le_iff_le_mul_add_pred (by decide)]
      have := Nat.mul_le_mul_left (vl ch b k i) (hc k)
      omega
    omega
/-- a predicate as a set -/
def pm (pd : Nat → Bool) : Nat → Nat
  | 0 => 0
  | n + 1 => pm pd n + if pd n = true then 2 ^ n else 0
theorem pm_lt {pd : Nat → Bool} : ∀ n, pm pd n < 2 ^ n := by
  intro n
  induction n with
  | zero => exact Nat.one_pos
  | succ n ih => rw [pm, Nat.pow_succ]; split <;> omega
theorem pm_bt {pd : Nat → Bool} : ∀ n i, i < n → bt1 (pm pd n) i = pd i := by
  intro n
  induction n with
  | zero => intro i hi; omega
  | succ n ih =>
    intro i hi
    rw [pm]
    have hl := pm_lt (pd := pd) n
    by_cases hin : i = n
    · subst hin
      cases hp : pd i with
      | true => rw [if_pos rfl, Nat.add_comm]; exact bt1_hi hl
      | false => rw [if_neg (by decide), Nat.add_zero]; exact bt1_big hl (Nat.le_refl _)
    · split
      · rw [Nat.add_comm, bt1_low (by omega)]; exact ih i (by omega)
      · exact ih i (by omega)
/-! codes -/
theorem hc_fup {v : Nat → Nat} {i w : Nat} : ∀ m k, k ≤ i → i < k + m → v i ≤ w → hc (fup v i w) m k = hc v m k + (w - v i) * 10 ^ (i - k) := by
  intro m
  induction m with
  | zero => intro k _ _; omega
  | succ m ih =>
    intro k h1 h2 h3
    rw [hc, hc]
    by_cases hik : i = k
    · subst hik
      rw [fup_s, hc_congr m (i + 1) (lv' := v) (fun j a _ => fup_n (by omega)), Nat.sub_self, Nat.pow_zero]
      omega
    · rw [fup_n (by omega), ih (k + 1) (by omega) (by omega) h3, show i - k = (i - (k + 1)) + 1 by omega, Nat.pow_succ, ← Nat.mul_assoc]
      omega
theorem hc_up {v : Nat → Nat} {n i w : Nat} (hi : i < n) (h : v i ≤ w) : hc (fup v i w) n 0 = hc v n 0 + (w - v i) * 10 ^ i := by
  have := hc_fup n 0 (Nat.zero_le i) (by omega) h
  rwa [Nat.sub_zero] at this
theorem hc_dn {v : Nat → Nat} {n i w : Nat} (hi : i < n) (h : w ≤ v i) : hc (fup v i w) n 0 + (v i - w) * 10 ^ i = hc v n 0 := by
  have := hc_up (v := fup v i w) (w := v i) (n := n) (i := i) hi (by rw [fup_s]; exact h)
  rw [fup_s] at this
  rw [← this]
  refine hc_congr n 0 (fun j _ _ => ?_)
  by_cases hj : j = i
  · subst hj; rw [fup_s]
  · rw [fup_n hj, fup_n hj]
theorem hc_inj {v w : Nat → Nat} {n : Nat} (h1 : ∀ i, i < n → v i ≤ 9) (h2 : ∀ i, i < n → w i ≤ 9) (h : hc v n 0 = hc w n 0) : ∀ i, i < n → v i = w i := by
  intro i hi
  have a := dg_hc (lv := v) n 0 i (fun j _ hj => h1 j (by omega)) hi
  have b := dg_hc (lv := w) n 0 i (fun j _ hj => h2 j (by omega)) hi
  rw [h, b, Nat.zero_add] at a
  exact a.symm
