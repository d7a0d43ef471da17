/-! ===== the reference's states ===== -/
theorem pigeon : ∀ M L (f : Nat → Nat), (∀ i, i < L → f i < M) → (∀ i j, i < L → j < L → f i = f j → i = j) → L ≤ M := by
  intro M
  induction M with
  | zero => intro L f h _; cases L with
    | zero => exact Nat.le_refl _
    | succ L => have := h 0 (by omega); omega
  | succ M ih =>
    intro L f h hi
    by_cases hex : ∃ i, i < L ∧ f i = M
    · obtain ⟨i0, h0, hM⟩ := hex
      have := ih (L - 1) (fun j => if j < i0 then f j else f (j + 1)) (fun i hl => by
        split
        · have a := h i (by omega)
          have b : f i ≠ M := fun q => by have := hi i i0 (by omega) h0 (by omega); omega
          omega
        · have a := h (i + 1) (by omega)
          have b : f (i + 1) ≠ M := fun q => by have := hi (i + 1) i0 (by omega) h0 (by omega); omega
          omega) (fun i j hl hj q => by
        split at q
        · split at q
          · exact hi i j (by omega) (by omega) q
          · have := hi i (j + 1) (by omega) (by omega) q; omega
        · split at q
          · have := hi (i + 1) j (by omega) (by omega) q; omega
          · have := hi (i + 1) (j + 1) (by omega) (by omega) q; omega)
      omega
    · have := ih L f (fun i hl => by
        have a := h i hl
        have b : f i ≠ M := fun q => hex ⟨i, hl, q⟩
        omega) hi
      omega
theorem dg_mcm {mask : Nat} {v : Nat → Nat} : ∀ N, (∀ i, i < N → v i ≤ 9) → ∀ p, p < N → bt1 mask p = true → dg (mcm mask v N) (cn mask N - cn mask (p + 1)) = v p := by
  intro N
  induction N with
  | zero => intro _ p hp; omega
  | succ N ih =>
    intro h9 p hp hm
    have hN := h9 N (by omega)
    by_cases hpN : p = N
    · subst hpN
      rw [mcm, if_pos hm, Nat.sub_self, dg, Nat.pow_zero, Nat.div_one]
      omega
    · have hmono := cn_mono (mask := mask) (show p + 1 ≤ N by omega)
      have := ih (fun i hi => h9 i (by omega)) p (by omega) hm
      rw [mcm, cn]
      by_cases hb : bt1 mask N = true
      · rw [if_pos hb, if_pos hb, show cn mask N + 1 - cn mask (p + 1) = (cn mask N - cn mask (p + 1)) + 1 by omega]
        rw [dg, Nat.pow_succ, Nat.mul_comm _ 10, ← Nat.div_div_eq_div_mul, show (10 * mcm mask v N + v N) / 10 = mcm mask v N by omega]
        exact this
      · rw [if_neg hb, if_neg hb, Nat.add_zero]; exact this
theorem mcm_ssv {mask s N : Nat} {lv : Nat → Nat} (hs : s < 10 ^ cn mask N) : ∀ m, m ≤ N → mcm mask (ssv mask s N lv) m = s / 10 ^ (cn mask N - cn mask m) := by
  intro m
  induction m with
  | zero => intro _; rw [mcm, cn, Nat.sub_zero, Nat.div_eq_of_lt hs]
  | succ m ih =>
    intro hm
    have hmono := cn_mono (mask := mask) (show m + 1 ≤ N from hm)
    have := ih (by omega)
    rw [mcm]
    by_cases hb : bt1 mask m = true
    · have e : cn mask (m + 1) = cn mask m + 1 := by rw [cn, if_pos hb]
      rw [if_pos hb, this, ssv, if_pos hb, dg, show cn mask N - cn mask m = (cn mask N - cn mask (m + 1)) + 1 by omega, Nat.pow_succ, ← Nat.div_div_eq_div_mul]
      omega
    · have e : cn mask (m + 1) = cn mask m := by rw [cn, if_neg hb]; rfl
      rw [if_neg hb, this, e]
def stv (mask N s : Nat) : Nat → Nat := ssv mask s N (fun _ => 0)
theorem stv_le {mask N s p : Nat} : stv mask N s p ≤ 9 := by
  unfold stv ssv; split
  · exact dg_le _ _
  · exact Nat.zero_le _
theorem ssv_stv {mask N s p : Nat} {lv : Nat → Nat} (h : bt1 mask p = true) : ssv mask s N lv p = stv mask N s p := by
  unfold stv ssv; rw [if_pos h, if_pos h]
theorem stv_mcm {mask N p : Nat} {v : Nat → Nat} (h9 : ∀ i, i < N → v i ≤ 9) (hp : p < N) (hm : bt1 mask p = true) : stv mask N (mcm mask v N) p = v p := by
  unfold stv ssv; rw [if_pos hm, dg_mcm N h9 p hp hm]
theorem mcm_stv {mask N s : Nat} (hs : s < 10 ^ cn mask N) : mcm mask (stv mask N s) N = s := by
  have := mcm_ssv (lv := fun _ => 0) hs N (Nat.le_refl _)
  rw [Nat.sub_self, Nat.pow_zero, Nat.div_one] at this
  exact this
def nxm (N mask : Nat) (top qk bl : Nat → Nat) (g : Bool) (s p : Nat) : Nat := mcm mask (lkv N (bt1 mask) top qk bl g (stv mask N s) p) N
def Pm (N mask : Nat) (top qk bl : Nat → Nat) (g : Bool) (m s : Nat) : Prop := RR N (bt1 mask) top qk bl g m (stv mask N s)
section
variable {N mask : Nat} {top qk bl pr : Nat → Nat} {g : Bool} {sd : Nat}
theorem nxm_lt {s p : Nat} (ht : ∀ i, i < N → top i ≤ 9) : nxm N mask top qk bl g s p < 10 ^ cn mask N := mcm_lt N (fun i hi => lkv_le stv_le (ht i hi))
theorem Pm_nx {m s p : Nat} (ht : ∀ i, i < N → top i ≤ 9) : Pm N mask top qk bl g m (nxm N mask top qk bl g s p) ↔ RR N (bt1 mask) top qk bl g m (lkv N (bt1 mask) top qk bl g (stv mask N s) p) := RR_congr m (fun i hi hm => stv_mcm (fun i hi => lkv_le stv_le (ht i hi)) hi hm)
theorem Pm_succ {m s : Nat} (ht : ∀ i, i < N → top i ≤ 9) : Pm N mask top qk bl g (m + 1) s ↔ ∃ p, p < N ∧ bt1 mask p = true ∧ Pm N mask top qk bl g m (nxm N mask top qk bl g s p) := by
  constructor
  · intro ⟨p, a, b, c⟩; exact ⟨p, a, b, (Pm_nx ht).mpr c⟩
  · intro ⟨p, a, b, c⟩; exact ⟨p, a, b, (Pm_nx ht).mp c⟩
theorem Pm_zero {s : Nat} (hs : s < 10 ^ cn mask N) : Pm N mask top qk bl g 0 s ↔ s = 10 ^ cn mask N - 1 := by
  rw [← nines_dg (cn mask N) s hs]
  constructor
  · intro q i hi
    obtain ⟨a, b, c⟩ := nth_is (mask := mask) N (cn mask N - 1 - i) (by omega)
    have := q _ a b
    unfold stv ssv at this
    rw [if_pos b] at this
    have e : cn mask (nth mask N (cn mask N - 1 - i) + 1) = cn mask N - i := by rw [cn, if_pos b, c]; omega
    rw [e, show cn mask N - (cn mask N - i) = i by omega] at this
    exact this
  · intro q p hp hm
    unfold stv ssv
    rw [if_pos hm]
    have h1 := cn_lt hp hm
    have h2 : cn mask (p + 1) = cn mask p + 1 := by rw [cn, if_pos hm]
    exact q _ (by omega)
theorem next_eq {S : St} {lv : Nat → Nat} (hB : Mn S N lv top qk bl pr sd) (hm : mask < 2147483648) {s p : Nat} (hs : s < 2147483648) (hp : p < N) (hmp : bt1 mask p = true) : ∃ S', fX7_next (nI mask) (bI g) (nI s) (nI p) S = some (nI (nxm N mask top qk bl g s p), S') ∧ ∃ lv', Mn S' N lv' top qk bl pr sd := by
  obtain ⟨S1, e1, hB1⟩ := setState_eq hB hm hs
  obtain ⟨S2, e2, hB2⟩ := teach_eq hB1 (g := g) (dw := false) hp hm
  rw [lesSd_f] at hB2
  refine ⟨S2, ?_, _, hB2⟩
  have e : mcm mask (lesLv N (bt1 mask) (ssv mask s N lv) top qk bl pr g p false sd) N = nxm N mask top qk bl g s p := mcm_congr N (fun i hi hmi => by
    rw [les_lkv hp hi]
    exact lkv_congr (v := ssv mask s N lv) (v' := stv mask N s) (fun j _ hj => ssv_stv hj) hp hmp hi hmi)
  rw [fX7_next, e1, bd_s, show (0 : Int32) = bI false from rfl, e2, bd_s, stateNow_eq hB2 hm, bd_s, e]
theorem bit_val : ∀ m, m < 64 → ∀ k, k < 6 → ((nI m >>> (nI k &&& 31)) &&& 1) = nI (if bt1 m k = true then 1 else 0) := by
  intro m hm k hk
  rw [bit_eq (by omega) (by omega)]
  unfold bt1
  by_cases h : m / 2 ^ k % 2 = 1
  · simp [h]
  · have : m / 2 ^ k % 2 = 0 := by omega
    simp [this]
theorem bits_eq {S : St} (hm : mask < 64) : fX7_bits (nI mask) S = some (nI (cn mask 6), S) :=
  loopFU (fun fu (x : Int32 × Int32 × St) => FX7_bits_4 fu (nI mask) x.1 x.2.1 x.2.2) (fun j x => x = (nI (cn mask j), nI j, S)) (fun r => r = some (nI (cn mask 6), S)) 6 (FU_lt (by omega))
    (by
      intro j fu x hj e
      subst e
      refine Or.inl ⟨(nI (cn mask (j + 1)), nI (j + 1), S), ?_, rfl⟩
      dsimp only
      rw [FX7_bits_4, if_neg (by rw [li_6, leI (by omega) (by omega)]; omega), bit_val mask hm j hj, cn]
      simp only [nI_1, nI_add])
    (by
      intro fu x e
      subst e
      dsimp only
      rw [FX7_bits_4, if_pos (by decide)])
    (nI 0, nI 0, S) rfl
theorem cn_big (hN : N ≤ 6) (hm : mask < 2 ^ N) : cn mask 6 = cn mask N := by
  have : ∀ j, cn mask (N + j) = cn mask N := by
    intro j
    induction j with
    | zero => rfl
    | succ j ih => rw [show N + (j + 1) = (N + j) + 1 by omega, cn, bt1_big hm (by omega), ih]; simp
  have := this (6 - N)
  rwa [show N + (6 - N) = 6 by omega] at this
theorem goal_eq {S : St} (hm : mask < 64) : fX7_goal (nI mask) S = some (nI (10 ^ cn mask 6 - 1), S) := by
  have h6 := cn_le mask 6
  exact loopFU (fun fu (x : Int32 × Int32 × St) => FX7_goal_4 fu (nI mask) x.1 x.2.1 x.2.2) (fun j x => x = (nI (10 ^ j - 1), nI j, S)) (fun r => r = some (nI (10 ^ cn mask 6 - 1), S)) (cn mask 6) (FU_lt (by omega))
    (by
      intro j fu x hj e
      subst e
      refine Or.inl ⟨(nI (10 ^ (j + 1) - 1), nI (j + 1), S), ?_, rfl⟩
      have hp := Nat.pow_pos (n := j) (show 0 < 10 by decide)
      dsimp only
      rw [FX7_goal_4, bits_eq hm, bd_s, if_neg (by rw [leI (by omega) (by omega)]; omega), li_10, pk_mul, li_9, nI_add, show 10 * (10 ^ j - 1) + 9 = 10 ^ (j + 1) - 1 by rw [Nat.pow_succ]; omega]
      simp only [nI_1])
    (by
      intro fu x e
      subst e
      dsimp only
      rw [FX7_goal_4, bits_eq hm, bd_s, if_pos (Int32.le_refl _)])
    (nI 0, nI 0, S) rfl
end
