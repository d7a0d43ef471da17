/-! ===== numbers and signs of the text ===== -/
/-- what the first k figures say -/
def nv (T : Nat → Nat) (s : Nat) : Nat → Nat
  | 0 => 0
  | k + 1 => nv T s k * 10 + (T (s + k) - 48)
abbrev numIs (L : Nat) (T : Nat → Nat) (lo hi : Int32) (s : Nat) : Prop := kd L T s = 2 ∧ te L T s - s ≤ 3 ∧ lo ≤ nI (nv T s (te L T s - s)) ∧ nI (nv T s (te L T s - s)) ≤ hi
def nerr (L : Nat) (T : Nat → Nat) (s : Nat) : Nat := if kd L T s = 2 then 2 else 1
section
variable {L : Nat} {T : Nat → Nat} {S : St}
theorem kd_lt {i : Nat} (h : ¬ kd L T i = 0) : i < L := Nat.lt_of_not_le (fun z => h (kd_0.mpr z))
theorem kd_2 {i : Nat} : kd L T i = 2 ↔ i < L ∧ 48 ≤ T i ∧ T i ≤ 57 := by
  unfold kd
  by_cases h : i < L
  · rw [if_pos h]
    by_cases a : 97 ≤ T i ∧ T i ≤ 122
    · rw [if_pos a]; omega
    · rw [if_neg a]
      by_cases b : 48 ≤ T i ∧ T i ≤ 57
      · rw [if_pos b]; omega
      · rw [if_neg b]; omega
  · rw [if_neg h]; omega
theorem kd_1 {i : Nat} : kd L T i = 1 ↔ i < L ∧ 97 ≤ T i ∧ T i ≤ 122 := by
  unfold kd
  by_cases h : i < L
  · rw [if_pos h]
    by_cases a : 97 ≤ T i ∧ T i ≤ 122
    · rw [if_pos a]; omega
    · rw [if_neg a]
      by_cases b : 48 ≤ T i ∧ T i ≤ 57
      · rw [if_pos b]; omega
      · rw [if_neg b]; omega
  · rw [if_neg h]; omega
theorem te_run {s k : Nat} (hk : kd L T s = k) (h1 : k = 1 ∨ k = 2) : te L T s = rne L T k s := by
  unfold te
  rw [hk, if_neg (by omega), if_neg (by omega)]
theorem te_in {s k j : Nat} (hs : s ≤ L) (hk : kd L T s = k) (h1 : k = 1 ∨ k = 2) (a : s ≤ j) (b : j < te L T s) : kd L T j = k := by
  rw [te_run hk h1] at b
  exact (rne_spec (L - s) s (by omega)).2.2 j a b
/-- where a run ends, the kind is another -/
theorem rne_end {k : Nat} : ∀ n i, i + n = L → ¬ k = 0 → ¬ kd L T (rne L T k i) = k := by
  intro n
  induction n with
  | zero => intro i h h0; rw [rne_stop (by omega)]; have := (kd_0 (L := L) (T := T) (i := i)).mpr (by omega); omega
  | succ n ih =>
    intro i h h0
    by_cases q : kd L T i = k
    · rw [← rne_step (by omega) q]; exact ih (i + 1) (by omega) h0
    · rw [rne_stop (fun z => q z.2)]; exact q
theorem te_end {s k : Nat} (hs : s ≤ L) (hk : kd L T s = k) (h1 : k = 1 ∨ k = 2) : ¬ kd L T (te L T s) = k := by
  rw [te_run hk h1]
  exact rne_end (L - s) s (by omega) (by omega)
theorem nv_le {s : Nat} : ∀ k, (∀ j, s ≤ j → j < s + k → T j ≤ 57) → nv T s k < 10 ^ k := by
  intro k
  induction k with
  | zero => intro _; show 0 < 1; decide
  | succ k ih =>
    intro h
    have a := ih (fun j x y => h j x (by omega))
    have b := h (s + k) (by omega) (by omega)
    rw [nv, Nat.pow_succ]
    omega
theorem p10s {k : Nat} (h : k ≤ 3) : 10 ^ k ≤ 1000 := p10_3 h
theorem refuse_c {a b : Int32} (h : gN S 1 3 = 0) : fX2_refuse a b S = some ((), sN (sN S 1 3 a) 1 2 b) := by
  rw [fX2_refuse, h, if_pos rfl]
/-- a number: the class -/
theorem num78_c {lo hi : Int32} {s : Nat} (ho : okT L T) (hs : s ≤ L) (h : TxC S L T) (ht : Tok S L T s) (h3 : gN S 1 3 = 0) (hk : kd L T s = 2) {m : Nat} (hm : te L T s - s ≤ 3 → m = nv T s (te L T s - s)) :
    (numIs L T lo hi s → ∃ S', FX2_takeNumber_78 lo hi (nI m) S = some (nI (nv T s (te L T s - s)), S') ∧ gN S' 1 3 = 0 ∧ Tok S' L T (sk L T (te L T s)) ∧ gN S' 1 2 = gN S 1 2) ∧ (¬ numIs L T lo hi s → ∃ S', FX2_takeNumber_78 lo hi (nI m) S = some (0, S') ∧ gN S' 1 3 = nI (nerr L T s) ∧ gN S' 1 2 = nI s) := by
  have h4 := ho.1
  obtain ⟨e1, e2⟩ := te_le (T := T) hs
  have hr : FX2_takeNumber_101 S = some (0, sN (sN S 1 3 2) 1 2 (nI s)) := by rw [FX2_takeNumber_101, ht.1, refuse_c h3, bd_s]
  have fin : ∃ S', FX2_takeNumber_101 S = some (0, S') ∧ gN S' 1 3 = nI (nerr L T s) ∧ gN S' 1 2 = nI s := ⟨_, hr, by rw [gN_sN_j (by decide), gN_sN_s]; unfold nerr; rw [if_pos hk]; rfl, gN_sN_s⟩
  have e0 : FX2_takeNumber_78 lo hi (nI m) S = if 3 < te L T s - s then FX2_takeNumber_101 S else if nI m < lo then FX2_takeNumber_101 S else if nI m ≤ hi then bd (fX2_advance S) (fun _ S17 => some (nI m, S17)) else FX2_takeNumber_101 S := by
    rw [FX2_takeNumber_78, ht.1, ht.2.2, subI e1]
    by_cases q : 3 < te L T s - s
    · rw [if_pos (by rw [li_3, ltI (by omega) (by omega)]; exact q), if_pos q]
    · rw [if_neg (by rw [li_3, ltI (by omega) (by omega)]; exact q), if_neg q]
  refine ⟨fun hn => ?_, fun hn => ?_⟩
  · obtain ⟨-, n3, nlo, nhi⟩ := hn
    have em := hm n3
    obtain ⟨S', ea, hT⟩ := advance_c ho e2 h ht.2.2
    refine ⟨S', ?_, ((wX2_advance ea).n 1 3 (by simp) (by simp)).trans h3, hT, (wX2_advance ea).n 1 2 (by simp) (by simp)⟩
    rw [e0, if_neg (by omega), em, if_neg (Int32.not_lt.mpr nlo), if_pos nhi, ea, bd_s]
  · rw [e0]
    by_cases q : 3 < te L T s - s
    · rw [if_pos q]; exact fin
    · rw [if_neg q]
      by_cases a : nI m < lo
      · rw [if_pos a]; exact fin
      · rw [if_neg a]
        by_cases b : nI m ≤ hi
        · exact absurd ⟨hk, by omega, by rw [← hm (by omega)]; exact Int32.not_lt.mp a, by rw [← hm (by omega)]; exact b⟩ hn
        · rw [if_neg b]; exact fin
theorem number_c {lo hi : Int32} {s : Nat} (ho : okT L T) (hs : s ≤ L) (h : TxC S L T) (ht : Tok S L T s) (h3 : gN S 1 3 = 0) :
    (numIs L T lo hi s → ∃ S', fX2_takeNumber lo hi S = some (nI (nv T s (te L T s - s)), S') ∧ gN S' 1 3 = 0 ∧ Tok S' L T (sk L T (te L T s)) ∧ gN S' 1 2 = gN S 1 2) ∧ (¬ numIs L T lo hi s → ∃ S', fX2_takeNumber lo hi S = some (0, S') ∧ gN S' 1 3 = nI (nerr L T s) ∧ gN S' 1 2 = nI s) := by
  have h4 := ho.1
  have k3 := kd_le (L := L) (T := T) (i := s)
  obtain ⟨e1, e2⟩ := te_le (T := T) hs
  by_cases hk : kd L T s = 2
  · have e0 : fX2_takeNumber lo hi S = FX2_takeNumber_36 FU lo hi (nI 0) (nI s) S := by
      rw [fX2_takeNumber, h3, if_pos rfl, ht.2.1, hk, if_pos (by rfl), ht.1]
      rfl
    have run : ∃ m, (te L T s - s ≤ 3 → m = nv T s (te L T s - s)) ∧ FX2_takeNumber_36 FU lo hi (nI 0) (nI s) S = FX2_takeNumber_78 lo hi (nI m) S :=
      loopFU (fun fu (x : Int32 × Int32) => FX2_takeNumber_36 fu lo hi x.1 x.2 S) (fun k x => x = (nI (nv T s k), nI (s + k))) (fun r => ∃ m, (te L T s - s ≤ 3 → m = nv T s (te L T s - s)) ∧ r = FX2_takeNumber_78 lo hi (nI m) S) (if te L T s - s ≤ 3 then te L T s - s else 3) (FU_lt (by split <;> omega))
        (by
          intro k fu x hkn e
          subst e
          have hk3 : k < te L T s - s ∧ k < 3 := by split at hkn <;> omega
          have dg := kd_2.mp (te_in hs hk (Or.inr rfl) (show s ≤ s + k by omega) (by omega))
          refine Or.inl ⟨(nI (nv T s (k + 1)), nI (s + (k + 1))), ?_, rfl⟩
          dsimp only
          rw [FX2_takeNumber_36, ht.2.2, ht.1, if_neg (by rw [leI (by omega) (by omega)]; omega), li_3, nI_add, if_neg (by rw [leI (by omega) (by omega)]; omega), gdI (by omega) (by omega)]
          dsimp only
          rw [clI (by omega), h.2 _ (by omega), by_small (by omega), li_10, pk_mul, nI_add, show (48 : Int32) = nI 48 from rfl, subI (by omega), nI_1, nv, Nat.add_assoc s k 1, show nv T s k * 10 + T (s + k) - 48 = nv T s k * 10 + (T (s + k) - 48) by omega])
        (by
          intro fu x e
          subst e
          refine ⟨nv T s (if te L T s - s ≤ 3 then te L T s - s else 3), fun q => by rw [if_pos q], ?_⟩
          dsimp only
          rw [FX2_takeNumber_36, ht.2.2, ht.1]
          by_cases q : te L T s - s ≤ 3
          · rw [if_pos q, if_pos (by rw [leI (by omega) (by omega)]; omega)]
          · rw [if_neg q, if_neg (by rw [leI (by omega) (by omega)]; omega), li_3, nI_add, if_pos (Int32.le_refl _)])
        (nI 0, nI s) rfl
    obtain ⟨m, hm, e⟩ := run
    rw [e0, e]
    exact num78_c ho hs h ht h3 hk hm
  · refine ⟨fun hn => absurd hn.1 hk, fun _ => ⟨sN (sN S 1 3 1) 1 2 (nI s), ?_, ?_, gN_sN_s⟩⟩
    · rw [fX2_takeNumber, h3, if_pos rfl, ht.2.1, if_neg (by rw [li_2, eqI (by omega) (by omega)]; exact hk), ht.1, refuse_c h3, bd_s]
    · rw [gN_sN_j (by decide), gN_sN_s]; unfold nerr; rw [if_neg hk]; rfl
/-- a number: the reference -/
theorem number_m {lo hi : Int32} {p : Nat} (ho : okT L T) (hp : p ≤ L) (h : TxM S L T) (h10 : gN S 44 10 = nI p) :
    (numIs L T lo hi (sk L T p) → ∃ S', fX7_takeNumber lo hi S = some (0, S') ∧ gN S' 44 13 = nI (nv T (sk L T p) (te L T (sk L T p) - sk L T p)) ∧ gN S' 44 10 = nI (te L T (sk L T p)) ∧ gN S' 44 14 = nI (sk L T p) ∧ gN S' 44 9 = gN S 44 9) ∧ (¬ numIs L T lo hi (sk L T p) → ∃ S', fX7_takeNumber lo hi S = some (nI (nerr L T (sk L T p)), S') ∧ gN S' 44 9 = nI (sk L T p)) := by
  have h4 := ho.1
  obtain ⟨S1, e1, f10⟩ := here_m ho hp h h10
  have u1 := wX7_here e1
  have t1 : TxM S1 L T := ⟨(u1.n _ _ (by simp) (by simp)).trans h.1, fun i hi => (u1.n _ _ (by simp) (by simp)).trans (h.2 i hi)⟩
  have hs := sk_le (T := T) hp
  generalize sk L T p = s at *
  obtain ⟨g1, g2⟩ := te_le (T := T) hs
  have inn : fX7_in ((if s < L then nI (T s) else -1 : Int32).toInt64) 48 57 S1 = some (bI (decide (kd L T s = 2)), S1) := by
    rw [show (48 : Int64) = lN 48 from rfl, show (57 : Int64) = lN 57 from rfl, in_nat (by decide) (by decide)]
    congr 3
    refine decide_eq_decide.mpr ?_
    rw [kd_2]
    by_cases q : s < L
    · have hb := ho.2 s q
      rw [if_pos q, leI (by omega) (by omega), leI (by omega) (by omega)]
      exact ⟨fun z => ⟨q, z⟩, fun z => z.2⟩
    · rw [if_neg q]
      exact ⟨fun z => absurd z.1 (by decide), fun z => absurd z.1 q⟩
  by_cases hk : kd L T s = 2
  · have t129 : ∀ (x : St) (m : Nat), (te L T s - s ≤ 3 → m = nv T s (te L T s - s)) → gN x 44 13 = nI m → gN x 44 10 = nI (te L T s) → gN x 44 14 = nI s → gN x 44 9 = gN S 44 9 → (numIs L T lo hi s → ∃ S', FX7_takeNumber_129 lo hi x = some (0, S') ∧ gN S' 44 13 = nI (nv T s (te L T s - s)) ∧ gN S' 44 10 = nI (te L T s) ∧ gN S' 44 14 = nI s ∧ gN S' 44 9 = gN S 44 9) ∧ (¬ numIs L T lo hi s → ∃ S', FX7_takeNumber_129 lo hi x = some (nI (nerr L T s), S') ∧ gN S' 44 9 = nI s) := by
      intro x m hm x13 x10 x14 x9
      have bad : FX7_takeNumber_157 x = some (nI (nerr L T s), sN x 44 9 (nI s)) := by
        rw [FX7_takeNumber_157, x14, fX7_fails]
        rw [bd_s]; unfold nerr; rw [if_pos hk]; rfl
      rw [FX7_takeNumber_129, x10, x14, subI g1, x13, in_gen]
      by_cases q : 3 < te L T s - s
      · rw [if_pos (by rw [li_3, ltI (by omega) (by omega)]; exact q)]
        exact ⟨fun hn => absurd hn.2.1 (by omega), fun _ => ⟨_, bad, gN_sN_s⟩⟩
      · rw [if_neg (by rw [li_3, ltI (by omega) (by omega)]; exact q), bd_s]
        have em := hm (by omega)
        by_cases a : lo ≤ nI m ∧ nI m ≤ hi
        · rw [decide_eq_true a, if_neg bI_t0]
          exact ⟨fun _ => ⟨x, rfl, by rw [x13, em], x10, x14, x9⟩, fun hn => absurd ⟨hk, by omega, by rw [← em]; exact a.1, by rw [← em]; exact a.2⟩ hn⟩
        · rw [decide_eq_false a, if_pos bI_f0]
          exact ⟨fun hn => absurd ⟨by rw [em]; exact hn.2.2.1, by rw [em]; exact hn.2.2.2⟩ a, fun _ => ⟨_, bad, gN_sN_s⟩⟩
    have e0 : fX7_takeNumber lo hi S = FX7_takeNumber_42 FU lo hi (sN (sN S1 44 14 (nI s)) 44 13 (nI 0)) := by
      rw [fX7_takeNumber, e1, bd_s, inn, bd_s, decide_eq_true hk, if_neg bI_t0, f10]
      rfl
    rw [e0]
    exact loopFU (fun fu (x : St) => FX7_takeNumber_42 fu lo hi x) (fun k x => TxM x L T ∧ gN x 44 10 = nI (s + k) ∧ (gN x 44 14 = nI s ∧ gN x 44 9 = gN S 44 9) ∧ ∃ m, gN x 44 13 = nI m ∧ m ≤ 200000 ∧ (k ≤ 3 → m = nv T s k)) (fun r => (numIs L T lo hi s → ∃ S', r = some (0, S') ∧ gN S' 44 13 = nI (nv T s (te L T s - s)) ∧ gN S' 44 10 = nI (te L T s) ∧ gN S' 44 14 = nI s ∧ gN S' 44 9 = gN S 44 9) ∧ (¬ numIs L T lo hi s → ∃ S', r = some (nI (nerr L T s), S') ∧ gN S' 44 9 = nI s)) (te L T s - s) (FU_lt (by omega))
      (by
        intro k fu x hkn ⟨x0, x10, x14, m, x13, hm, hmk⟩
        have dg := kd_2.mp (te_in hs hk (Or.inr rfl) (show s ≤ s + k by omega) (by omega))
        have hin : fX7_in ((nI (T (s + k)) : Int32).toInt64) 48 57 x = some (bI true, x) := by
          rw [show (48 : Int64) = lN 48 from rfl, show (57 : Int64) = lN 57 from rfl, in_nat (by decide) (by decide), decide_eq_true ⟨by rw [leI (by omega) (by omega)]; omega, by rw [leI (by omega) (by omega)]; omega⟩]
        have hnv : k ≤ 3 → m < 1000 := fun q => by
          rw [hmk q]
          have := nv_le (T := T) (s := s) k (fun j a b => (kd_2.mp (te_in hs hk (Or.inr rfl) a (by omega))).2.2)
          have := p10s q
          omega
        by_cases q : m ≤ 10000
        · refine Or.inl ⟨sN (sN x 44 13 (nI (10 * m + T (s + k) - 48))) 44 10 (nI (s + k + 1)), ?_, TxM_s (by decide) (TxM_s (by decide) x0), gN_sN_s, ?_, 10 * m + T (s + k) - 48, ?_, by omega, ?_⟩
          · rw [FX7_takeNumber_42, x0.1, x10, if_neg (by rw [leI (by omega) (by omega)]; omega)]
            dsimp only
            rw [gdI (by omega) (by omega), clI (by omega), x0.2 _ dg.1, hin, bd_s, if_neg bI_t0, x13, if_pos (by rw [show (10000 : Int32) = nI 10000 from rfl, leI (by omega) (by omega)]; exact q), x10]
            rw [gdI (by omega) (by omega), clI (by omega), x0.2 _ dg.1, li_10, pk_mul, nI_add, show (48 : Int32) = nI 48 from rfl, subI (by omega), FX7_takeNumber_113]
            rw [gN_sN_j (by decide), x10, nI_1]
          · rw [gN_sN_j (by decide), gN_sN_j (by decide), gN_sN_j (by decide), gN_sN_j (by decide)]; exact x14
          · rw [gN_sN_j (by decide), gN_sN_s]
          · intro z
            rw [nv, ← hmk (by omega)]
            omega
        · refine Or.inl ⟨sN (sN x 44 13 (nI m)) 44 10 (nI (s + k + 1)), ?_, TxM_s (by decide) (TxM_s (by decide) x0), gN_sN_s, ?_, m, ?_, hm, ?_⟩
          · rw [FX7_takeNumber_42, x0.1, x10, if_neg (by rw [leI (by omega) (by omega)]; omega)]
            dsimp only
            rw [gdI (by omega) (by omega), clI (by omega), x0.2 _ dg.1, hin, bd_s, if_neg bI_t0, x13, if_neg (by rw [show (10000 : Int32) = nI 10000 from rfl, leI (by omega) (by omega)]; exact q), FX7_takeNumber_113]
            rw [gN_sN_j (by decide), x10, nI_1]
          · rw [gN_sN_j (by decide), gN_sN_j (by decide), gN_sN_j (by decide), gN_sN_j (by decide)]; exact x14
          · rw [gN_sN_j (by decide), gN_sN_s]
          · intro z
            have := hnv (by omega)
            omega)
      (by
        intro fu x ⟨x0, x10, x14, m, x13, hm, hmk⟩
        rw [show s + (te L T s - s) = te L T s by omega] at x10
        have hend := te_end hs hk (Or.inr rfl)
        have e3 : FX7_takeNumber_42 (fu + 1) lo hi x = FX7_takeNumber_129 lo hi x := by
          rw [FX7_takeNumber_42, x0.1, x10]
          by_cases q : L ≤ te L T s
          · rw [if_pos (by rw [leI (by omega) (by omega)]; exact q)]
          · have hb := ho.2 (te L T s) (by omega)
            rw [if_neg (by rw [leI (by omega) (by omega)]; exact q)]
            dsimp only
            rw [gdI (by omega) (by omega), clI (by omega), x0.2 _ (by omega), show (48 : Int64) = lN 48 from rfl, show (57 : Int64) = lN 57 from rfl, in_nat (by decide) (by decide), decide_eq_false (fun z => hend (kd_2.mpr ⟨by omega, by have := z.1; rw [leI (by omega) (by omega)] at this; exact this, by have := z.2; rw [leI (by omega) (by omega)] at this; exact this⟩)), bd_s, if_pos bI_f0]
        rw [e3]
        exact t129 x m hmk x13 x10 x14.1 x14.2)
      (sN (sN S1 44 14 (nI s)) 44 13 (nI 0)) ⟨TxM_s (by decide) (TxM_s (by decide) t1), by rw [gN_sN_j (by decide), gN_sN_j (by decide)]; exact f10, ⟨by rw [gN_sN_j (by decide), gN_sN_s], by rw [gN_sN_j (by decide), gN_sN_j (by decide)]; exact u1.n _ _ (by simp) (by simp)⟩, 0, gN_sN_s, by omega, fun _ => rfl⟩
  · refine ⟨fun hn => absurd hn.1 hk, fun _ => ⟨sN S1 44 9 (nI s), ?_, gN_sN_s⟩⟩
    rw [fX7_takeNumber, e1, bd_s, inn, bd_s, decide_eq_false hk, if_pos bI_f0, f10, fX7_fails]
    rw [bd_s]; unfold nerr; rw [if_neg hk]; rfl
end
