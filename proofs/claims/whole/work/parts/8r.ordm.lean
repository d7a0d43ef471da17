/-! ===== the order in the reference ===== -/
def Rv (x : Int32) (P : Prop) (w : Nat) : Prop := (P ∧ x = nI w) ∨ (¬ P ∧ x = -1)
theorem Rv.iff {x : Int32} {P Q : Prop} {w : Nat} (h : P ↔ Q) (q : Rv x P w) : Rv x Q w := q.imp (fun z => ⟨h.mp z.1, z.2⟩) (fun z => ⟨fun y => z.1 (h.mpr y), z.2⟩)
section
variable {c : Cx} {S : St}
def RST (c : Cx) (S : St) (f : Nat) : Prop := ∀ s, f ≤ s → s < 2 ^ nt (xK c) → Rv (gN S 60 s) (Co (xK c) (dl (xS c)) (dG (xS c)) s) (Wo (xK c) (dl (xS c)) (dG (xS c)) s (nt (xK c)))
def tkP (c : Cx) (s t : Nat) : Prop := Ao (xK c) (dl (xS c)) (dG (xS c)) s t ∧ Co (xK c) (dl (xS c)) (dG (xS c)) (s + 2 ^ t)
def TKS (c : Cx) (S : St) (f : Nat) : Prop := ∀ s t, f ≤ s → s < 2 ^ nt (xK c) → t < nt (xK c) → bt1 s t = false → Rv (gN S 59 (6 * s + t)) (tkP c s t) (Wo (xK c) (dl (xS c)) (dG (xS c)) s (nt (xK c)))
theorem ord102a {s t : Nat} (k33 : Int32 → Int32 → St → Option (Unit × St)) (hs : s < 64) (ht : t < 6) : FX7_findOrder_102 k33 (nI s) (nI t) (-1) (nI (6 * s + t)) S = k33 (nI s) (nI (t + 1)) (sN (sN S 59 (6 * s + t) (-1)) 60 s (gN S 60 s)) := by
  rw [FX7_findOrder_102, gdI (by omega) (by omega), clI (by omega)]
  dsimp only
  rw [li_6, pk_mul, nI_add, gdI (by omega) (by omega), clI (by omega), gN_sN_s, if_pos (by decide), FX7_findOrder_150, FX7_findOrder_151, if_pos rfl, gdI (by omega) (by omega), clI (by omega), gN_sN_c (by decide), FX7_findOrder_183, gdI (by omega) (by omega), clI (by omega), FX7_findOrder_184]
  simp only [nI_1]
theorem ord102b {s t w : Nat} (k33 : Int32 → Int32 → St → Option (Unit × St)) (hs : s < 64) (ht : t < 6) (hw : w < 2147483648) (h : gN S 60 s = -1 ∨ gN S 60 s = nI w) : FX7_findOrder_102 k33 (nI s) (nI t) (nI w) (nI (6 * s + t)) S = k33 (nI s) (nI (t + 1)) (sN (sN S 59 (6 * s + t) (nI w)) 60 s (nI w)) := by
  rw [FX7_findOrder_102, gdI (by omega) (by omega), clI (by omega)]
  dsimp only
  rw [li_6, pk_mul, nI_add, gdI (by omega) (by omega), clI (by omega), gN_sN_s, if_neg (nI_pos (by omega)), gdI (by omega) (by omega), clI (by omega), gN_sN_c (show (60 : Nat) ≠ 59 by decide)]
  rcases h with h | h
  · rw [h, if_pos (by decide), FX7_findOrder_146, FX7_findOrder_151, if_neg (by decide)]
    dsimp only
    rw [li_6, pk_mul, nI_add, gdI (by omega) (by omega), clI (by omega), gN_sN_s, FX7_findOrder_183, gdI (by omega) (by omega), clI (by omega), FX7_findOrder_184]
    simp only [nI_1]
  · rw [h, if_neg (nI_pos (by omega)), gdI (by omega) (by omega), gdI (by omega) (by omega), if_pos (Int32.le_refl _), FX7_findOrder_150, FX7_findOrder_151, if_pos rfl, gdI (by omega) (by omega), clI (by omega), gN_sN_c (show (60 : Nat) ≠ 59 by decide), h, FX7_findOrder_183, gdI (by omega) (by omega), clI (by omega), FX7_findOrder_184]
    simp only [nI_1]
theorem RM_5960 {cc i : Nat} {v : Int32} (hcc : cc = 59 ∨ cc = 60) (h : RM S c) : RM (sN S cc i v) c := RM_of h (fun a b q => by rw [gN_sN_c (by omega)])
theorem PI_5960 {cc i : Nat} {v : Int32} (hcc : cc = 59 ∨ cc = 60) (h : PI S) : PI (sN S cc i v) := PI_of h (by rw [gN_sN_c (by omega)]) (fun j => by rw [gN_sN_c (by omega)]) (fun j => by rw [gN_sN_c (by omega)])
theorem ord_in {s : Nat} (k20 : Int32 → St → Option (Unit × St)) (hw : WC c) (hn : np (xK c) ≤ 4) (hs : s + 1 < 2 ^ nt (xK c)) (h : RM S c) (hP : PI S) (hR : RST c S (s + 1)) (hT : TKS c S (s + 1)) (h60 : gN S 60 s = -1) :
    ∃ S', FX7_findOrder_33 k20 FU (nI s) (nI 0) S = k20 (nI s + -1) S' ∧ RM S' c ∧ PI S' ∧ RST c S' s ∧ TKS c S' s := by
  have k1 := hw.1.1
  have h64 := p2_6 k1
  have hcnf : cn s (nt (xK c)) < nt (xK c) := by
    have hle := cn_le s (nt (xK c))
    apply Classical.byContradiction
    intro q
    have := cn_all6 (nt (xK c)) (by omega) s (by omega) (by omega) (by omega)
    omega
  exact loopFU (fun fu (x : Int32 × St) => FX7_findOrder_33 k20 fu (nI s) x.1 x.2) (fun t x => ∃ S1, x = (nI t, S1) ∧ RM S1 c ∧ PI S1 ∧ RST c S1 (s + 1) ∧ TKS c S1 (s + 1) ∧ (∀ u, u < t → bt1 s u = false → Rv (gN S1 59 (6 * s + u)) (tkP c s u) (Wo (xK c) (dl (xS c)) (dG (xS c)) s (nt (xK c)))) ∧ Rv (gN S1 60 s) (∃ u, u < t ∧ bt1 s u = false ∧ tkP c s u) (Wo (xK c) (dl (xS c)) (dG (xS c)) s (nt (xK c)))) (fun r => ∃ S', r = k20 (nI s + -1) S' ∧ RM S' c ∧ PI S' ∧ RST c S' s ∧ TKS c S' s) (nt (xK c)) (FU_lt (by omega))
    (by
      intro t fu x ht ⟨S1, e, h1, hP1, hR1, hT1, hpart, hrest⟩
      subst e
      have hhas := has_eq (S := S1) (m := s) (k := t) (by omega) (by omega)
      left
      cases hbt : bt1 s t with
      | true =>
        rw [hbt] at hhas
        refine ⟨(nI (t + 1), S1), ?_, S1, rfl, h1, hP1, hR1, hT1, fun u hu hb => hpart u (by
          by_cases hut : u = t
          · subst hut; rw [hbt] at hb; cases hb
          · omega) hb, hrest.iff ⟨fun ⟨u, a, b⟩ => ⟨u, by omega, b⟩, fun ⟨u, a, b⟩ => ⟨u, by
          by_cases hut : u = t
          · subst hut; rw [hbt] at b; cases b.1
          · omega, b⟩⟩⟩
        dsimp only
        rw [FX7_findOrder_33, h1.1.1, if_neg (by rw [leI (by omega) (by omega)]; omega), hhas, bd_s, if_neg bI_t0, FX7_findOrder_184]
        simp only [nI_1]
      | false =>
        rw [hbt] at hhas
        obtain ⟨x, S2, e2, a1, a2, a3, -⟩ := fewOf_m (g := dG (xS c)) (known := s) hw h1 hP1 ht (by omega) hn
        have u2 := wX7_fewestOf e2
        have f59 : ∀ j, gN S2 59 j = gN S1 59 j := fun j => u2.n _ _ (by simp) (by simp)
        have f60 : ∀ j, gN S2 60 j = gN S1 60 j := fun j => u2.n _ _ (by simp) (by simp)
        have hval := fw_val hw.1 hn (fun p hp => hw.2.1.1 p t hp ht) a1
        have hlt := add_lt6 (nt (xK c)) (by omega) s (by omega) t (by omega) (by omega) ht hbt
        have hpos := Nat.pow_pos (n := t) (show 0 < 2 by decide)
        have hmore := hR1 (s + 2 ^ t) (by omega) hlt
        have hWa := Wo_add (lv := dl (xS c)) (g := dG (xS c)) hw.1 (s := s) (t := t) (by omega) ht hbt (nt (xK c)) (Nat.le_refl _)
        rw [if_pos ht] at hWa
        have hWl := Wo_le (lv := dl (xS c)) (g := dG (xS c)) (s := s) hw.1 hn hw.2.1.1 (nt (xK c)) (Nat.le_refl _)
        have hfl := (fno_is (lv := dl (xS c)) (g := dG (xS c)) hw.1 hn (t := t) (fun p hp => hw.2.1.1 p t hp ht)).2
        -- what is taken
        have htk : ∃ tk, Rv tk (tkP c s t) (Wo (xK c) (dl (xS c)) (dG (xS c)) s (nt (xK c))) ∧ FX7_findOrder_33 k20 (fu + 1) (nI s) (nI t) S1 = FX7_findOrder_102 (fun l2_ l3_ S_ => FX7_findOrder_33 k20 fu l2_ l3_ S_) (nI s) (nI t) tk (nI (6 * s + t)) S2 := by
          have e0 : FX7_findOrder_33 k20 (fu + 1) (nI s) (nI t) S1 = if x < 0 then FX7_findOrder_102 (fun l2_ l3_ S_ => FX7_findOrder_33 k20 fu l2_ l3_ S_) (nI s) (nI t) (-1) (nI (6 * s + t)) S2 else if 0 ≤ gN S2 60 (s + 2 ^ t) then FX7_findOrder_102 (fun l2_ l3_ S_ => FX7_findOrder_33 k20 fu l2_ l3_ S_) (nI s) (nI t) (x + gN S2 60 (s + 2 ^ t)) (nI (6 * s + t)) S2 else FX7_findOrder_102 (fun l2_ l3_ S_ => FX7_findOrder_33 k20 fu l2_ l3_ S_) (nI s) (nI t) (-1) (nI (6 * s + t)) S2 := by
            rw [FX7_findOrder_33, h1.1.1, if_neg (by rw [leI (by omega) (by omega)]; omega), hhas, bd_s, if_pos bI_f0, h1.2.1.2.1, e2, bd_s, or_bit s (by omega) t (by omega) hbt]
            dsimp only
            rw [gdI (by omega) (by omega), clI (by omega), li_6, pk_mul, nI_add]
            rfl
          rw [e0]
          rcases hval with ⟨hA, rfl⟩ | ⟨hA, rfl⟩
          · rw [if_neg (nI_pos (by omega)), f60]
            rcases hmore with ⟨hC, hv⟩ | ⟨hC, hv⟩
            · rw [hv, if_pos (nI_pos' (by omega)), nI_add]
              exact ⟨_, Or.inl ⟨⟨hA, hC⟩, by rw [hWa, Nat.add_comm]⟩, rfl⟩
            · rw [hv, if_neg (by decide)]
              exact ⟨-1, Or.inr ⟨fun q => hC q.2, rfl⟩, rfl⟩
          · rw [if_pos (by decide)]
            exact ⟨-1, Or.inr ⟨fun q => hA q.1, rfl⟩, rfl⟩
        obtain ⟨tk, hRv, e3⟩ := htk
        have hex : ∀ {P : Prop}, (∃ u, u < t + 1 ∧ bt1 s u = false ∧ tkP c s u) ↔ (∃ u, u < t ∧ bt1 s u = false ∧ tkP c s u) ∨ tkP c s t := by
          intro _
          constructor
          · rintro ⟨u, a, b⟩
            by_cases hut : u = t
            · subst hut; exact Or.inr b.2
            · exact Or.inl ⟨u, by omega, b⟩
          · rintro (⟨u, a, b⟩ | b)
            · exact ⟨u, by omega, b⟩
            · exact ⟨t, by omega, hbt, b⟩
        -- the cells behind it
        have fin : ∀ nr, Rv nr (∃ u, u < t + 1 ∧ bt1 s u = false ∧ tkP c s u) (Wo (xK c) (dl (xS c)) (dG (xS c)) s (nt (xK c))) → RM (sN (sN S2 59 (6 * s + t) tk) 60 s nr) c ∧ PI (sN (sN S2 59 (6 * s + t) tk) 60 s nr) ∧ RST c (sN (sN S2 59 (6 * s + t) tk) 60 s nr) (s + 1) ∧ TKS c (sN (sN S2 59 (6 * s + t) tk) 60 s nr) (s + 1) ∧ (∀ u, u < t + 1 → bt1 s u = false → Rv (gN (sN (sN S2 59 (6 * s + t) tk) 60 s nr) 59 (6 * s + u)) (tkP c s u) (Wo (xK c) (dl (xS c)) (dG (xS c)) s (nt (xK c)))) ∧ Rv (gN (sN (sN S2 59 (6 * s + t) tk) 60 s nr) 60 s) (∃ u, u < t + 1 ∧ bt1 s u = false ∧ tkP c s u) (Wo (xK c) (dl (xS c)) (dG (xS c)) s (nt (xK c))) := by
          intro nr hnr
          refine ⟨RM_5960 (Or.inr rfl) (RM_5960 (Or.inl rfl) a2), PI_5960 (Or.inr rfl) (PI_5960 (Or.inl rfl) a3), fun s' a b => ?_, fun s' t' a b d f => ?_, fun u hu hb => ?_, by rw [gN_sN_s]; exact hnr⟩
          · rw [gN_sN_j (by omega), gN_sN_c (by decide), f60]; exact hR1 s' a b
          · rw [gN_sN_c (by decide), gN_sN_j (by omega), f59]; exact hT1 s' t' a b d f
          · rw [gN_sN_c (by decide)]
            by_cases hut : u = t
            · subst hut; rw [gN_sN_s]; exact hRv
            · rw [gN_sN_j (by omega), f59]; exact hpart u (by omega) hb
        rcases hRv with ⟨hp, hv⟩ | ⟨hp, hv⟩
        · refine ⟨(nI (t + 1), sN (sN S2 59 (6 * s + t) tk) 60 s (nI (Wo (xK c) (dl (xS c)) (dG (xS c)) s (nt (xK c))))), ?_, _, rfl, fin _ (Or.inl ⟨(hex (P := True)).mpr (Or.inr hp), rfl⟩)⟩
          dsimp only
          rw [e3, hv]
          exact ord102b (fun l2_ l3_ S_ => FX7_findOrder_33 k20 fu l2_ l3_ S_) (by omega) (by omega) (by omega) (by rw [f60]; exact hrest.elim (fun z => Or.inr z.2) (fun z => Or.inl z.2))
        · refine ⟨(nI (t + 1), sN (sN S2 59 (6 * s + t) tk) 60 s (gN S2 60 s)), ?_, _, rfl, fin _ (by rw [f60]; exact hrest.iff ⟨fun z => (hex (P := True)).mpr (Or.inl z), fun z => ((hex (P := True)).mp z).resolve_right hp⟩)⟩
          dsimp only
          rw [e3, hv]
          exact ord102a (fun l2_ l3_ S_ => FX7_findOrder_33 k20 fu l2_ l3_ S_) (by omega) (by omega))
    (by
      intro fu x ⟨S1, e, h1, hP1, hR1, hT1, hpart, hrest⟩
      subst e
      refine ⟨S1, ?_, h1, hP1, fun s' a b => ?_, fun s' t' a b d f => ?_⟩
      · dsimp only
        rw [FX7_findOrder_33, h1.1.1, if_pos (Int32.le_refl _)]
      · by_cases hss : s' = s
        · subst hss
          refine hrest.iff ?_
          rw [Co_step hw.1 (by omega) hcnf]
          exact ⟨fun ⟨u, a, b, d⟩ => ⟨u, a, b, d.1, d.2⟩, fun ⟨u, a, b, d, f⟩ => ⟨u, a, b, d, f⟩⟩
        · exact hR1 s' (by omega) b
      · by_cases hss : s' = s
        · subst hss; exact hpart t' d f
        · exact hT1 s' t' (by omega) b d f)
    (nI 0, S) ⟨S, rfl, h, hP, hR, hT, fun u hu => absurd hu (by omega), Or.inr ⟨fun ⟨u, hu, _⟩ => by omega, h60⟩⟩
theorem ord_all (hw : WC c) (hn : np (xK c) ≤ 4) (h : RM S c) (hP : PI S) : ∃ S', fX7_findOrder S = some ((), S') ∧ RM S' c ∧ PI S' ∧ RST c S' 0 ∧ TKS c S' 0 := by
  have k1 := hw.1.1
  have h64 := p2_6 k1
  have hpos := Nat.pow_pos (n := nt (xK c)) (show 0 < 2 by decide)
  have key := loopFU (fun fu (x : Int32 × St) => FX7_findOrder_20 fu x.1 x.2) (fun j x => ∃ S1, x = (nI (2 ^ nt (xK c) - 1 - j) - nI 1, S1) ∧ RM S1 c ∧ PI S1 ∧ RST c S1 (2 ^ nt (xK c) - 1 - j) ∧ TKS c S1 (2 ^ nt (xK c) - 1 - j)) (fun r => ∃ S', r = some ((), S') ∧ RM S' c ∧ PI S' ∧ RST c S' 0 ∧ TKS c S' 0) (2 ^ nt (xK c) - 1) (FU_lt (by omega))
    (by
      intro j fu x hj ⟨S1, e, h1, hP1, hR1, hT1⟩
      subst e
      have ei : nI (2 ^ nt (xK c) - 1 - j) - nI 1 = nI (2 ^ nt (xK c) - 1 - (j + 1)) := by rw [subI (by omega)]; congr 1
      have hst : 2 ^ nt (xK c) - 1 - (j + 1) + 1 = 2 ^ nt (xK c) - 1 - j := by omega
      obtain ⟨S2, e2, a1, a2, a3, a4⟩ := ord_in (S := sN S1 60 (2 ^ nt (xK c) - 1 - (j + 1)) (-1)) (s := 2 ^ nt (xK c) - 1 - (j + 1)) (fun l2_ S_ => FX7_findOrder_20 fu l2_ S_) hw hn (by omega) (RM_5960 (Or.inr rfl) h1) (PI_5960 (Or.inr rfl) hP1) (fun s' a b => by rw [gN_sN_j (by omega)]; exact hR1 s' (by omega) b) (fun s' t' a b d f => by rw [gN_sN_c (by decide)]; exact hT1 s' t' (by omega) b d f) gN_sN_s
      refine Or.inl ⟨(nI (2 ^ nt (xK c) - 1 - (j + 1)) - nI 1, S2), ?_, S2, rfl, a1, a2, a3, a4⟩
      dsimp only
      rw [ei, FX7_findOrder_20, if_neg (nI_pos (by omega)), gdI (by omega) (by omega), clI (by omega)]
      refine Eq.trans e2 ?_
      rw [show (-1 : Int32) = -nI 1 from rfl, addm1])
    (by
      intro fu x ⟨S1, e, h1, hP1, hR1, hT1⟩
      subst e
      rw [Nat.sub_self] at hR1 hT1
      refine ⟨S1, ?_, h1, hP1, hR1, hT1⟩
      dsimp only
      rw [FX7_findOrder_20, Nat.sub_self, neg1, if_pos (by decide)])
    (nI (2 ^ nt (xK c) - 1) - nI 1, sN S 60 (2 ^ nt (xK c) - 1) 0) ⟨_, rfl, RM_5960 (Or.inr rfl) h, PI_5960 (Or.inr rfl) hP, fun s' a b => by
      have : s' = 2 ^ nt (xK c) - 1 := by omega
      subst this
      rw [gN_sN_s]
      exact Or.inl ⟨Co_full, by rw [Wo_full _ (Nat.le_refl _)]; rfl⟩, fun s' t' a b d f => by
      have : s' = 2 ^ nt (xK c) - 1 := by omega
      subst this
      rw [bt1_full d] at f
      cases f⟩
  obtain ⟨S', e, r⟩ := key
  refine ⟨S', ?_, r⟩
  rw [fX7_findOrder, h.1.1, sh1 _ (by omega)]
  dsimp only
  rw [gdI (by omega) (by omega), clI (by omega)]
  exact e
/-- the greedy row -/
theorem gst_ok (hw : WC c) (hC : Co (xK c) (dl (xS c)) (dG (xS c)) 0) : ∀ i, i ≤ nt (xK c) → gst (xK c) (dl (xS c)) (dG (xS c)) i < 2 ^ nt (xK c) ∧ cn (gst (xK c) (dl (xS c)) (dG (xS c)) i) (nt (xK c)) = i ∧ Co (xK c) (dl (xS c)) (dG (xS c)) (gst (xK c) (dl (xS c)) (dG (xS c)) i) ∧ (i < nt (xK c) → Pick (nt (xK c)) (fun t => bt1 (gst (xK c) (dl (xS c)) (dG (xS c)) i) t = false ∧ Ao (xK c) (dl (xS c)) (dG (xS c)) (gst (xK c) (dl (xS c)) (dG (xS c)) i) t) (gpk (xK c) (dl (xS c)) (dG (xS c)) (gst (xK c) (dl (xS c)) (dG (xS c)) i))) := by
  have k1 := hw.1.1
  have h64 := p2_6 k1
  have hpick : ∀ s, s < 2 ^ nt (xK c) → cn s (nt (xK c)) < nt (xK c) → Co (xK c) (dl (xS c)) (dG (xS c)) s → Pick (nt (xK c)) (fun t => bt1 s t = false ∧ Ao (xK c) (dl (xS c)) (dG (xS c)) s t) (gpk (xK c) (dl (xS c)) (dG (xS c)) s) := by
    intro s hs hc hC
    obtain ⟨t, a, b, d, _⟩ := (Co_step hw.1 hs hc).mp hC
    exact Classical.epsilon_spec (p := fun t => Pick (nt (xK c)) (fun t => bt1 s t = false ∧ Ao (xK c) (dl (xS c)) (dG (xS c)) s t) t) (Pick.ex ⟨t, a, b, d⟩)
  have cn0 : ∀ m, cn 0 m = 0 := by
    intro m
    induction m with
    | zero => rfl
    | succ m ih => rw [cn, ih, bt1_zero]; rfl
  intro i
  induction i with
  | zero =>
    intro _
    have hpos := Nat.pow_pos (n := nt (xK c)) (show 0 < 2 by decide)
    refine ⟨hpos, cn0 _, hC, fun hlt => hpick 0 hpos (by rw [cn0]; exact hlt) hC⟩
  | succ i ih =>
    intro hi
    obtain ⟨a, b, d, f⟩ := ih (by omega)
    have hp := f (by omega)
    have hpt := hp.1
    have hlt := add_lt6 (nt (xK c)) (by omega) _ (by omega) _ (by omega) a hp.1 hp.2.1.1
    have hcn := cn_add6 (nt (xK c)) (by omega) _ (by omega) _ (by omega) a hp.1 hp.2.1.1
    have hCo := Co_any hw.1 a hp.1 hp.2.1.1 d
    refine ⟨hlt, by rw [gst, hcn, b], hCo, fun hl => hpick _ hlt (by rw [gst, hcn, b]; exact hl) hCo⟩
theorem ord_row (hw : WC c) (hn : np (xK c) ≤ 4) (hR : RST c S 0) (hT : TKS c S 0) (h : RM S c) (hC : Co (xK c) (dl (xS c)) (dG (xS c)) 0) {j : Nat} (hj : j < nt (xK c)) : FX7_order_61 FU (nI j) (nI 0) (-1) (nI 0) S = some (nI (gpk (xK c) (dl (xS c)) (dG (xS c)) (gst (xK c) (dl (xS c)) (dG (xS c)) j)), S) := by
  have k1 := hw.1.1
  have h64 := p2_6 k1
  exact loopFU (fun fu (x : Int32 × Int32 × Int32 × St) => FX7_order_61 fu (nI j) x.1 x.2.1 x.2.2.1 x.2.2.2) (fun i x => ∃ fo, x = (nI (gst (xK c) (dl (xS c)) (dG (xS c)) i), fo, nI i, S) ∧ (i = j + 1 → fo = nI (gpk (xK c) (dl (xS c)) (dG (xS c)) (gst (xK c) (dl (xS c)) (dG (xS c)) j)))) (fun r => r = some (nI (gpk (xK c) (dl (xS c)) (dG (xS c)) (gst (xK c) (dl (xS c)) (dG (xS c)) j)), S)) (j + 1) (FU_lt (by omega))
    (by
      intro i fu x hi ⟨fo, e, _⟩
      subst e
      obtain ⟨a, b, d, f⟩ := gst_ok hw hC i (by omega)
      have hp := f (by omega)
      have hWl := Wo_le (lv := dl (xS c)) (g := dG (xS c)) (s := gst (xK c) (dl (xS c)) (dG (xS c)) i) hw.1 hn hw.2.1.1 (nt (xK c)) (Nat.le_refl _)
      have hrest : gN S 60 (gst (xK c) (dl (xS c)) (dG (xS c)) i) = nI (Wo (xK c) (dl (xS c)) (dG (xS c)) (gst (xK c) (dl (xS c)) (dG (xS c)) i) (nt (xK c))) := (hR _ (Nat.zero_le _) a).elim (fun z => z.2) (fun z => absurd d z.1)
      have key : FX7_order_69 (fun l1_ l2_ l3_ l4_ S_ => FX7_order_61 fu l1_ l2_ l3_ l4_ S_) FU (nI j) (nI (gst (xK c) (dl (xS c)) (dG (xS c)) i)) (nI 0) (nI i) S = FX7_order_61 fu (nI j) (nI (gst (xK c) (dl (xS c)) (dG (xS c)) (i + 1))) (nI (gpk (xK c) (dl (xS c)) (dG (xS c)) (gst (xK c) (dl (xS c)) (dG (xS c)) i))) (nI (i + 1)) S :=
        loopFU (fun fu2 (y : Int32 × St) => FX7_order_69 (fun l1_ l2_ l3_ l4_ S_ => FX7_order_61 fu l1_ l2_ l3_ l4_ S_) fu2 (nI j) (nI (gst (xK c) (dl (xS c)) (dG (xS c)) i)) y.1 (nI i) y.2) (fun t y => y = (nI t, S) ∧ t ≤ gpk (xK c) (dl (xS c)) (dG (xS c)) (gst (xK c) (dl (xS c)) (dG (xS c)) i)) (fun r => r = FX7_order_61 fu (nI j) (nI (gst (xK c) (dl (xS c)) (dG (xS c)) (i + 1))) (nI (gpk (xK c) (dl (xS c)) (dG (xS c)) (gst (xK c) (dl (xS c)) (dG (xS c)) i))) (nI (i + 1)) S) (nt (xK c)) (FU_lt (by omega))
          (by
            intro t fu2 y ht ⟨e, hle⟩
            subst e
            have hhas := has_eq (S := S) (m := gst (xK c) (dl (xS c)) (dG (xS c)) i) (k := t) (by omega) (by omega)
            by_cases htg : t = gpk (xK c) (dl (xS c)) (dG (xS c)) (gst (xK c) (dl (xS c)) (dG (xS c)) i)
            · right
              have hb := hp.2.1.1
              rw [← htg] at hb
              have htk := (hT _ t (Nat.zero_le _) a ht hb).elim (fun z => z.2) (fun z => absurd ⟨by rw [htg]; exact hp.2.1.2, Co_any hw.1 a ht hb d⟩ z.1)
              dsimp only
              rw [FX7_order_69, hhas, hb, bd_s, if_pos bI_f0, li_6, pk_mul, nI_add]
              dsimp only
              rw [gdI (by omega) (by omega), gdI (by omega) (by omega), clI (by omega), clI (by omega), htk, hrest, if_pos rfl, or_bit _ (by omega) t (by omega) hb, nI_1, gst, ← htg]
            · left
              refine ⟨(nI (t + 1), S), ?_, rfl, by omega⟩
              dsimp only
              cases hb : bt1 (gst (xK c) (dl (xS c)) (dG (xS c)) i) t with
              | true =>
                rw [FX7_order_69, hhas, hb, bd_s, if_neg bI_t0, FX7_order_97]
                simp only [nI_1]
              | false =>
                have hno : ¬ tkP c (gst (xK c) (dl (xS c)) (dG (xS c)) i) t := fun z => hp.2.2 t (by omega) ⟨hb, z.1⟩
                have htk := (hT _ t (Nat.zero_le _) a ht hb).elim (fun z => absurd z.1 hno) (fun z => z.2)
                rw [FX7_order_69, hhas, hb, bd_s, if_pos bI_f0, li_6, pk_mul, nI_add]
                dsimp only
                rw [gdI (by omega) (by omega), gdI (by omega) (by omega), clI (by omega), clI (by omega), htk, hrest, if_neg (fun z => nI_nm1 (by omega) z.symm), FX7_order_97]
                simp only [nI_1])
          (by
            intro fu2 y ⟨e, hle⟩
            have := hp.1
            omega)
          (nI 0, S) ⟨rfl, Nat.zero_le _⟩
      refine Or.inl ⟨(nI (gst (xK c) (dl (xS c)) (dG (xS c)) (i + 1)), nI (gpk (xK c) (dl (xS c)) (dG (xS c)) (gst (xK c) (dl (xS c)) (dG (xS c)) i)), nI (i + 1), S), ?_, _, rfl, fun q => by
        have : i = j := by omega
        subst this; rfl⟩
      dsimp only
      rw [FX7_order_61, if_neg (by rw [ltI (by omega) (by omega)]; omega)]
      exact key)
    (by
      intro fu x ⟨fo, e, h2⟩
      subst e
      dsimp only
      rw [FX7_order_61, if_pos (by rw [ltI (by omega) (by omega)]; omega), h2 rfl])
    (nI 0, -1, nI 0, S) ⟨-1, rfl, fun q => absurd q (by omega)⟩
end
