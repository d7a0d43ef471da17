/-! ===== a thing's clause ===== -/
def headR (L : Nat) (T : Nat → Nat) (nt p : Nat) : Nat × Nat × Nat := if isW L T 2 (sk L T p) then leanR L T nt 6 0 (te L T (sk L T p)) else (0, sk L T p, 0)
/-- the error, the place (none: behind the clause), and the set -/
def thingR (L : Nat) (T : Nat → Nat) (nt p : Nat) : Nat × Nat × Nat :=
  if (headR L T nt p).1 = 0 then (if (headR L T nt p).2.1 < L ∧ T (headR L T nt p).2.1 = 59 then (0, (headR L T nt p).2.1 + 1, (headR L T nt p).2.2) else (1, (headR L T nt p).2.1, 0)) else ((headR L T nt p).1, (headR L T nt p).2.1, 0)
section
variable {L : Nat} {T : Nat → Nat} {S : St} {nt r : Nat}
theorem lean_err : ∀ n m p, (leanR L T nt n m p).1 ≤ 3 := by
  intro n
  induction n with
  | zero => intro m p; exact Nat.zero_le _
  | succ n ih =>
    intro m p
    have := nerr_pos (L := L) (T := T) (s := sk L T p)
    rw [leanR]
    split
    · split
      · exact Nat.le_refl _
      · split
        · exact ih _ _
        · exact Nat.zero_le _
    · show nerr L T (sk L T p) ≤ 3
      omega
theorem sch_or (h : isSch r = true) : r = 3 ∨ r = 9 := by
  simpa [isSch] using h
theorem thing53_c {s m : Nat} (ho : okT L T) (hs : s ≤ L) (h : TxC S L T) (ht : Tok S L T s) (h3 : gN S 1 3 = 0) (hr : gR S 1 4 = r) (hrs : isSch r = true) (hrn : gN S r 0 = nI nt) (h6 : nt ≤ 5) :
    ((s < L ∧ T s = 59) → ∃ S', FX2_readThing_53 (nI m) S = some ((), S') ∧ gN S' 1 3 = 0 ∧ Tok S' L T (sk L T (s + 1)) ∧ gN S' r 0 = nI (nt + 1) ∧ gN S' (r + 1) nt = nI m ∧ (∀ j, j ≠ nt → gN S' (r + 1) j = gN S (r + 1) j) ∧ gN S' 1 2 = gN S 1 2 ∧ ∀ cc jj, cc ≠ 1 → cc ≠ r → cc ≠ r + 1 → gN S' cc jj = gN S cc jj) ∧ (¬ (s < L ∧ T s = 59) → ∃ S', FX2_readThing_53 (nI m) S = some ((), S') ∧ gN S' 1 3 = nI 1 ∧ gN S' 1 2 = nI s ∧ ∀ cc jj, cc ≠ 1 → cc ≠ r → cc ≠ r + 1 → gN S' cc jj = gN S cc jj) := by
  have hr3 := sch_or hrs
  have sg := sign_c (ch := 59) ho hs h ht h3 (by omega)
  refine ⟨fun q => ?_, fun q => ?_⟩
  · obtain ⟨S1, e1, b3, bT, b2⟩ := sg.1 q
    have u1 := wX2_takeSign e1
    have br : gR S1 1 4 = r := (u1.r _ _ (by simp)).trans hr
    have bn : gN S1 r 0 = nI nt := (u1.n _ _ (by simp) (by simp)).trans hrn
    refine ⟨sN (sN S1 (r + 1) nt (nI m)) r 0 (nI (nt + 1)), ?_, ?_, ⟨?_, ?_, ?_⟩, gN_sN_s, ?_, fun j hj => ?_, by rw [gN_sN_c (by omega), gN_sN_c (by omega)]; exact b2, fun cc jj a b c => by rw [gN_sN_c b, gN_sN_c c]; exact u1.n _ _ (by simp [a]) (by simp [a])⟩
    · rw [FX2_readThing_53, show (59 : Int32) = nI 59 from rfl, e1, bd_s, if_pos b3, br, gd_t hrs, gd_t hrs, bn]
      dsimp only
      rw [gdI (by omega) (by omega), clI (by omega)]
      show gd (isSch (gR S1 1 4)) _ = _
      rw [br, gd_t hrs]
      show some ((), sN (sN S1 (r + 1) nt (nI m)) (gR S1 1 4) 0 (gN (sN S1 (r + 1) nt (nI m)) (gR S1 1 4) 0 + 1)) = _
      rw [br, gN_sN_c (by omega), bn, nI_1]
    · rw [gN_sN_c (by omega), gN_sN_c (by omega)]; exact b3
    · rw [gN_sN_c (by omega), gN_sN_c (by omega)]; exact bT.1
    · rw [gN_sN_c (by omega), gN_sN_c (by omega)]; exact bT.2.1
    · rw [gN_sN_c (by omega), gN_sN_c (by omega)]; exact bT.2.2
    · rw [gN_sN_c (by omega), gN_sN_s]
    · rw [gN_sN_c (by omega), gN_sN_j hj]; exact u1.n _ _ (by simp <;> omega) (by simp <;> omega)
  · obtain ⟨S1, e1, b3, b2⟩ := sg.2 q
    refine ⟨S1, ?_, b3, b2, fun cc jj a _ _ => (wX2_takeSign e1).n _ _ (by simp [a]) (by simp [a])⟩
    rw [FX2_readThing_53, show (59 : Int32) = nI 59 from rfl, e1, bd_s, if_neg (by rw [b3]; decide)]
theorem thing_c {s p : Nat} (ho : okT L T) (hs : s ≤ L) (hp : te L T s = p) (h : TxC S L T) (ht : Tok S L T s) (h3 : gN S 1 3 = 0) (hr : gR S 1 4 = r) (hrs : isSch r = true) (hrn : gN S r 0 = nI nt) (hr1 : gN S r 1 = 0) (h6 : nt ≤ 5) :
    ∃ S', fX2_readThing S = some ((), S') ∧ (∀ cc jj, cc ≠ 1 → cc ≠ r → cc ≠ r + 1 → gN S' cc jj = gN S cc jj) ∧ ((thingR L T nt p).1 = 0 → gN S' 1 3 = 0 ∧ Tok S' L T (sk L T (thingR L T nt p).2.1) ∧ gN S' r 0 = nI (nt + 1) ∧ gN S' (r + 1) nt = nI (thingR L T nt p).2.2 ∧ (∀ j, j ≠ nt → gN S' (r + 1) j = gN S (r + 1) j) ∧ (thingR L T nt p).2.2 < 2 ^ nt ∧ (thingR L T nt p).2.1 ≤ L ∧ gN S' 1 2 = gN S 1 2) ∧ (¬ (thingR L T nt p).1 = 0 → gN S' 1 3 = nI (thingR L T nt p).1 ∧ gN S' 1 2 = nI (thingR L T nt p).2.1) := by
  have hr3 := sch_or hrs
  have hpL : p ≤ L := by rw [← hp]; exact (te_le (T := T) hs).2
  obtain ⟨S1, e1, bT⟩ := advance_c ho hpL h (by rw [ht.2.2, hp])
  have u1 := wX2_advance e1
  have b0 : TxC S1 L T := ⟨(u1.n _ _ (by simp) (by simp)).trans h.1, fun i hi => (u1.n _ _ (by simp) (by simp)).trans (h.2 i hi)⟩
  have b3 : gN S1 1 3 = 0 := (u1.n _ _ (by simp) (by simp)).trans h3
  have br : gR S1 1 4 = r := (u1.r _ _ (by simp)).trans hr
  have bn : gN S1 r 0 = nI nt := (u1.n _ _ (by simp) (by simp)).trans hrn
  have bc : ∀ j, gN S1 (r + 1) j = gN S (r + 1) j := fun j => u1.n _ _ (by simp <;> omega) (by simp <;> omega)
  have hs1 := sk_le (T := T) hpL
  have bF : ∀ c j, c ≠ 1 → gN S1 c j = gN S c j := fun c j a => u1.n _ _ (by simp [a]) (by simp [a])
  have e0 : fX2_readThing S = if decide (isW L T 2 (sk L T p)) = false then FX2_readThing_53 (nI 0) S1 else bd (fX2_readLeaning S1) (fun r14 S15 => FX2_readThing_53 r14 S15) := by
    rw [fX2_readThing, hr, gd_t hrs, hrn, if_neg (by rw [li_6, leI (by omega) (by omega)]; omega), gd_t hrs, hr1, if_pos (by decide), e1, bd_s, isWord_c ho hs1 (by decide) b0 bT, bd_s]
    cases decide (isW L T 2 (sk L T p)) with
    | false => rw [if_pos bI_f0, if_pos rfl]; rfl
    | true => rw [if_neg bI_t0, if_neg (by decide)]
  have fin : ∀ (S2 : St) (s2 m : Nat), TxC S2 L T → Tok S2 L T s2 → gN S2 1 3 = 0 → gR S2 1 4 = r → gN S2 r 0 = nI nt → (∀ j, gN S2 (r + 1) j = gN S (r + 1) j) → s2 ≤ L → m < 2 ^ nt → headR L T nt p = (0, s2, m) → gN S2 1 2 = gN S 1 2 → (∀ cc jj, cc ≠ 1 → gN S2 cc jj = gN S cc jj) → ∃ S', FX2_readThing_53 (nI m) S2 = some ((), S') ∧ (∀ cc jj, cc ≠ 1 → cc ≠ r → cc ≠ r + 1 → gN S' cc jj = gN S cc jj) ∧ ((thingR L T nt p).1 = 0 → gN S' 1 3 = 0 ∧ Tok S' L T (sk L T (thingR L T nt p).2.1) ∧ gN S' r 0 = nI (nt + 1) ∧ gN S' (r + 1) nt = nI (thingR L T nt p).2.2 ∧ (∀ j, j ≠ nt → gN S' (r + 1) j = gN S (r + 1) j) ∧ (thingR L T nt p).2.2 < 2 ^ nt ∧ (thingR L T nt p).2.1 ≤ L ∧ gN S' 1 2 = gN S 1 2) ∧ (¬ (thingR L T nt p).1 = 0 → gN S' 1 3 = nI (thingR L T nt p).1 ∧ gN S' 1 2 = nI (thingR L T nt p).2.1) := by
    intro S2 s2 m c0 cT c3 cr cn' cc hs2 hm hH c2 cf
    have t := thing53_c (m := m) ho hs2 c0 cT c3 cr hrs cn' h6
    unfold thingR
    rw [hH, if_pos (by rfl)]
    dsimp only
    by_cases q : s2 < L ∧ T s2 = 59
    · obtain ⟨S', e, d3, dT, dn, dm, df, d2, dF⟩ := t.1 q
      rw [if_pos q]
      exact ⟨S', e, fun a b x y z => (dF a b x y z).trans (cf a b x), fun _ => ⟨d3, dT, dn, dm, fun j hj => (df j hj).trans (cc j), hm, by show s2 + 1 ≤ L; omega, d2.trans c2⟩, fun z => absurd rfl z⟩
    · obtain ⟨S', e, d3, d2, dF⟩ := t.2 q
      rw [if_neg q]
      exact ⟨S', e, fun a b x y z => (dF a b x y z).trans (cf a b x), fun z => absurd (show 1 = 0 from z) (by decide), fun _ => ⟨d3, d2⟩⟩
  by_cases qw : isW L T 2 (sk L T p)
  · rw [e0, if_neg (by rw [decide_eq_true qw]; decide)]
    have hte := (te_le (T := T) hs1).2
    obtain ⟨S2, x, e2, g1, g2⟩ := lean_c ho hte h6 b0 bT.2.2 b3 br hrs bn (by omega)
    have u2 := wX2_readLeaning e2
    have hH : headR L T nt p = leanR L T nt 6 0 (te L T (sk L T p)) := by unfold headR; rw [if_pos qw]
    rw [← hH] at g1 g2
    rw [e2, bd_s]
    have c0 : TxC S2 L T := ⟨(u2.n _ _ (by simp) (by simp)).trans b0.1, fun i hi => (u2.n _ _ (by simp) (by simp)).trans (b0.2 i hi)⟩
    by_cases z : (headR L T nt p).1 = 0
    · obtain ⟨f1, f2, f3, f4, f5, f6⟩ := g1 z
      rw [f1]
      exact fin S2 _ _ c0 f4 f3 ((u2.r _ _ (by simp)).trans br) ((u2.n _ _ (by simp) (by simp)).trans bn) (fun j => (u2.n _ _ (by simp <;> omega) (by simp <;> omega)).trans (bc j)) f5 f2 (by rw [← z]) (f6.trans (u1.n _ _ (by simp) (by simp))) (fun c j a => (u2.n _ _ (by simp [a]) (by simp [a])).trans (bF c j a))
    · obtain ⟨f1, f2⟩ := g2 z
      have hz : ¬ gN S2 1 3 = 0 := by
        rw [f1]
        intro y
        have := lean_err (L := L) (T := T) (nt := nt) 6 0 (te L T (sk L T p))
        rw [← hH] at this
        rw [li_0, eqI (by omega) (by omega)] at y
        exact z y
      refine ⟨S2, ?_, fun c j a _ _ => (u2.n _ _ (by simp [a]) (by simp [a])).trans (bF c j a), ?_, ?_⟩
      · rw [FX2_readThing_53, fX2_takeSign, if_neg hz, bd_s, if_neg hz]
      · unfold thingR; rw [if_neg z]; exact fun y => absurd y z
      · unfold thingR; rw [if_neg z]; exact fun _ => ⟨f1, f2⟩
  · rw [e0, if_pos (decide_eq_false qw)]
    exact fin S1 _ 0 b0 bT b3 br bn bc hs1 (Nat.pow_pos (by decide)) (by unfold headR; rw [if_neg qw]) (u1.n _ _ (by simp) (by simp)) bF
end
