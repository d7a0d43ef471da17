/-! ===== steps that go on behind an error ===== -/
/-- the error, the place, the number -/
def numR (L : Nat) (T : Nat → Nat) (lo hi : Int32) (e p : Nat) : Nat × Nat × Nat :=
  if e = 0 then (if numIs L T lo hi (sk L T p) then (0, te L T (sk L T p), nv T (sk L T p) (te L T (sk L T p) - sk L T p)) else (nerr L T (sk L T p), sk L T p, 0)) else (e, p, 0)
def sgnR (L : Nat) (T : Nat → Nat) (ch e p : Nat) : Nat × Nat :=
  if e = 0 then (if sk L T p < L ∧ T (sk L T p) = ch then (0, sk L T p + 1) else (1, sk L T p)) else (e, p)
def PosC (S : St) (L : Nat) (T : Nat → Nat) (e p : Nat) : Prop := e ≤ 4 ∧ p ≤ L ∧ (e = 0 → gN S 1 3 = 0 ∧ Tok S L T (sk L T p) ∧ gN S 1 2 = -1) ∧ (¬ e = 0 → gN S 1 3 = nI e ∧ gN S 1 2 = nI p)
section
variable {L : Nat} {T : Nat → Nat} {S : St} {e p : Nat}
theorem PosC_nz (h : PosC S L T e p) (he : ¬ e = 0) : ¬ gN S 1 3 = 0 := by
  have := h.1
  rw [(h.2.2.2 he).1, li_0, eqI (by omega) (by omega)]
  exact he
theorem num_pc {lo hi : Int32} (ho : okT L T) (h : TxC S L T) (hP : PosC S L T e p) : ∃ S', fX2_takeNumber lo hi S = some (nI (numR L T lo hi e p).2.2, S') ∧ PosC S' L T (numR L T lo hi e p).1 (numR L T lo hi e p).2.1 := by
  have hp := hP.2.1
  unfold numR
  by_cases he : e = 0
  · obtain ⟨a3, aT, a2⟩ := hP.2.2.1 he
    have hs := sk_le (T := T) hp
    have num := number_c (lo := lo) (hi := hi) ho hs h aT a3
    rw [if_pos he]
    by_cases q : numIs L T lo hi (sk L T p)
    · obtain ⟨S', e1, b3, bT, b2⟩ := num.1 q
      rw [if_pos q]
      exact ⟨S', e1, Nat.zero_le _, (te_le (T := T) hs).2, fun _ => ⟨b3, bT, b2.trans a2⟩, fun z => absurd rfl z⟩
    · obtain ⟨S', e1, b3, b2⟩ := num.2 q
      have hn := nerr_pos (L := L) (T := T) (s := sk L T p)
      rw [if_neg q]
      exact ⟨S', e1, by show nerr L T (sk L T p) ≤ 4; omega, hs, fun z => absurd (show nerr L T (sk L T p) = 0 from z) (by omega), fun _ => ⟨b3, b2⟩⟩
  · rw [if_neg he]
    exact ⟨S, by rw [fX2_takeNumber, if_neg (PosC_nz hP he)]; rfl, hP⟩
theorem sgn_pc {ch : Nat} (hch : ch < 48 ∨ (57 < ch ∧ ch < 97)) (ho : okT L T) (h : TxC S L T) (hP : PosC S L T e p) : ∃ S', fX2_takeSign (nI ch) S = some ((), S') ∧ PosC S' L T (sgnR L T ch e p).1 (sgnR L T ch e p).2 := by
  have hp := hP.2.1
  unfold sgnR
  by_cases he : e = 0
  · obtain ⟨a3, aT, a2⟩ := hP.2.2.1 he
    have hs := sk_le (T := T) hp
    have sg := sign_c (ch := ch) ho hs h aT a3 hch
    rw [if_pos he]
    by_cases q : sk L T p < L ∧ T (sk L T p) = ch
    · obtain ⟨S', e1, b3, bT, b2⟩ := sg.1 q
      rw [if_pos q]
      exact ⟨S', e1, Nat.zero_le _, by show sk L T p + 1 ≤ L; omega, fun _ => ⟨b3, bT, b2.trans a2⟩, fun z => absurd rfl z⟩
    · obtain ⟨S', e1, b3, b2⟩ := sg.2 q
      rw [if_neg q]
      exact ⟨S', e1, by show 1 ≤ 4; decide, hs, fun z => absurd (show 1 = 0 from z) (by decide), fun _ => ⟨b3, b2⟩⟩
  · rw [if_neg he]
    exact ⟨S, by rw [fX2_takeSign, if_neg (PosC_nz hP he)], hP⟩
end
