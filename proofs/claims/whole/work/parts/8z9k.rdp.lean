/-! ===== the reading of a text, in numbers ===== -/
section
variable {L : Nat} {T : Nat → Nat} {e p nt : Nat}
theorem num_ok {lo hi : Int32} (h : p ≤ L) (he : e ≤ 4) : p ≤ (numR L T lo hi e p).2.1 ∧ (numR L T lo hi e p).2.1 ≤ L ∧ (numR L T lo hi e p).1 ≤ 4 := by
  have a := sk_ge (T := T) h
  have b := sk_le (T := T) h
  have c := te_le (T := T) b
  have d := nerr_pos (L := L) (T := T) (s := sk L T p)
  unfold numR
  split
  · split
    · exact ⟨by show p ≤ te L T (sk L T p); omega, c.2, Nat.zero_le _⟩
    · exact ⟨a, b, by show nerr L T (sk L T p) ≤ 4; omega⟩
  · exact ⟨Nat.le_refl _, h, he⟩
theorem sgn_ok {ch : Nat} (h : p ≤ L) (he : e ≤ 4) : p ≤ (sgnR L T ch e p).2 ∧ (sgnR L T ch e p).2 ≤ L ∧ (sgnR L T ch e p).1 ≤ 4 := by
  have a := sk_ge (T := T) h
  have b := sk_le (T := T) h
  unfold sgnR
  split
  · split
    · rename_i _ q
      exact ⟨by show p ≤ sk L T p + 1; omega, by show sk L T p + 1 ≤ L; omega, Nat.zero_le _⟩
    · exact ⟨a, b, by show 1 ≤ 4; decide⟩
  · exact ⟨Nat.le_refl _, h, he⟩
theorem lev_ok {x : Nat × Nat} (h : x.2 ≤ L) (he : x.1 ≤ 4) : ∀ k, x.2 ≤ (levP L T x k).2 ∧ (levP L T x k).2 ≤ L ∧ (levP L T x k).1 ≤ 4 := by
  intro k
  induction k with
  | zero => exact ⟨Nat.le_refl _, h, he⟩
  | succ k ih =>
    obtain ⟨i1, i2, i3⟩ := ih
    have c : (levP L T x k).2 ≤ (cmR L T k (levP L T x k)).2 ∧ (cmR L T k (levP L T x k)).2 ≤ L ∧ (cmR L T k (levP L T x k)).1 ≤ 4 := by
      unfold cmR
      split
      · exact ⟨Nat.le_refl _, i2, i3⟩
      · exact sgn_ok i2 i3
    have d := num_ok (T := T) (lo := 0) (hi := 9) c.2.1 c.2.2
    rw [levP]
    exact ⟨Nat.le_trans i1 (Nat.le_trans c.1 d.1), d.2⟩
theorem pup_ok (h : p ≤ L) : p ≤ (pupR L T nt p).2 ∧ (pupR L T nt p).2 ≤ L ∧ (pupR L T nt p).1 ≤ 4 := by
  have a := num_ok (T := T) (lo := 1) (hi := 5) (e := 0) h (Nat.zero_le _)
  have b := num_ok (T := T) (lo := 0) (hi := 100) (e := (pu1 L T p).1) (p := (pu1 L T p).2.1) a.2.1 a.2.2
  have c := num_ok (T := T) (lo := 0) (hi := 100) (e := (pu2 L T p).1) (p := (pu2 L T p).2.1) b.2.1 b.2.2
  have d := lev_ok (T := T) (x := puX L T p) c.2.1 c.2.2 nt
  have f := sgn_ok (T := T) (ch := 59) d.2.1 d.2.2
  exact ⟨Nat.le_trans a.1 (Nat.le_trans b.1 (Nat.le_trans c.1 (Nat.le_trans d.1 f.1))), f.2⟩
theorem lean_ok (h6 : nt ≤ 5) : ∀ n m p, p ≤ L → m < 2 ^ nt → p ≤ (leanR L T nt n m p).2.1 ∧ (leanR L T nt n m p).2.1 ≤ L ∧ (leanR L T nt n m p).2.2 < 2 ^ nt := by
  have h32 : 2 ^ nt ≤ 32 := Nat.pow_le_pow_right (show 0 < 2 by decide) h6
  intro n
  induction n with
  | zero => intro m p hp hm; exact ⟨Nat.le_refl _, hp, hm⟩
  | succ n ih =>
    intro m p hp hm
    have a := sk_ge (T := T) hp
    have b := sk_le (T := T) hp
    have c := te_le (T := T) b
    have d := sk_ge (T := T) c.2
    have f := sk_le (T := T) c.2
    have z : 0 < 2 ^ nt := Nat.pow_pos (by decide)
    rw [leanR]
    split
    · rename_i q
      have hv := num_lt (by omega) q b
      split
      · exact ⟨a, b, z⟩
      · rename_i q2
        have hb' : bt1 m (nv T (sk L T p) (te L T (sk L T p) - sk L T p)) = false := by simpa using q2
        have hlt := add_lt6 nt (by omega) m (by omega) _ (by omega) hm hv hb'
        split
        · rename_i q3
          have r := ih (m + 2 ^ nv T (sk L T p) (te L T (sk L T p) - sk L T p)) (sk L T (te L T (sk L T p)) + 1) (by omega) hlt
          exact ⟨by omega, r.2⟩
        · exact ⟨by show p ≤ sk L T (te L T (sk L T p)); omega, f, hlt⟩
    · exact ⟨a, b, z⟩
theorem thing_ok (h6 : nt ≤ 5) (hp : p ≤ L) : p ≤ (thingR L T nt p).2.1 ∧ (thingR L T nt p).2.1 ≤ L ∧ (thingR L T nt p).2.2 < 2 ^ nt ∧ (thingR L T nt p).1 ≤ 4 := by
  have a := sk_ge (T := T) hp
  have b := sk_le (T := T) hp
  have c := te_le (T := T) b
  have z : 0 < 2 ^ nt := Nat.pow_pos (by decide)
  have hd : p ≤ (headR L T nt p).2.1 ∧ (headR L T nt p).2.1 ≤ L ∧ (headR L T nt p).2.2 < 2 ^ nt ∧ (headR L T nt p).1 ≤ 4 := by
    unfold headR
    split
    · have r := lean_ok (T := T) h6 6 0 (te L T (sk L T p)) c.2 z
      have e := lean_err (L := L) (T := T) (nt := nt) 6 0 (te L T (sk L T p))
      exact ⟨by omega, r.2.1, r.2.2, by omega⟩
    · exact ⟨a, b, z, Nat.zero_le _⟩
  unfold thingR
  split
  · split
    · exact ⟨by show p ≤ (headR L T nt p).2.1 + 1; omega, by show (headR L T nt p).2.1 + 1 ≤ L; omega, hd.2.2.1, Nat.zero_le _⟩
    · exact ⟨hd.1, hd.2.1, z, by show 1 ≤ 4; decide⟩
  · exact ⟨hd.1, hd.2.1, z, hd.2.2.2⟩
theorem num_val {a b : Nat} (h : p ≤ L) (ha : a < 1000) (hb : b < 1000) (z : (numR L T (nI a) (nI b) e p).1 = 0) : a ≤ (numR L T (nI a) (nI b) e p).2.2 ∧ (numR L T (nI a) (nI b) e p).2.2 ≤ b := by
  have hs := sk_le (T := T) h
  have d := nerr_pos (L := L) (T := T) (s := sk L T p)
  unfold numR at z ⊢
  by_cases he : e = 0
  · rw [if_pos he] at z ⊢
    by_cases q : numIs L T (nI a) (nI b) (sk L T p)
    · rw [if_pos q]
      have hv := nv_le (T := T) (s := sk L T p) (te L T (sk L T p) - sk L T p) (fun j x y => (kd_2.mp (te_in hs q.1 (Or.inr rfl) x (by omega))).2.2)
      have := p10s q.2.1
      have q1 := q.2.2.1
      have q2 := q.2.2.2
      rw [leI (by omega) (by omega)] at q1 q2
      exact ⟨q1, q2⟩
    · rw [if_neg q] at z
      have : nerr L T (sk L T p) = 0 := z
      omega
  · rw [if_neg he] at z
    exact absurd z he
end
/-- the error, the place, the school, the levels -/
abbrev Rx : Type := Nat × Nat × Sk × (Nat → Nat → Nat)
def rE (x : Rx) : Nat := x.1
def rP (x : Rx) : Nat := x.2.1
def rK (x : Rx) : Sk := x.2.2.1
def rV (x : Rx) : Nat → Nat → Nat := x.2.2.2
/-- behind one clause -/
def rdS (L : Nat) (T : Nat → Nat) (x : Rx) : Rx :=
  if isW L T 0 (sk L T (rP x)) then
    if nt (rK x) = 6 ∨ 0 < np (rK x) then (4, sk L T (rP x), rK x, rV x)
    else ((thingR L T (nt (rK x)) (te L T (sk L T (rP x)))).1, (thingR L T (nt (rK x)) (te L T (sk L T (rP x)))).2.1, (nt (rK x) + 1, np (rK x), fup (ln (rK x)) (nt (rK x)) (thingR L T (nt (rK x)) (te L T (sk L T (rP x)))).2.2, kq (rK x), kb (rK x), kp (rK x)), rV x)
  else if isW L T 1 (sk L T (rP x)) then
    if np (rK x) = 6 then (4, sk L T (rP x), rK x, rV x)
    else ((pupR L T (nt (rK x)) (te L T (sk L T (rP x)))).1, (pupR L T (nt (rK x)) (te L T (sk L T (rP x)))).2, (nt (rK x), np (rK x) + 1, ln (rK x), fup (kq (rK x)) (np (rK x)) (pu1 L T (te L T (sk L T (rP x)))).2.2, fup (kb (rK x)) (np (rK x)) (pu2 L T (te L T (sk L T (rP x)))).2.2, fup (kp (rK x)) (np (rK x)) (pu3 L T (te L T (sk L T (rP x)))).2.2), fup (rV x) (np (rK x)) (levV L T (puX L T (te L T (sk L T (rP x))))))
  else (1, sk L T (rP x), rK x, rV x)
abbrev rfin (L : Nat) (T : Nat → Nat) (x : Rx) : Prop := ¬ rE x = 0 ∨ L ≤ sk L T (rP x)
def rx0 : Rx := (0, 0, (0, 0, fun _ => 0, fun _ => 0, fun _ => 0, fun _ => 0), fun _ _ => 0)
def rdI (L : Nat) (T : Nat → Nat) : Nat → Rx
  | 0 => rx0
  | n + 1 => if rfin L T (rdI L T n) then rdI L T n else rdS L T (rdI L T n)
def WR (L : Nat) (x : Rx) : Prop := rE x ≤ 4 ∧ rP x ≤ L ∧ (rE x = 0 → WK (rK x) ∧ ∀ p t, p < np (rK x) → t < nt (rK x) → rV x p t ≤ 9)
section
variable {L : Nat} {T : Nat → Nat} {x : Rx}
theorem rdS_ok (h : WR L x) (hf : ¬ rfin L T x) : WR L (rdS L T x) ∧ (rE (rdS L T x) = 0 → rP x < rP (rdS L T x)) := by
  obtain ⟨h1, h2, h3⟩ := h
  have he : rE x = 0 := Classical.byContradiction (fun z => hf (Or.inl z))
  have hs : sk L T (rP x) < L := Nat.lt_of_not_le (fun z => hf (Or.inr z))
  obtain ⟨⟨w1, w2, w3, w4⟩, w5⟩ := h3 he
  have a := sk_ge (T := T) h2
  have c := te_le (T := T) (Nat.le_of_lt hs)
  have d := te_gt (T := T) hs
  unfold rdS
  by_cases hw0 : isW L T 0 (sk L T (rP x))
  · rw [if_pos hw0]
    by_cases q : nt (rK x) = 6 ∨ 0 < np (rK x)
    · rw [if_pos q]
      exact ⟨⟨Nat.le_refl _, Nat.le_of_lt hs, fun z => absurd (show 4 = 0 from z) (by decide)⟩, fun z => absurd (show 4 = 0 from z) (by decide)⟩
    · rw [if_neg q]
      have n0 : np (rK x) = 0 := by omega
      have t := thing_ok (T := T) (nt := nt (rK x)) (p := te L T (sk L T (rP x))) (by omega) c.2
      refine ⟨⟨t.2.2.2, t.2.1, fun _ => ⟨⟨?_, ?_, ?_, ?_⟩, ?_⟩⟩, fun _ => ?_⟩
      · show nt (rK x) + 1 ≤ 6; omega
      · show np (rK x) ≤ 6; omega
      · intro u hu
        have hu : u < nt (rK x) + 1 := hu
        show fup (ln (rK x)) (nt (rK x)) _ u < 2 ^ u
        by_cases y : u = nt (rK x)
        · rw [y, fup_s]; exact t.2.2.1
        · rw [fup_n y]; exact w3 u (by omega)
      · intro p hp
        exact absurd (show p < np (rK x) from hp) (by omega)
      · intro p u hp
        exact absurd (show p < np (rK x) from hp) (by omega)
      · show rP x < (thingR L T (nt (rK x)) (te L T (sk L T (rP x)))).2.1
        omega
  · rw [if_neg hw0]
    by_cases hw1 : isW L T 1 (sk L T (rP x))
    · rw [if_pos hw1]
      by_cases q : np (rK x) = 6
      · rw [if_pos q]
        exact ⟨⟨Nat.le_refl _, Nat.le_of_lt hs, fun z => absurd (show 4 = 0 from z) (by decide)⟩, fun z => absurd (show 4 = 0 from z) (by decide)⟩
      · rw [if_neg q]
        have t := pup_ok (T := T) (nt := nt (rK x)) (p := te L T (sk L T (rP x))) c.2
        refine ⟨⟨t.2.2, t.2.1, fun z => ?_⟩, fun _ => ?_⟩
        · have z : (pupR L T (nt (rK x)) (te L T (sk L T (rP x)))).1 = 0 := z
          obtain ⟨z1, z2, z3, z4⟩ := pup_z z
          have a1 := num_ok (T := T) (lo := 1) (hi := 5) (e := 0) c.2 (Nat.zero_le _)
          have b1 := num_ok (T := T) (lo := 0) (hi := 100) (e := (pu1 L T (te L T (sk L T (rP x)))).1) (p := (pu1 L T (te L T (sk L T (rP x)))).2.1) a1.2.1 a1.2.2
          have c1 := num_ok (T := T) (lo := 0) (hi := 100) (e := (pu2 L T (te L T (sk L T (rP x)))).1) (p := (pu2 L T (te L T (sk L T (rP x)))).2.1) b1.2.1 b1.2.2
          have v1 := num_val (T := T) (e := 0) (a := 1) (b := 5) c.2 (by decide) (by decide) z1
          have v2 := num_val (T := T) (e := (pu1 L T (te L T (sk L T (rP x)))).1) (p := (pu1 L T (te L T (sk L T (rP x)))).2.1) (a := 0) (b := 100) a1.2.1 (by decide) (by decide) z2
          have v3 := num_val (T := T) (e := (pu2 L T (te L T (sk L T (rP x)))).1) (p := (pu2 L T (te L T (sk L T (rP x)))).2.1) (a := 0) (b := 100) b1.2.1 (by decide) (by decide) z3
          refine ⟨⟨w1, ?_, w3, fun p hp => ?_⟩, fun p u hp hu => ?_⟩
          · show np (rK x) + 1 ≤ 6; omega
          · have hp : p < np (rK x) + 1 := hp
            show (1 ≤ fup (kq (rK x)) (np (rK x)) _ p ∧ fup (kq (rK x)) (np (rK x)) _ p ≤ 5) ∧ fup (kb (rK x)) (np (rK x)) _ p ≤ 100 ∧ fup (kp (rK x)) (np (rK x)) _ p ≤ 100
            by_cases y : p = np (rK x)
            · rw [y, fup_s, fup_s, fup_s]; exact ⟨v1, v2.2, v3.2⟩
            · rw [fup_n y, fup_n y, fup_n y]; exact w4 p (by omega)
          · have hp : p < np (rK x) + 1 := hp
            have hu : u < nt (rK x) := hu
            show fup (rV x) (np (rK x)) _ p u ≤ 9
            by_cases y : p = np (rK x)
            · rw [y, fup_s]
              have l1 := lev_ok (T := T) (x := puX L T (te L T (sk L T (rP x)))) c1.2.1 c1.2.2 u
              have cm : (cmR L T u (levP L T (puX L T (te L T (sk L T (rP x)))) u)).2 ≤ L := by
                unfold cmR
                split
                · exact l1.2.1
                · exact (sgn_ok l1.2.1 l1.2.2).2.1
              exact (num_val (T := T) (a := 0) (b := 9) cm (by decide) (by decide) (z4 (u + 1) (by omega))).2
            · rw [fup_n y]; exact w5 p u (by omega) hu
        · show rP x < (pupR L T (nt (rK x)) (te L T (sk L T (rP x)))).2
          omega
    · rw [if_neg hw1]
      exact ⟨⟨by show 1 ≤ 4; decide, Nat.le_of_lt hs, fun z => absurd (show 1 = 0 from z) (by decide)⟩, fun z => absurd (show 1 = 0 from z) (by decide)⟩
theorem rdI_ok : ∀ n, WR L (rdI L T n) ∧ (rfin L T (rdI L T n) ∨ n ≤ rP (rdI L T n)) := by
  intro n
  induction n with
  | zero => exact ⟨⟨Nat.zero_le _, Nat.zero_le _, fun _ => ⟨⟨Nat.zero_le _, Nat.zero_le _, fun t ht => absurd (show t < 0 from ht) (by omega), fun p hp => absurd (show p < 0 from hp) (by omega)⟩, fun p t hp => absurd (show p < 0 from hp) (by omega)⟩⟩, Or.inr (Nat.zero_le _)⟩
  | succ n ih =>
    obtain ⟨i1, i2⟩ := ih
    rw [rdI]
    by_cases hf : rfin L T (rdI L T n)
    · rw [if_pos hf]; exact ⟨i1, Or.inl hf⟩
    · rw [if_neg hf]
      obtain ⟨a, b⟩ := rdS_ok i1 hf
      refine ⟨a, ?_⟩
      by_cases z : rE (rdS L T (rdI L T n)) = 0
      · have := b z
        rcases i2 with i2 | i2
        · exact absurd i2 hf
        · exact Or.inr (by omega)
      · exact Or.inl (Or.inl z)
theorem rdI_end : rfin L T (rdI L T L) := by
  obtain ⟨a, b⟩ := rdI_ok (L := L) (T := T) L
  rcases b with b | b
  · exact b
  · have := sk_ge (T := T) a.2.1
    exact Or.inr (by omega)
theorem rdI_stay {n : Nat} (h : rfin L T (rdI L T n)) : ∀ m, rdI L T (n + m) = rdI L T n := by
  intro m
  induction m with
  | zero => rfl
  | succ m ih => rw [← Nat.add_assoc, rdI, ih, if_pos h]
theorem rdI_next {n : Nat} (h : ¬ rfin L T (rdI L T n)) : rdI L T (n + 1) = rdS L T (rdI L T n) := by
  rw [rdI, if_neg h]
end
