/-! ===== lesson, rises, up ===== -/
section
variable {mk : Nat → Bool} {lv top qk bl pr : Nat → Nat} {g dw : Bool} {n one sd : Nat}
theorem nfoldSd {r : Bool} {x0 : (Nat → Bool) × Bool × Nat} (h : x0.2.2 < 2147483648) : ∀ j, (nfold mk lv one r dw x0 j).2.2 < 2147483648 := by
  intro j
  induction j with
  | zero => exact h
  | succ j ih =>
    rw [nfold, nstep]
    split
    · exact cm_lt ih
    · exact ih
theorem bfoldSd {x0 : (Nat → Nat) × Nat} (h : x0.2 < 2147483648) : ∀ j, (bfold mk lv bl one dw x0 j).2 < 2147483648 := by
  intro j
  induction j with
  | zero => exact h
  | succ j ih =>
    rw [bfold, bstep]
    split
    · exact cm_lt ih
    · exact ih
theorem bfold_le {x0 : (Nat → Nat) × Nat} {i : Nat} (h : x0.1 i ≤ 9) (hl : lv i ≤ 9) : ∀ j, (bfold mk lv bl one dw x0 j).1 i ≤ 9 := by
  intro j
  induction j with
  | zero => exact h
  | succ j ih =>
    rw [bfold, bstep]
    split
    · dsimp only
      split
      · by_cases hij : i = j
        · subst hij; rw [fup_s]; omega
        · rw [fup_n hij]; exact ih
      · exact ih
    · exact ih
theorem lesG_sd (hs : sd < 2147483648) : (lesG n mk lv g one dw sd).2 < 2147483648 := by
  unfold lesG
  have h1 : (lesN n mk lv one dw sd).2.2 < 2147483648 := nfoldSd (cm_lt hs) n
  split
  · exact cm_lt h1
  · exact h1
theorem lesSd_lt (hs : sd < 2147483648) : lesSd n mk lv bl pr g one dw sd < 2147483648 := by
  have h1 := lesG_sd (n := n) (mk := mk) (lv := lv) (g := g) (one := one) (dw := dw) hs
  unfold lesSd
  split
  · split
    · exact cm_lt h1
    · exact h1
  · split
    · exact h1
    · exact bfoldSd h1 n
theorem lesLv_le {i : Nat} (hl : lv i ≤ 9) (ht : top i ≤ 9) : lesLv n mk lv top qk bl pr g one dw sd i ≤ 9 := by
  unfold lesLv
  split
  · split
    · split <;> omega
    · split
      · exact ri_le hl ht
      · exact hl
  · split
    · split
      · exact ri_le hl ht
      · split
        · exact ri_le hl ht
        · exact hl
    · exact bfold_le hl hl n
end
theorem tpv_le (k : Sk) (lv : Nat → Nat → Nat) (known p t : Nat) : tpv k lv known p t ≤ 9 := by rcases tpv_is k lv known p t with h | h <;> omega
theorem lset_WS {k : Sk} {s : Sd} {t sd : Nat} {lv : Nat → Nat} (hs : WS k s) (h : ∀ p, p < np k → lv p ≤ 9) (hd : sd < 2147483648) : WS k (lset (dl s) t lv, dG s, sd, dT s) := by
  refine ⟨fun p u hp hu => ?_, hd, hs.2.2⟩
  show lset (dl s) t lv p u ≤ 9
  unfold lset
  split
  · exact h p hp
  · exact hs.1 p u hp hu
theorem lesS_WS {k : Sk} {s : Sd} {p t : Nat} {dw : Bool} (hs : WS k s) (ht : t < nt k) : WS k (lesS k s p t dw) :=
  lset_WS hs (fun q hq => lesLv_le (hs.1 q t hq ht) (tpv_le _ _ _ _ _)) (lesSd_lt hs.2.1)
section
variable {c : Cx}
theorem ag_lesson (hw : WC c) (x y : Int32) (b : Bool) : Ag c (fX6_lesson x y (bI b)) (fX7_lesson x y (bI b)) := by
  cases hp : inB x (np (xK c)) with
  | false =>
    exact ⟨-1000001, c, hw, fun S h => ⟨S, by rw [fX6_lesson, isPupil_c h hw, hp, bd_s, if_pos bI_f0]; rfl, h⟩, fun S h => ⟨S, by rw [fX7_lesson, isPupil_m h hw, hp, bd_s, if_pos bI_f0]; rfl, h⟩, rfl⟩
  | true =>
  cases ht : inB y (nt (xK c)) with
  | false =>
    exact ⟨-1000001, c, hw, fun S h => ⟨S, by rw [fX6_lesson, isPupil_c h hw, hp, bd_s, if_neg bI_t0, isThing_c h hw, ht, bd_s, if_pos bI_f0]; rfl, h⟩, fun S h => ⟨S, by rw [fX7_lesson, isPupil_m h hw, hp, bd_s, if_neg bI_t0, isThing_m h hw, ht, bd_s, if_pos bI_f0]; rfl, h⟩, rfl⟩
  | true =>
    obtain ⟨p, g1, g2, rfl⟩ := inB_get hp
    obtain ⟨t, h1, h2, rfl⟩ := inB_get ht
    refine ⟨nI (lesOut (np (xK c)) (fun _ => true) (fun q => dl (xS c) q t) (dG (xS c)) p b (dS (xS c))), setS c (lesS (xK c) (xS c) p t b), WC_set hw (lesS_WS hw.2.1 h1), fun S h => ?_, fun S h => ?_, rfl⟩
    · obtain ⟨S1, e1, r1, hB1, -, hw1⟩ := sitAll_c h hw h1
      obtain ⟨S2, e2, hB2⟩ := hold_eq hB1 (one := p) (dw := b) g1
      have u2 := wX0_hold e2
      obtain ⟨S3, e3, r3⟩ := leave_c (u2.okC r1 (by decide)) hw hB2 (fun i hi => by rw [u2.n 26 i (by simp) (by simp)]; exact hw1 i hi) h1
      refine ⟨S3, ?_, r3⟩
      rw [fX6_lesson, isPupil_c h hw, hp, bd_s, if_neg bI_t0, isThing_c h hw, ht, bd_s, if_neg bI_t0, e1, bd_s, e2, bd_s, e3, bd_s]
    · obtain ⟨S1, e1, r1, hB1⟩ := take_m h hw h1
      obtain ⟨S2, e2, hB2⟩ := teachAll_eq hB1 (one := p) (g := dG (xS c)) (dw := b) g1
      have u2 := wX7_teach e2
      have r1' : RM S2 (setS c (dl (xS c), dG (xS c), lesSd (np (xK c)) (fun _ => true) (fun q => dl (xS c) q t) (kb (xK c)) (kp (xK c)) (dG (xS c)) p b (dS (xS c)), dT (xS c))) := RM_set r1 (fun cc jj q => u2.n cc jj (by simp; omega) (by simp; omega)) ⟨fun p t hp ht => by rw [u2.n 47 _ (by simp) (by simp)]; exact r1.2.1.1 p t hp ht, by rw [u2.n 44 5 (by simp) (by simp)]; exact r1.2.1.2.1, hB2.2.2.1, by rw [u2.n 44 6 (by simp) (by simp)]; exact r1.2.1.2.2.2⟩
      obtain ⟨S3, e3, r3⟩ := put_m r1' (WC_set hw ⟨hw.2.1.1, lesSd_lt hw.2.1.2.1, hw.2.1.2.2⟩) hB2 r1'.2.1.1 h1
      refine ⟨S3, ?_, r3⟩
      rw [fX7_lesson, isPupil_m h hw, hp, bd_s, if_neg bI_t0, isThing_m h hw, ht, bd_s, if_neg bI_t0, show (0 : Int32) = nI 0 from rfl, e1, bd_s, everybody_eq hB1.1 hB1.2.1, bd_s, r1.2.1.2.1, e2, bd_s, e3, bd_s]
theorem ag_rises (hw : WC c) (x y : Int32) : Ag c (fX6_rises x y) (fX7_rises x y) := by
  cases hp : inB x (np (xK c)) with
  | false =>
    exact ⟨-1000001, c, hw, fun S h => ⟨S, by rw [fX6_rises, isPupil_c h hw, hp, bd_s, if_pos bI_f0]; rfl, h⟩, fun S h => ⟨S, by rw [fX7_rises, isPupil_m h hw, hp, bd_s, if_pos bI_f0]; rfl, h⟩, rfl⟩
  | true =>
  cases ht : inB y (nt (xK c)) with
  | false =>
    exact ⟨-1000001, c, hw, fun S h => ⟨S, by rw [fX6_rises, isPupil_c h hw, hp, bd_s, if_neg bI_t0, isThing_c h hw, ht, bd_s, if_pos bI_f0]; rfl, h⟩, fun S h => ⟨S, by rw [fX7_rises, isPupil_m h hw, hp, bd_s, if_neg bI_t0, isThing_m h hw, ht, bd_s, if_pos bI_f0]; rfl, h⟩, rfl⟩
  | true =>
    obtain ⟨p, g1, g2, rfl⟩ := inB_get hp
    obtain ⟨t, h1, h2, rfl⟩ := inB_get ht
    have k1 := hw.1.1
    have k2 := hw.1.2.1
    have l9 := hw.2.1.1 p t g1 h1
    have t9 := tpv_le (xK c) (dl (xS c)) 0 p t
    refine ⟨nI (tpv (xK c) (dl (xS c)) 0 p t - dl (xS c) p t), c, hw, fun S h => ?_, fun S h => ⟨S, ?_, h⟩, rfl⟩
    · obtain ⟨S1, e1, r1, hB1, -, hw1⟩ := sitAll_c h hw h1
      refine ⟨S1, ?_, r1⟩
      rw [fX6_rises, isPupil_c h hw, hp, bd_s, if_neg bI_t0, isThing_c h hw, ht, bd_s, if_neg bI_t0, e1, bd_s, room_eq hB1 g1, bd_s]
    · rw [fX7_rises, isPupil_m h hw, hp, bd_s, if_neg bI_t0, isThing_m h hw, ht, bd_s, if_neg bI_t0, show (0 : Int32) = nI 0 from rfl, capOf_eq hw.1 h.1 h.2.1.1 (fun u hu => hw.2.1.1 p u g1 hu) g1 h1 (by decide), bd_s]
      have := h.2.1.1 p t g1 h1
      simp (disch := omega) only [li_6, pk_mul, nI_add, gdI, clI, this]
      by_cases hle : dl (xS c) p t ≤ tpv (xK c) (dl (xS c)) 0 p t
      · rw [subI hle, if_pos (by rw [leI (by omega) (by omega)]; omega)]
      · rw [if_neg (by rw [← sub_zero (nI 0), sub_le (by omega) (by omega) (by omega) (by omega)]; omega), show tpv (xK c) (dl (xS c)) 0 p t - dl (xS c) p t = 0 by omega]
end
