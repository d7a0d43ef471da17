/-! ===== odds: the class's ends of a lesson ===== -/
/-- a lesson's odds under way in the class -/
def oCW (S0 S : St) (n : Nat) (v top qk bl pr : Nat → Nat) (g : Bool) (sd cx hx : Nat) (A : Nat → Nat) : Prop := Bn S n v top qk bl pr g sd ∧ AC S cx A ∧ (∀ cc jj, gR S cc jj = gR S0 cc jj) ∧ ∀ j, gJ S hx j = gJ S0 hx j
def isX (cx hx : Nat) : Prop := (cx = 34 ∧ hx = 35) ∨ (cx = 35 ∧ hx = 34)
theorem isX_LA {cx hx : Nat} (h : isX cx hx) : isLA cx = true ∧ isLA hx = true := by
  rcases h with ⟨rfl, rfl⟩ | ⟨rfl, rfl⟩ <;> decide
section
variable {S0 S : St} {n : Nat} {v top qk bl pr : Nat → Nat} {g : Bool} {sd cx hx : Nat} {A : Nat → Nat}
theorem oCW_add {y w : Nat} (hX : isX cx hx) (h : oCW S0 S n v top qk bl pr g sd cx hx A) (hy : y < 1000) : oCW S0 (sJ S cx y (gJ S cx y + lN w)) n v top qk bl pr g sd cx hx (ad A y w) :=
  ⟨Bn_of h.1 (fun _ _ _ _ => rfl), AC_add h.2.1 hy, h.2.2.1, fun j => by rw [gJ_sJ_c (by rcases hX with ⟨a, b⟩ | ⟨a, b⟩ <;> omega)]; exact h.2.2.2 j⟩
theorem oCW_congr {B : Nat → Nat} (h : oCW S0 S n v top qk bl pr g sd cx hx A) (h0 : ∀ x, A x = B x) : oCW S0 S n v top qk bl pr g sd cx hx B := ⟨h.1, AC_congr h.2.1 h0, h.2.2⟩
theorem oCW_fr {la lb : List (Nat × Nat)} {S' : St} (hX : isX cx hx) (h : oCW S0 S n v top qk bl pr g sd cx hx A) (hu : Un la lb [] S S') (hl : ∀ x ∈ la, ¬ (25 ≤ x.1 ∧ x.1 ≤ 31)) (hl2 : ∀ x ∈ lb, x.1 = 36) : oCW S0 S' n v top qk bl pr g sd cx hx A := by
  have hj : ∀ c j, c = cx ∨ c = hx → gJ S' c j = gJ S c j := fun c j q => hu.j c j (fun m => by have := hl2 _ m; dsimp only at this; rcases hX with ⟨a, b⟩ | ⟨a, b⟩ <;> omega) (fun m => by have := hl2 _ m; dsimp only at this; rcases hX with ⟨a, b⟩ | ⟨a, b⟩ <;> omega)
  exact ⟨Bn_fr1 h.1 hu hl, AC_of h.2.1 (fun x => hj cx x (Or.inl rfl)), fun cc jj => (hu.r cc jj (by simp)).trans (h.2.2.1 cc jj), fun j => (hj hx j (Or.inr rfl)).trans (h.2.2.2 j)⟩
theorem PS_add {k y : Nat} {w : Int64} {P : Nat → Nat} (hX : isX cx hx) (h : PS S k P) : PS (sJ S cx y w) k P := PS_of h rfl rfl (fun m => by rw [gJ_sJ_c (by rcases hX with ⟨a, b⟩ | ⟨a, b⟩ <;> omega)])
theorem p10_3 {n : Nat} (h : n ≤ 3) : 10 ^ n ≤ 1000 := Nat.le_trans (Nat.pow_le_pow_right (by decide) h) (by decide)
theorem hc_l3 {w : Nat → Nat} (hn : n ≤ 3) (h : ∀ i, i < n → w i ≤ 9) : hc w n 0 < 1000 := Nat.lt_of_lt_of_le (hc_lt n 0 (fun i _ hi => h i (by omega))) (p10_3 hn)
theorem tens5 {i : Nat} (h : i < 4) : tensF (nI i).toNatClampNeg = nI (10 ^ i) := by rw [nI_clamp (by omega), tensF_eq i (by omega)]
def dRm (s fal : Nat) (q : Nat) (P : Nat → Nat) (x m : Nat) : Nat := (if x = s then P m * q / 100 else 0) + if x = fal then P m - P m * q / 100 else 0
/-- all agree -/
theorem agreed_eq {one : Nat} {P : Nat → Nat} {k : Nat} (hX : isX cx hx) (hr1 : gR S0 33 1 = cx) (hn : n ≤ 3) (h9 : ∀ i, v i ≤ 9) (ho : one < n) (h : oCW S0 S n v top qk bl pr g sd cx hx A) (hP : PS S k P) : ∃ S', FX1_endRight_98 FU (nI one) (nI (hc v n 0)) (nI 0) S = some ((), S') ∧ oCW S0 S' n v top qk bl pr g sd cx hx (ad A (hc (tA v top one) n 0) (P 0)) := by
  have ht : ∀ i, i < n → top i ≤ 9 := fun i hi => by have := (h.1.2.2.2.2.2 i hi).2.1.2; omega
  exact loopFU (fun fu (x : Int32 × Int32 × St) => FX1_endRight_98 fu (nI one) x.1 x.2.1 x.2.2) (fun i x => x = (nI (hc (fun j => if j < i then tA v top one j else v j) n 0), nI i, S)) (fun r => ∃ S', r = some ((), S') ∧ oCW S0 S' n v top qk bl pr g sd cx hx (ad A (hc (tA v top one) n 0) (P 0))) n (FU_lt (by omega))
    (by
      intro i fu x hi e
      subst e
      obtain ⟨⟨a1, a2⟩, ⟨b1, b2⟩, -⟩ := h.1.2.2.2.2.2 i hi
      obtain ⟨⟨o1, o2⟩, -⟩ := h.1.2.2.2.2.2 one ho
      have hfup : ∀ j, j < n → (fun j => if j < i + 1 then tA v top one j else v j) j = fup (fun j => if j < i then tA v top one j else v j) i (tA v top one i) j := fun j hj => by
        by_cases hji : j = i
        · subst hji; rw [fup_s]; dsimp only; rw [if_pos (by omega)]
        · rw [fup_n hji]; dsimp only
          by_cases h1 : j < i
          · rw [if_pos h1, if_pos (by omega)]
          · rw [if_neg h1, if_neg (by omega)]
      have hval : v i ≤ tA v top one i := by unfold tA; split; exact ri_ge; exact Nat.le_refl _
      have hup : hc (fun j => if j < i + 1 then tA v top one j else v j) n 0 = hc (fun j => if j < i then tA v top one j else v j) n 0 + (tA v top one i - v i) * 10 ^ i := by
        rw [hc_congr n 0 (fun j _ hj => hfup j (by omega)), hc_up hi (by rw [if_neg (Nat.lt_irrefl _)]; exact hval), if_neg (Nat.lt_irrefl _)]
      refine Or.inl ⟨(nI (hc (fun j => if j < i + 1 then tA v top one j else v j) n 0), nI (i + 1), S), ?_, rfl⟩
      dsimp only
      rw [FX1_endRight_98, h.1.1, if_neg (by rw [leI (by omega) (by omega)]; omega), gdI (by omega) (by omega), gdI (by omega) (by omega), clI (by omega), clI (by omega), a1, o1, room_eq h.1 hi, bd_s, gdI (by omega) (by omega), tensF_eq i (by omega), hup]
      by_cases hlt : v one < v i
      · have : tA v top one i = v i := by unfold tA; rw [if_neg (by omega)]
        rw [if_pos (by rw [ltI (by omega) (by omega)]; exact hlt), FX1_endRight_143, this, Nat.sub_self, Nat.zero_mul, Nat.add_zero, nI_1]
      · rw [if_neg (by rw [ltI (by omega) (by omega)]; exact hlt)]
        by_cases hroom : top i - v i = 0
        · have : tA v top one i = v i := by unfold tA ri; rw [if_pos (by omega), if_neg (by omega)]
          rw [if_pos (by rw [hroom]; decide), FX1_endRight_143, this, Nat.sub_self, Nat.zero_mul, Nat.add_zero, nI_1]
        · have : tA v top one i = v i + 1 := by unfold tA ri; rw [if_pos (by omega), if_pos (by omega)]; split <;> omega
          rw [if_neg (by rw [li_0, leI (by omega) (by omega)]; omega), FX1_endRight_143, this, Nat.add_sub_cancel_left, Nat.one_mul, nI_add, nI_1])
    (by
      intro fu x e
      subst e
      have hcode : hc (fun j => if j < n then tA v top one j else v j) n 0 = hc (tA v top one) n 0 := hc_congr n 0 (fun j _ hj => by rw [if_pos (by omega)])
      have hlt : hc (tA v top one) n 0 < 1000 := hc_l3 hn (fun i hi => by unfold tA; split; exact ri_le (h9 i) (ht i hi); exact h9 i)
      refine ⟨_, ?_, oCW_add hX h hlt⟩
      dsimp only
      rw [FX1_endRight_98, h.1.1, if_pos (Int32.le_refl _), hcode, h.2.2.1, hr1, gd_t (isX_LA hX).1, gdI (by omega) (by omega), gd_t (by decide), gdI (by omega) (by omega), clI (by omega)]
      rw [show (0 : Int32).toNatClampNeg = 0 from rfl, hP.2.2.2 0 (Nat.pow_pos (by decide))])
    (nI (hc v n 0), nI 0, S) (by
      have : hc (fun j => if j < 0 then tA v top one j else v j) n 0 = hc v n 0 := hc_congr n 0 (fun j _ _ => by rw [if_neg (by omega)])
      rw [this])
theorem endRight_eq {one : Nat} {P : Nat → Nat} {k : Nat} (hX : isX cx hx) (hr1 : gR S0 33 1 = cx) (hn : n ≤ 3) (h9 : ∀ i, v i ≤ 9) (ho : one < n) (h : oCW S0 S n v top qk bl pr g sd cx hx A) (hP : PS S k P) (hPl : ∀ m, P m ≤ 1000000000) : ∃ S', fX1_endRight (nI one) (nI (hc v n 0)) S = some ((), S') ∧ oCW S0 S' n v top qk bl pr g sd cx hx (ad (fun x => A x + sg (dRm (hc v n 0) (hc (fup v one (v one - 1)) n 0) (pr one) P x) 1 (2 ^ k - 1)) (hc (tA v top one) n 0) (P 0)) := by
  have h8 := p2_3 hP.2.2.1
  have hsl : hc v n 0 < 1000 := hc_l3 hn (fun i _ => h9 i)
  have hfl : hc (fup v one (v one - 1)) n 0 < 1000 := hc_l3 hn (fun i _ => by
    by_cases hi : i = one
    · subst hi; rw [fup_s]; have := h9 i; omega
    · rw [fup_n hi]; exact h9 i)
  obtain ⟨⟨o1, o2⟩, -, -, -, o3, o4⟩ := h.1.2.2.2.2.2 one ho
  have key := loopFU (fun fu (x : Int32 × St) => FX1_endRight_25 fu (nI one) (nI (hc v n 0)) (nI (hc (fup v one (v one - 1)) n 0)) x.1 x.2) (fun j x => ∃ S1, x = (nI (1 + j), S1) ∧ oCW S0 S1 n v top qk bl pr g sd cx hx (fun x => A x + sg (dRm (hc v n 0) (hc (fup v one (v one - 1)) n 0) (pr one) P x) 1 j) ∧ PS S1 k P) (fun r => ∃ S', r = some ((), S') ∧ oCW S0 S' n v top qk bl pr g sd cx hx (ad (fun x => A x + sg (dRm (hc v n 0) (hc (fup v one (v one - 1)) n 0) (pr one) P x) 1 (2 ^ k - 1)) (hc (tA v top one) n 0) (P 0))) (2 ^ k - 1) (FU_lt (by omega))
    (by
      intro j fu x hj ⟨S1, e, h1, hP1⟩
      subst e
      have q1 : gN S1 31 one = nI (pr one) := (h1.1.2.2.2.2.2 one ho).2.2.2.2.1
      have q2 := hP1.2.2.2 (1 + j) (by omega)
      have hle := pc_le (w := P (1 + j)) o4
      have h2 := oCW_add (y := hc v n 0) (w := P (1 + j) * pr one / 100) hX h1 hsl
      have h3 := oCW_add (y := hc (fup v one (v one - 1)) n 0) (w := P (1 + j) - P (1 + j) * pr one / 100) hX h2 hfl
      refine Or.inl ⟨(nI (1 + (j + 1)), _), ?_, _, rfl, oCW_congr h3 (fun x => ?_), PS_add hX (PS_add hX hP1)⟩
      · dsimp only
        rw [FX1_endRight_25, hP1.1, if_neg (by rw [leI (by omega) (by omega)]; omega), gdI (by omega) (by omega), gdI (by omega) (by omega), clI (by omega), clI (by omega), q1, q2, pc_eq (hPl _) o4]
        dsimp only
        rw [h1.2.2.1, hr1, gd_t (isX_LA hX).1, gdI (by omega) (by omega), gdI (by omega) (by omega), clI (by omega), gR_sJ, h1.2.2.1, hr1, gd_t (isX_LA hX).1, gdI (by omega) (by omega), gdI (by omega) (by omega), gdI (by omega) (by omega), clI (by omega), gJ_sJ_c (show (36 : Nat) ≠ cx by rcases hX with ⟨a, b⟩ | ⟨a, b⟩ <;> omega), q2, lN_sub hle, nI_1]
        rfl
      · unfold ad dRm
        dsimp only
        rw [sg]
        omega)
    (by
      intro fu x ⟨S1, e, h1, hP1⟩
      subst e
      obtain ⟨S2, e2, h2⟩ := agreed_eq (P := P) hX hr1 hn h9 ho h1 hP1
      refine ⟨S2, ?_, h2⟩
      have hp := Nat.pow_pos (n := k) (show 0 < 2 by decide)
      dsimp only
      rw [FX1_endRight_25, hP1.1, if_pos (by rw [leI (by omega) (by omega)]; omega)]
      exact e2)
    (nI 1, S) ⟨S, rfl, oCW_congr h (fun x => rfl), hP⟩
  obtain ⟨S', e, r⟩ := key
  refine ⟨S', ?_, r⟩
  have hdn := hc_dn (v := v) (w := v one - 1) ho (by omega)
  rw [fX1_endRight, gdI (by omega) (by omega), clI (by omega), o1]
  by_cases h0 : v one = 0
  · rw [if_pos (by rw [h0]; decide), FX1_endRight_20]
    rw [show v one - (v one - 1) = 0 by omega, Nat.zero_mul, Nat.add_zero] at hdn
    rw [hdn] at e
    exact e
  · rw [if_neg (by rw [li_0, leI (by omega) (by omega)]; omega), gdI (by omega) (by omega), FX1_endRight_20]
    have e2 := tens5 (i := one) (by omega)
    rw [clI (by omega)] at e2
    rw [show v one - (v one - 1) = 1 by omega, Nat.one_mul] at hdn
    rw [e2, subI (by omega), show hc v n 0 - 10 ^ one = hc (fup v one (v one - 1)) n 0 by omega]
    exact e
end
