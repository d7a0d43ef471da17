/-! ===== pure rows: numbers, reads behind writes ===== -/
theorem li_0 : (0 : Int32) = nI 0 := rfl
theorem li_1 : (1 : Int32) = nI 1 := rfl
theorem li_2 : (2 : Int32) = nI 2 := rfl
theorem li_3 : (3 : Int32) = nI 3 := rfl
theorem li_4 : (4 : Int32) = nI 4 := rfl
theorem li_5 : (5 : Int32) = nI 5 := rfl
theorem li_6 : (6 : Int32) = nI 6 := rfl
theorem li_7 : (7 : Int32) = nI 7 := rfl
theorem li_8 : (8 : Int32) = nI 8 := rfl
theorem li_9 : (9 : Int32) = nI 9 := rfl
theorem li_10 : (10 : Int32) = nI 10 := rfl
theorem li_20 : (20 : Int32) = nI 20 := rfl
theorem li_31 : (31 : Int32) = nI 31 := rfl
theorem li_32 : (32 : Int32) = nI 32 := rfl
theorem li_36 : (36 : Int32) = nI 36 := rfl
theorem li_40 : (40 : Int32) = nI 40 := rfl
theorem li_44 : (44 : Int32) = nI 44 := rfl
theorem li_48 : (48 : Int32) = nI 48 := rfl
theorem li_50 : (50 : Int32) = nI 50 := rfl
theorem li_57 : (57 : Int32) = nI 57 := rfl
theorem li_59 : (59 : Int32) = nI 59 := rfl
theorem li_63 : (63 : Int32) = nI 63 := rfl
theorem li_97 : (97 : Int32) = nI 97 := rfl
theorem li_99 : (99 : Int32) = nI 99 := rfl
theorem li_100 : (100 : Int32) = nI 100 := rfl
theorem li_122 : (122 : Int32) = nI 122 := rfl
theorem li_255 : (255 : Int32) = nI 255 := rfl
theorem li_300 : (300 : Int32) = nI 300 := rfl
theorem li_400 : (400 : Int32) = nI 400 := rfl
theorem li_1000 : (1000 : Int32) = nI 1000 := rfl
theorem li_65536 : (65536 : Int32) = nI 65536 := rfl
theorem li_96 : (96 : Int32) = nI 96 := rfl
theorem li_18 : (18 : Int32) = nI 18 := rfl
theorem inB_n {k n : Nat} (h : k < n) (hn : n < 2147483648) : inB (nI k) n = true := by
  simp only [inB, Bool.and_eq_true, decide_eq_true_eq]
  exact ⟨nI_pos' (by omega), by rw [nI_clamp (by omega)]; exact h⟩
theorem gd_t {α : Type} {b : Bool} {x : Option α} (h : b = true) : gd b x = x := by rw [h]; rfl
theorem gdI {α : Type} {k n : Nat} {x : Option α} (h : k < n) (hn : n < 2147483648) : gd (inB (nI k) n) x = x := gd_t (inB_n h hn)
theorem clI {k : Nat} (h : k < 2147483648) : (nI k).toNatClampNeg = k := nI_clamp h
theorem clL (k : Nat) : (0 : Int32).toNatClampNeg = 0 := rfl
theorem ltI {a b : Nat} (ha : a < 2147483648) (hb : b < 2147483648) : nI a < nI b ↔ a < b := nI_ltI ha hb
theorem leI {a b : Nat} (ha : a < 2147483648) (hb : b < 2147483648) : nI a ≤ nI b ↔ a ≤ b := nI_leI ha hb
theorem eqI {a b : Nat} (ha : a < 2147483648) (hb : b < 2147483648) : nI a = nI b ↔ a = b := nI_eq ha hb
theorem subI {a b : Nat} (h : b ≤ a) : nI a - nI b = nI (a - b) := pk_sub h
theorem divI {a d : Nat} (ha : a < 2147483648) (h0 : 0 < d) (hd : d < 2147483648) : nI a / nI d = nI (a / d) := pk_div ha h0 hd
theorem bd_s {α β : Type} {a : α} {S : St} {k : α → St → Option β} : bd (some (a, S)) k = k a S := rfl
theorem gN_sN_s {S : St} {c j : Nat} {v : Int32} : gN (sN S c j v) c j = v := by simp only [gN, sN, up_eq]
theorem gN_sN_c {S : St} {c j c' j' : Nat} {v : Int32} (h : c' ≠ c) : gN (sN S c j v) c' j' = gN S c' j' := by simp only [gN, sN, up_ne h]
theorem gN_sN_j {S : St} {c j j' : Nat} {v : Int32} (h : j' ≠ j) : gN (sN S c j v) c j' = gN S c j' := by simp only [gN, sN, up_eq, up_ne h]
theorem gJ_sN {S : St} {c j c' j' : Nat} {v : Int32} : gJ (sN S c j v) c' j' = gJ S c' j' := rfl
theorem gR_sN {S : St} {c j c' j' : Nat} {v : Int32} : gR (sN S c j v) c' j' = gR S c' j' := rfl
theorem gN_sJ {S : St} {c j c' j' : Nat} {v : Int64} : gN (sJ S c j v) c' j' = gN S c' j' := rfl
theorem gR_sJ {S : St} {c j c' j' : Nat} {v : Int64} : gR (sJ S c j v) c' j' = gR S c' j' := rfl
theorem gN_sR {S : St} {c j c' j' v : Nat} : gN (sR S c j v) c' j' = gN S c' j' := rfl
theorem gJ_sR {S : St} {c j c' j' v : Nat} : gJ (sR S c j v) c' j' = gJ S c' j' := rfl
theorem gJ_sJ_s {S : St} {c j : Nat} {v : Int64} : gJ (sJ S c j v) c j = v := by simp only [gJ, sJ, up_eq]
theorem gJ_sJ_c {S : St} {c j c' j' : Nat} {v : Int64} (h : c' ≠ c) : gJ (sJ S c j v) c' j' = gJ S c' j' := by simp only [gJ, sJ, up_ne h]
theorem gJ_sJ_j {S : St} {c j j' : Nat} {v : Int64} (h : j' ≠ j) : gJ (sJ S c j v) c j' = gJ S c j' := by simp only [gJ, sJ, up_eq, up_ne h]
theorem gR_sR_s {S : St} {c j v : Nat} : gR (sR S c j v) c j = v := by simp only [gR, sR, up_eq]
theorem gR_sR_c {S : St} {c j c' j' v : Nat} (h : c' ≠ c) : gR (sR S c j v) c' j' = gR S c' j' := by simp only [gR, sR, up_ne h]
theorem gR_sR_j {S : St} {c j j' v : Nat} (h : j' ≠ j) : gR (sR S c j v) c j' = gR S c j' := by simp only [gR, sR, up_eq, up_ne h]
/-- a truth value as an int -/
def bI (b : Bool) : Int32 := if b then 1 else 0
theorem bI_0 {b : Bool} : bI b = nI 0 ↔ b = false := by cases b <;> simp [bI] <;> decide
theorem bI_isB (b : Bool) : isB (bI b) = true := by cases b <;> rfl
theorem bI_nar (b : Bool) : vp_nar .boolean (bI b) = bI b := by cases b <;> rfl
theorem bI_t : bI true = 1 := rfl
theorem bI_f : bI false = 0 := rfl
/-! the frame of a run, read off -/
theorem Un.n {la lb lc : List (Nat × Nat)} {S S' : St} (h : Un la lb lc S S') (c j : Nat) (h1 : (c, 99) ∉ la) (h2 : (c, j) ∉ la) : gN S' c j = gN S c j := h.1 c j h1 h2
theorem Un.j {la lb lc : List (Nat × Nat)} {S S' : St} (h : Un la lb lc S S') (c j : Nat) (h1 : (c, 99) ∉ lb) (h2 : (c, j) ∉ lb) : gJ S' c j = gJ S c j := h.2.1 c j h1 h2
theorem Un.r {la lb lc : List (Nat × Nat)} {S S' : St} (h : Un la lb lc S S') (c j : Nat) (h1 : (c, j) ∉ lc) : gR S' c j = gR S c j := h.2.2 c j h1
/-! ===== a lesson, in numbers ===== -/
def dr (sd : Nat) : Nat := (sd * 1103515245 + 12345) % 2147483648
def cm (ch : Nat) (dw : Bool) (sd : Nat) : Bool × Nat := if dw = true then (decide (dr sd / 65536 % 100 < ch), dr sd) else (decide (50 ≤ ch), sd)
def noc (l : Nat) (r : Bool) : Nat := if r = true then 5 * (9 - l) else 10 * l
/-- those who sit: how many, their levels, tops, QUICK, BELIEF, PRIDE; the guest; the seed -/
def Bn (S : St) (n : Nat) (lv top qk bl pr : Nat → Nat) (g : Bool) (sd : Nat) : Prop :=
  gN S 25 0 = nI n ∧ n ≤ 6 ∧ gN S 25 2 = bI g ∧ gN S 25 3 = nI sd ∧ sd < 2147483648 ∧ ∀ i, i < n → (gN S 27 i = nI (lv i) ∧ lv i ≤ 9) ∧ (gN S 28 i = nI (top i) ∧ (top i = 4 ∨ top i = 9)) ∧ (gN S 29 i = nI (qk i) ∧ 1 ≤ qk i ∧ qk i ≤ 5) ∧ (gN S 30 i = nI (bl i) ∧ bl i ≤ 100) ∧ gN S 31 i = nI (pr i) ∧ pr i ≤ 100
section
variable {S : St} {n : Nat} {lv top qk bl pr : Nat → Nat} {g : Bool} {sd : Nat}
theorem rightChance_eq (hB : Bn S n lv top qk bl pr g sd) {i : Nat} (hi : i < n) : fX0_rightChance (nI i) S = some (nI (10 * lv i + 5), S) := by
  obtain ⟨h0, h6, hg, hs, hs1, h⟩ := hB
  obtain ⟨⟨a1, a2⟩, -⟩ := h i hi
  simp (disch := omega) only [fX0_rightChance, gdI, clI, clL, ltI, leI, eqI, nI_add, subI, pk_mul, divI, bd_s, li_0, li_1, li_2, li_3, li_4, li_5, li_6, li_7, li_8, li_9, li_10, li_20, li_31, li_32, li_36, li_40, li_44, li_48, li_50, li_57, li_59, li_63, li_97, li_99, li_100, li_122, li_255, li_300, li_400, li_1000, li_65536, li_96, li_18, a1]
theorem noChance_eq {l : Nat} {r : Bool} (h : l ≤ 9) : fX0_noChance (nI l) (bI r) S = some (nI (noc l r), S) := by
  cases r <;> simp (disch := omega) [fX0_noChance, gdI, clI, clL, ltI, leI, eqI, nI_add, subI, pk_mul, divI, bd_s, li_0, li_1, li_2, li_3, li_4, li_5, li_6, li_7, li_8, li_9, li_10, li_20, li_31, li_32, li_36, li_40, li_44, li_48, li_50, li_57, li_59, li_63, li_97, li_99, li_100, li_122, li_255, li_300, li_400, li_1000, li_65536, li_96, li_18, noc, bI, ↓reduceIte]
theorem room_eq (hB : Bn S n lv top qk bl pr g sd) {i : Nat} (hi : i < n) : fX0_room (nI i) S = some (nI (top i - lv i), S) := by
  obtain ⟨h0, h6, hg, hs, hs1, h⟩ := hB
  obtain ⟨⟨a1, a2⟩, ⟨b1, b2⟩, -⟩ := h i hi
  simp (disch := omega) only [fX0_room, gdI, clI, clL, ltI, leI, eqI, nI_add, subI, pk_mul, divI, bd_s, li_0, li_1, li_2, li_3, li_4, li_5, li_6, li_7, li_8, li_9, li_10, li_20, li_31, li_32, li_36, li_40, li_44, li_48, li_50, li_57, li_59, li_63, li_97, li_99, li_100, li_122, li_255, li_300, li_400, li_1000, li_65536, li_96, li_18, a1, b1]
  by_cases hc : lv i ≤ top i
  · simp (disch := omega) only [gdI, clI, clL, ltI, leI, eqI, nI_add, subI, pk_mul, divI, bd_s, li_0, li_1, li_2, li_3, li_4, li_5, li_6, li_7, li_8, li_9, li_10, li_20, li_31, li_32, li_36, li_40, li_44, li_48, li_50, li_57, li_59, li_63, li_97, li_99, li_100, li_122, li_255, li_300, li_400, li_1000, li_65536, li_96, li_18]
    by_cases h0 : 0 < top i - lv i
    · rw [if_pos h0]
    · rw [if_neg h0, show top i - lv i = 0 by omega]
  · rw [if_neg (fun q => by
      have := pk_sneg (a := top i) (b := lv i) (by omega) (by omega)
      exact absurd q (Int32.not_lt.mpr (Int32.le_of_lt this))), show top i - lv i = 0 by omega]
end
def fup {α : Type} (f : Nat → α) (k : Nat) (v : α) : Nat → α := fun j => if j = k then v else f j
theorem fup_s {α : Type} {f : Nat → α} {k : Nat} {v : α} : fup f k v k = v := by simp [fup]
theorem fup_n {α : Type} {f : Nat → α} {k j : Nat} {v : α} (h : j ≠ k) : fup f k v j = f j := by simp [fup, h]
theorem sN_self {S : St} {c j : Nat} {v : Int32} (h : gN S c j = v) : sN S c j v = S := by
  subst h
  have e1 : va_up (S.1 c) j (gN S c j) = S.1 c := by
    funext k
    by_cases hk : k = j
    · subst hk; rw [up_eq]; rfl
    · rw [up_ne hk]
  have e2 : va_up S.1 c (S.1 c) = S.1 := by
    funext k
    by_cases hk : k = c
    · subst hk; rw [up_eq]
    · rw [up_ne hk]
  show (va_up S.1 c (va_up (S.1 c) j (gN S c j)), S.2) = S
  rw [e1, e2]
theorem toI64 {n : Nat} (h : n < 2147483648) : (nI n).toInt64 = lN n := nI_l h
theorem dr_lt (sd : Nat) : dr sd < 2147483648 := Nat.mod_lt _ (by decide)
/-- one draw in the class's words -/
theorem draw_c {sd : Nat} (h : sd < 2147483648) : ((((nI sd).toInt64 * 1103515245) + 12345) &&& 2147483647 : Int64).toInt32 = nI (dr sd) := by
  rw [toI64 h, show (1103515245 : Int64) = lN 1103515245 from rfl, show (12345 : Int64) = lN 12345 from rfl, lN_mul, lN_add, show (2147483647 : Int64) = lN (2 ^ 31 - 1) from rfl]
  have e : lN (sd * 1103515245 + 12345) &&& lN (2 ^ 31 - 1) = lN ((sd * 1103515245 + 12345) % 2 ^ 31) := by
    apply Int64.toBitVec_inj.mp
    have hb : sd * 1103515245 + 12345 < 2 ^ 64 := by omega
    apply BitVec.eq_of_toNat_eq
    rw [Int64.toBitVec_and, BitVec.toNat_and]
    show (BitVec.ofNat 64 (sd * 1103515245 + 12345)).toNat &&& (BitVec.ofNat 64 (2 ^ 31 - 1)).toNat = (BitVec.ofNat 64 _).toNat
    rw [BitVec.toNat_ofNat, BitVec.toNat_ofNat, BitVec.toNat_ofNat, Nat.mod_eq_of_lt hb, Nat.mod_eq_of_lt (show 2 ^ 31 - 1 < 2 ^ 64 by decide), Nat.and_two_pow_sub_one_eq_mod, Nat.mod_eq_of_lt (show (sd * 1103515245 + 12345) % 2 ^ 31 < 2 ^ 64 by omega)]
  rw [e, lN_i]
  rfl
section
variable {S : St} {n : Nat} {lv top qk bl pr : Nat → Nat} {g : Bool} {sd : Nat}
theorem Bn_sd {sd' : Nat} (hB : Bn S n lv top qk bl pr g sd) (h : sd' < 2147483648) : Bn (sN S 25 3 (nI sd')) n lv top qk bl pr g sd' := by
  obtain ⟨h0, h6, hg, hs, hs1, hh⟩ := hB
  refine ⟨by rw [gN_sN_j (by decide)]; exact h0, h6, by rw [gN_sN_j (by decide)]; exact hg, gN_sN_s, h, fun i hi => ?_⟩
  simp only [gN_sN_c (show (27 : Nat) ≠ 25 by decide), gN_sN_c (show (28 : Nat) ≠ 25 by decide), gN_sN_c (show (29 : Nat) ≠ 25 by decide), gN_sN_c (show (30 : Nat) ≠ 25 by decide), gN_sN_c (show (31 : Nat) ≠ 25 by decide)]
  exact hh i hi
theorem Bn_no {i : Nat} {v : Int32} (hB : Bn S n lv top qk bl pr g sd) : Bn (sN S 32 i v) n lv top qk bl pr g sd := by
  obtain ⟨h0, h6, hg, hs, hs1, hh⟩ := hB
  refine ⟨by rw [gN_sN_c (by decide)]; exact h0, h6, by rw [gN_sN_c (by decide)]; exact hg, by rw [gN_sN_c (by decide)]; exact hs, hs1, fun i hi => ?_⟩
  simp only [gN_sN_c (show (27 : Nat) ≠ 32 by decide), gN_sN_c (show (28 : Nat) ≠ 32 by decide), gN_sN_c (show (29 : Nat) ≠ 32 by decide), gN_sN_c (show (30 : Nat) ≠ 32 by decide), gN_sN_c (show (31 : Nat) ≠ 32 by decide)]
  exact hh i hi
theorem Bn_at {k v : Nat} (hB : Bn S n lv top qk bl pr g sd) (hv : v ≤ 9) : Bn (sN S 27 k (nI v)) n (fup lv k v) top qk bl pr g sd := by
  obtain ⟨h0, h6, hg, hs, hs1, hh⟩ := hB
  refine ⟨by rw [gN_sN_c (by decide)]; exact h0, h6, by rw [gN_sN_c (by decide)]; exact hg, by rw [gN_sN_c (by decide)]; exact hs, hs1, fun i hi => ?_⟩
  simp only [gN_sN_c (show (28 : Nat) ≠ 27 by decide), gN_sN_c (show (29 : Nat) ≠ 27 by decide), gN_sN_c (show (30 : Nat) ≠ 27 by decide), gN_sN_c (show (31 : Nat) ≠ 27 by decide)]
  refine ⟨?_, (hh i hi).2⟩
  by_cases hk : i = k
  · subst hk
    rw [gN_sN_s, fup_s]
    exact ⟨rfl, hv⟩
  · rw [gN_sN_j hk, fup_n hk]
    exact (hh i hi).1
theorem comes_eq (hB : Bn S n lv top qk bl pr g sd) {ch : Nat} {dw : Bool} (hc : ch < 2147483648) : fX0_comes (nI ch) (bI dw) S = some (bI (cm ch dw sd).1, sN S 25 3 (nI (cm ch dw sd).2)) := by
  obtain ⟨h0, h6, hg, hs, hs1, hh⟩ := hB
  cases dw with
  | false =>
    simp (disch := omega) only [fX0_comes, bI, cm, gdI, clI, clL, ltI, leI, eqI, nI_add, subI, pk_mul, divI, bd_s, li_0, li_1, li_2, li_3, li_4, li_5, li_6, li_7, li_8, li_9, li_10, li_20, li_31, li_32, li_36, li_40, li_44, li_48, li_50, li_57, li_59, li_63, li_97, li_99, li_100, li_122, li_255, li_300, li_400, li_1000, li_65536, li_96, li_18, if_true, if_false, Bool.false_eq_true, sN_self hs]
    by_cases h : ch < 50
    · simp [h, show ¬ 50 ≤ ch by omega]
    · simp [h, show 50 ≤ ch by omega]
  | true =>
    have hd := dr_lt sd
    simp (disch := omega) only [fX0_comes, bI, cm, if_true, hs, draw_c hs1, gN_sN_s, gdI, clI, clL, ltI, leI, eqI, nI_add, subI, pk_mul, divI, bd_s, li_0, li_1, li_2, li_3, li_4, li_5, li_6, li_7, li_8, li_9, li_10, li_20, li_31, li_32, li_36, li_40, li_44, li_48, li_50, li_57, li_59, li_63, li_97, li_99, li_100, li_122, li_255, li_300, li_400, li_1000, li_65536, li_96, li_18]
    rw [if_neg (by decide)]
    by_cases h : ch ≤ dr sd / 65536 - dr sd / 65536 / 100 * 100
    · rw [if_pos h]
      have : ¬ dr sd / 65536 % 100 < ch := by omega
      simp [this]
    · rw [if_neg h]
      have : dr sd / 65536 % 100 < ch := by omega
      simp [this]
theorem isSurer_eq (hB : Bn S n lv top qk bl pr g sd) {i k : Nat} (hi : i < n) (hk : k < n) : fX0_isSurer (nI i) (nI k) S = some (bI (decide (i ≠ k ∧ lv k < lv i)), S) := by
  obtain ⟨h0, h6, hg, hs, hs1, hh⟩ := hB
  obtain ⟨⟨a1, a2⟩, -⟩ := hh i hi
  obtain ⟨⟨b1, b2⟩, -⟩ := hh k hk
  simp (disch := omega) only [fX0_isSurer, FX0_isSurer_24, gdI, clI, clL, ltI, leI, eqI, nI_add, subI, pk_mul, divI, bd_s, li_0, li_1, li_2, li_3, li_4, li_5, li_6, li_7, li_8, li_9, li_10, li_20, li_31, li_32, li_36, li_40, li_44, li_48, li_50, li_57, li_59, li_63, li_97, li_99, li_100, li_122, li_255, li_300, li_400, li_1000, li_65536, li_96, li_18, a1, b1]
  by_cases h : i = k
  · simp [h, bI]; rfl
  · by_cases h2 : lv i ≤ lv k
    · simp [h, h2, bI, show ¬ lv k < lv i by omega]; rfl
    · simp [h, h2, bI, show lv k < lv i by omega]; rfl
theorem isGuestSurer_eq (hB : Bn S n lv top qk bl pr g sd) {k : Nat} (hk : k < n) : fX0_isGuestSurer (nI k) S = some (bI (g && decide (lv k < 9)), S) := by
  obtain ⟨h0, h6, hg, hs, hs1, hh⟩ := hB
  obtain ⟨⟨b1, b2⟩, -⟩ := hh k hk
  simp (disch := omega) only [fX0_isGuestSurer, FX0_isGuestSurer_22, hg, gdI, clI, clL, ltI, leI, eqI, nI_add, subI, pk_mul, divI, bd_s, li_0, li_1, li_2, li_3, li_4, li_5, li_6, li_7, li_8, li_9, li_10, li_20, li_31, li_32, li_36, li_40, li_44, li_48, li_50, li_57, li_59, li_63, li_97, li_99, li_100, li_122, li_255, li_300, li_400, li_1000, li_65536, li_96, li_18, b1, bI_0]
  cases g
  · rfl
  · by_cases h2 : lv k < 9
    · simp [h2, bI, show ¬ 9 ≤ lv k by omega]; rfl
    · simp [h2, bI, show 9 ≤ lv k by omega]; rfl
theorem mayBelieve_eq (hB : Bn S n lv top qk bl pr g sd) {i k : Nat} (hi : i < n) : fX0_mayBelieve (nI i) (nI k) S = some (bI (decide (nI i ≠ nI k ∧ 1 ≤ lv i ∧ lv i ≤ 6)), S) := by
  obtain ⟨h0, h6, hg, hs, hs1, hh⟩ := hB
  obtain ⟨⟨b1, b2⟩, -⟩ := hh i hi
  by_cases hik : nI i = nI k
  · simp only [fX0_mayBelieve, FX0_mayBelieve_30, hik, if_true]
    simp [bI]
  · simp only [fX0_mayBelieve, FX0_mayBelieve_30, hik, if_false]
    simp (disch := omega) only [gdI, clI, clL, ltI, leI, eqI, nI_add, subI, pk_mul, divI, bd_s, li_0, li_1, li_2, li_3, li_4, li_5, li_6, li_7, li_8, li_9, li_10, li_20, li_31, li_32, li_36, li_40, li_44, li_48, li_50, li_57, li_59, li_63, li_97, li_99, li_100, li_122, li_255, li_300, li_400, li_1000, li_65536, li_96, li_18, b1]
    by_cases h1 : lv i < 1
    · simp [h1, bI, show ¬ 1 ≤ lv i by omega]; rfl
    · by_cases h2 : 6 < lv i
      · simp [h1, h2, bI, show ¬ lv i ≤ 6 by omega]; rfl
      · simp [h1, h2, bI, hik, show 1 ≤ lv i by omega, show lv i ≤ 6 by omega]; rfl
end
