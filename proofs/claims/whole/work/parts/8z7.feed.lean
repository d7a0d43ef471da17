/-! ===== feed ===== -/
theorem by_all : ∀ b : Fin 256, vp_nar .byte ((nI b.val).toInt8.toInt32) = byI b.val := by decide +kernel
theorem by_nar {b : Nat} (h : b < 256) : vp_nar .byte ((nI b).toInt8.toInt32) = byI b := by_all ⟨b, h⟩
/-- a byte of a long -/
def bt8 (v : Int64) (j : Nat) : Nat := v.toBitVec.toNat / 2 ^ (8 * j) % 256
theorem bt8_lt {v : Int64} {j : Nat} : bt8 v j < 256 := Nat.mod_lt _ (by decide)
theorem sh_amt {j : Nat} (hj : j < 8) : ((8 * nI j : Int32).toInt64 &&& 63).toBitVec = BitVec.ofNat 64 (8 * j) ∧ ((8 * nI j : Int32).toInt64.toUInt64 &&& Int64.toUInt64 63).toBitVec = BitVec.ofNat 64 (8 * j) := by
  match j, hj with
  | 0, _ => decide
  | 1, _ => decide
  | 2, _ => decide
  | 3, _ => decide
  | 4, _ => decide
  | 5, _ => decide
  | 6, _ => decide
  | 7, _ => decide
theorem and255 (x : Nat) : x &&& 255 = x % 256 := Nat.and_two_pow_sub_one_eq_mod x 8
theorem byte_c {v : Int64} {j : Nat} (hj : j < 8) : (((v.toUInt64 >>> ((8 * nI j : Int32).toInt64.toUInt64 &&& Int64.toUInt64 63)).toInt64 : Int64).toInt32) &&& 255 = nI (bt8 v j) := by
  apply Int32.toBitVec_inj.mp
  apply BitVec.eq_of_toNat_eq
  rw [Int32.toBitVec_and, BitVec.toNat_and, Int64.toBitVec_toInt32, BitVec.signExtend_eq_setWidth_of_le _ (by decide), BitVec.toNat_setWidth]
  have e : (v.toUInt64 >>> ((8 * nI j : Int32).toInt64.toUInt64 &&& Int64.toUInt64 63)).toInt64.toBitVec.toNat = v.toBitVec.toNat / 2 ^ (8 * j) := by
    show (v.toUInt64 >>> ((8 * nI j : Int32).toInt64.toUInt64 &&& Int64.toUInt64 63)).toBitVec.toNat = _
    rw [UInt64.toBitVec_shiftRight, (sh_amt hj).2]
    show (v.toBitVec >>> (BitVec.ofNat 64 (8 * j) % 64#64)).toNat = _
    rw [BitVec.ushiftRight_eq', BitVec.toNat_ushiftRight, Nat.shiftRight_eq_div_pow]
    congr 2
    match j, hj with
    | 0, _ => decide
    | 1, _ => decide
    | 2, _ => decide
    | 3, _ => decide
    | 4, _ => decide
    | 5, _ => decide
    | 6, _ => decide
    | 7, _ => decide
  rw [e, show (255 : Int32).toBitVec.toNat = 255 from rfl, and255]
  show _ = (BitVec.ofNat 32 (bt8 v j)).toNat
  have := bt8_lt (v := v) (j := j)
  rw [BitVec.toNat_ofNat, Nat.mod_eq_of_lt (show bt8 v j < 2 ^ 32 by omega)]
  unfold bt8
  omega
theorem byte_m {v : Int64} {j : Nat} (hj : j < 8) : ((v >>> ((8 * nI j : Int32).toInt64 &&& 63)) &&& 255 : Int64).toInt32 = nI (bt8 v j) := by
  apply Int32.toBitVec_inj.mp
  have hb : ((v >>> ((8 * nI j : Int32).toInt64 &&& 63)) &&& 255 : Int64).toBitVec = BitVec.ofNat 64 (bt8 v j) := by
    rw [Int64.toBitVec_and, Int64.toBitVec_shiftRight, (sh_amt hj).1]
    have es : ((BitVec.ofNat 64 (8 * j)).smod 64#64).toNat = 8 * j := by
      match j, hj with
      | 0, _ => decide
      | 1, _ => decide
      | 2, _ => decide
      | 3, _ => decide
      | 4, _ => decide
      | 5, _ => decide
      | 6, _ => decide
      | 7, _ => decide
    have e1 : BitVec.sshiftRight' v.toBitVec ((BitVec.ofNat 64 (8 * j)).smod 64#64) = v.toBitVec.sshiftRight (8 * j) := by rw [BitVec.sshiftRight', es]
    refine (congrArg (fun z => z &&& (255 : Int64).toBitVec) e1).trans ?_
    have e2 : v.toBitVec.sshiftRight (8 * j) &&& (255 : Int64).toBitVec = (v.toBitVec >>> (8 * j)) &&& (255 : Int64).toBitVec := by
      apply BitVec.eq_of_getLsbD_eq
      intro i hi
      rw [BitVec.getLsbD_and, BitVec.getLsbD_and, BitVec.getLsbD_sshiftRight, BitVec.getLsbD_ushiftRight]
      by_cases h8 : i < 8
      · rw [if_pos (by omega), decide_eq_false (by omega)]; rfl
      · have : (255 : Int64).toBitVec.getLsbD i = false := by
          show Nat.testBit 255 i = false
          exact Nat.testBit_lt_two_pow (Nat.lt_of_lt_of_le (show 255 < 2 ^ 8 by decide) (Nat.pow_le_pow_right (by decide) (by omega)))
        rw [this, Bool.and_false, Bool.and_false]
    refine e2.trans ?_
    apply BitVec.eq_of_toNat_eq
    have := bt8_lt (v := v) (j := j)
    rw [BitVec.toNat_and, BitVec.toNat_ushiftRight, Nat.shiftRight_eq_div_pow, show (255 : Int64).toBitVec.toNat = 255 from rfl, and255, BitVec.toNat_ofNat, Nat.mod_eq_of_lt (show bt8 v j < 2 ^ 64 by omega)]
    rfl
  rw [Int64.toBitVec_toInt32, hb]
  apply BitVec.eq_of_toNat_eq
  have := bt8_lt (v := v) (j := j)
  show _ = (BitVec.ofNat 32 (bt8 v j)).toNat
  rw [BitVec.signExtend_eq_setWidth_of_le _ (by decide), BitVec.toNat_setWidth, BitVec.toNat_ofNat, BitVec.toNat_ofNat]
  omega
/-- the text's next byte -/
def setT (c : Cx) (b : Nat) : Cx := ((xL c + 1, fup (xT c) (xL c) b, xF c), c.2)
def fdc (c : Cx) (v : Int64) (m : Nat) : Nat → Cx
  | 0 => c
  | k + 1 => setT (fdc c v m k) (bt8 v (m - (k + 1)))
section
variable {c : Cx} {S : St}
theorem xL_fdc {v : Int64} {m : Nat} : ∀ k, xL (fdc c v m k) = xL c + k
  | 0 => rfl
  | k + 1 => by show xL (fdc c v m k) + 1 = _; rw [xL_fdc k]; omega
theorem xK_fdc {v : Int64} {m : Nat} : ∀ k, xK (fdc c v m k) = xK c
  | 0 => rfl
  | k + 1 => xK_fdc k
theorem WC_setT {b : Nat} (hw : WC c) (h : xL c < 400) (hb : b < 256) : WC (setT c b) :=
  ⟨hw.1, hw.2.1, hw.2.2.1, hw.2.2.2.1, by show xL c + 1 ≤ 400; omega, fun i hi => by
    show fup (xT c) (xL c) b i < 256
    by_cases q : i = xL c
    · subst q; rw [fup_s]; exact hb
    · rw [fup_n q]; exact hw.2.2.2.2.2.1 i (by have : i < xL c + 1 := hi; omega), hw.2.2.2.2.2.2⟩
theorem WC_fdc {v : Int64} {m : Nat} (hw : WC c) : ∀ k, xL c + k ≤ 400 → WC (fdc c v m k)
  | 0, _ => hw
  | k + 1, h => WC_setT (WC_fdc hw k (by omega)) (by rw [xL_fdc]; omega) bt8_lt
theorem RC_setT {b : Nat} (h : RC S c) (hb : xL c < 400) : RC (sN (sN S 2 (xL c) (byI b)) 1 1 (nI (xL c + 1))) (setT c b) := by
  have h3 := told_or h
  have key : ∀ cc jj, ¬ (cc = 1 ∧ jj = 1) → ¬ cc = 2 → gN (sN (sN S 2 (xL c) (byI b)) 1 1 (nI (xL c + 1))) cc jj = gN S cc jj := fun cc jj a1 a2 => by
    by_cases q : cc = 1
    · subst q; rw [gN_sN_j (by omega), gN_sN_c (by omega)]
    · rw [gN_sN_c q, gN_sN_c a2]
  obtain ⟨r1, r2, r3, r4, r5, r6, r7, ⟨r8, r9, r10⟩, r11, r12⟩ := h
  refine ⟨r1, r2, ?_, SdC_of r4 (fun cc jj x y => key cc jj (by omega) (by omega)), fun q => SdC_of (r5 q) (fun cc jj x y => key cc jj (by omega) (by omega)), fun q => SdC_of (r6 q) (fun cc jj x y => key cc jj (by omega) (by omega)), (key 0 7 (by omega) (by omega)).trans r7, ⟨gN_sN_s, fun i hi => ?_, (key 1 2 (by omega) (by omega)).trans r10⟩, (key 0 9 (by omega) (by omega)).trans r11, fun i hi => (key 23 i (by omega) (by omega)).trans (r12 i hi)⟩
  · show SkC _ (gR S 0 1) (xK c)
    exact SkC_of r3 (fun cc jj x y => key cc jj (by omega) (by omega))
  · rw [gN_sN_c (by decide)]
    show _ = byI (fup (xT c) (xL c) b i)
    by_cases q : i = xL c
    · subst q; rw [gN_sN_s, fup_s]
    · rw [gN_sN_j q, fup_n q]; exact r9 i (by have : i < xL c + 1 := hi; omega)
theorem RM_setT {b : Nat} (h : RM S c) (hb : xL c < 400) : RM (sN (sN S 48 (xL c) (nI b)) 44 8 (nI (xL c + 1))) (setT c b) := by
  have key : ∀ cc jj, ¬ (cc = 44 ∧ jj = 8) → ¬ cc = 48 → gN (sN (sN S 48 (xL c) (nI b)) 44 8 (nI (xL c + 1))) cc jj = gN S cc jj := fun cc jj a1 a2 => by
    by_cases q : cc = 44
    · subst q; rw [gN_sN_j (by omega), gN_sN_c (by omega)]
    · rw [gN_sN_c q, gN_sN_c a2]
  obtain ⟨r1, r2, ⟨r3, r3'⟩, r4, r5, ⟨r6, r7, r8⟩, r9, r10⟩ := h
  refine ⟨SkM_of r1 (key 44 0 (by omega) (by omega)) (key 44 1 (by omega) (by omega)) (fun j => key 45 j (by omega) (by omega)) (fun j => key 46 j (by omega) (by omega)), SdM_of r2 (key 44 5 (by omega) (by omega)) (key 44 23 (by omega) (by omega)) (key 44 6 (by omega) (by omega)) (fun j => key 47 j (by omega) (by omega)), ⟨(key 68 0 (by omega) (by omega)).trans r3, (key 68 1 (by omega) (by omega)).trans r3'⟩, ?_, ?_, ⟨gN_sN_s, fun i hi => ?_, (key 44 9 (by omega) (by omega)).trans r8⟩, (key 44 35 (by omega) (by omega)).trans r9, fun i hi => ⟨(key 64 i (by omega) (by omega)).trans (r10 i hi).1, (key 65 i (by omega) (by omega)).trans (r10 i hi).2⟩⟩
  · intro q
    obtain ⟨a1, a2, a3, a4⟩ := r4 q
    exact ⟨fun p t hp ht => (key 67 _ (by omega) (by omega)).trans (a1 p t hp ht), (key 67 _ (by omega) (by omega)).trans a2, (key 67 _ (by omega) (by omega)).trans a3, (key 67 _ (by omega) (by omega)).trans a4⟩
  · intro q
    obtain ⟨a1, a2, a3, a4⟩ := r5 q
    exact ⟨fun p t hp ht => (key 67 _ (by omega) (by omega)).trans (a1 p t hp ht), (key 67 _ (by omega) (by omega)).trans a2, (key 67 _ (by omega) (by omega)).trans a3, (key 67 _ (by omega) (by omega)).trans a4⟩
  · rw [gN_sN_c (by decide)]
    show _ = nI (fup (xT c) (xL c) b i)
    by_cases q : i = xL c
    · subst q; rw [gN_sN_s, fup_s]
    · rw [gN_sN_j q, fup_n q]; exact r7 i (by have : i < xL c + 1 := hi; omega)
theorem feed_c {v : Int64} {m : Nat} (h8 : m ≤ 8) (hL : xL c + m ≤ 400) (h : RC S c) : ∃ S', FX6_feed_37 FU v (nI m - nI 1) S = some (nI (xL c + m), S') ∧ RC S' (fdc c v m m) := by
  exact loopFU (fun fu (x : Int32 × St) => FX6_feed_37 fu v x.1 x.2) (fun k x => ∃ S1, x = (nI (m - k) - nI 1, S1) ∧ RC S1 (fdc c v m k)) (fun r => ∃ S', r = some (nI (xL c + m), S') ∧ RC S' (fdc c v m m)) m (FU_lt (by omega))
    (by
      intro k fu x hk ⟨S1, e, h1⟩
      subst e
      have ei : nI (m - k) - nI 1 = nI (m - (k + 1)) := by rw [subI (by omega)]; congr 1
      have hx : xL (fdc c v m k) < 400 := by rw [xL_fdc]; omega
      refine Or.inl ⟨(nI (m - (k + 1)) - nI 1, _), ?_, _, rfl, RC_setT (b := bt8 v (m - (k + 1))) h1 hx⟩
      dsimp only
      have e1 := h1.2.2.2.2.2.2.2.1.1
      rw [ei, FX6_feed_37, if_neg (nI_pos (by omega)), byte_c (by omega), fX2_add, e1, if_neg (by rw [li_400, leI (by omega) (by omega)]; omega)]
      dsimp only
      rw [gdI (by omega) (by omega), clI (by omega), by_nar bt8_lt, bd_s, gN_sN_c (by decide), e1, nI_1, show (-1 : Int32) = -nI 1 from rfl, addm1])
    (by
      intro fu x ⟨S1, e, h1⟩
      subst e
      refine ⟨S1, ?_, h1⟩
      dsimp only
      rw [FX6_feed_37, Nat.sub_self, neg1, if_pos (by decide), h1.2.2.2.2.2.2.2.1.1, xL_fdc])
    (nI m - nI 1, S) ⟨S, rfl, h⟩
theorem feed_m {v : Int64} {m : Nat} (h8 : m ≤ 8) (hL : xL c + m ≤ 400) (h : RM S c) : ∃ S', FX7_feed_35 FU v (nI m - nI 1) S = some (nI (xL c + m), S') ∧ RM S' (fdc c v m m) := by
  exact loopFU (fun fu (x : Int32 × St) => FX7_feed_35 fu v x.1 x.2) (fun k x => ∃ S1, x = (nI (m - k) - nI 1, S1) ∧ RM S1 (fdc c v m k)) (fun r => ∃ S', r = some (nI (xL c + m), S') ∧ RM S' (fdc c v m m)) m (FU_lt (by omega))
    (by
      intro k fu x hk ⟨S1, e, h1⟩
      subst e
      have ei : nI (m - k) - nI 1 = nI (m - (k + 1)) := by rw [subI (by omega)]; congr 1
      have hx : xL (fdc c v m k) < 400 := by rw [xL_fdc]; omega
      refine Or.inl ⟨(nI (m - (k + 1)) - nI 1, _), ?_, _, rfl, RM_setT (b := bt8 v (m - (k + 1))) h1 hx⟩
      dsimp only
      have e1 := h1.2.2.2.2.2.1.1
      rw [ei, FX7_feed_35, if_neg (nI_pos (by omega)), byte_m (by omega)]
      dsimp only
      rw [e1, gdI (by omega) (by omega), clI (by omega), gN_sN_c (by decide), e1, nI_1, show (-1 : Int32) = -nI 1 from rfl, addm1])
    (by
      intro fu x ⟨S1, e, h1⟩
      subst e
      refine ⟨S1, ?_, h1⟩
      dsimp only
      rw [FX7_feed_35, Nat.sub_self, neg1, if_pos (by decide), h1.2.2.2.2.2.1.1, xL_fdc])
    (nI m - nI 1, S) ⟨S, rfl, h⟩
theorem ag_feed (hw : WC c) (x : Int32) (v : Int64) : Ag c (fX6_feed x v) (fX7_feed x v) := by
  have hl := hw.2.2.2.2.1
  by_cases hx : nI 1 ≤ x ∧ x ≤ nI 8
  · obtain ⟨m, m1, m8, rfl⟩ := rng_get (by decide) (by decide) hx
    have ec : ∀ S, RC S c → fX6_feed (nI m) v S = if xL c + m ≤ 400 then FX6_feed_37 FU v (nI m - nI 1) S else some (-1000004, S) := fun S h => by
      rw [fX6_feed, if_neg (by rw [li_1, ltI (by omega) (by omega)]; omega), if_pos (by rw [li_8, leI (by omega) (by omega)]; omega), h.2.2.2.2.2.2.2.1.1, nI_add]
      by_cases q : xL c + m ≤ 400
      · rw [if_pos (by rw [li_400, leI (by omega) (by omega)]; omega), if_pos q]; rfl
      · rw [if_neg (by rw [li_400, leI (by omega) (by omega)]; omega), if_neg q]
    have em : ∀ S, RM S c → fX7_feed (nI m) v S = if xL c + m ≤ 400 then FX7_feed_35 FU v (nI m - nI 1) S else some (-1000004, S) := fun S h => by
      rw [fX7_feed, show (1 : Int64) = lN 1 from rfl, show (8 : Int64) = lN 8 from rfl, in_nat (by decide) (by decide), bd_s, decide_eq_true hx, if_neg bI_t0, h.2.2.2.2.2.1.1, nI_add]
      by_cases q : xL c + m ≤ 400
      · rw [if_pos (by rw [li_400, leI (by omega) (by omega)]; omega), if_pos q]; rfl
      · rw [if_neg (by rw [li_400, leI (by omega) (by omega)]; omega), if_neg q]
    by_cases q : xL c + m ≤ 400
    · exact ⟨nI (xL c + m), fdc c v m m, WC_fdc hw m q, fun S h => by rw [ec S h, if_pos q]; exact feed_c m8 q h, fun S h => by rw [em S h, if_pos q]; exact feed_m m8 q h, xK_fdc m⟩
    · exact ⟨-1000004, c, hw, fun S h => ⟨S, by rw [ec S h, if_neg q], h⟩, fun S h => ⟨S, by rw [em S h, if_neg q], h⟩, rfl⟩
  · refine ⟨-1000002, c, hw, fun S h => ⟨S, ?_, h⟩, fun S h => ⟨S, ?_, h⟩, rfl⟩
    · rw [fX6_feed]
      by_cases q : x < 1
      · rw [if_pos q]; rfl
      · rw [if_neg q, if_neg (show ¬ x ≤ 8 from fun z => hx ⟨Int32.not_lt.mp q, z⟩)]; rfl
    · rw [fX7_feed, show (1 : Int64) = lN 1 from rfl, show (8 : Int64) = lN 8 from rfl, in_nat (by decide) (by decide), bd_s, decide_eq_false hx, if_pos bI_f0]
end
