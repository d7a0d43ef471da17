/-! ===== signs and words of the text ===== -/
def wch (w j : Nat) : Nat := ([[116, 104, 105, 110, 103], [112, 117, 112, 105, 108], [111, 110]].getD w []).getD j 0
abbrev isW (L : Nat) (T : Nat → Nat) (w s : Nat) : Prop := kd L T s = 1 ∧ te L T s - s = strL.getD w 0 ∧ ∀ j, j < strL.getD w 0 → T (s + j) = wch w j
section
variable {L : Nat} {T : Nat → Nat} {S : St}
theorem kd_3 {ch s : Nat} (hch : ch < 48 ∨ (57 < ch ∧ ch < 97)) : (kd L T s = 3 ∧ T s = ch) ↔ (s < L ∧ T s = ch) := by
  unfold kd
  refine ⟨fun ⟨a, b⟩ => ⟨?_, b⟩, fun ⟨a, b⟩ => ⟨?_, b⟩⟩
  · by_cases q : s < L
    · exact q
    · rw [if_neg q] at a; omega
  · rw [if_pos a, if_neg (by omega), if_neg (by omega)]
theorem isSign_c {ch s : Nat} (ho : okT L T) (h : TxC S L T) (ht : Tok S L T s) (hch : ch < 48 ∨ (57 < ch ∧ ch < 97)) : fX2_isSign (nI ch) S = some (bI (decide (s < L ∧ T s = ch)), S) := by
  have h4 := ho.1
  have k3 := kd_le (L := L) (T := T) (i := s)
  have e := kd_3 (L := L) (T := T) (s := s) hch
  rw [fX2_isSign, ht.2.1]
  by_cases q : kd L T s = 3
  · have hs := kd_lt (show ¬ kd L T s = 0 by omega)
    have hb := ho.2 s hs
    rw [if_pos (by rw [q]; rfl)]
    dsimp only
    rw [ht.1, gdI (by omega) (by omega), clI (by omega), h.2 s hs]
    by_cases z : T s = ch
    · rw [if_pos ((by_eq hb (by omega)).mpr z), decide_eq_true ⟨hs, z⟩]; rfl
    · rw [if_neg (fun y => z ((by_eq hb (by omega)).mp y)), decide_eq_false (fun y => z y.2)]; rfl
  · rw [if_neg (by rw [li_3, eqI (by omega) (by omega)]; exact q), decide_eq_false (fun y => q (e.mpr y).1)]; rfl
theorem te_sign {ch s : Nat} (hch : ch < 48 ∨ (57 < ch ∧ ch < 97)) (h : s < L ∧ T s = ch) : te L T s = s + 1 := by
  unfold te; rw [if_pos ((kd_3 hch).mpr h).1]
theorem sign_c {ch s : Nat} (ho : okT L T) (hs : s ≤ L) (h : TxC S L T) (ht : Tok S L T s) (h3 : gN S 1 3 = 0) (hch : ch < 48 ∨ (57 < ch ∧ ch < 97)) :
    ((s < L ∧ T s = ch) → ∃ S', fX2_takeSign (nI ch) S = some ((), S') ∧ gN S' 1 3 = 0 ∧ Tok S' L T (sk L T (s + 1)) ∧ gN S' 1 2 = gN S 1 2) ∧ (¬ (s < L ∧ T s = ch) → ∃ S', fX2_takeSign (nI ch) S = some ((), S') ∧ gN S' 1 3 = nI 1 ∧ gN S' 1 2 = nI s) := by
  refine ⟨fun q => ?_, fun q => ⟨sN (sN S 1 3 1) 1 2 (nI s), ?_, ?_, gN_sN_s⟩⟩
  · obtain ⟨S', ea, hT⟩ := advance_c ho (te_le (T := T) hs).2 h ht.2.2
    rw [te_sign hch q] at hT
    refine ⟨S', ?_, ((wX2_advance ea).n 1 3 (by simp) (by simp)).trans h3, hT, (wX2_advance ea).n 1 2 (by simp) (by simp)⟩
    rw [fX2_takeSign, h3, if_pos rfl, isSign_c ho h ht hch, bd_s, decide_eq_true q, if_neg bI_t0, ea, bd_s]
  · rw [fX2_takeSign, h3, if_pos rfl, isSign_c ho h ht hch, bd_s, decide_eq_false q, if_pos bI_f0, ht.1, refuse_c h3, bd_s]
  · rw [gN_sN_j (by decide), gN_sN_s]; rfl
theorem strC_w {w j : Nat} (hw : w < 3) (hj : j < strL.getD w 0) : strC w j = nI (wch w j) ∧ wch w j < 128 := by
  have : ∀ w : Fin 3, ∀ j : Fin 5, j.val < strL.getD w.val 0 → strC w.val j.val = nI (wch w.val j.val) ∧ wch w.val j.val < 128 := by decide +kernel
  have h5 : strL.getD w 0 ≤ 5 := by
    have : ∀ w : Fin 3, strL.getD w.val 0 ≤ 5 := by decide
    exact this ⟨w, hw⟩
  exact this ⟨w, hw⟩ ⟨j, by omega⟩ hj
theorem isWord_c {w s : Nat} (ho : okT L T) (hs : s ≤ L) (hw : w < 3) (h : TxC S L T) (ht : Tok S L T s) : fX2_isWord w S = some (bI (decide (isW L T w s)), S) := by
  have h4 := ho.1
  have k3 := kd_le (L := L) (T := T) (i := s)
  obtain ⟨e1, e2⟩ := te_le (T := T) hs
  have h5 : strL.getD w 0 ≤ 5 := by
    have : ∀ w : Fin 3, strL.getD w.val 0 ≤ 5 := by decide
    exact this ⟨w, hw⟩
  rw [fX2_isWord, ht.2.1, ht.2.2, ht.1, subI e1]
  by_cases q : kd L T s = 1
  · rw [if_pos (by rw [q]; rfl)]
    by_cases ql : te L T s - s = strL.getD w 0
    · rw [if_pos (by rw [ql])]
      exact loopFU (fun fu (x : Int32) => FX2_isWord_28 fu w x S) (fun k x => x = nI k ∧ ∀ j, j < k → T (s + j) = wch w j) (fun r => r = some (bI (decide (isW L T w s)), S)) (strL.getD w 0) (FU_lt (by omega))
        (by
          intro k fu x hk ⟨e, hall⟩
          subst e
          have hb := ho.2 (s + k) (by omega)
          obtain ⟨c1, c2⟩ := strC_w hw hk
          have e0 : FX2_isWord_28 (fu + 1) w (nI k) S = if byI (T (s + k)) = nI (wch w k) then FX2_isWord_28 fu w (nI (k + 1)) S else some (0, S) := by
            rw [FX2_isWord_28, if_neg (by rw [leI (by omega) (by omega)]; omega), ht.1, nI_add]
            dsimp only
            rw [gdI (by omega) (by omega), gdI hk (by omega), clI (by omega), clI (by omega), h.2 _ (by omega), c1, nI_1]
          by_cases z : T (s + k) = wch w k
          · refine Or.inl ⟨nI (k + 1), ?_, rfl, fun j hj => ?_⟩
            · rw [e0, if_pos ((by_eq hb c2).mpr z)]
            · by_cases hjk : j = k
              · rw [hjk]; exact z
              · exact hall j (by omega)
          · refine Or.inr ?_
            rw [e0, if_neg (fun y => z ((by_eq hb c2).mp y)), decide_eq_false (fun y => z (y.2.2 k hk))]
            rfl)
        (by
          intro fu x ⟨e, hall⟩
          subst e
          rw [FX2_isWord_28, if_pos (Int32.le_refl _), decide_eq_true ⟨q, ql, hall⟩]
          rfl)
        (nI 0) ⟨rfl, fun j hj => absurd hj (by omega)⟩
    · rw [if_neg (by rw [eqI (by omega) (by omega)]; exact ql), decide_eq_false (fun y => ql y.2.1)]; rfl
  · rw [if_neg (by rw [li_1, eqI (by omega) (by omega)]; exact q), decide_eq_false (fun y => q y.1)]; rfl
/-! the reference's words -/
def wcn (T : Nat → Nat) (s : Nat) : Nat → Nat
  | 0 => 0
  | k + 1 => if wcn T s k ≤ 1000000000000 then 27 * wcn T s k + T (s + k) - 96 else 2000000000000
def wcd (L : Nat) (T : Nat → Nat) (s : Nat) : Nat := wcn T s (if kd L T s = 1 then te L T s - s else 0)
theorem wcn_le {s : Nat} : ∀ k, (∀ j, j < k → T (s + j) ≤ 122) → wcn T s k ≤ 27000000000026 := by
  intro k
  induction k with
  | zero => intro _; exact Nat.zero_le _
  | succ k ih =>
    intro h
    have := h k (by omega)
    rw [wcn]
    split <;> omega
theorem wcn_big {s : Nat} : ∀ k, (∀ j, j < 6 + k → 97 ≤ T (s + j)) → 14348907 ≤ wcn T s (6 + k) := by
  intro k
  induction k with
  | zero =>
    intro h
    have a0 := h 0 (by omega)
    have a1 := h 1 (by omega)
    have a2 := h 2 (by omega)
    have a3 := h 3 (by omega)
    have a4 := h 4 (by omega)
    have a5 := h 5 (by omega)
    have step : ∀ k m, k < 6 → m ≤ 1000000000000 → m ≤ wcn T s k → 97 ≤ T (s + k) → 27 * m + 1 ≤ wcn T s (k + 1) ∨ 1000000000000 < wcn T s (k + 1) := by
      intro k m _ _ hm ht
      rw [wcn]
      split <;> omega
    have stay : ∀ k, 1000000000000 < wcn T s k → 1000000000000 < wcn T s (k + 1) := by
      intro k hk
      rw [wcn, if_neg (by omega)]
      omega
    have b1 := step 0 0 (by omega) (by omega) (Nat.zero_le _) a0
    have b2 : 28 ≤ wcn T s 2 ∨ 1000000000000 < wcn T s 2 := b1.elim (fun z => (step 1 1 (by omega) (by omega) z a1)) (fun z => Or.inr (stay 1 z))
    have b3 : 757 ≤ wcn T s 3 ∨ 1000000000000 < wcn T s 3 := b2.elim (fun z => (step 2 28 (by omega) (by omega) z a2)) (fun z => Or.inr (stay 2 z))
    have b4 : 20440 ≤ wcn T s 4 ∨ 1000000000000 < wcn T s 4 := b3.elim (fun z => (step 3 757 (by omega) (by omega) z a3)) (fun z => Or.inr (stay 3 z))
    have b5 : 551881 ≤ wcn T s 5 ∨ 1000000000000 < wcn T s 5 := b4.elim (fun z => (step 4 20440 (by omega) (by omega) z a4)) (fun z => Or.inr (stay 4 z))
    have b6 : 14900788 ≤ wcn T s 6 ∨ 1000000000000 < wcn T s 6 := b5.elim (fun z => (step 5 551881 (by omega) (by omega) z a5)) (fun z => Or.inr (stay 5 z))
    show 14348907 ≤ wcn T s 6
    omega
  | succ k ih =>
    intro h
    have a := ih (fun j hj => h j (by omega))
    have b := h (6 + k) (by omega)
    rw [show 6 + (k + 1) = (6 + k) + 1 by omega, wcn]
    split <;> omega
theorem wcn_5 {s k : Nat} (hk : k ≤ 5) (h : ∀ j, j < k → 97 ≤ T (s + j) ∧ T (s + j) ≤ 122) : (wcn T s k = 419 ↔ k = 2 ∧ T s = 111 ∧ T (s + 1) = 110) ∧ (wcn T s k = 10793230 ↔ k = 5 ∧ T s = 116 ∧ T (s + 1) = 104 ∧ T (s + 2) = 105 ∧ T (s + 3) = 110 ∧ T (s + 4) = 103) ∧ (wcn T s k = 8928318 ↔ k = 5 ∧ T s = 112 ∧ T (s + 1) = 117 ∧ T (s + 2) = 112 ∧ T (s + 3) = 105 ∧ T (s + 4) = 108) := by
  match k, hk with
  | 0, _ => refine ⟨?_, ?_, ?_⟩ <;> (show 0 = _ ↔ _; omega)
  | 1, _ =>
    have a0 := h 0 (by omega)
    have w1 : wcn T s 1 = T s - 96 := by rw [wcn, wcn, if_pos (by omega), Nat.mul_zero, Nat.zero_add, Nat.add_zero]
    rw [Nat.add_zero] at a0
    rw [w1]; omega
  | 2, _ =>
    have a0 := h 0 (by omega)
    have a1 := h 1 (by omega)
    rw [Nat.add_zero] at a0
    have w1 : wcn T s 1 = T s - 96 := by rw [wcn, wcn, if_pos (by omega), Nat.mul_zero, Nat.zero_add, Nat.add_zero]
    have w2 : wcn T s 2 = 27 * (T s - 96) + T (s + 1) - 96 := by rw [wcn, w1, if_pos (by omega)]
    rw [w2]; omega
  | 3, _ =>
    have a0 := h 0 (by omega)
    have a1 := h 1 (by omega)
    have a2 := h 2 (by omega)
    rw [Nat.add_zero] at a0
    have w1 : wcn T s 1 = T s - 96 := by rw [wcn, wcn, if_pos (by omega), Nat.mul_zero, Nat.zero_add, Nat.add_zero]
    have w2 : wcn T s 2 = 27 * (T s - 96) + T (s + 1) - 96 := by rw [wcn, w1, if_pos (by omega)]
    have w3 : wcn T s 3 = 27 * (27 * (T s - 96) + T (s + 1) - 96) + T (s + 2) - 96 := by rw [wcn, w2, if_pos (by omega)]
    rw [w3]; omega
  | 4, _ =>
    have a0 := h 0 (by omega)
    have a1 := h 1 (by omega)
    have a2 := h 2 (by omega)
    have a3 := h 3 (by omega)
    rw [Nat.add_zero] at a0
    have w1 : wcn T s 1 = T s - 96 := by rw [wcn, wcn, if_pos (by omega), Nat.mul_zero, Nat.zero_add, Nat.add_zero]
    have w2 : wcn T s 2 = 27 * (T s - 96) + T (s + 1) - 96 := by rw [wcn, w1, if_pos (by omega)]
    have w3 : wcn T s 3 = 27 * (27 * (T s - 96) + T (s + 1) - 96) + T (s + 2) - 96 := by rw [wcn, w2, if_pos (by omega)]
    have w4 : wcn T s 4 = 27 * (27 * (27 * (T s - 96) + T (s + 1) - 96) + T (s + 2) - 96) + T (s + 3) - 96 := by rw [wcn, w3, if_pos (by omega)]
    rw [w4]; omega
  | 5, _ =>
    have a0 := h 0 (by omega)
    have a1 := h 1 (by omega)
    have a2 := h 2 (by omega)
    have a3 := h 3 (by omega)
    have a4 := h 4 (by omega)
    rw [Nat.add_zero] at a0
    have w1 : wcn T s 1 = T s - 96 := by rw [wcn, wcn, if_pos (by omega), Nat.mul_zero, Nat.zero_add, Nat.add_zero]
    have w2 : wcn T s 2 = 27 * (T s - 96) + T (s + 1) - 96 := by rw [wcn, w1, if_pos (by omega)]
    have w3 : wcn T s 3 = 27 * (27 * (T s - 96) + T (s + 1) - 96) + T (s + 2) - 96 := by rw [wcn, w2, if_pos (by omega)]
    have w4 : wcn T s 4 = 27 * (27 * (27 * (T s - 96) + T (s + 1) - 96) + T (s + 2) - 96) + T (s + 3) - 96 := by rw [wcn, w3, if_pos (by omega)]
    have w5 : wcn T s 5 = 27 * (27 * (27 * (27 * (T s - 96) + T (s + 1) - 96) + T (s + 2) - 96) + T (s + 3) - 96) + T (s + 4) - 96 := by rw [wcn, w4, if_pos (by omega)]
    rw [w5]; omega
end
