/-! ===== lessons of all ===== -/
theorem nfold_mk {mk mk' : Nat → Bool} {lv : Nat → Nat} {one n : Nat} {r dw : Bool} {x0 : (Nat → Bool) × Bool × Nat} (h : ∀ i, i < n → mk i = mk' i) : ∀ j, j ≤ n → nfold mk lv one r dw x0 j = nfold mk' lv one r dw x0 j := by
  intro j
  induction j with
  | zero => intro _; rfl
  | succ j ih => 
    intro hj
    have e : surer mk lv one j = surer mk' lv one j := by unfold surer; rw [h j (by omega)]
    rw [nfold, nfold, ih (by omega), nstep, nstep, e]
theorem bfold_mk {mk mk' : Nat → Bool} {lv bl : Nat → Nat} {one n : Nat} {dw : Bool} {x0 : (Nat → Nat) × Nat} (h : ∀ i, i < n → mk i = mk' i) : ∀ j, j ≤ n → bfold mk lv bl one dw x0 j = bfold mk' lv bl one dw x0 j := by
  intro j
  induction j with
  | zero => intro _; rfl
  | succ j ih => 
    intro hj
    have e : mayB mk lv one j = mayB mk' lv one j := by unfold mayB; rw [h j (by omega)]
    rw [bfold, bfold, ih (by omega), bstep, bstep, e]
section
variable {mk mk' : Nat → Bool} {lv top qk bl pr : Nat → Nat} {g dw : Bool} {n one sd : Nat}
theorem lesN_mk (h : ∀ i, i < n → mk i = mk' i) : lesN n mk lv one dw sd = lesN n mk' lv one dw sd := nfold_mk h n (Nat.le_refl _)
theorem lesG_mk (h : ∀ i, i < n → mk i = mk' i) : lesG n mk lv g one dw sd = lesG n mk' lv g one dw sd := by unfold lesG; rw [lesN_mk h]
theorem lesB_mk (h : ∀ i, i < n → mk i = mk' i) : lesB n mk lv bl g one dw sd = lesB n mk' lv bl g one dw sd := by unfold lesB; rw [lesG_mk h, bfold_mk h n (Nat.le_refl _)]
theorem lesOut_mk (h : ∀ i, i < n → mk i = mk' i) : lesOut n mk lv g one dw sd = lesOut n mk' lv g one dw sd := by unfold lesOut; rw [lesG_mk h]
theorem lesSd_mk (h : ∀ i, i < n → mk i = mk' i) : lesSd n mk lv bl pr g one dw sd = lesSd n mk' lv bl pr g one dw sd := by unfold lesSd; rw [lesG_mk h, lesB_mk h]
theorem lesLv_mk (h : ∀ i, i < n → mk i = mk' i) {i : Nat} (hi : i < n) : lesLv n mk lv top qk bl pr g one dw sd i = lesLv n mk' lv top qk bl pr g one dw sd i := by unfold lesLv; rw [lesG_mk h, lesB_mk h, lesN_mk h, h i hi]
end
/-- the reference's lesson of all -/
theorem teachAll_eq {S : St} {n : Nat} {lv top qk bl pr : Nat → Nat} {sd : Nat} (hB : Mn S n lv top qk bl pr sd) {one : Nat} {g dw : Bool} (ho : one < n) :
    ∃ S', fX7_teach (nI one) (nI (2 ^ n - 1)) (bI g) (bI dw) S = some (nI (lesOut n (fun _ => true) lv g one dw sd), S') ∧ Mn S' n (lesLv n (fun _ => true) lv top qk bl pr g one dw sd) top qk bl pr (lesSd n (fun _ => true) lv bl pr g one dw sd) := by
  have h6 := hB.2.1
  have hm : 2 ^ n - 1 < 2147483648 := by
    have : 2 ^ n ≤ 2 ^ 6 := Nat.pow_le_pow_right (by decide) h6
    omega
  obtain ⟨S', e, h⟩ := teach_eq hB (mask := 2 ^ n - 1) (g := g) (dw := dw) ho hm
  have hmk : ∀ i, i < n → bt1 (2 ^ n - 1) i = true := fun i hi => bt1_full hi
  refine ⟨S', by rw [e, lesOut_mk hmk], ?_⟩
  rw [← lesSd_mk hmk]
  exact Mn_congr h (fun i hi => lesLv_mk hmk hi)
/-- the standing behind a lesson -/
def lesS (k : Sk) (s : Sd) (p t : Nat) (dw : Bool) : Sd :=
  (lset (dl s) t (lesLv (np k) (fun _ => true) (fun q => dl s q t) (fun q => tpv k (dl s) 0 q t) (kq k) (kb k) (kp k) (dG s) p dw (dS s)), dG s, lesSd (np k) (fun _ => true) (fun q => dl s q t) (kb k) (kp k) (dG s) p dw (dS s), dT s)
section
variable {S : St} {c : Cx}
theorem sitAll_c (h : RC S c) (hw : WC c) {t : Nat} (ht : t < nt (xK c)) : ∃ S', fX6_sitAll (nI t) S = some ((), S') ∧ RC S' c ∧ Bn S' (np (xK c)) (fun p => dl (xS c) p t) (fun p => tpv (xK c) (dl (xS c)) 0 p t) (kq (xK c)) (kb (xK c)) (kp (xK c)) (dG (xS c)) (dS (xS c)) ∧ gN S' 25 1 = nI 63 ∧ ∀ i, i < np (xK c) → gN S' 26 i = nI i := by
  obtain ⟨S', e, hB, h3, h4⟩ := sitAll_eq (t := t) hw.1 hw.2.1 h.2.2.1 h.2.2.2.1 (told_le h) (by omega) ht
  refine ⟨S', ?_, (wX0_sit e).okC h (by decide), hB, h3, h4⟩
  rw [fX6_sitAll, gd_t (told_is h), show (63 : Int32) = nI 63 from rfl, e]
  rfl
theorem take_m (h : RM S c) (hw : WC c) {t : Nat} (ht : t < nt (xK c)) : ∃ S', fX7_take (nI t) (nI 0) S = some ((), S') ∧ RM S' c ∧ Mn S' (np (xK c)) (fun p => dl (xS c) p t) (fun p => tpv (xK c) (dl (xS c)) 0 p t) (kq (xK c)) (kb (xK c)) (kp (xK c)) (dS (xS c)) := by
  obtain ⟨S', e, hB⟩ := take_eq (known := 0) hw.1 hw.2.1 h.1 h.2.1 ht (by decide)
  exact ⟨S', e, (wX7_take e).okM h (by decide), hB⟩
/-- leave behind lessons -/
theorem leave_c (h : RC S c) (hw : WC c) {t sd : Nat} {g : Bool} {lv top qk bl pr : Nat → Nat} (hB : Bn S (np (xK c)) lv top qk bl pr g sd) (hwho : ∀ i, i < np (xK c) → gN S 26 i = nI i) (ht : t < nt (xK c)) : ∃ S', fX0_leave 15 (nI t) S = some ((), S') ∧ RC S' (setS c (lset (dl (xS c)) t lv, dG (xS c), sd, dT (xS c))) := by
  obtain ⟨S', e, h1⟩ := leave_eq hw.1 hB hwho h.2.2.2.1 (by omega) ht
  have hu := wX0_leave e
  refine ⟨S', e, RC_set h (hu.r 0 1 (by simp)) (hu.r 0 2 (by simp)) (by rw [hu.r 33 0 (by simp), hu.r 33 1 (by simp)]; exact h.2.1) (fun cc jj q => hu.n cc jj (by simp; omega) (by simp; omega)) h1⟩
theorem put_m (h : RM S c) (hw : WC c) {t sd : Nat} {lv top qk bl pr : Nat → Nat} (hB : Mn S (np (xK c)) lv top qk bl pr sd) (h2 : LvM S (xK c) (dl (xS c))) (ht : t < nt (xK c)) : ∃ S', fX7_put (nI t) S = some ((), S') ∧ RM S' (setS c (lset (dl (xS c)) t lv, dG (xS c), sd, dT (xS c))) := by
  obtain ⟨S', e, h1⟩ := put_eq hw.1 hB h2 ht
  have hu := wX7_put e
  refine ⟨S', e, RM_set h (fun cc jj q => hu.n cc jj (by simp; omega) (by simp; omega)) ⟨h1, ?_, ?_, ?_⟩⟩
  · rw [hu.n 44 5 (by simp) (by simp)]; exact h.2.1.2.1
  · rw [hu.n 44 23 (by simp) (by simp)]; exact hB.2.2.1
  · rw [hu.n 44 6 (by simp) (by simp)]; exact h.2.1.2.2.2
end
