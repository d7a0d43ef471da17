/-! ===== the answers that need little ===== -/
theorem Un.okC {la lb : List (Nat × Nat)} {S S' : St} {c : Cx} (h : RC S c) (hu : Un la lb [] S S') (hl : ∀ x ∈ la, ¬ (x.1 ≤ 16 ∨ 19 ≤ x.1 ∧ x.1 ≤ 23)) : RC S' c :=
  RC_of h (fun cc jj => hu.r cc jj (by simp)) (fun cc jj q => hu.n cc jj (fun m => hl _ m q) (fun m => hl _ m q))
def mOK (x : Nat × Nat) : Bool := decide (x.1 ∉ [45, 46, 47, 48, 64, 65, 67, 68]) && (decide (x.1 ≠ 44) || decide (x.2 ∉ [0, 1, 5, 6, 8, 9, 23, 35, 99]))
theorem mOK_no {a b : Nat} (h : mOK (a, b) = true) : ¬ ((a = 44 ∧ (b = 0 ∨ b = 1 ∨ b = 5 ∨ b = 6 ∨ b = 8 ∨ b = 9 ∨ b = 23 ∨ b = 35 ∨ b = 99)) ∨ a = 45 ∨ a = 46 ∨ a = 47 ∨ a = 48 ∨ a = 64 ∨ a = 65 ∨ a = 67 ∨ a = 68) := by
  simp only [mOK, Bool.and_eq_true, Bool.or_eq_true, decide_eq_true_eq, List.mem_cons, List.not_mem_nil, or_false] at h
  omega
theorem Un.okM {la lb lc : List (Nat × Nat)} {S S' : St} {c : Cx} (h : RM S c) (hu : Un la lb lc S S') (hl : ∀ x ∈ la, mOK x = true) : RM S' c :=
  RM_of h (fun cc jj q => hu.n cc jj (fun m => mOK_no (hl _ m) (by omega)) (fun m => mOK_no (hl _ m) (by omega)))
/-- both answer alike -/
def Ag (c : Cx) (fc fm : St → Option (Int32 × St)) : Prop := ∃ r c', WC c' ∧ (∀ S, RC S c → ∃ S', fc S = some (r, S') ∧ RC S' c') ∧ (∀ S, RM S c → ∃ S', fm S = some (r, S') ∧ RM S' c') ∧ xK c' = xK c
section
variable {c : Cx}
theorem ag_fault (hw : WC c) : Ag c fX6_fault fX7_fault :=
  ⟨xF c, c, hw, fun S h => ⟨S, by rw [fX6_fault, h.2.2.2.2.2.2.2.1.2.2], h⟩, fun S h => ⟨S, by rw [fX7_fault, h.2.2.2.2.2.1.2.2], h⟩, rfl⟩
theorem bI_ite {S : St} {b : Bool} : (if bI b = 0 then some ((0 : Int32), S) else some (1, S)) = some (bI b, S) := by cases b <;> rfl
theorem so_ite {S : St} {P : Prop} [Decidable P] {a b : Int32} : (if P then some (a, S) else some (b, S)) = some (if P then a else b, S) := by split <;> rfl
theorem ag_count (hw : WC c) (x : Int32) : Ag c (fX6_count x) (fX7_count x) := by
  refine ⟨if x = 0 then nI (np (xK c)) else if x = 1 then nI (nt (xK c)) else if x = 2 then nI (xL c) else if x = 3 then nI (xN c) else if x = 4 then bI (dG (xS c)) else if x = 5 then nI (dT (xS c)) else -1000002, c, hw, fun S h => ⟨S, ?_, h⟩, fun S h => ⟨S, ?_, h⟩, rfl⟩
  · rw [fX6_count, gd_t (told_is h), gd_t (told_is h), h.2.2.1.1, h.2.2.1.2.1, h.2.2.2.2.2.2.2.1.1, h.2.2.2.2.2.2.2.2.1, h.2.2.2.1.2.1, h.2.2.2.1.2.2.2, bI_ite]
    simp only [so_ite]
  · rw [fX7_count, h.1.1, h.1.2.1, h.2.2.2.2.2.1.1, h.2.2.2.2.2.2.1, h.2.1.2.1, h.2.1.2.2.2, bI_ite]
    simp only [so_ite]
theorem bI_f0 : bI false = (0 : Int32) := rfl
theorem bI_t0 : ¬ bI true = (0 : Int32) := by decide
theorem ag_leans (hw : WC c) (x : Int32) : Ag c (fX6_leans x) (fX7_leans x) := by
  cases ht : inB x (nt (xK c)) with
  | false =>
    exact ⟨-1000001, c, hw, fun S h => ⟨S, by rw [fX6_leans, isThing_c h hw, ht, bd_s, if_pos bI_f0], h⟩, fun S h => ⟨S, by rw [fX7_leans, isThing_m h hw, ht, bd_s, if_pos bI_f0], h⟩, rfl⟩
  | true =>
    obtain ⟨t, h1, h2, rfl⟩ := inB_get ht
    have h6 := hw.1.1
    refine ⟨nI (ln (xK c) t), c, hw, fun S h => ⟨S, ?_, h⟩, fun S h => ⟨S, ?_, h⟩, rfl⟩
    · rw [fX6_leans, isThing_c h hw, ht, bd_s, if_neg bI_t0, gd_t (told_is h), gdI (by omega) (by omega), clI h2, h.2.2.1.2.2.1 t h1]
    · rw [fX7_leans, isThing_m h hw, ht, bd_s, if_neg bI_t0, gdI (by omega) (by omega), clI h2, h.1.2.2.1 t h1]
theorem ag_level (hw : WC c) (x y : Int32) : Ag c (fX6_level x y) (fX7_level x y) := by
  cases hp : inB x (np (xK c)) with
  | false =>
    exact ⟨-1000001, c, hw, fun S h => ⟨S, by rw [fX6_level, isPupil_c h hw, hp, bd_s, if_pos bI_f0]; rfl, h⟩, fun S h => ⟨S, by rw [fX7_level, isPupil_m h hw, hp, bd_s, if_pos bI_f0]; rfl, h⟩, rfl⟩
  | true =>
  cases ht : inB y (nt (xK c)) with
  | false =>
    exact ⟨-1000001, c, hw, fun S h => ⟨S, by rw [fX6_level, isPupil_c h hw, hp, bd_s, if_neg bI_t0, isThing_c h hw, ht, bd_s, if_pos bI_f0]; rfl, h⟩, fun S h => ⟨S, by rw [fX7_level, isPupil_m h hw, hp, bd_s, if_neg bI_t0, isThing_m h hw, ht, bd_s, if_pos bI_f0]; rfl, h⟩, rfl⟩
  | true =>
    obtain ⟨p, g1, g2, rfl⟩ := inB_get hp
    obtain ⟨t, h1, h2, rfl⟩ := inB_get ht
    have k1 := hw.1.1
    have k2 := hw.1.2.1
    refine ⟨nI (dl (xS c) p t), c, hw, fun S h => ⟨S, ?_, h⟩, fun S h => ⟨S, ?_, h⟩, rfl⟩
    · rw [fX6_level, isPupil_c h hw, hp, bd_s, if_neg bI_t0, isThing_c h hw, ht, bd_s, if_neg bI_t0]
      have := h.2.2.2.1.1 p t g1 h1
      rw [Nat.mul_comm 6 p] at this
      simp (disch := omega) only [gdI, clI, clL, ltI, leI, eqI, nI_add, subI, pk_mul, divI, bd_s, li_0, li_1, li_2, li_3, li_4, li_5, li_6, li_7, li_8, li_9, li_10, li_20, li_31, li_32, li_36, li_40, li_44, li_48, li_50, li_57, li_59, li_63, li_97, li_99, li_100, li_122, li_255, li_300, li_400, li_1000, li_65536, li_96, li_18, this]
    · rw [fX7_level, isPupil_m h hw, hp, bd_s, if_neg bI_t0, isThing_m h hw, ht, bd_s, if_neg bI_t0]
      have := h.2.1.1 p t g1 h1
      simp (disch := omega) only [gdI, clI, clL, ltI, leI, eqI, nI_add, subI, pk_mul, divI, bd_s, li_0, li_1, li_2, li_3, li_4, li_5, li_6, li_7, li_8, li_9, li_10, li_20, li_31, li_32, li_36, li_40, li_44, li_48, li_50, li_57, li_59, li_63, li_97, li_99, li_100, li_122, li_255, li_300, li_400, li_1000, li_65536, li_96, li_18, this]
theorem setS_K (s : Sd) : xK (setS c s) = xK c := rfl
theorem WC_set (hw : WC c) {s : Sd} (hs : WS (xK c) s) : WC (setS c s) := ⟨hw.1, hs, hw.2.2⟩
theorem ag_guest (hw : WC c) (b : Bool) : Ag c (fX6_guest (bI b)) (fX7_guest (bI b)) := by
  refine ⟨bI (dG (xS c)), setS c (dl (xS c), b, dS (xS c), dT (xS c)), WC_set hw hw.2.1, fun S h => ?_, fun S h => ?_, rfl⟩
  · refine ⟨sN S 15 1 (bI b), ?_, RC_set h rfl rfl h.2.1 (fun cc jj q => by rw [gN_sN_c (by omega)]) ⟨fun p t hp ht => ?_, gN_sN_s, ?_, ?_⟩⟩
    · simp only [fX6_guest, FX6_guest_15, h.2.2.2.1.2.1, gd_t (bI_isB b)]
      cases dG (xS c) <;> rfl
    · rw [gN_sN_c (by omega)]; exact h.2.2.2.1.1 p t hp ht
    · rw [gN_sN_j (by omega)]; exact h.2.2.2.1.2.2.1
    · rw [gN_sN_j (by omega)]; exact h.2.2.2.1.2.2.2
  · refine ⟨sN S 44 5 (bI b), ?_, RM_set h (fun cc jj q => ?_) ⟨fun p t hp ht => ?_, gN_sN_s, ?_, ?_⟩⟩
    · simp only [fX7_guest, FX7_guest_12, h.2.1.2.1, gd_t (bI_isB b)]
      cases dG (xS c) <;> rfl
    · by_cases hcc : cc = 44
      · subst hcc; rw [gN_sN_j (by omega)]
      · rw [gN_sN_c hcc]
    · rw [gN_sN_c (by omega)]; exact h.2.1.1 p t hp ht
    · rw [gN_sN_j (by omega)]; exact h.2.1.2.2.1
    · rw [gN_sN_j (by omega)]; exact h.2.1.2.2.2
theorem ag_seed (hw : WC c) (x : Int32) : Ag c (fX6_seed x) (fX7_seed x) := by
  by_cases hx : 0 ≤ x
  · obtain ⟨v, hv, rfl⟩ := nI_of (Int32.not_lt.mpr hx)
    refine ⟨nI (dS (xS c)), setS c (dl (xS c), dG (xS c), v, dT (xS c)), WC_set hw ⟨hw.2.1.1, hv, hw.2.1.2.2⟩, fun S h => ?_, fun S h => ?_, rfl⟩
    · refine ⟨sN S 15 2 (nI v), ?_, RC_set h rfl rfl h.2.1 (fun cc jj q => by rw [gN_sN_c (by omega)]) ⟨fun p t hp ht => ?_, ?_, gN_sN_s, ?_⟩⟩
      · rw [fX6_seed, if_pos hx, h.2.2.2.1.2.2.1]
      · rw [gN_sN_c (by omega)]; exact h.2.2.2.1.1 p t hp ht
      · rw [gN_sN_j (by omega)]; exact h.2.2.2.1.2.1
      · rw [gN_sN_j (by omega)]; exact h.2.2.2.1.2.2.2
    · refine ⟨sN S 44 23 (nI v), ?_, RM_set h (fun cc jj q => ?_) ⟨fun p t hp ht => ?_, ?_, gN_sN_s, ?_⟩⟩
      · rw [fX7_seed, if_pos hx, h.2.1.2.2.1]
      · by_cases hcc : cc = 44
        · subst hcc; rw [gN_sN_j (by omega)]
        · rw [gN_sN_c hcc]
      · rw [gN_sN_c (by omega)]; exact h.2.1.1 p t hp ht
      · rw [gN_sN_j (by omega)]; exact h.2.1.2.1
      · rw [gN_sN_j (by omega)]; exact h.2.1.2.2.2
  · exact ⟨-1000002, c, hw, fun S h => ⟨S, by rw [fX6_seed, if_neg hx], h⟩, fun S h => ⟨S, by rw [fX7_seed, if_neg hx], h⟩, rfl⟩
end
