
theorem lvR_of1 {ls' : Array Slot} {nL : Nat} {lv lv' : List (Option Value)} {i : Nat} {v : Value} (h' : lv_has ls' nL ((i, v) :: (lvp lv).filter (fun q => !(q.1 == i) && !(q.1 + 1 == i && q.2.category == 2)))) (hk : lvOk lv i = true) (hl : lv' = lv.set i (some v)) : lvR ls' nL lv' := by
  refine ⟨h'.1, h'.2.1, fun j w hj => ?_⟩
  subst hl
  by_cases hji : i = j
  · subst hji
    rw [List.getElem?_set] at hj
    simp only [if_true] at hj
    split at hj
    · cases hj
      exact h'.2.2 (i, v) List.mem_cons_self
    · cases hj
  · rw [List.getElem?_set_ne hji] at hj
    refine h'.2.2 (j, w) (List.mem_cons_of_mem _ (List.mem_filter.mpr ⟨lvp_mem.mpr hj, ?_⟩))
    have h1 : ¬ j = i := fun q => hji q.symm
    simp only [Bool.and_eq_true, Bool.not_eq_true', beq_eq_false_iff_ne, ne_eq, h1, not_false_eq_true, true_and, Bool.and_eq_false_iff]
    by_cases h2 : j + 1 = i
    · exact Or.inr (lvOk_spec hk h2 hj)
    · exact Or.inl h2
theorem lvR_of2 {ls' : Array Slot} {nL : Nat} {lv lv' : List (Option Value)} {i : Nat} {v : Value} (h' : lv_has ls' nL ((i, v) :: (lvp lv).filter (fun q => !(q.1 == i) && (!(q.1 == i + 1) && !(q.1 + 1 == i && q.2.category == 2))))) (hk : lvOk lv i = true) (hl : lv' = (lv.set i (some v)).set (i + 1) none) : lvR ls' nL lv' := by
  refine ⟨h'.1, h'.2.1, fun j w hj => ?_⟩
  subst hl
  by_cases hj1 : i + 1 = j
  · subst hj1
    rw [List.getElem?_set] at hj
    simp only [if_true] at hj
    split at hj <;> cases hj
  · rw [List.getElem?_set_ne hj1] at hj
    by_cases hji : i = j
    · subst hji
      rw [List.getElem?_set] at hj
      simp only [if_true] at hj
      split at hj
      · cases hj
        exact h'.2.2 (i, v) List.mem_cons_self
      · cases hj
    · rw [List.getElem?_set_ne hji] at hj
      refine h'.2.2 (j, w) (List.mem_cons_of_mem _ (List.mem_filter.mpr ⟨lvp_mem.mpr hj, ?_⟩))
      have h1 : ¬ j = i := fun q => hji q.symm
      have h3 : ¬ j = i + 1 := fun q => hj1 q.symm
      simp only [Bool.and_eq_true, Bool.not_eq_true', beq_eq_false_iff_ne, ne_eq, h1, h3, not_false_eq_true, true_and, Bool.and_eq_false_iff]
      by_cases h2 : j + 1 = i
      · exact Or.inr (lvOk_spec hk h2 hj)
      · exact Or.inl h2
/-- a class of the world's list, its words among the tables', its types -/
def Cl (ci : Nat) (C : String) (T : u_T) (N : Nat) (ty : Nat → FieldType) : Prop := vwCl[ci]? = some (C, T, N) ∧ (∀ w ∈ u_ws C T N, w ∈ tb) ∧ (∀ k, k < N → parseFieldDescriptor (T k).2.2.1 = some (ty k)) ∧ ∀ a, a < N → ∀ b, b < N → a ≠ b → (T a).2.1 ≠ (T b).2.1
def isB (v : Int32) : Bool := v == 0 || v == 1
theorem isB_or {v : Int32} (h : isB v = true) : v = 0 ∨ v = 1 := by simpa [isB] using h
/-- an index within a row -/
def inB (i : Int32) (n : Nat) : Bool := decide (0 ≤ i) && decide (i.toNatClampNeg < n)
theorem inB_in {i : Int32} {n : Nat} (h : inB i n = true) : vp_in i n := by
  simp only [inB, Bool.and_eq_true, decide_eq_true_eq] at h
  rintro (h1 | h1)
  · exact absurd h.1 (Int32.not_le.mpr h1)
  · omega
theorem sN_row {S : St} {c j : Nat} {v : Int32} : (sN S c j v).1 c = upd (S.1 c) j v := by simp only [sN, up_eq]; rfl
theorem sJ_row {S : St} {c j : Nat} {v : Int64} : (sJ S c j v).2.1 c = vp_updL (S.2.1 c) j v := by simp only [sJ, up_eq]; rfl
theorem mx_w : Cond.static Lib.Math.max.name ∈ tb ∧ Cond.initialized "java/lang/Math" ∈ tb ∧ Cond.code Lib.Math.max.name Lib.Math.max.code 2 (some .int) ∈ tb := ⟨mem_tb (by decide +kernel) rfl, mem_tb (by decide +kernel) rfl, mem_tb (by decide +kernel) rfl⟩
theorem mn_w : Cond.static Lib.Math.min.name ∈ tb ∧ Cond.code Lib.Math.min.name Lib.Math.min.code 2 (some .int) ∈ tb := ⟨mem_tb (by decide +kernel) rfl, mem_tb (by decide +kernel) rfl⟩
theorem cp_w : Cond.native arraycopyName ∈ tb ∧ Cond.static arraycopyName ∈ tb ∧ Cond.initialized "java/lang/System" ∈ tb := ⟨mem_tb (by decide +kernel) rfl, mem_tb (by decide +kernel) rfl, mem_tb (by decide +kernel) rfl⟩
def cpB (sp dp nn : Int32) (n0 n1 : Nat) : Bool := decide (¬ sp < 0) && decide (¬ dp < 0) && decide (¬ nn < 0) && decide (sp.toNatClampNeg + nn.toNatClampNeg ≤ n0) && decide (dp.toNatClampNeg + nn.toNatClampNeg ≤ n1)
theorem cpB_spec {sp dp nn : Int32} {n0 n1 : Nat} (h : cpB sp dp nn n0 n1 = true) : ¬ sp < 0 ∧ ¬ dp < 0 ∧ ¬ nn < 0 ∧ sp.toNatClampNeg + nn.toNatClampNeg ≤ n0 ∧ dp.toNatClampNeg + nn.toNatClampNeg ≤ n1 := by
  simp only [cpB, Bool.and_eq_true, decide_eq_true_eq] at h
  exact ⟨h.1.1.1.1, h.1.1.1.2, h.1.1.2, h.1.2, h.2⟩
theorem v_drop {X : VX} {G : VG} {nL pc : Nat} {Q : State → Prop} {lv lv' : List (Option Value)} {st : List Value} {S : St} (i : Nat) (h : lv' = lv.set i none) (k : V X G nL Q pc lv' st S) : V X G nL Q pc lv st S := by
  subst h
  exact fun H locs ls hP hS hl => k H locs ls hP hS (lvR_drop hl)
theorem v_iconst {X : VX} {G : VG} {cc : ByteArray} {nL lev pc n : Nat} {own : String} {Q : State → Prop} {lv : List (Option Value)} {st : List Value} {S : St} (hX : Fx X G cc nL own lev) {z : Int} {v : Int32} (hd : Dn cc pc (.iconst z) 1 n) (hv : Int32.ofInt z = v) (k : V X G nL Q n lv (.int v :: st) S) : V X G nL Q pc lv (st) S := by
  obtain ⟨hd, rfl⟩ := hd
  obtain ⟨hx, hb, hml, hown, hts, hE, hR, hlk⟩ := hX
  intro H locs ls hP hS hl
  exact lv_iconst hx hb hd hv (k H locs ls hP hS hl)

theorem v_bipush {X : VX} {G : VG} {cc : ByteArray} {nL lev pc n : Nat} {own : String} {Q : State → Prop} {lv : List (Option Value)} {st : List Value} {S : St} (hX : Fx X G cc nL own lev) {z : Int} {v : Int32} (hd : Dn cc pc (.bipush z) 2 n) (hv : (Int8.ofInt z).toInt32 = v) (k : V X G nL Q n lv (.int v :: st) S) : V X G nL Q pc lv (st) S := by
  obtain ⟨hd, rfl⟩ := hd
  obtain ⟨hx, hb, hml, hown, hts, hE, hR, hlk⟩ := hX
  intro H locs ls hP hS hl
  exact lv_bipush hx hb hd hv (k H locs ls hP hS hl)

theorem v_sipush {X : VX} {G : VG} {cc : ByteArray} {nL lev pc n : Nat} {own : String} {Q : State → Prop} {lv : List (Option Value)} {st : List Value} {S : St} (hX : Fx X G cc nL own lev) {z : Int} {v : Int32} (hd : Dn cc pc (.sipush z) 3 n) (hv : (Int16.ofInt z).toInt32 = v) (k : V X G nL Q n lv (.int v :: st) S) : V X G nL Q pc lv (st) S := by
  obtain ⟨hd, rfl⟩ := hd
  obtain ⟨hx, hb, hml, hown, hts, hE, hR, hlk⟩ := hX
  intro H locs ls hP hS hl
  exact lv_sipush hx hb hd hv (k H locs ls hP hS hl)

theorem v_lconst {X : VX} {G : VG} {cc : ByteArray} {nL lev pc n : Nat} {own : String} {Q : State → Prop} {lv : List (Option Value)} {st : List Value} {S : St} (hX : Fx X G cc nL own lev) {z : Fin 2} {v : Int64} (hd : Dn cc pc (.lconst z) 1 n) (hv : Int64.ofNat (z : Nat) = v) (k : V X G nL Q n lv (.long v :: st) S) : V X G nL Q pc lv (st) S := by
  obtain ⟨hd, rfl⟩ := hd
  obtain ⟨hx, hb, hml, hown, hts, hE, hR, hlk⟩ := hX
  intro H locs ls hP hS hl
  exact lv_lconst hx hb hd hv (k H locs ls hP hS hl)

theorem v_ldc {X : VX} {G : VG} {cc : ByteArray} {nL lev pc n : Nat} {own : String} {Q : State → Prop} {lv : List (Option Value)} {st : List Value} {S : St} (hX : Fx X G cc nL own lev) {i : Nat} {v : Int32} (hd : Dn cc pc (.ldc i) 2 n) (hc : Cond.constant own i v ∈ tb) (k : V X G nL Q n lv (.int v :: st) S) : V X G nL Q pc lv (st) S := by
  obtain ⟨hd, rfl⟩ := hd
  obtain ⟨hx, hb, hml, hown, hts, hE, hR, hlk⟩ := hX
  intro H locs ls hP hS hl
  exact lv_ldc hx hb hown (hts _ hc) hd (k H locs ls hP hS hl)

theorem v_ldcw {X : VX} {G : VG} {cc : ByteArray} {nL lev pc n : Nat} {own : String} {Q : State → Prop} {lv : List (Option Value)} {st : List Value} {S : St} (hX : Fx X G cc nL own lev) {i : Nat} {v : Int32} (hd : Dn cc pc (.ldc_w i) 3 n) (hc : Cond.constant own i v ∈ tb) (k : V X G nL Q n lv (.int v :: st) S) : V X G nL Q pc lv (st) S := by
  obtain ⟨hd, rfl⟩ := hd
  obtain ⟨hx, hb, hml, hown, hts, hE, hR, hlk⟩ := hX
  intro H locs ls hP hS hl
  exact lv_ldcw hx hb hown (hts _ hc) hd (k H locs ls hP hS hl)

theorem v_ldc2 {X : VX} {G : VG} {cc : ByteArray} {nL lev pc n : Nat} {own : String} {Q : State → Prop} {lv : List (Option Value)} {st : List Value} {S : St} (hX : Fx X G cc nL own lev) {i : Nat} {v : Int64} (hd : Dn cc pc (.ldc2_w i) 3 n) (hc : Cond.constantLong own i v ∈ tb) (k : V X G nL Q n lv (.long v :: st) S) : V X G nL Q pc lv (st) S := by
  obtain ⟨hd, rfl⟩ := hd
  obtain ⟨hx, hb, hml, hown, hts, hE, hR, hlk⟩ := hX
  intro H locs ls hP hS hl
  exact lv_ldc2 hx hb hown (hts _ hc) hd (k H locs ls hP hS hl)

theorem v_iload {X : VX} {G : VG} {cc : ByteArray} {nL lev pc n : Nat} {own : String} {Q : State → Prop} {lv : List (Option Value)} {st : List Value} {S : St} (hX : Fx X G cc nL own lev) {i : Nat} {x : Int32} (hd : Dn cc pc (.iload i) 2 n) (hv : lv[i]? = some (some (.int x))) (k : V X G nL Q n lv (.int x :: st) S) : V X G nL Q pc lv (st) S := by
  obtain ⟨hd, rfl⟩ := hd
  obtain ⟨hx, hb, hml, hown, hts, hE, hR, hlk⟩ := hX
  intro H locs ls hP hS hl
  exact lv_iload hx hb hd (hl.2.2 _ _ hv) (k H locs ls hP hS hl)

theorem v_iload_n {X : VX} {G : VG} {cc : ByteArray} {nL lev pc n : Nat} {own : String} {Q : State → Prop} {lv : List (Option Value)} {st : List Value} {S : St} (hX : Fx X G cc nL own lev) {i : Fin 4} {x : Int32} (hd : Dn cc pc (.iload_n i) 1 n) (hv : lv[(i : Nat)]? = some (some (.int x))) (k : V X G nL Q n lv (.int x :: st) S) : V X G nL Q pc lv (st) S := by
  obtain ⟨hd, rfl⟩ := hd
  obtain ⟨hx, hb, hml, hown, hts, hE, hR, hlk⟩ := hX
  intro H locs ls hP hS hl
  exact lv_iload_n hx hb hd rfl (hl.2.2 _ _ hv) (k H locs ls hP hS hl)

theorem v_lload {X : VX} {G : VG} {cc : ByteArray} {nL lev pc n : Nat} {own : String} {Q : State → Prop} {lv : List (Option Value)} {st : List Value} {S : St} (hX : Fx X G cc nL own lev) {i : Nat} {x : Int64} (hd : Dn cc pc (.lload i) 2 n) (hv : lv[i]? = some (some (.long x))) (k : V X G nL Q n lv (.long x :: st) S) : V X G nL Q pc lv (st) S := by
  obtain ⟨hd, rfl⟩ := hd
  obtain ⟨hx, hb, hml, hown, hts, hE, hR, hlk⟩ := hX
  intro H locs ls hP hS hl
  exact lv_lload hx hb hd (hl.2.2 _ _ hv) (k H locs ls hP hS hl)

theorem v_lload_n {X : VX} {G : VG} {cc : ByteArray} {nL lev pc n : Nat} {own : String} {Q : State → Prop} {lv : List (Option Value)} {st : List Value} {S : St} (hX : Fx X G cc nL own lev) {i : Fin 4} {x : Int64} (hd : Dn cc pc (.lload_n i) 1 n) (hv : lv[(i : Nat)]? = some (some (.long x))) (k : V X G nL Q n lv (.long x :: st) S) : V X G nL Q pc lv (st) S := by
  obtain ⟨hd, rfl⟩ := hd
  obtain ⟨hx, hb, hml, hown, hts, hE, hR, hlk⟩ := hX
  intro H locs ls hP hS hl
  exact lv_lload_n hx hb hd rfl (hl.2.2 _ _ hv) (k H locs ls hP hS hl)

theorem v_aload {X : VX} {G : VG} {cc : ByteArray} {nL lev pc n : Nat} {own : String} {Q : State → Prop} {lv : List (Option Value)} {st : List Value} {S : St} (hX : Fx X G cc nL own lev) {i : Nat} {x : Nat} (hd : Dn cc pc (.aload i) 2 n) (hv : lv[i]? = some (some (.ref x))) (k : V X G nL Q n lv (.ref x :: st) S) : V X G nL Q pc lv (st) S := by
  obtain ⟨hd, rfl⟩ := hd
  obtain ⟨hx, hb, hml, hown, hts, hE, hR, hlk⟩ := hX
  intro H locs ls hP hS hl
  exact lv_aload hx hb hd (hl.2.2 _ _ hv) (k H locs ls hP hS hl)

theorem v_aload_n {X : VX} {G : VG} {cc : ByteArray} {nL lev pc n : Nat} {own : String} {Q : State → Prop} {lv : List (Option Value)} {st : List Value} {S : St} (hX : Fx X G cc nL own lev) {i : Fin 4} {x : Nat} (hd : Dn cc pc (.aload_n i) 1 n) (hv : lv[(i : Nat)]? = some (some (.ref x))) (k : V X G nL Q n lv (.ref x :: st) S) : V X G nL Q pc lv (st) S := by
  obtain ⟨hd, rfl⟩ := hd
  obtain ⟨hx, hb, hml, hown, hts, hE, hR, hlk⟩ := hX
  intro H locs ls hP hS hl
  exact lv_aload_n hx hb hd rfl (hl.2.2 _ _ hv) (k H locs ls hP hS hl)

theorem v_istore {X : VX} {G : VG} {cc : ByteArray} {nL lev pc n : Nat} {own : String} {Q : State → Prop} {lv : List (Option Value)} {st : List Value} {S : St} (hX : Fx X G cc nL own lev) {i : Nat} {x : Int32} {lv' : List (Option Value)} (hd : Dn cc pc (.istore i) 2 n) (hi : i < nL) (ho : lvOk lv i = true) (hv : lv' = lv.set i (some (.int x))) (k : V X G nL Q n lv' st S) : V X G nL Q pc lv (.int x :: st) S := by
  obtain ⟨hd, rfl⟩ := hd
  obtain ⟨hx, hb, hml, hown, hts, hE, hR, hlk⟩ := hX
  intro H locs ls hP hS hl
  exact lv_istore hx hb hd (lvR_has.mp hl) hi rfl (fun ls' hl' => k H locs ls' hP hS (lvR_of1 hl' ho hv))

theorem v_istore_n {X : VX} {G : VG} {cc : ByteArray} {nL lev pc n : Nat} {own : String} {Q : State → Prop} {lv : List (Option Value)} {st : List Value} {S : St} (hX : Fx X G cc nL own lev) {i : Fin 4} {x : Int32} {lv' : List (Option Value)} (hd : Dn cc pc (.istore_n i) 1 n) (hi : (i : Nat) < nL) (ho : lvOk lv (i : Nat) = true) (hv : lv' = lv.set (i : Nat) (some (.int x))) (k : V X G nL Q n lv' st S) : V X G nL Q pc lv (.int x :: st) S := by
  obtain ⟨hd, rfl⟩ := hd
  obtain ⟨hx, hb, hml, hown, hts, hE, hR, hlk⟩ := hX
  intro H locs ls hP hS hl
  exact lv_istore_n hx hb hd rfl (lvR_has.mp hl) hi rfl (fun ls' hl' => k H locs ls' hP hS (lvR_of1 hl' ho hv))

theorem v_lstore {X : VX} {G : VG} {cc : ByteArray} {nL lev pc n : Nat} {own : String} {Q : State → Prop} {lv : List (Option Value)} {st : List Value} {S : St} (hX : Fx X G cc nL own lev) {i : Nat} {x : Int64} {lv' : List (Option Value)} (hd : Dn cc pc (.lstore i) 2 n) (hi : i + 1 < nL) (ho : lvOk lv i = true) (hv : lv' = (lv.set i (some (.long x))).set (i + 1) none) (k : V X G nL Q n lv' st S) : V X G nL Q pc lv (.long x :: st) S := by
  obtain ⟨hd, rfl⟩ := hd
  obtain ⟨hx, hb, hml, hown, hts, hE, hR, hlk⟩ := hX
  intro H locs ls hP hS hl
  exact lv_lstore hx hb hd (lvR_has.mp hl) hi rfl (fun ls' hl' => k H locs ls' hP hS (lvR_of2 hl' ho hv))

theorem v_lstore_n {X : VX} {G : VG} {cc : ByteArray} {nL lev pc n : Nat} {own : String} {Q : State → Prop} {lv : List (Option Value)} {st : List Value} {S : St} (hX : Fx X G cc nL own lev) {i : Fin 4} {x : Int64} {lv' : List (Option Value)} (hd : Dn cc pc (.lstore_n i) 1 n) (hi : (i : Nat) + 1 < nL) (ho : lvOk lv (i : Nat) = true) (hv : lv' = (lv.set (i : Nat) (some (.long x))).set ((i : Nat) + 1) none) (k : V X G nL Q n lv' st S) : V X G nL Q pc lv (.long x :: st) S := by
  obtain ⟨hd, rfl⟩ := hd
  obtain ⟨hx, hb, hml, hown, hts, hE, hR, hlk⟩ := hX
  intro H locs ls hP hS hl
  exact lv_lstore_n hx hb hd rfl (lvR_has.mp hl) hi rfl (fun ls' hl' => k H locs ls' hP hS (lvR_of2 hl' ho hv))

theorem v_astore {X : VX} {G : VG} {cc : ByteArray} {nL lev pc n : Nat} {own : String} {Q : State → Prop} {lv : List (Option Value)} {st : List Value} {S : St} (hX : Fx X G cc nL own lev) {i : Nat} {x : Nat} {lv' : List (Option Value)} (hd : Dn cc pc (.astore i) 2 n) (hi : i < nL) (ho : lvOk lv i = true) (hv : lv' = lv.set i (some (.ref x))) (k : V X G nL Q n lv' st S) : V X G nL Q pc lv (.ref x :: st) S := by
  obtain ⟨hd, rfl⟩ := hd
  obtain ⟨hx, hb, hml, hown, hts, hE, hR, hlk⟩ := hX
  intro H locs ls hP hS hl
  exact lv_astore hx hb hd (lvR_has.mp hl) hi rfl (fun ls' hl' => k H locs ls' hP hS (lvR_of1 hl' ho hv))

theorem v_astore_n {X : VX} {G : VG} {cc : ByteArray} {nL lev pc n : Nat} {own : String} {Q : State → Prop} {lv : List (Option Value)} {st : List Value} {S : St} (hX : Fx X G cc nL own lev) {i : Fin 4} {x : Nat} {lv' : List (Option Value)} (hd : Dn cc pc (.astore_n i) 1 n) (hi : (i : Nat) < nL) (ho : lvOk lv (i : Nat) = true) (hv : lv' = lv.set (i : Nat) (some (.ref x))) (k : V X G nL Q n lv' st S) : V X G nL Q pc lv (.ref x :: st) S := by
  obtain ⟨hd, rfl⟩ := hd
  obtain ⟨hx, hb, hml, hown, hts, hE, hR, hlk⟩ := hX
  intro H locs ls hP hS hl
  exact lv_astore_n hx hb hd rfl (lvR_has.mp hl) hi rfl (fun ls' hl' => k H locs ls' hP hS (lvR_of1 hl' ho hv))

theorem v_iinc {X : VX} {G : VG} {cc : ByteArray} {nL lev pc n : Nat} {own : String} {Q : State → Prop} {lv : List (Option Value)} {st : List Value} {S : St} (hX : Fx X G cc nL own lev) {i : Nat} {z : Int} {x y : Int32} {lv' : List (Option Value)} (hd : Dn cc pc (.iinc i z) 3 n) (hx0 : lv[i]? = some (some (.int x))) (hy : x + Int32.ofInt z = y) (hi : i < nL) (ho : lvOk lv i = true) (hv : lv' = lv.set i (some (.int y))) (k : V X G nL Q n lv' st S) : V X G nL Q pc lv st S := by
  obtain ⟨hd, rfl⟩ := hd
  obtain ⟨hx, hb, hml, hown, hts, hE, hR, hlk⟩ := hX
  intro H locs ls hP hS hl
  obtain ⟨kk, hkk⟩ := List.getElem?_of_mem (lvp_mem.mpr hx0)
  exact lv_iinc hx hb hd (lvR_has.mp hl) hkk hy hi rfl (fun ls' hl' => k H locs ls' hP hS (lvR_of1 hl' ho hv))

theorem v_iadd {X : VX} {G : VG} {cc : ByteArray} {nL lev pc n : Nat} {own : String} {Q : State → Prop} {lv : List (Option Value)} {st : List Value} {S : St} (hX : Fx X G cc nL own lev) {x y : Int32} (hd : Dn cc pc (.iadd) 1 n)  (k : V X G nL Q n lv (.int (x + y) :: st) S) : V X G nL Q pc lv (.int y :: .int x :: st) S := by
  obtain ⟨hd, rfl⟩ := hd
  obtain ⟨hx, hb, hml, hown, hts, hE, hR, hlk⟩ := hX
  intro H locs ls hP hS hl
  exact lv_iadd hx hb hd (k H locs ls hP hS hl)

theorem v_isub {X : VX} {G : VG} {cc : ByteArray} {nL lev pc n : Nat} {own : String} {Q : State → Prop} {lv : List (Option Value)} {st : List Value} {S : St} (hX : Fx X G cc nL own lev) {x y : Int32} (hd : Dn cc pc (.isub) 1 n)  (k : V X G nL Q n lv (.int (x - y) :: st) S) : V X G nL Q pc lv (.int y :: .int x :: st) S := by
  obtain ⟨hd, rfl⟩ := hd
  obtain ⟨hx, hb, hml, hown, hts, hE, hR, hlk⟩ := hX
  intro H locs ls hP hS hl
  exact lv_isub hx hb hd (k H locs ls hP hS hl)

theorem v_imul {X : VX} {G : VG} {cc : ByteArray} {nL lev pc n : Nat} {own : String} {Q : State → Prop} {lv : List (Option Value)} {st : List Value} {S : St} (hX : Fx X G cc nL own lev) {x y : Int32} (hd : Dn cc pc (.imul) 1 n)  (k : V X G nL Q n lv (.int (x * y) :: st) S) : V X G nL Q pc lv (.int y :: .int x :: st) S := by
  obtain ⟨hd, rfl⟩ := hd
  obtain ⟨hx, hb, hml, hown, hts, hE, hR, hlk⟩ := hX
  intro H locs ls hP hS hl
  exact lv_imul hx hb hd (k H locs ls hP hS hl)

theorem v_iand {X : VX} {G : VG} {cc : ByteArray} {nL lev pc n : Nat} {own : String} {Q : State → Prop} {lv : List (Option Value)} {st : List Value} {S : St} (hX : Fx X G cc nL own lev) {x y : Int32} (hd : Dn cc pc (.iand) 1 n)  (k : V X G nL Q n lv (.int (x &&& y) :: st) S) : V X G nL Q pc lv (.int y :: .int x :: st) S := by
  obtain ⟨hd, rfl⟩ := hd
  obtain ⟨hx, hb, hml, hown, hts, hE, hR, hlk⟩ := hX
  intro H locs ls hP hS hl
  exact lv_iand hx hb hd (k H locs ls hP hS hl)

theorem v_ior {X : VX} {G : VG} {cc : ByteArray} {nL lev pc n : Nat} {own : String} {Q : State → Prop} {lv : List (Option Value)} {st : List Value} {S : St} (hX : Fx X G cc nL own lev) {x y : Int32} (hd : Dn cc pc (.ior) 1 n)  (k : V X G nL Q n lv (.int (x ||| y) :: st) S) : V X G nL Q pc lv (.int y :: .int x :: st) S := by
  obtain ⟨hd, rfl⟩ := hd
  obtain ⟨hx, hb, hml, hown, hts, hE, hR, hlk⟩ := hX
  intro H locs ls hP hS hl
  exact lv_ior hx hb hd (k H locs ls hP hS hl)

theorem v_ixor {X : VX} {G : VG} {cc : ByteArray} {nL lev pc n : Nat} {own : String} {Q : State → Prop} {lv : List (Option Value)} {st : List Value} {S : St} (hX : Fx X G cc nL own lev) {x y : Int32} (hd : Dn cc pc (.ixor) 1 n)  (k : V X G nL Q n lv (.int (x ^^^ y) :: st) S) : V X G nL Q pc lv (.int y :: .int x :: st) S := by
  obtain ⟨hd, rfl⟩ := hd
  obtain ⟨hx, hb, hml, hown, hts, hE, hR, hlk⟩ := hX
  intro H locs ls hP hS hl
  exact lv_ixor hx hb hd (k H locs ls hP hS hl)

theorem v_ishl {X : VX} {G : VG} {cc : ByteArray} {nL lev pc n : Nat} {own : String} {Q : State → Prop} {lv : List (Option Value)} {st : List Value} {S : St} (hX : Fx X G cc nL own lev) {x y : Int32} (hd : Dn cc pc (.ishl) 1 n)  (k : V X G nL Q n lv (.int (x <<< (y &&& 31)) :: st) S) : V X G nL Q pc lv (.int y :: .int x :: st) S := by
  obtain ⟨hd, rfl⟩ := hd
  obtain ⟨hx, hb, hml, hown, hts, hE, hR, hlk⟩ := hX
  intro H locs ls hP hS hl
  exact lv_ishl hx hb hd (k H locs ls hP hS hl)

theorem v_ishr {X : VX} {G : VG} {cc : ByteArray} {nL lev pc n : Nat} {own : String} {Q : State → Prop} {lv : List (Option Value)} {st : List Value} {S : St} (hX : Fx X G cc nL own lev) {x y : Int32} (hd : Dn cc pc (.ishr) 1 n)  (k : V X G nL Q n lv (.int (x >>> (y &&& 31)) :: st) S) : V X G nL Q pc lv (.int y :: .int x :: st) S := by
  obtain ⟨hd, rfl⟩ := hd
  obtain ⟨hx, hb, hml, hown, hts, hE, hR, hlk⟩ := hX
  intro H locs ls hP hS hl
  exact lv_ishr hx hb hd (k H locs ls hP hS hl)

theorem v_idiv {X : VX} {G : VG} {cc : ByteArray} {nL lev pc n : Nat} {own : String} {Q : State → Prop} {lv : List (Option Value)} {st : List Value} {S : St} (hX : Fx X G cc nL own lev) {x y : Int32} (hd : Dn cc pc (.idiv) 1 n) (hne : ¬ y = 0) (k : V X G nL Q n lv (.int (x / y) :: st) S) : V X G nL Q pc lv (.int y :: .int x :: st) S := by
  obtain ⟨hd, rfl⟩ := hd
  obtain ⟨hx, hb, hml, hown, hts, hE, hR, hlk⟩ := hX
  intro H locs ls hP hS hl
  exact lv_idiv hx hb hd hne (k H locs ls hP hS hl)

theorem v_irem {X : VX} {G : VG} {cc : ByteArray} {nL lev pc n : Nat} {own : String} {Q : State → Prop} {lv : List (Option Value)} {st : List Value} {S : St} (hX : Fx X G cc nL own lev) {x y : Int32} (hd : Dn cc pc (.irem) 1 n) (hne : ¬ y = 0) (k : V X G nL Q n lv (.int (x - x / y * y) :: st) S) : V X G nL Q pc lv (.int y :: .int x :: st) S := by
  obtain ⟨hd, rfl⟩ := hd
  obtain ⟨hx, hb, hml, hown, hts, hE, hR, hlk⟩ := hX
  intro H locs ls hP hS hl
  exact lv_irem hx hb hd hne (k H locs ls hP hS hl)

theorem v_ladd {X : VX} {G : VG} {cc : ByteArray} {nL lev pc n : Nat} {own : String} {Q : State → Prop} {lv : List (Option Value)} {st : List Value} {S : St} (hX : Fx X G cc nL own lev) {x y : Int64} (hd : Dn cc pc (.ladd) 1 n)  (k : V X G nL Q n lv (.long (x + y) :: st) S) : V X G nL Q pc lv (.long y :: .long x :: st) S := by
  obtain ⟨hd, rfl⟩ := hd
  obtain ⟨hx, hb, hml, hown, hts, hE, hR, hlk⟩ := hX
  intro H locs ls hP hS hl
  exact lv_ladd hx hb hd (k H locs ls hP hS hl)

theorem v_lsub {X : VX} {G : VG} {cc : ByteArray} {nL lev pc n : Nat} {own : String} {Q : State → Prop} {lv : List (Option Value)} {st : List Value} {S : St} (hX : Fx X G cc nL own lev) {x y : Int64} (hd : Dn cc pc (.lsub) 1 n)  (k : V X G nL Q n lv (.long (x - y) :: st) S) : V X G nL Q pc lv (.long y :: .long x :: st) S := by
  obtain ⟨hd, rfl⟩ := hd
  obtain ⟨hx, hb, hml, hown, hts, hE, hR, hlk⟩ := hX
  intro H locs ls hP hS hl
  exact lv_lsub hx hb hd (k H locs ls hP hS hl)

theorem v_lmul {X : VX} {G : VG} {cc : ByteArray} {nL lev pc n : Nat} {own : String} {Q : State → Prop} {lv : List (Option Value)} {st : List Value} {S : St} (hX : Fx X G cc nL own lev) {x y : Int64} (hd : Dn cc pc (.lmul) 1 n)  (k : V X G nL Q n lv (.long (x * y) :: st) S) : V X G nL Q pc lv (.long y :: .long x :: st) S := by
  obtain ⟨hd, rfl⟩ := hd
  obtain ⟨hx, hb, hml, hown, hts, hE, hR, hlk⟩ := hX
  intro H locs ls hP hS hl
  exact lv_lmul hx hb hd (k H locs ls hP hS hl)

theorem v_land {X : VX} {G : VG} {cc : ByteArray} {nL lev pc n : Nat} {own : String} {Q : State → Prop} {lv : List (Option Value)} {st : List Value} {S : St} (hX : Fx X G cc nL own lev) {x y : Int64} (hd : Dn cc pc (.land) 1 n)  (k : V X G nL Q n lv (.long (x &&& y) :: st) S) : V X G nL Q pc lv (.long y :: .long x :: st) S := by
  obtain ⟨hd, rfl⟩ := hd
  obtain ⟨hx, hb, hml, hown, hts, hE, hR, hlk⟩ := hX
  intro H locs ls hP hS hl
  exact lv_land hx hb hd (k H locs ls hP hS hl)

theorem v_lor {X : VX} {G : VG} {cc : ByteArray} {nL lev pc n : Nat} {own : String} {Q : State → Prop} {lv : List (Option Value)} {st : List Value} {S : St} (hX : Fx X G cc nL own lev) {x y : Int64} (hd : Dn cc pc (.lor) 1 n)  (k : V X G nL Q n lv (.long (x ||| y) :: st) S) : V X G nL Q pc lv (.long y :: .long x :: st) S := by
  obtain ⟨hd, rfl⟩ := hd
  obtain ⟨hx, hb, hml, hown, hts, hE, hR, hlk⟩ := hX
  intro H locs ls hP hS hl
  exact lv_lor hx hb hd (k H locs ls hP hS hl)

theorem v_ldiv {X : VX} {G : VG} {cc : ByteArray} {nL lev pc n : Nat} {own : String} {Q : State → Prop} {lv : List (Option Value)} {st : List Value} {S : St} (hX : Fx X G cc nL own lev) {x y : Int64} (hd : Dn cc pc (.ldiv) 1 n) (hne : ¬ y = 0) (k : V X G nL Q n lv (.long (x / y) :: st) S) : V X G nL Q pc lv (.long y :: .long x :: st) S := by
  obtain ⟨hd, rfl⟩ := hd
  obtain ⟨hx, hb, hml, hown, hts, hE, hR, hlk⟩ := hX
  intro H locs ls hP hS hl
  exact lv_ldiv hx hb hd hne (k H locs ls hP hS hl)

theorem v_lrem {X : VX} {G : VG} {cc : ByteArray} {nL lev pc n : Nat} {own : String} {Q : State → Prop} {lv : List (Option Value)} {st : List Value} {S : St} (hX : Fx X G cc nL own lev) {x y : Int64} (hd : Dn cc pc (.lrem) 1 n) (hne : ¬ y = 0) (k : V X G nL Q n lv (.long (x - x / y * y) :: st) S) : V X G nL Q pc lv (.long y :: .long x :: st) S := by
  obtain ⟨hd, rfl⟩ := hd
  obtain ⟨hx, hb, hml, hown, hts, hE, hR, hlk⟩ := hX
  intro H locs ls hP hS hl
  exact lv_lrem hx hb hd hne (k H locs ls hP hS hl)

theorem v_lshl {X : VX} {G : VG} {cc : ByteArray} {nL lev pc n : Nat} {own : String} {Q : State → Prop} {lv : List (Option Value)} {st : List Value} {S : St} (hX : Fx X G cc nL own lev) {x : Int64} {y : Int32} (hd : Dn cc pc (.lshl) 1 n)  (k : V X G nL Q n lv (.long (x <<< (y.toInt64 &&& 63)) :: st) S) : V X G nL Q pc lv (.int y :: .long x :: st) S := by
  obtain ⟨hd, rfl⟩ := hd
  obtain ⟨hx, hb, hml, hown, hts, hE, hR, hlk⟩ := hX
  intro H locs ls hP hS hl
  exact lv_lshl hx hb hd rfl (k H locs ls hP hS hl)

theorem v_lshr {X : VX} {G : VG} {cc : ByteArray} {nL lev pc n : Nat} {own : String} {Q : State → Prop} {lv : List (Option Value)} {st : List Value} {S : St} (hX : Fx X G cc nL own lev) {x : Int64} {y : Int32} (hd : Dn cc pc (.lshr) 1 n)  (k : V X G nL Q n lv (.long (x >>> (y.toInt64 &&& 63)) :: st) S) : V X G nL Q pc lv (.int y :: .long x :: st) S := by
  obtain ⟨hd, rfl⟩ := hd
  obtain ⟨hx, hb, hml, hown, hts, hE, hR, hlk⟩ := hX
  intro H locs ls hP hS hl
  exact lv_lshr hx hb hd rfl (k H locs ls hP hS hl)

theorem v_lushr {X : VX} {G : VG} {cc : ByteArray} {nL lev pc n : Nat} {own : String} {Q : State → Prop} {lv : List (Option Value)} {st : List Value} {S : St} (hX : Fx X G cc nL own lev) {x : Int64} {y : Int32} (hd : Dn cc pc (.lushr) 1 n)  (k : V X G nL Q n lv (.long ((x.toUInt64 >>> (y.toInt64.toUInt64 &&& Int64.toUInt64 63)).toInt64) :: st) S) : V X G nL Q pc lv (.int y :: .long x :: st) S := by
  obtain ⟨hd, rfl⟩ := hd
  obtain ⟨hx, hb, hml, hown, hts, hE, hR, hlk⟩ := hX
  intro H locs ls hP hS hl
  exact lv_lushr hx hb hd rfl (k H locs ls hP hS hl)

theorem v_i2l {X : VX} {G : VG} {cc : ByteArray} {nL lev pc n : Nat} {own : String} {Q : State → Prop} {lv : List (Option Value)} {st : List Value} {S : St} (hX : Fx X G cc nL own lev) {x : Int32} (hd : Dn cc pc (.i2l) 1 n)  (k : V X G nL Q n lv (.long x.toInt64 :: st) S) : V X G nL Q pc lv (.int x :: st) S := by
  obtain ⟨hd, rfl⟩ := hd
  obtain ⟨hx, hb, hml, hown, hts, hE, hR, hlk⟩ := hX
  intro H locs ls hP hS hl
  exact lv_i2l hx hb hd rfl (k H locs ls hP hS hl)

theorem v_l2i {X : VX} {G : VG} {cc : ByteArray} {nL lev pc n : Nat} {own : String} {Q : State → Prop} {lv : List (Option Value)} {st : List Value} {S : St} (hX : Fx X G cc nL own lev) {x : Int64} (hd : Dn cc pc (.l2i) 1 n)  (k : V X G nL Q n lv (.int x.toInt32 :: st) S) : V X G nL Q pc lv (.long x :: st) S := by
  obtain ⟨hd, rfl⟩ := hd
  obtain ⟨hx, hb, hml, hown, hts, hE, hR, hlk⟩ := hX
  intro H locs ls hP hS hl
  exact lv_l2i hx hb hd rfl (k H locs ls hP hS hl)

theorem v_i2b {X : VX} {G : VG} {cc : ByteArray} {nL lev pc n : Nat} {own : String} {Q : State → Prop} {lv : List (Option Value)} {st : List Value} {S : St} (hX : Fx X G cc nL own lev) {x : Int32} (hd : Dn cc pc (.i2b) 1 n)  (k : V X G nL Q n lv (.int x.toInt8.toInt32 :: st) S) : V X G nL Q pc lv (.int x :: st) S := by
  obtain ⟨hd, rfl⟩ := hd
  obtain ⟨hx, hb, hml, hown, hts, hE, hR, hlk⟩ := hX
  intro H locs ls hP hS hl
  exact lv_i2b hx hb hd rfl (k H locs ls hP hS hl)

theorem v_i2c {X : VX} {G : VG} {cc : ByteArray} {nL lev pc n : Nat} {own : String} {Q : State → Prop} {lv : List (Option Value)} {st : List Value} {S : St} (hX : Fx X G cc nL own lev) {x : Int32} (hd : Dn cc pc (.i2c) 1 n)  (k : V X G nL Q n lv (.int (x.toUInt32 % 65536).toInt32 :: st) S) : V X G nL Q pc lv (.int x :: st) S := by
  obtain ⟨hd, rfl⟩ := hd
  obtain ⟨hx, hb, hml, hown, hts, hE, hR, hlk⟩ := hX
  intro H locs ls hP hS hl
  exact lv_i2c hx hb hd rfl (k H locs ls hP hS hl)

theorem v_lcmp {X : VX} {G : VG} {cc : ByteArray} {nL lev pc n : Nat} {own : String} {Q : State → Prop} {lv : List (Option Value)} {st : List Value} {S : St} (hX : Fx X G cc nL own lev) {x y : Int64} (hd : Dn cc pc (.lcmp) 1 n)  (k : V X G nL Q n lv (.int (lg_cmp x y) :: st) S) : V X G nL Q pc lv (.long y :: .long x :: st) S := by
  obtain ⟨hd, rfl⟩ := hd
  obtain ⟨hx, hb, hml, hown, hts, hE, hR, hlk⟩ := hX
  intro H locs ls hP hS hl
  exact W.lcmp hx hb hd (k H locs ls hP hS hl)

theorem v_dup {X : VX} {G : VG} {cc : ByteArray} {nL lev pc n : Nat} {own : String} {Q : State → Prop} {lv : List (Option Value)} {st : List Value} {S : St} (hX : Fx X G cc nL own lev) {x : Value} (hd : Dn cc pc (.dup) 1 n) (hc : x.category = 1) (k : V X G nL Q n lv (x :: x :: st) S) : V X G nL Q pc lv (x :: st) S := by
  obtain ⟨hd, rfl⟩ := hd
  obtain ⟨hx, hb, hml, hown, hts, hE, hR, hlk⟩ := hX
  intro H locs ls hP hS hl
  exact lv_dup hx hb hd hc (k H locs ls hP hS hl)

theorem v_pop {X : VX} {G : VG} {cc : ByteArray} {nL lev pc n : Nat} {own : String} {Q : State → Prop} {lv : List (Option Value)} {st : List Value} {S : St} (hX : Fx X G cc nL own lev) {x : Value} (hd : Dn cc pc (.pop) 1 n) (hc : x.category = 1) (k : V X G nL Q n lv (st) S) : V X G nL Q pc lv (x :: st) S := by
  obtain ⟨hd, rfl⟩ := hd
  obtain ⟨hx, hb, hml, hown, hts, hE, hR, hlk⟩ := hX
  intro H locs ls hP hS hl
  exact lv_pop hx hb hd hc (k H locs ls hP hS hl)

theorem v_dup2 {X : VX} {G : VG} {cc : ByteArray} {nL lev pc n : Nat} {own : String} {Q : State → Prop} {lv : List (Option Value)} {st : List Value} {S : St} (hX : Fx X G cc nL own lev) {x y : Value} (hd : Dn cc pc (.dup2) 1 n) (hc : x.category = 1) (hc2 : y.category = 1) (k : V X G nL Q n lv (x :: y :: x :: y :: st) S) : V X G nL Q pc lv (x :: y :: st) S := by
  obtain ⟨hd, rfl⟩ := hd
  obtain ⟨hx, hb, hml, hown, hts, hE, hR, hlk⟩ := hX
  intro H locs ls hP hS hl
  exact lv_dup2_11 hx hb hd hc hc2 (k H locs ls hP hS hl)

theorem v_null {X : VX} {G : VG} {cc : ByteArray} {nL lev pc n : Nat} {own : String} {Q : State → Prop} {lv : List (Option Value)} {st : List Value} {S : St} (hX : Fx X G cc nL own lev)  (hd : Dn cc pc (.aconst_null) 1 n)  (k : V X G nL Q n lv (.null :: st) S) : V X G nL Q pc lv (st) S := by
  obtain ⟨hd, rfl⟩ := hd
  obtain ⟨hx, hb, hml, hown, hts, hE, hR, hlk⟩ := hX
  intro H locs ls hP hS hl
  exact lv_null hx hb hd (k H locs ls hP hS hl)

theorem v_if_eq {X : VX} {G : VG} {cc : ByteArray} {nL lev pc n : Nat} {own : String} {Q : State → Prop} {lv : List (Option Value)} {st : List Value} {S : St} (hX : Fx X G cc nL own lev) {x : Int32} {z : Int} {tgt : Nat} (hd : Dn cc pc (.ifCond .eq z) 3 n) (ht : (pc : Int) + z = (tgt : Int)) (kt : x = 0 → V X G nL Q tgt lv st S) (kf : ¬ x = 0 → V X G nL Q n lv st S) : V X G nL Q pc lv (.int x :: st) S := by
  obtain ⟨hd, rfl⟩ := hd
  obtain ⟨hx, hb, hml, hown, hts, hE, hR, hlk⟩ := hX
  intro H locs ls hP hS hl
  exact lv_if_eq hx hb hd ht (fun h => kt h H locs ls hP hS hl) (fun h => kf h H locs ls hP hS hl)

theorem v_icmp_eq {X : VX} {G : VG} {cc : ByteArray} {nL lev pc n : Nat} {own : String} {Q : State → Prop} {lv : List (Option Value)} {st : List Value} {S : St} (hX : Fx X G cc nL own lev) {x y : Int32} {z : Int} {tgt : Nat} (hd : Dn cc pc (.if_icmp .eq z) 3 n) (ht : (pc : Int) + z = (tgt : Int)) (kt : x = y → V X G nL Q tgt lv st S) (kf : ¬ x = y → V X G nL Q n lv st S) : V X G nL Q pc lv (.int y :: .int x :: st) S := by
  obtain ⟨hd, rfl⟩ := hd
  obtain ⟨hx, hb, hml, hown, hts, hE, hR, hlk⟩ := hX
  intro H locs ls hP hS hl
  exact lv_icmp_eq hx hb hd ht (fun h => kt h H locs ls hP hS hl) (fun h => kf h H locs ls hP hS hl)

theorem v_if_ne {X : VX} {G : VG} {cc : ByteArray} {nL lev pc n : Nat} {own : String} {Q : State → Prop} {lv : List (Option Value)} {st : List Value} {S : St} (hX : Fx X G cc nL own lev) {x : Int32} {z : Int} {tgt : Nat} (hd : Dn cc pc (.ifCond .ne z) 3 n) (ht : (pc : Int) + z = (tgt : Int)) (kt : ¬ x = 0 → V X G nL Q tgt lv st S) (kf : x = 0 → V X G nL Q n lv st S) : V X G nL Q pc lv (.int x :: st) S := by
  obtain ⟨hd, rfl⟩ := hd
  obtain ⟨hx, hb, hml, hown, hts, hE, hR, hlk⟩ := hX
  intro H locs ls hP hS hl
  exact lv_if_ne hx hb hd ht (fun h => kt h H locs ls hP hS hl) (fun h => kf h H locs ls hP hS hl)

theorem v_icmp_ne {X : VX} {G : VG} {cc : ByteArray} {nL lev pc n : Nat} {own : String} {Q : State → Prop} {lv : List (Option Value)} {st : List Value} {S : St} (hX : Fx X G cc nL own lev) {x y : Int32} {z : Int} {tgt : Nat} (hd : Dn cc pc (.if_icmp .ne z) 3 n) (ht : (pc : Int) + z = (tgt : Int)) (kt : ¬ x = y → V X G nL Q tgt lv st S) (kf : x = y → V X G nL Q n lv st S) : V X G nL Q pc lv (.int y :: .int x :: st) S := by
  obtain ⟨hd, rfl⟩ := hd
  obtain ⟨hx, hb, hml, hown, hts, hE, hR, hlk⟩ := hX
  intro H locs ls hP hS hl
  exact lv_icmp_ne hx hb hd ht (fun h => kt h H locs ls hP hS hl) (fun h => kf h H locs ls hP hS hl)

theorem v_if_lt {X : VX} {G : VG} {cc : ByteArray} {nL lev pc n : Nat} {own : String} {Q : State → Prop} {lv : List (Option Value)} {st : List Value} {S : St} (hX : Fx X G cc nL own lev) {x : Int32} {z : Int} {tgt : Nat} (hd : Dn cc pc (.ifCond .lt z) 3 n) (ht : (pc : Int) + z = (tgt : Int)) (kt : x < 0 → V X G nL Q tgt lv st S) (kf : ¬ x < 0 → V X G nL Q n lv st S) : V X G nL Q pc lv (.int x :: st) S := by
  obtain ⟨hd, rfl⟩ := hd
  obtain ⟨hx, hb, hml, hown, hts, hE, hR, hlk⟩ := hX
  intro H locs ls hP hS hl
  exact lv_if_lt hx hb hd ht (fun h => kt h H locs ls hP hS hl) (fun h => kf h H locs ls hP hS hl)

theorem v_icmp_lt {X : VX} {G : VG} {cc : ByteArray} {nL lev pc n : Nat} {own : String} {Q : State → Prop} {lv : List (Option Value)} {st : List Value} {S : St} (hX : Fx X G cc nL own lev) {x y : Int32} {z : Int} {tgt : Nat} (hd : Dn cc pc (.if_icmp .lt z) 3 n) (ht : (pc : Int) + z = (tgt : Int)) (kt : x < y → V X G nL Q tgt lv st S) (kf : ¬ x < y → V X G nL Q n lv st S) : V X G nL Q pc lv (.int y :: .int x :: st) S := by
  obtain ⟨hd, rfl⟩ := hd
  obtain ⟨hx, hb, hml, hown, hts, hE, hR, hlk⟩ := hX
  intro H locs ls hP hS hl
  exact lv_icmp_lt hx hb hd ht (fun h => kt h H locs ls hP hS hl) (fun h => kf h H locs ls hP hS hl)

theorem v_if_ge {X : VX} {G : VG} {cc : ByteArray} {nL lev pc n : Nat} {own : String} {Q : State → Prop} {lv : List (Option Value)} {st : List Value} {S : St} (hX : Fx X G cc nL own lev) {x : Int32} {z : Int} {tgt : Nat} (hd : Dn cc pc (.ifCond .ge z) 3 n) (ht : (pc : Int) + z = (tgt : Int)) (kt : 0 ≤ x → V X G nL Q tgt lv st S) (kf : ¬ 0 ≤ x → V X G nL Q n lv st S) : V X G nL Q pc lv (.int x :: st) S := by
  obtain ⟨hd, rfl⟩ := hd
  obtain ⟨hx, hb, hml, hown, hts, hE, hR, hlk⟩ := hX
  intro H locs ls hP hS hl
  exact lv_if_ge hx hb hd ht (fun h => kt h H locs ls hP hS hl) (fun h => kf h H locs ls hP hS hl)

theorem v_icmp_ge {X : VX} {G : VG} {cc : ByteArray} {nL lev pc n : Nat} {own : String} {Q : State → Prop} {lv : List (Option Value)} {st : List Value} {S : St} (hX : Fx X G cc nL own lev) {x y : Int32} {z : Int} {tgt : Nat} (hd : Dn cc pc (.if_icmp .ge z) 3 n) (ht : (pc : Int) + z = (tgt : Int)) (kt : y ≤ x → V X G nL Q tgt lv st S) (kf : ¬ y ≤ x → V X G nL Q n lv st S) : V X G nL Q pc lv (.int y :: .int x :: st) S := by
  obtain ⟨hd, rfl⟩ := hd
  obtain ⟨hx, hb, hml, hown, hts, hE, hR, hlk⟩ := hX
  intro H locs ls hP hS hl
  exact lv_icmp_ge hx hb hd ht (fun h => kt h H locs ls hP hS hl) (fun h => kf h H locs ls hP hS hl)

theorem v_if_gt {X : VX} {G : VG} {cc : ByteArray} {nL lev pc n : Nat} {own : String} {Q : State → Prop} {lv : List (Option Value)} {st : List Value} {S : St} (hX : Fx X G cc nL own lev) {x : Int32} {z : Int} {tgt : Nat} (hd : Dn cc pc (.ifCond .gt z) 3 n) (ht : (pc : Int) + z = (tgt : Int)) (kt : 0 < x → V X G nL Q tgt lv st S) (kf : ¬ 0 < x → V X G nL Q n lv st S) : V X G nL Q pc lv (.int x :: st) S := by
  obtain ⟨hd, rfl⟩ := hd
  obtain ⟨hx, hb, hml, hown, hts, hE, hR, hlk⟩ := hX
  intro H locs ls hP hS hl
  exact lv_if_gt hx hb hd ht (fun h => kt h H locs ls hP hS hl) (fun h => kf h H locs ls hP hS hl)

theorem v_icmp_gt {X : VX} {G : VG} {cc : ByteArray} {nL lev pc n : Nat} {own : String} {Q : State → Prop} {lv : List (Option Value)} {st : List Value} {S : St} (hX : Fx X G cc nL own lev) {x y : Int32} {z : Int} {tgt : Nat} (hd : Dn cc pc (.if_icmp .gt z) 3 n) (ht : (pc : Int) + z = (tgt : Int)) (kt : y < x → V X G nL Q tgt lv st S) (kf : ¬ y < x → V X G nL Q n lv st S) : V X G nL Q pc lv (.int y :: .int x :: st) S := by
  obtain ⟨hd, rfl⟩ := hd
  obtain ⟨hx, hb, hml, hown, hts, hE, hR, hlk⟩ := hX
  intro H locs ls hP hS hl
  exact lv_icmp_gt hx hb hd ht (fun h => kt h H locs ls hP hS hl) (fun h => kf h H locs ls hP hS hl)

theorem v_if_le {X : VX} {G : VG} {cc : ByteArray} {nL lev pc n : Nat} {own : String} {Q : State → Prop} {lv : List (Option Value)} {st : List Value} {S : St} (hX : Fx X G cc nL own lev) {x : Int32} {z : Int} {tgt : Nat} (hd : Dn cc pc (.ifCond .le z) 3 n) (ht : (pc : Int) + z = (tgt : Int)) (kt : x ≤ 0 → V X G nL Q tgt lv st S) (kf : ¬ x ≤ 0 → V X G nL Q n lv st S) : V X G nL Q pc lv (.int x :: st) S := by
  obtain ⟨hd, rfl⟩ := hd
  obtain ⟨hx, hb, hml, hown, hts, hE, hR, hlk⟩ := hX
  intro H locs ls hP hS hl
  exact lv_if_le hx hb hd ht (fun h => kt h H locs ls hP hS hl) (fun h => kf h H locs ls hP hS hl)

theorem v_icmp_le {X : VX} {G : VG} {cc : ByteArray} {nL lev pc n : Nat} {own : String} {Q : State → Prop} {lv : List (Option Value)} {st : List Value} {S : St} (hX : Fx X G cc nL own lev) {x y : Int32} {z : Int} {tgt : Nat} (hd : Dn cc pc (.if_icmp .le z) 3 n) (ht : (pc : Int) + z = (tgt : Int)) (kt : x ≤ y → V X G nL Q tgt lv st S) (kf : ¬ x ≤ y → V X G nL Q n lv st S) : V X G nL Q pc lv (.int y :: .int x :: st) S := by
  obtain ⟨hd, rfl⟩ := hd
  obtain ⟨hx, hb, hml, hown, hts, hE, hR, hlk⟩ := hX
  intro H locs ls hP hS hl
  exact lv_icmp_le hx hb hd ht (fun h => kt h H locs ls hP hS hl) (fun h => kf h H locs ls hP hS hl)

theorem v_goto {X : VX} {G : VG} {cc : ByteArray} {nL lev pc n : Nat} {own : String} {Q : State → Prop} {lv : List (Option Value)} {st : List Value} {S : St} (hX : Fx X G cc nL own lev) {z : Int} {tgt : Nat} (hd : Dn cc pc (.goto z) 3 n) (ht : (pc : Int) + z = (tgt : Int)) (k : V X G nL Q tgt lv st S) : V X G nL Q pc lv st S := by
  obtain ⟨hd, rfl⟩ := hd
  obtain ⟨hx, hb, hml, hown, hts, hE, hR, hlk⟩ := hX
  intro H locs ls hP hS hl
  exact lv_goto hx hb hd ht (k H locs ls hP hS hl)

theorem v_tabIn {X : VX} {G : VG} {cc : ByteArray} {nL lev pc n : Nat} {own : String} {Q : State → Prop} {lv : List (Option Value)} {st : List Value} {S : St} (hX : Fx X G cc nL own lev) {x : Int32} {dflt lo hi off : Int} {offs : Array Int} {len tgt : Nat} (hd : Dn cc pc (.tableswitch dflt lo hi offs) len n) (h1 : ¬ x.toInt < lo) (h2 : ¬ hi < x.toInt) (ho : offs[(x.toInt - lo).toNat]? = some off) (ht : (pc : Int) + off = (tgt : Int)) (k : V X G nL Q tgt lv st S) : V X G nL Q pc lv (.int x :: st) S := by
  obtain ⟨hd, rfl⟩ := hd
  obtain ⟨hx, hb, hml, hown, hts, hE, hR, hlk⟩ := hX
  intro H locs ls hP hS hl
  exact lv_tableIn hx hb hd h1 h2 ho ht (k H locs ls hP hS hl)

theorem v_tabOut {X : VX} {G : VG} {cc : ByteArray} {nL lev pc n : Nat} {own : String} {Q : State → Prop} {lv : List (Option Value)} {st : List Value} {S : St} (hX : Fx X G cc nL own lev) {x : Int32} {dflt lo hi : Int} {offs : Array Int} {len tgt : Nat} (hd : Dn cc pc (.tableswitch dflt lo hi offs) len n) (h : x.toInt < lo ∨ hi < x.toInt) (ht : (pc : Int) + dflt = (tgt : Int)) (k : V X G nL Q tgt lv st S) : V X G nL Q pc lv (.int x :: st) S := by
  obtain ⟨hd, rfl⟩ := hd
  obtain ⟨hx, hb, hml, hown, hts, hE, hR, hlk⟩ := hX
  intro H locs ls hP hS hl
  exact lv_tableOut hx hb hd h ht (k H locs ls hP hS hl)

theorem v_look {X : VX} {G : VG} {cc : ByteArray} {nL lev pc n : Nat} {own : String} {Q : State → Prop} {lv : List (Option Value)} {st : List Value} {S : St} (hX : Fx X G cc nL own lev) {x : Int32} {dflt off : Int} {ps : Array (Int × Int)} {len tgt : Nat} (hd : Dn cc pc (.lookupswitch dflt ps) len n) (hp : (ps.toList.zip (ps.toList.drop 1)).all (fun (a, next) => a.1 < next.1) = true) (ho : Op.lookupswitch.offset ps.toList dflt x.toInt = off) (ht : (pc : Int) + off = (tgt : Int)) (k : V X G nL Q tgt lv st S) : V X G nL Q pc lv (.int x :: st) S := by
  obtain ⟨hd, rfl⟩ := hd
  obtain ⟨hx, hb, hml, hown, hts, hE, hR, hlk⟩ := hX
  intro H locs ls hP hS hl
  exact lv_lookup hx hb hd hp ho ht (k H locs ls hP hS hl)

theorem v_gfi {X : VX} {G : VG} {cc : ByteArray} {nL lev pc n : Nat} {own : String} {Q : State → Prop} {lv : List (Option Value)} {st : List Value} {S : St} (hX : Fx X G cc nL own lev) {C : String} {T : u_T} {N : Nat} {ty : Nat → FieldType} {c j ci d i : Nat} (hd : Dn cc pc (.getfield i) 3 n) (hc : Cl ci C T N ty) (hf : FI c j ci 0 d) (hj : j < N) (hk : Cond.fieldLink own i (T j).1 (T j).2.1 (T j).2.2.1 ∈ tb)  (k : V X G nL Q n lv (.int (gN S c j) :: st) S) : V X G nL Q pc lv (.ref (G.2.1 c) :: st) S := by
  obtain ⟨hd, rfl⟩ := hd
  obtain ⟨hx, hb, hml, hown, hts, hE, hR, hlk⟩ := hX
  intro H locs ls hP hS hl
  obtain ⟨fs, e1, e2, e3⟩ := cell_obj (G := G) (S := S) hf
  exact va_get (v := .int (gN S c j)) hx hb hts hc.2.1 hown hE.1 hP (wpos c) (by rw [wld_get G S hf.1, e1]) hc.1 j hj (hts _ hk) (fun _ h => h) (by rw [e2]; rfl) hd (k H locs ls hP hS hl)

theorem v_gfl {X : VX} {G : VG} {cc : ByteArray} {nL lev pc n : Nat} {own : String} {Q : State → Prop} {lv : List (Option Value)} {st : List Value} {S : St} (hX : Fx X G cc nL own lev) {C : String} {T : u_T} {N : Nat} {ty : Nat → FieldType} {c j ci d i : Nat} (hd : Dn cc pc (.getfield i) 3 n) (hc : Cl ci C T N ty) (hf : FI c j ci 4 d) (hj : j < N) (hk : Cond.fieldLink own i (T j).1 (T j).2.1 (T j).2.2.1 ∈ tb)  (k : V X G nL Q n lv (.long (gJ S c j) :: st) S) : V X G nL Q pc lv (.ref (G.2.1 c) :: st) S := by
  obtain ⟨hd, rfl⟩ := hd
  obtain ⟨hx, hb, hml, hown, hts, hE, hR, hlk⟩ := hX
  intro H locs ls hP hS hl
  obtain ⟨fs, e1, e2, e3⟩ := cell_obj (G := G) (S := S) hf
  exact va_get (v := .long (gJ S c j)) hx hb hts hc.2.1 hown hE.1 hP (wpos c) (by rw [wld_get G S hf.1, e1]) hc.1 j hj (hts _ hk) (fun _ h => h) (by rw [e2]; rfl) hd (k H locs ls hP hS hl)

theorem v_gfc {X : VX} {G : VG} {cc : ByteArray} {nL lev pc n : Nat} {own : String} {Q : State → Prop} {lv : List (Option Value)} {st : List Value} {S : St} (hX : Fx X G cc nL own lev) {C : String} {T : u_T} {N : Nat} {ty : Nat → FieldType} {c j ci d i : Nat} (hd : Dn cc pc (.getfield i) 3 n) (hc : Cl ci C T N ty) (hf : FI c j ci 1 d) (hj : j < N) (hk : Cond.fieldLink own i (T j).1 (T j).2.1 (T j).2.2.1 ∈ tb)  (k : V X G nL Q n lv (.ref (G.2.1 d) :: st) S) : V X G nL Q pc lv (.ref (G.2.1 c) :: st) S := by
  obtain ⟨hd, rfl⟩ := hd
  obtain ⟨hx, hb, hml, hown, hts, hE, hR, hlk⟩ := hX
  intro H locs ls hP hS hl
  obtain ⟨fs, e1, e2, e3⟩ := cell_obj (G := G) (S := S) hf
  exact va_get (v := .ref (G.2.1 d)) hx hb hts hc.2.1 hown hE.1 hP (wpos c) (by rw [wld_get G S hf.1, e1]) hc.1 j hj (hts _ hk) (fun _ h => h) (by rw [e2]; rfl) hd (k H locs ls hP hS hl)

theorem v_gfr {X : VX} {G : VG} {cc : ByteArray} {nL lev pc n : Nat} {own : String} {Q : State → Prop} {lv : List (Option Value)} {st : List Value} {S : St} (hX : Fx X G cc nL own lev) {C : String} {T : u_T} {N : Nat} {ty : Nat → FieldType} {c j ci d i : Nat} (hd : Dn cc pc (.getfield i) 3 n) (hc : Cl ci C T N ty) (hf : FI c j ci 2 d) (hj : j < N) (hk : Cond.fieldLink own i (T j).1 (T j).2.1 (T j).2.2.1 ∈ tb)  (k : V X G nL Q n lv (.ref (G.2.1 (gR S c j)) :: st) S) : V X G nL Q pc lv (.ref (G.2.1 c) :: st) S := by
  obtain ⟨hd, rfl⟩ := hd
  obtain ⟨hx, hb, hml, hown, hts, hE, hR, hlk⟩ := hX
  intro H locs ls hP hS hl
  obtain ⟨fs, e1, e2, e3⟩ := cell_obj (G := G) (S := S) hf
  exact va_get (v := .ref (G.2.1 (gR S c j))) hx hb hts hc.2.1 hown hE.1 hP (wpos c) (by rw [wld_get G S hf.1, e1]) hc.1 j hj (hts _ hk) (fun _ h => h) (by rw [e2]; rfl) hd (k H locs ls hP hS hl)

theorem v_gfn {X : VX} {G : VG} {cc : ByteArray} {nL lev pc n : Nat} {own : String} {Q : State → Prop} {lv : List (Option Value)} {st : List Value} {S : St} (hX : Fx X G cc nL own lev) {C : String} {T : u_T} {N : Nat} {ty : Nat → FieldType} {c j ci d i : Nat} (hd : Dn cc pc (.getfield i) 3 n) (hc : Cl ci C T N ty) (hf : FI c j ci 3 d) (hj : j < N) (hk : Cond.fieldLink own i (T j).1 (T j).2.1 (T j).2.2.1 ∈ tb) (hn : gR S c j ≠ 99) (k : V X G nL Q n lv (.ref (G.2.1 (gR S c j)) :: st) S) : V X G nL Q pc lv (.ref (G.2.1 c) :: st) S := by
  obtain ⟨hd, rfl⟩ := hd
  obtain ⟨hx, hb, hml, hown, hts, hE, hR, hlk⟩ := hX
  intro H locs ls hP hS hl
  obtain ⟨fs, e1, e2, e3⟩ := cell_obj (G := G) (S := S) hf
  exact va_get (v := .ref (G.2.1 (gR S c j))) hx hb hts hc.2.1 hown hE.1 hP (wpos c) (by rw [wld_get G S hf.1, e1]) hc.1 j hj (hts _ hk) (fun _ h => h) (by rw [e2]; simp [fv, fvq, hn]) hd (k H locs ls hP hS hl)

theorem v_pfi {X : VX} {G : VG} {cc : ByteArray} {nL lev pc n : Nat} {own : String} {Q : State → Prop} {lv : List (Option Value)} {st : List Value} {S : St} (hX : Fx X G cc nL own lev) {C : String} {T : u_T} {N : Nat} {ty : Nat → FieldType} {c j ci d i : Nat} {v : Int32} (hd : Dn cc pc (.putfield i) 3 n) (hc : Cl ci C T N ty) (hf : FI c j ci 0 d) (hj : j < N) (hk : Cond.fieldLink own i (T j).1 (T j).2.1 (T j).2.2.1 ∈ tb) (hfin : (T j).2.2.2 = false) (hty : ty j = .int)  (k : V X G nL Q n lv st (sN S c j v)) : V X G nL Q pc lv (.int v :: .ref (G.2.1 c) :: st) S := by
  obtain ⟨hd, rfl⟩ := hd
  obtain ⟨hx, hb, hml, hown, hts, hE, hR, hlk⟩ := hX
  intro H locs ls hP hS hl
  obtain ⟨fs, e1, e2, e3⟩ := cell_obj (G := G) (S := S) hf
  refine va_put (v := .int v) hx hb hts hc.2.1 ty hc.2.2.1 hc.2.2.2 hown hE.1 hP (wld_D hE.2.1) hS (wpos c) (by rw [wld_get G S hf.1, e1]) hc.1 j hj (hts _ hk) (fun _ h => h) hfin (hc.2.2.1 j hj) (by rw [hty]; rfl) (by rw [hty]; rfl) e3 hd (fun H1 locs1 hP1 _ hS1 => ?_)
  rw [wld_set G S (sN S c j v) hf.1 (cell_put hf e1 fvN (fun i q h => fvN_ne h)) (fun k h => cellN_ne h)] at hP1
  exact k H1 locs1 ls hP1 hS1 hl

theorem v_pfz {X : VX} {G : VG} {cc : ByteArray} {nL lev pc n : Nat} {own : String} {Q : State → Prop} {lv : List (Option Value)} {st : List Value} {S : St} (hX : Fx X G cc nL own lev) {C : String} {T : u_T} {N : Nat} {ty : Nat → FieldType} {c j ci d i : Nat} {v : Int32} (hd : Dn cc pc (.putfield i) 3 n) (hc : Cl ci C T N ty) (hf : FI c j ci 0 d) (hj : j < N) (hk : Cond.fieldLink own i (T j).1 (T j).2.1 (T j).2.2.1 ∈ tb) (hfin : (T j).2.2.2 = false) (hty : ty j = .boolean) (hb0 : isB v = true) (k : V X G nL Q n lv st (sN S c j v)) : V X G nL Q pc lv (.int v :: .ref (G.2.1 c) :: st) S := by
  obtain ⟨hd, rfl⟩ := hd
  obtain ⟨hx, hb, hml, hown, hts, hE, hR, hlk⟩ := hX
  intro H locs ls hP hS hl
  obtain ⟨fs, e1, e2, e3⟩ := cell_obj (G := G) (S := S) hf
  refine va_put (v := .int v) hx hb hts hc.2.1 ty hc.2.2.1 hc.2.2.2 hown hE.1 hP (wld_D hE.2.1) hS (wpos c) (by rw [wld_get G S hf.1, e1]) hc.1 j hj (hts _ hk) (fun _ h => h) hfin (hc.2.2.1 j hj) (by rw [hty]; rcases isB_or hb0 with rfl | rfl <;> rfl) (by rw [hty]; rcases isB_or hb0 with rfl | rfl <;> rfl) e3 hd (fun H1 locs1 hP1 _ hS1 => ?_)
  rw [wld_set G S (sN S c j v) hf.1 (cell_put hf e1 fvN (fun i q h => fvN_ne h)) (fun k h => cellN_ne h)] at hP1
  exact k H1 locs1 ls hP1 hS1 hl

theorem v_pfl {X : VX} {G : VG} {cc : ByteArray} {nL lev pc n : Nat} {own : String} {Q : State → Prop} {lv : List (Option Value)} {st : List Value} {S : St} (hX : Fx X G cc nL own lev) {C : String} {T : u_T} {N : Nat} {ty : Nat → FieldType} {c j ci d i : Nat} {v : Int64} (hd : Dn cc pc (.putfield i) 3 n) (hc : Cl ci C T N ty) (hf : FI c j ci 4 d) (hj : j < N) (hk : Cond.fieldLink own i (T j).1 (T j).2.1 (T j).2.2.1 ∈ tb) (hfin : (T j).2.2.2 = false) (hty : ty j = .long)  (k : V X G nL Q n lv st (sJ S c j v)) : V X G nL Q pc lv (.long v :: .ref (G.2.1 c) :: st) S := by
  obtain ⟨hd, rfl⟩ := hd
  obtain ⟨hx, hb, hml, hown, hts, hE, hR, hlk⟩ := hX
  intro H locs ls hP hS hl
  obtain ⟨fs, e1, e2, e3⟩ := cell_obj (G := G) (S := S) hf
  refine va_put (v := .long v) hx hb hts hc.2.1 ty hc.2.2.1 hc.2.2.2 hown hE.1 hP (wld_D hE.2.1) hS (wpos c) (by rw [wld_get G S hf.1, e1]) hc.1 j hj (hts _ hk) (fun _ h => h) hfin (hc.2.2.1 j hj) (by rw [hty]; rfl) (by rw [hty]; rfl) e3 hd (fun H1 locs1 hP1 _ hS1 => ?_)
  rw [wld_set G S (sJ S c j v) hf.1 (cell_put hf e1 fvJ (fun i q h => fvJ_ne h)) (fun k h => cellJ_ne h)] at hP1
  exact k H1 locs1 ls hP1 hS1 hl

theorem v_pfr {X : VX} {G : VG} {cc : ByteArray} {nL lev pc n : Nat} {own : String} {Q : State → Prop} {lv : List (Option Value)} {st : List Value} {S : St} (hX : Fx X G cc nL own lev) {C : String} {T : u_T} {N : Nat} {ty : Nat → FieldType} {c j ci d i : Nat} {v : Nat} {nm : String} (hd : Dn cc pc (.putfield i) 3 n) (hc : Cl ci C T N ty) (hf : FI c j ci 2 d) (hj : j < N) (hk : Cond.fieldLink own i (T j).1 (T j).2.1 (T j).2.2.1 ∈ tb) (hfin : (T j).2.2.2 = false) (hty : ty j = .object nm)  (k : V X G nL Q n lv st (sR S c j v)) : V X G nL Q pc lv (.ref (G.2.1 v) :: .ref (G.2.1 c) :: st) S := by
  obtain ⟨hd, rfl⟩ := hd
  obtain ⟨hx, hb, hml, hown, hts, hE, hR, hlk⟩ := hX
  intro H locs ls hP hS hl
  obtain ⟨fs, e1, e2, e3⟩ := cell_obj (G := G) (S := S) hf
  refine va_put (v := .ref (G.2.1 v)) hx hb hts hc.2.1 ty hc.2.2.1 hc.2.2.2 hown hE.1 hP (wld_D hE.2.1) hS (wpos c) (by rw [wld_get G S hf.1, e1]) hc.1 j hj (hts _ hk) (fun _ h => h) hfin (hc.2.2.1 j hj) (by rw [hty]; rfl) (by rw [hty]; rfl) e3 hd (fun H1 locs1 hP1 _ hS1 => ?_)
  rw [wld_set G S (sR S c j v) hf.1 (cell_put hf e1 fvR (fun i q h => fvR_ne h)) (fun k h => cellR_ne h)] at hP1
  exact k H1 locs1 ls hP1 hS1 hl

theorem v_pfra {X : VX} {G : VG} {cc : ByteArray} {nL lev pc n : Nat} {own : String} {Q : State → Prop} {lv : List (Option Value)} {st : List Value} {S : St} (hX : Fx X G cc nL own lev) {C : String} {T : u_T} {N : Nat} {ty : Nat → FieldType} {c j ci d i : Nat} {v : Nat} {nt : FieldType} (hd : Dn cc pc (.putfield i) 3 n) (hc : Cl ci C T N ty) (hf : FI c j ci 2 d) (hj : j < N) (hk : Cond.fieldLink own i (T j).1 (T j).2.1 (T j).2.2.1 ∈ tb) (hfin : (T j).2.2.2 = false) (hty : ty j = .array nt)  (k : V X G nL Q n lv st (sR S c j v)) : V X G nL Q pc lv (.ref (G.2.1 v) :: .ref (G.2.1 c) :: st) S := by
  obtain ⟨hd, rfl⟩ := hd
  obtain ⟨hx, hb, hml, hown, hts, hE, hR, hlk⟩ := hX
  intro H locs ls hP hS hl
  obtain ⟨fs, e1, e2, e3⟩ := cell_obj (G := G) (S := S) hf
  refine va_put (v := .ref (G.2.1 v)) hx hb hts hc.2.1 ty hc.2.2.1 hc.2.2.2 hown hE.1 hP (wld_D hE.2.1) hS (wpos c) (by rw [wld_get G S hf.1, e1]) hc.1 j hj (hts _ hk) (fun _ h => h) hfin (hc.2.2.1 j hj) (by rw [hty]; rfl) (by rw [hty]; rfl) e3 hd (fun H1 locs1 hP1 _ hS1 => ?_)
  rw [wld_set G S (sR S c j v) hf.1 (cell_put hf e1 fvR (fun i q h => fvR_ne h)) (fun k h => cellR_ne h)] at hP1
  exact k H1 locs1 ls hP1 hS1 hl

theorem v_pfn {X : VX} {G : VG} {cc : ByteArray} {nL lev pc n : Nat} {own : String} {Q : State → Prop} {lv : List (Option Value)} {st : List Value} {S : St} (hX : Fx X G cc nL own lev) {C : String} {T : u_T} {N : Nat} {ty : Nat → FieldType} {c j ci d i : Nat} {v : Nat} {nm : String} (hd : Dn cc pc (.putfield i) 3 n) (hc : Cl ci C T N ty) (hf : FI c j ci 3 d) (hj : j < N) (hk : Cond.fieldLink own i (T j).1 (T j).2.1 (T j).2.2.1 ∈ tb) (hfin : (T j).2.2.2 = false) (hty : ty j = .object nm) (hn : v ≠ 99) (k : V X G nL Q n lv st (sR S c j v)) : V X G nL Q pc lv (.ref (G.2.1 v) :: .ref (G.2.1 c) :: st) S := by
  obtain ⟨hd, rfl⟩ := hd
  obtain ⟨hx, hb, hml, hown, hts, hE, hR, hlk⟩ := hX
  intro H locs ls hP hS hl
  obtain ⟨fs, e1, e2, e3⟩ := cell_obj (G := G) (S := S) hf
  refine va_put (v := .ref (G.2.1 v)) hx hb hts hc.2.1 ty hc.2.2.1 hc.2.2.2 hown hE.1 hP (wld_D hE.2.1) hS (wpos c) (by rw [wld_get G S hf.1, e1]) hc.1 j hj (hts _ hk) (fun _ h => h) hfin (hc.2.2.1 j hj) (by rw [hty]; rfl) (by rw [hty]; rfl) e3 hd (fun H1 locs1 hP1 _ hS1 => ?_)
  rw [wld_set G S (sR S c j v) hf.1 (cell_put hf e1 (fvR3 hn) (fun i q h => fvR_ne h)) (fun k h => cellR_ne h)] at hP1
  exact k H1 locs1 ls hP1 hS1 hl

theorem v_iaload {X : VX} {G : VG} {cc : ByteArray} {nL lev pc n : Nat} {own : String} {Q : State → Prop} {lv : List (Option Value)} {st : List Value} {S : St} (hX : Fx X G cc nL own lev) {c len : Nat} {i : Int32} (hd : Dn cc pc (.iaload) 1 n) (ha : AI c 9 len) (hi : inB i len = true) (k : V X G nL Q n lv (.int (gN S c i.toNatClampNeg) :: st) S) : V X G nL Q pc lv (.int i :: .ref (G.2.1 c) :: st) S := by
  obtain ⟨hd, rfl⟩ := hd
  obtain ⟨hx, hb, hml, hown, hts, hE, hR, hlk⟩ := hX
  intro H locs ls hP hS hl
  exact va_iald (f := S.1 c) hx hb hE.1 hP (wpos c) 1 (by rw [wld_get G S ha.1, cell_arrI ha (by decide)]) rfl (inB_in hi) hd (k H locs ls hP hS hl)

theorem v_baload {X : VX} {G : VG} {cc : ByteArray} {nL lev pc n : Nat} {own : String} {Q : State → Prop} {lv : List (Option Value)} {st : List Value} {S : St} (hX : Fx X G cc nL own lev) {c len : Nat} {i : Int32} (hd : Dn cc pc (.baload) 1 n) (ha : AI c 8 len) (hi : inB i len = true) (k : V X G nL Q n lv (.int (gN S c i.toNatClampNeg) :: st) S) : V X G nL Q pc lv (.int i :: .ref (G.2.1 c) :: st) S := by
  obtain ⟨hd, rfl⟩ := hd
  obtain ⟨hx, hb, hml, hown, hts, hE, hR, hlk⟩ := hX
  intro H locs ls hP hS hl
  exact va_bald (f := S.1 c) hx hb hE.1 hP (wpos c) 0 (by rw [wld_get G S ha.1, cell_arrI ha (by decide)]) rfl (inB_in hi) hd (k H locs ls hP hS hl)

theorem v_zaload {X : VX} {G : VG} {cc : ByteArray} {nL lev pc n : Nat} {own : String} {Q : State → Prop} {lv : List (Option Value)} {st : List Value} {S : St} (hX : Fx X G cc nL own lev) {c len : Nat} {i : Int32} (hd : Dn cc pc (.baload) 1 n) (ha : AI c 11 len) (hi : inB i len = true) (k : V X G nL Q n lv (.int (gN S c i.toNatClampNeg) :: st) S) : V X G nL Q pc lv (.int i :: .ref (G.2.1 c) :: st) S := by
  obtain ⟨hd, rfl⟩ := hd
  obtain ⟨hx, hb, hml, hown, hts, hE, hR, hlk⟩ := hX
  intro H locs ls hP hS hl
  exact va_zald (f := S.1 c) hx hb hE.1 hP (wpos c) 3 (by rw [wld_get G S ha.1, cell_arrI ha (by decide)]) rfl (inB_in hi) hd (k H locs ls hP hS hl)

theorem v_laload {X : VX} {G : VG} {cc : ByteArray} {nL lev pc n : Nat} {own : String} {Q : State → Prop} {lv : List (Option Value)} {st : List Value} {S : St} (hX : Fx X G cc nL own lev) {c len : Nat} {i : Int32} (hd : Dn cc pc (.laload) 1 n) (ha : AI c 10 len) (hi : inB i len = true) (k : V X G nL Q n lv (.long (gJ S c i.toNatClampNeg) :: st) S) : V X G nL Q pc lv (.int i :: .ref (G.2.1 c) :: st) S := by
  obtain ⟨hd, rfl⟩ := hd
  obtain ⟨hx, hb, hml, hown, hts, hE, hR, hlk⟩ := hX
  intro H locs ls hP hS hl
  exact va_lald (f := S.2.1 c) hx hb hE.1 hP (wpos c) 2 (by rw [wld_get G S ha.1, cell_arrJ ha]) rfl (inB_in hi) hd (k H locs ls hP hS hl)

theorem v_iastore {X : VX} {G : VG} {cc : ByteArray} {nL lev pc n : Nat} {own : String} {Q : State → Prop} {lv : List (Option Value)} {st : List Value} {S : St} (hX : Fx X G cc nL own lev) {c len : Nat} {i : Int32} {x : Int32} (hd : Dn cc pc (.iastore) 1 n) (ha : AI c 9 len) (hi : inB i len = true) (k : V X G nL Q n lv st (sN S c i.toNatClampNeg x)) : V X G nL Q pc lv (.int x :: .int i :: .ref (G.2.1 c) :: st) S := by
  obtain ⟨hd, rfl⟩ := hd
  obtain ⟨hx, hb, hml, hown, hts, hE, hR, hlk⟩ := hX
  intro H locs ls hP hS hl
  refine va_iast hx hb hE.1 hP (wld_D hE.2.1) hS (wpos c) 1 (by rw [wld_get G S ha.1, cell_arrI ha (by decide)]) rfl (inB_in hi) hd (fun H1 locs1 hP1 _ hS1 => ?_)
  rw [wld_set G S (sN S c i.toNatClampNeg x) ha.1 (by rw [cell_arrI ha (by decide)]; rw [sN_row]) (fun k h => cellN_ne h)] at hP1
  exact k H1 locs1 ls hP1 hS1 hl

theorem v_bastore {X : VX} {G : VG} {cc : ByteArray} {nL lev pc n : Nat} {own : String} {Q : State → Prop} {lv : List (Option Value)} {st : List Value} {S : St} (hX : Fx X G cc nL own lev) {c len : Nat} {i : Int32} {x : Int32} (hd : Dn cc pc (.bastore) 1 n) (ha : AI c 8 len) (hi : inB i len = true) (k : V X G nL Q n lv st (sN S c i.toNatClampNeg (vp_nar .byte x))) : V X G nL Q pc lv (.int x :: .int i :: .ref (G.2.1 c) :: st) S := by
  obtain ⟨hd, rfl⟩ := hd
  obtain ⟨hx, hb, hml, hown, hts, hE, hR, hlk⟩ := hX
  intro H locs ls hP hS hl
  refine va_bast hx hb hE.1 hP (wld_D hE.2.1) hS (wpos c) 0 (by rw [wld_get G S ha.1, cell_arrI ha (by decide)]) rfl (inB_in hi) hd (fun H1 locs1 hP1 _ hS1 => ?_)
  rw [wld_set G S (sN S c i.toNatClampNeg (vp_nar .byte x)) ha.1 (by rw [cell_arrI ha (by decide)]; rw [sN_row]) (fun k h => cellN_ne h)] at hP1
  exact k H1 locs1 ls hP1 hS1 hl

theorem v_zastore {X : VX} {G : VG} {cc : ByteArray} {nL lev pc n : Nat} {own : String} {Q : State → Prop} {lv : List (Option Value)} {st : List Value} {S : St} (hX : Fx X G cc nL own lev) {c len : Nat} {i : Int32} {x : Int32} (hd : Dn cc pc (.bastore) 1 n) (ha : AI c 11 len) (hi : inB i len = true) (k : V X G nL Q n lv st (sN S c i.toNatClampNeg (vp_nar .boolean x))) : V X G nL Q pc lv (.int x :: .int i :: .ref (G.2.1 c) :: st) S := by
  obtain ⟨hd, rfl⟩ := hd
  obtain ⟨hx, hb, hml, hown, hts, hE, hR, hlk⟩ := hX
  intro H locs ls hP hS hl
  refine va_zast hx hb hE.1 hP (wld_D hE.2.1) hS (wpos c) 3 (by rw [wld_get G S ha.1, cell_arrI ha (by decide)]) rfl (inB_in hi) hd (fun H1 locs1 hP1 _ hS1 => ?_)
  rw [wld_set G S (sN S c i.toNatClampNeg (vp_nar .boolean x)) ha.1 (by rw [cell_arrI ha (by decide)]; rw [sN_row]) (fun k h => cellN_ne h)] at hP1
  exact k H1 locs1 ls hP1 hS1 hl

theorem v_lastore {X : VX} {G : VG} {cc : ByteArray} {nL lev pc n : Nat} {own : String} {Q : State → Prop} {lv : List (Option Value)} {st : List Value} {S : St} (hX : Fx X G cc nL own lev) {c len : Nat} {i : Int32} {x : Int64} (hd : Dn cc pc (.lastore) 1 n) (ha : AI c 10 len) (hi : inB i len = true) (k : V X G nL Q n lv st (sJ S c i.toNatClampNeg x)) : V X G nL Q pc lv (.long x :: .int i :: .ref (G.2.1 c) :: st) S := by
  obtain ⟨hd, rfl⟩ := hd
  obtain ⟨hx, hb, hml, hown, hts, hE, hR, hlk⟩ := hX
  intro H locs ls hP hS hl
  refine va_last hx hb hE.1 hP (wld_D hE.2.1) hS (wpos c) 2 (by rw [wld_get G S ha.1, cell_arrJ ha]) rfl (inB_in hi) hd (fun H1 locs1 hP1 _ hS1 => ?_)
  rw [wld_set G S (sJ S c i.toNatClampNeg x) ha.1 (by rw [cell_arrJ ha]; rw [sJ_row]) (fun k h => cellJ_ne h)] at hP1
  exact k H1 locs1 ls hP1 hS1 hl

theorem v_alenJ {X : VX} {G : VG} {cc : ByteArray} {nL lev pc n : Nat} {own : String} {Q : State → Prop} {lv : List (Option Value)} {st : List Value} {S : St} (hX : Fx X G cc nL own lev) {c len : Nat} {v : Int32} (hd : Dn cc pc .arraylength 1 n) (ha : AI c 10 len) (hv : Int32.ofNat len = v) (k : V X G nL Q n lv (.int v :: st) S) : V X G nL Q pc lv (.ref (G.2.1 c) :: st) S := by
  obtain ⟨hd, rfl⟩ := hd
  obtain ⟨hx, hb, hml, hown, hts, hE, hR, hlk⟩ := hX
  intro H locs ls hP hS hl
  exact va_alen hx hb hE.1 hP (wpos c) 2 (by rw [wld_get G S ha.1, cell_arrJ ha]) rfl hv hd (k H locs ls hP hS hl)

theorem v_alenI {X : VX} {G : VG} {cc : ByteArray} {nL lev pc n : Nat} {own : String} {Q : State → Prop} {lv : List (Option Value)} {st : List Value} {S : St} (hX : Fx X G cc nL own lev) {c len : Nat} {v : Int32} (hd : Dn cc pc .arraylength 1 n) (ha : AI c 9 len) (hv : Int32.ofNat len = v) (k : V X G nL Q n lv (.int v :: st) S) : V X G nL Q pc lv (.ref (G.2.1 c) :: st) S := by
  obtain ⟨hd, rfl⟩ := hd
  obtain ⟨hx, hb, hml, hown, hts, hE, hR, hlk⟩ := hX
  intro H locs ls hP hS hl
  exact va_alen hx hb hE.1 hP (wpos c) 1 (by rw [wld_get G S ha.1, cell_arrI ha (by decide)]) rfl hv hd (k H locs ls hP hS hl)

theorem v_gtens {X : VX} {G : VG} {cc : ByteArray} {nL lev pc n : Nat} {own : String} {Q : State → Prop} {lv : List (Option Value)} {st : List Value} {S : St} (hX : Fx X G cc nL own lev) {i : Nat} (hd : Dn cc pc (.getstatic i) 3 n) (hk : Cond.fieldLinkNest own i "LeastTeaches" "TENS" "[I" "LeastTeaches" ∈ nstL) (k : V X G nL Q n lv (.ref G.2.2.2.1 :: st) S) : V X G nL Q pc lv st S := by
  obtain ⟨hd, rfl⟩ := hd
  obtain ⟨hx, hb, hml, hown, hts, hE, hR, hlk⟩ := hX
  intro H locs ls hP hS hl
  exact va_getsN hx hb hE.2.2.1.1 hS hown (va_Nw.use rfl (hE.2.2.2.2.2.2 _ hk)) (fun _ h => h) hd (k H locs ls hP hS hl)

theorem v_tens {X : VX} {G : VG} {cc : ByteArray} {nL lev pc n : Nat} {own : String} {Q : State → Prop} {lv : List (Option Value)} {st : List Value} {S : St} (hX : Fx X G cc nL own lev) {i : Int32} (hd : Dn cc pc .iaload 1 n) (hi : inB i 5 = true) (k : V X G nL Q n lv (.int (tensF i.toNatClampNeg) :: st) S) : V X G nL Q pc lv (.int i :: .ref G.2.2.2.1 :: st) S := by
  obtain ⟨hd, rfl⟩ := hd
  obtain ⟨hx, hb, hml, hown, hts, hE, hR, hlk⟩ := hX
  intro H locs ls hP hS hl
  exact va_ti hx hb hE.2.2.1.2.1 hS (inB_in hi) rfl hd (k H locs ls hP hS hl)

theorem v_mmax {X : VX} {G : VG} {cc : ByteArray} {nL lev pc n : Nat} {own : String} {Q : State → Prop} {lv : List (Option Value)} {st : List Value} {S : St} (hX : Fx X G cc nL own lev) {i : Nat} {x y : Int32} (hd : Dn cc pc (.invokestatic i) 3 n) (hk : Cond.methodLink own i Lib.Math.max.name ∈ tb) (hcat : (st.map fun v => v.category).sum ≤ 8) (k : V X G nL Q n lv (.int (if x < y then y else x) :: st) S) : V X G nL Q pc lv (.int y :: .int x :: st) S := by
  obtain ⟨hd, rfl⟩ := hd
  obtain ⟨hx, hb, hml, hown, hts, hE, hR, hlk⟩ := hX
  intro H locs ls hP hS hl
  exact va_mmax hx hb (by rw [hml]; exact hl.1.symm) hown (hts _ hk) (hts _ mx_w.1) (hts _ mx_w.2.1) (hts _ mx_w.2.2) (by omega) (by omega) hR.2.2.1 hR.2.2.2 hd (k H locs ls hP hS hl)

theorem v_mmin {X : VX} {G : VG} {cc : ByteArray} {nL lev pc n : Nat} {own : String} {Q : State → Prop} {lv : List (Option Value)} {st : List Value} {S : St} (hX : Fx X G cc nL own lev) {i : Nat} {x y : Int32} (hd : Dn cc pc (.invokestatic i) 3 n) (hk : Cond.methodLink own i Lib.Math.min.name ∈ tb) (hcat : (st.map fun v => v.category).sum ≤ 8) (k : V X G nL Q n lv (.int (if y < x then y else x) :: st) S) : V X G nL Q pc lv (.int y :: .int x :: st) S := by
  obtain ⟨hd, rfl⟩ := hd
  obtain ⟨hx, hb, hml, hown, hts, hE, hR, hlk⟩ := hX
  intro H locs ls hP hS hl
  exact va_mmin hx hb (by rw [hml]; exact hl.1.symm) hown (hts _ hk) (hts _ mn_w.1) (hts _ mx_w.2.1) (hts _ mn_w.2) (by omega) (by omega) hR.2.2.1 hR.2.2.2 hd (k H locs ls hP hS hl)

theorem v_copyi {X : VX} {G : VG} {cc : ByteArray} {nL lev pc n : Nat} {own : String} {Q : State → Prop} {lv : List (Option Value)} {st : List Value} {S : St} (hX : Fx X G cc nL own lev) {i c c0 n0 n1 : Nat} {sp dp nn : Int32} (hd : Dn cc pc (.invokestatic i) 3 n) (hk : Cond.methodLink own i arraycopyName ∈ tb) (hcat : (st.map fun v => v.category).sum ≤ 8) (ha0 : AI c0 9 n0) (ha : AI c 9 n1) (hcp : cpB sp dp nn n0 n1 = true) (k : V X G nL Q n lv st (pN S c (va_cpy (S.1 c0) (S.1 c) sp.toNatClampNeg dp.toNatClampNeg nn.toNatClampNeg))) : V X G nL Q pc lv (.int nn :: .int dp :: .ref (G.2.1 c) :: .int sp :: .ref (G.2.1 c0) :: st) S := by
  obtain ⟨hd, rfl⟩ := hd
  obtain ⟨hx, hb, hml, hown, hts, hE, hR, hlk⟩ := hX
  intro H locs ls hP hS hl
  obtain ⟨b1, b2, b3, b4, b5⟩ := cpB_spec hcp
  refine va_copyi hx hb (by rw [hml]; exact hl.1.symm) hown (hts _ hk) (hts _ cp_w.1) (hts _ cp_w.2.1) (hts _ cp_w.2.2) hE.1 hP (wld_D hE.2.1) hS (wpos c0) (wpos c) 1 1 (by rw [wld_get G S ha0.1, cell_arrI ha0 (by decide)]) (by rw [wld_get G S ha.1, cell_arrI ha (by decide)]) rfl rfl rfl b1 b2 b3 b4 b5 (fun _ _ => rfl) (by omega) (by show _ + (7 + 11) ≤ _; omega) hd (fun H1 locs1 hP1 _ hS1 => ?_)
  rw [wld_set G S (pN S c (va_cpy (S.1 c0) (S.1 c) sp.toNatClampNeg dp.toNatClampNeg nn.toNatClampNeg)) ha.1 (by rw [cell_arrI ha (by decide)]; simp only [pN, up_eq]) (fun k h => cellP_ne h)] at hP1
  exact k H1 locs1 ls hP1 hS1 hl
