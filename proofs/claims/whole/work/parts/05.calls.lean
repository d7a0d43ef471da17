/-! ===== contracts and calls ===== -/
def rmD (lev : Nat) : Room := { frames := lev + 1, cells := 0, slots := 0, locals := 40 * (lev + 1) }
def PW (G : VG) (S : St) (U : State) : Prop := va_P G.1 vwCl (wld G S) U.heap ∧ EX G U
def QI (G : VG) (q : Int32 × St) : Array Value → State → Outcome → State → Prop := va_Qi (fun (r : Int32) (u : St) => r = q.1 ∧ u = q.2) (fun u t => va_P G.1 vwCl (wld G u) t.heap) (Aw G)
def QL (G : VG) (q : Int64 × St) : Array Value → State → Outcome → State → Prop := va_Ql (fun (r : Int64) (u : St) => r = q.1 ∧ u = q.2) (fun u t => va_P G.1 vwCl (wld G u) t.heap) (Aw G)
def QV (G : VG) (q : Unit × St) : Array Value → State → Outcome → State → Prop := va_Qv (fun (u : St) => u = q.2) (fun u t => va_P G.1 vwCl (wld G u) t.heap) (Aw G)
def QR (G : VG) (q : Nat × St) : Array Value → State → Outcome → State → Prop := va_Qr (fun (u : St) => u = q.2) (fun u a t => a = G.2.1 q.1 ∧ va_P G.1 vwCl (wld G u) t.heap) (Aw G)
def MI (l : Launch) (G : VG) (y : MethodName) (bytes : ByteArray) (maxL : Nat) (rt : Option FieldType) (lev : Nat) (args : List Value) (S : St) (q : Int32 × St) : Prop :=
  Met l y (.code y bytes maxL rt :: tb) (rmD lev) (va_Pc args (PW G S)) (QI G q) 0 0 (Aw G)
def ML (l : Launch) (G : VG) (y : MethodName) (bytes : ByteArray) (maxL : Nat) (rt : Option FieldType) (lev : Nat) (args : List Value) (S : St) (q : Int64 × St) : Prop :=
  Met l y (.code y bytes maxL rt :: tb) (rmD lev) (va_Pc args (PW G S)) (QL G q) 0 0 (Aw G)
def MV (l : Launch) (G : VG) (y : MethodName) (bytes : ByteArray) (maxL : Nat) (rt : Option FieldType) (lev : Nat) (args : List Value) (S : St) (q : Unit × St) : Prop :=
  Met l y (.code y bytes maxL rt :: tb) (rmD lev) (va_Pc args (PW G S)) (QV G q) 0 0 (Aw G)
def MR (l : Launch) (G : VG) (y : MethodName) (bytes : ByteArray) (maxL : Nat) (rt : Option FieldType) (lev : Nat) (args : List Value) (S : St) (q : Nat × St) : Prop :=
  Met l y (.code y bytes maxL rt :: tb) (rmD lev) (va_Pc args (PW G S)) (QR G q) 0 0 (Aw G)
def Rt (X : VX) : Option FieldType := X.2.2.2.2.2.2.2.2.1.sig.returnType
def ZQ (X : VX) (G : VG) (Qc : Array Value → State → Outcome → State → Prop) : State → Prop := MQ X.2.2.2.2.2.2.2.1 Qc X.2.2.2.2.2.2.1 X.2.2.2.2.1 X.2.2.2.2.2.2.2.2.2.2.1 X.2.2.2.2.2.2.2.2.2.2.2 (Aw G)
theorem tbl_good : GoodIn tb tb := fun w hw => ⟨hw, good_of_word (List.mem_filter.mp hw).2⟩
/-! the locals at a method's entry -/
def lvQ : List Value → List (Option Value)
  | [] => []
  | v :: vs => if v.category = 2 then some v :: none :: lvQ vs else some v :: lvQ vs
def lvA (vs : List Value) (n : Nat) : List (Option Value) := lvQ vs ++ List.replicate (n - (lvQ vs).length) none
theorem lvQ_args : ∀ (vs : List Value) (k i : Nat) (v : Value), (lvQ vs)[i]? = some (some v) → (k + i, v) ∈ lv_args k vs := by
  intro vs
  induction vs with
  | nil => intro k i v h; simp [lvQ] at h
  | cons w vs ih =>
    intro k i v h
    by_cases hc : w.category = 2
    · simp only [lvQ, hc, if_true] at h
      simp only [lv_args, hc, if_true]
      match i, h with
      | 0, h => simp at h; subst h; simp
      | 1, h => simp at h
      | i + 2, h =>
        simp only [List.getElem?_cons_succ] at h
        have := ih (k + 2) i v h
        rw [show k + (i + 2) = k + 2 + i by omega]
        exact List.mem_cons_of_mem _ this
    · simp only [lvQ, hc, if_false] at h
      simp only [lv_args, hc, if_false]
      match i, h with
      | 0, h => simp at h; subst h; simp
      | i + 1, h =>
        simp only [List.getElem?_cons_succ] at h
        have := ih (k + 1) i v h
        rw [show k + (i + 1) = k + 1 + i by omega]
        exact List.mem_cons_of_mem _ this
theorem lvA_has {vs : List Value} {n : Nat} {ls : Array Slot} (h : lv_has ls n (lv_args 0 vs)) : lvR ls n (lvA vs n) := by
  refine ⟨h.1, h.2.1, fun i v hi => ?_⟩
  have h1 : (lvQ vs)[i]? = some (some v) := by
    by_cases hl : i < (lvQ vs).length
    · rw [lvA, List.getElem?_append_left hl] at hi
      exact hi
    · rw [lvA, List.getElem?_append_right (by omega)] at hi
      exact absurd (List.eq_of_mem_replicate (List.mem_of_getElem? hi)) (by simp)
  have := lvQ_args vs 0 i v h1
  rw [Nat.zero_add] at this
  exact h.2.2 (i, v) this
theorem met_of {l : Launch} {G : VG} {y : MethodName} {bytes : ByteArray} {maxL lev : Nat} {rt : Option FieldType} {args : List Value} {S : St} {Qc : Array Value → State → Outcome → State → Prop} (hy : plainName y.cls = true) (hn : (lg_sl args).length ≤ maxL)
    (body : ∀ X : VX, X.2.1 = l → Fx X G bytes maxL y.cls lev → Rt X = rt → V X G maxL (ZQ X G Qc) 0 (lvA args maxL) [] S) : Met l y (.code y bytes maxL rt :: tb) (rmD lev) (va_Pc args (PW G S)) Qc 0 0 (Aw G) := by
  refine Met.ofW (cc := bytes) (maxL := maxL) (ret := rt) hy rfl ?_
  intro p e s m args' below meth c s₁ B hml hv
  obtain ⟨rfl, hP, hE⟩ := hv
  have hts := atoms_spec (ws := .code y bytes maxL rt :: tb) B.pre
  have hl := lv_entry args (n := maxL) hn
  rw [lg_entry_eq]
  exact body (p, l, e, rmD lev, s, m, args.toArray, below, meth, c, 0, 0) rfl ⟨B.exec, B.bytes, hml, findClass_of_methodNamed B.named, fun w h => hts w (List.mem_cons_of_mem _ h), hE, ⟨Nat.le_refl _, Nat.le_refl _, Nat.le_refl _, Nat.le_refl _⟩, B.notSynchronized⟩ B.returns s.heap [] _ hP va_S.rf (lvA_has hl)
/-! returns -/
section
variable {X : VX} {G : VG} {cc : ByteArray} {nL lev pc n : Nat} {own : String} {lv : List (Option Value)} {S : St}
theorem v_iret {q : Int32 × St} {x : Int32} (hX : Fx X G cc nL own lev) (hr : Rt X = some .int) (hd : Dn cc pc .ireturn 1 n) (h : some (x, S) = some q) : V X G nL (ZQ X G (QI G q)) pc lv [.int x] S := by
  cases h
  obtain ⟨hx, hb, hml, hown, hts, hE, hR, hlk⟩ := hX
  intro H locs ls hP hS hl
  exact W.iret hx hb hr (fun t ht hW => ⟨⟨x, S, rfl, ⟨rfl, rfl⟩, by subst ht; exact hP⟩, hS.F ht⟩) hS.2.2 hd.1 hlk
theorem v_zret {q : Int32 × St} {x : Int32} (hX : Fx X G cc nL own lev) (hr : Rt X = some .boolean) (hd : Dn cc pc .ireturn 1 n) (hb0 : isB x = true) (h : some (x, S) = some q) : V X G nL (ZQ X G (QI G q)) pc lv [.int x] S := by
  cases h
  obtain ⟨hx, hb, hml, hown, hts, hE, hR, hlk⟩ := hX
  intro H locs ls hP hS hl
  exact W.zret hx hb hr (by rcases isB_or hb0 with rfl | rfl <;> rfl) (fun t ht hW => ⟨⟨x, S, rfl, ⟨rfl, rfl⟩, by subst ht; exact hP⟩, hS.F ht⟩) hS.2.2 hd.1 hlk
theorem v_lret {q : Int64 × St} {x : Int64} (hX : Fx X G cc nL own lev) (hr : Rt X = some .long) (hd : Dn cc pc .lreturn 1 n) (h : some (x, S) = some q) : V X G nL (ZQ X G (QL G q)) pc lv [.long x] S := by
  cases h
  obtain ⟨hx, hb, hml, hown, hts, hE, hR, hlk⟩ := hX
  intro H locs ls hP hS hl
  exact W.lret hx hb hr (fun t ht hW => ⟨⟨x, S, rfl, ⟨rfl, rfl⟩, by subst ht; exact hP⟩, hS.F ht⟩) hS.2.2 hd.1 hlk
theorem v_vret {q : Unit × St} (hX : Fx X G cc nL own lev) (hr : Rt X = none) (hd : Dn cc pc .return_ 1 n) (h : some ((), S) = some q) : V X G nL (ZQ X G (QV G q)) pc lv [] S := by
  cases h
  obtain ⟨hx, hb, hml, hown, hts, hE, hR, hlk⟩ := hX
  intro H locs ls hP hS hl
  exact W.vret hx hb hr (fun t ht hW => ⟨⟨S, rfl, rfl, by subst ht; exact hP⟩, hS.F ht⟩) hS.2.2 hd.1 hlk
theorem v_aret {q : Nat × St} {x : Nat} {nm : String} (hX : Fx X G cc nL own lev) (hr : Rt X = some (.object nm)) (hd : Dn cc pc .areturn 1 n) (h : some (x, S) = some q) : V X G nL (ZQ X G (QR G q)) pc lv [.ref (G.2.1 x)] S := by
  cases h
  obtain ⟨hx, hb, hml, hown, hts, hE, hR, hlk⟩ := hX
  intro H locs ls hP hS hl
  exact W.aret hx hb hr (Or.inl ⟨nm, rfl⟩) (Or.inr ⟨_, rfl⟩) (fun t ht hW => ⟨⟨S, _, rfl, rfl, rfl, by subst ht; exact hP⟩, hS.F ht⟩) hS.2.2 hd.1 hlk
end
/-! calls -/
/-- the words of a virtual call -/
def CW (own : String) (idx : Nat) (C : String) (y : MethodName) (bytes : ByteArray) (maxL : Nat) (rt : Option FieldType) (na : Nat) : Prop :=
  Cond.methodLink own idx y ∈ tb ∧ Cond.instanceMethod y ∈ tb ∧ Cond.selects C y y ∈ tb ∧ Cond.initialized C ∈ tb ∧ Cond.code y bytes maxL rt ∈ tb ∧ (y.cls = C ∧ y.cls ≠ "java/lang/invoke/MethodHandle" ∧ y.cls ≠ "java/lang/invoke/VarHandle" ∧ (parseMethodDescriptor y.desc).map (fun d => d.parameters.length) = some na) ∧ maxL ≤ 21
/-- the words of a static call -/
def CS (own : String) (idx : Nat) (y : MethodName) (bytes : ByteArray) (maxL : Nat) (rt : Option FieldType) (na : Nat) : Prop :=
  Cond.methodLink own idx y ∈ tb ∧ Cond.static y ∈ tb ∧ Cond.initialized y.cls ∈ tb ∧ Cond.code y bytes maxL rt ∈ tb ∧ (y.cls ≠ "java/lang/invoke/MethodHandle" ∧ y.cls ≠ "java/lang/invoke/VarHandle" ∧ (parseMethodDescriptor y.desc).map (fun d => d.parameters.length) = some na) ∧ maxL ≤ 21
/-- the cell c is an object of the class C -/
def OC (c : Nat) (C : String) : Prop := ∃ (ci : Nat) (q : vw_C), wokc c = true ∧ (sh c).1 = ci ∧ ci < 8 ∧ vwCl[ci]? = some q ∧ q.1 = C
theorem tbl_cons {y : MethodName} {bytes : ByteArray} {maxL : Nat} {rt : Option FieldType} (h : Cond.code y bytes maxL rt ∈ tb) : GoodIn tb (.code y bytes maxL rt :: tb) := fun w hw => by
  rcases List.mem_cons.mp hw with rfl | hw
  · exact tbl_good _ h
  · exact tbl_good _ hw
theorem pw_blind {G : VG} {S : St} {as : List Value} : FrameBlind (va_Pc as (PW G S)) := fun a U g mk q => ⟨q.1, q.2.1, q.2.2.blind⟩
section
variable {X : VX} {G : VG} {cc : ByteArray} {nL lev pc n : Nat} {own : String} {Q : State → Prop} {lv : List (Option Value)} {st stk : List Value} {S : St} {C : String} {idx : Nat} {y : MethodName} {bytes : ByteArray} {maxL na lev' c : Nat} {rt : Option FieldType} {As : List Value} {Qc : Array Value → State → Outcome → State → Prop}
theorem run_V (hX : Fx X G cc nL own lev) (hd : Dn cc pc (.invokevirtual idx) 3 n) (hw : CW own idx C y bytes maxL rt na) (hlev : lev' + 1 ≤ lev) (hc : OC c C) (hst : stk = As.reverse ++ .ref (G.2.1 c) :: st) (hn : As.length = na) (hcat : (st.map fun v => v.category).sum ≤ 8)
    (hM : Met X.2.1 y (.code y bytes maxL rt :: tb) (rmD lev') (va_Pc (.ref (G.2.1 c) :: As) (PW G S)) Qc 0 0 (Aw G)) {H : Heap} {locs : List Loc} {ls : Array Slot} (hP : va_P G.1 vwCl (wld G S) H) (hS : va_S (Aw G) X.2.2.2.2.1.heap H locs) (hl : lvR ls nL lv) :
    va_Run X.1 X.2.1 X.2.2.1 X.2.2.2.1 X.2.2.2.2.1 X.2.2.2.2.2.1 X.2.2.2.2.2.2.1 X.2.2.2.2.2.2.2.1 X.2.2.2.2.2.2.2.2.1 X.2.2.2.2.2.2.2.2.2.1 H locs X.2.2.2.2.2.2.2.2.2.2.1 X.2.2.2.2.2.2.2.2.2.2.2 0 0 (F0 X.2.2.2.2.2.1 pc ls stk) st (Qc (Value.ref (G.2.1 c) :: As).toArray) (Aw G) := by
  obtain ⟨hx, hb, hml, hown, hts, hE, hR, hlk⟩ := hX
  obtain ⟨w1, w2, w3, w4, w5, w6, w7⟩ := hw
  obtain ⟨ci, q, c1, c2, c3, c4, c5⟩ := hc
  have hcell : ∃ fs : List Value, cellOf G S c = .inr (ci, fs) := ⟨_, by simp only [cellOf, c2, c3, if_true]; rfl⟩
  obtain ⟨fs, hfs⟩ := hcell
  have hrecv := va_recv hE.1 hP c4 (show (wld G S)[wpos c]? = some (G.2.1 c, .inr (ci, fs)) by rw [wld_get G S c1, hfs])
  rw [c5] at hrecv
  have cb := callB_of (R := X.2.2.2.1) (rm := rmD lev') (mc := 0) (ms := 0) na hts (tbl_cons w5) rfl rfl rfl (hts _ (by rw [w6.1]; exact w4)) (hts _ w1) w6.2 (by
    refine ⟨?_, ?_⟩
    · show lev' + 1 + 1 ≤ _
      omega
    · show 8 + (maxL + 11) + 40 * (lev' + 1) ≤ _
      omega)
  subst hst
  exact va_runV (As := As) (rest := st) (Ts := tb) ⟨hx, hb, hml, hown, hts⟩ hM ⟨cb, hts _ w2, hts _ w3⟩ ⟨pw_blind, hrecv, fun U hU hW => ⟨rfl, by rw [hU]; exact hP, hE.go hS hU hW⟩⟩ rfl hn hl.1 rfl (lv_room hcat) hd.1 ⟨hR.2.2.1, hR.2.2.2⟩
theorem run_S (hX : Fx X G cc nL own lev) (hd : Dn cc pc (.invokestatic idx) 3 n) (hw : CS own idx y bytes maxL rt na) (hlev : lev' + 1 ≤ lev) (hst : stk = As.reverse ++ st) (hn : As.length = na) (hcat : (st.map fun v => v.category).sum ≤ 8)
    (hM : Met X.2.1 y (.code y bytes maxL rt :: tb) (rmD lev') (va_Pc As (PW G S)) Qc 0 0 (Aw G)) {H : Heap} {locs : List Loc} {ls : Array Slot} (hP : va_P G.1 vwCl (wld G S) H) (hS : va_S (Aw G) X.2.2.2.2.1.heap H locs) (hl : lvR ls nL lv) :
    va_Run X.1 X.2.1 X.2.2.1 X.2.2.2.1 X.2.2.2.2.1 X.2.2.2.2.2.1 X.2.2.2.2.2.2.1 X.2.2.2.2.2.2.2.1 X.2.2.2.2.2.2.2.2.1 X.2.2.2.2.2.2.2.2.2.1 H locs X.2.2.2.2.2.2.2.2.2.2.1 X.2.2.2.2.2.2.2.2.2.2.2 0 0 (F0 X.2.2.2.2.2.1 pc ls stk) st (Qc As.toArray) (Aw G) := by
  obtain ⟨hx, hb, hml, hown, hts, hE, hR, hlk⟩ := hX
  obtain ⟨w1, w2, w4, w5, w6, w7⟩ := hw
  have cb := callB_of (R := X.2.2.2.1) (rm := rmD lev') (mc := 0) (ms := 0) na hts (tbl_cons w5) rfl rfl rfl (hts _ w4) (hts _ w1) w6 (by
    refine ⟨?_, ?_⟩
    · show lev' + 1 + 1 ≤ _
      omega
    · show 8 + (maxL + 11) + 40 * (lev' + 1) ≤ _
      omega)
  subst hst
  exact va_runS (As := As) (rest := st) (Ts := tb) ⟨hx, hb, hml, hown, hts⟩ hM ⟨cb, hts _ w2⟩ ⟨pw_blind, fun U hU hW => ⟨rfl, by rw [hU]; exact hP, hE.go hS hU hW⟩⟩ rfl hn hl.1 rfl (lv_room hcat) hd.1 ⟨hR.2.2.1, hR.2.2.2⟩
theorem v_cvI {q : Int32 × St} (hX : Fx X G cc nL own lev) (hd : Dn cc pc (.invokevirtual idx) 3 n) (hw : CW own idx C y bytes maxL rt na) (hM : MI X.2.1 G y bytes maxL rt lev' (.ref (G.2.1 c) :: As) S q) (hlev : lev' + 1 ≤ lev) (hc : OC c C) (hst : stk = As.reverse ++ .ref (G.2.1 c) :: st) (hn : As.length = na) (hcat : (st.map fun v => v.category).sum ≤ 8) (k : V X G nL Q n lv (.int q.1 :: st) q.2) : V X G nL Q pc lv stk S := by
  intro H locs ls hP hS hl
  refine va_calli (run_V hX hd hw hlev hc hst hn hcat hM hP hS hl) hS (fun _ _ h => h) (fun _ h => h) (fun r u t H1 locs1 ht hvm hpo hB hz hk hS1 => ?_)
  obtain ⟨rfl, rfl⟩ := hpo
  obtain ⟨-, rfl⟩ := hd
  rw [ht] at hB
  exact k H1 locs1 ls hB hS1 hl
theorem v_cvL {q : Int64 × St} (hX : Fx X G cc nL own lev) (hd : Dn cc pc (.invokevirtual idx) 3 n) (hw : CW own idx C y bytes maxL rt na) (hM : ML X.2.1 G y bytes maxL rt lev' (.ref (G.2.1 c) :: As) S q) (hlev : lev' + 1 ≤ lev) (hc : OC c C) (hst : stk = As.reverse ++ .ref (G.2.1 c) :: st) (hn : As.length = na) (hcat : (st.map fun v => v.category).sum ≤ 8) (k : V X G nL Q n lv (.long q.1 :: st) q.2) : V X G nL Q pc lv stk S := by
  intro H locs ls hP hS hl
  refine va_calll (run_V hX hd hw hlev hc hst hn hcat hM hP hS hl) hS (fun _ _ h => h) (fun _ h => h) (fun r u t H1 locs1 ht hvm hpo hB hz hk hS1 => ?_)
  obtain ⟨rfl, rfl⟩ := hpo
  obtain ⟨-, rfl⟩ := hd
  rw [ht] at hB
  exact k H1 locs1 ls hB hS1 hl
theorem v_cvV {q : Unit × St} (hX : Fx X G cc nL own lev) (hd : Dn cc pc (.invokevirtual idx) 3 n) (hw : CW own idx C y bytes maxL rt na) (hM : MV X.2.1 G y bytes maxL rt lev' (.ref (G.2.1 c) :: As) S q) (hlev : lev' + 1 ≤ lev) (hc : OC c C) (hst : stk = As.reverse ++ .ref (G.2.1 c) :: st) (hn : As.length = na) (hcat : (st.map fun v => v.category).sum ≤ 8) (k : V X G nL Q n lv st q.2) : V X G nL Q pc lv stk S := by
  intro H locs ls hP hS hl
  refine va_callv (run_V hX hd hw hlev hc hst hn hcat hM hP hS hl) hS (fun _ _ h => h) (fun _ h => h) (fun u t H1 locs1 ht hvm hpo hB hz hk hS1 => ?_)
  cases hpo
  obtain ⟨-, rfl⟩ := hd
  rw [ht] at hB
  exact k H1 locs1 ls hB hS1 hl
theorem v_cvR {q : Nat × St} (hX : Fx X G cc nL own lev) (hd : Dn cc pc (.invokevirtual idx) 3 n) (hw : CW own idx C y bytes maxL rt na) (hM : MR X.2.1 G y bytes maxL rt lev' (.ref (G.2.1 c) :: As) S q) (hlev : lev' + 1 ≤ lev) (hc : OC c C) (hst : stk = As.reverse ++ .ref (G.2.1 c) :: st) (hn : As.length = na) (hcat : (st.map fun v => v.category).sum ≤ 8) (k : V X G nL Q n lv (.ref (G.2.1 q.1) :: st) q.2) : V X G nL Q pc lv stk S := by
  intro H locs ls hP hS hl
  refine va_callr (run_V hX hd hw hlev hc hst hn hcat hM hP hS hl) hS (fun _ _ h => h) (fun _ h => h) (fun u ra t H1 locs1 ht hvm hpo hB hz hk hS1 => ?_)
  cases hpo
  obtain ⟨-, rfl⟩ := hd
  obtain ⟨rfl, hB⟩ := hB
  rw [ht] at hB
  exact k H1 locs1 ls hB hS1 hl
theorem v_csI {q : Int32 × St} (hX : Fx X G cc nL own lev) (hd : Dn cc pc (.invokestatic idx) 3 n) (hw : CS own idx y bytes maxL rt na) (hM : MI X.2.1 G y bytes maxL rt lev' As S q) (hlev : lev' + 1 ≤ lev) (hst : stk = As.reverse ++ st) (hn : As.length = na) (hcat : (st.map fun v => v.category).sum ≤ 8) (k : V X G nL Q n lv (.int q.1 :: st) q.2) : V X G nL Q pc lv stk S := by
  intro H locs ls hP hS hl
  refine va_calli (run_S hX hd hw hlev hst hn hcat hM hP hS hl) hS (fun _ _ h => h) (fun _ h => h) (fun r u t H1 locs1 ht hvm hpo hB hz hk hS1 => ?_)
  obtain ⟨rfl, rfl⟩ := hpo
  obtain ⟨-, rfl⟩ := hd
  rw [ht] at hB
  exact k H1 locs1 ls hB hS1 hl
theorem v_csL {q : Int64 × St} (hX : Fx X G cc nL own lev) (hd : Dn cc pc (.invokestatic idx) 3 n) (hw : CS own idx y bytes maxL rt na) (hM : ML X.2.1 G y bytes maxL rt lev' As S q) (hlev : lev' + 1 ≤ lev) (hst : stk = As.reverse ++ st) (hn : As.length = na) (hcat : (st.map fun v => v.category).sum ≤ 8) (k : V X G nL Q n lv (.long q.1 :: st) q.2) : V X G nL Q pc lv stk S := by
  intro H locs ls hP hS hl
  refine va_calll (run_S hX hd hw hlev hst hn hcat hM hP hS hl) hS (fun _ _ h => h) (fun _ h => h) (fun r u t H1 locs1 ht hvm hpo hB hz hk hS1 => ?_)
  obtain ⟨rfl, rfl⟩ := hpo
  obtain ⟨-, rfl⟩ := hd
  rw [ht] at hB
  exact k H1 locs1 ls hB hS1 hl
theorem v_csV {q : Unit × St} (hX : Fx X G cc nL own lev) (hd : Dn cc pc (.invokestatic idx) 3 n) (hw : CS own idx y bytes maxL rt na) (hM : MV X.2.1 G y bytes maxL rt lev' As S q) (hlev : lev' + 1 ≤ lev) (hst : stk = As.reverse ++ st) (hn : As.length = na) (hcat : (st.map fun v => v.category).sum ≤ 8) (k : V X G nL Q n lv st q.2) : V X G nL Q pc lv stk S := by
  intro H locs ls hP hS hl
  refine va_callv (run_S hX hd hw hlev hst hn hcat hM hP hS hl) hS (fun _ _ h => h) (fun _ h => h) (fun u t H1 locs1 ht hvm hpo hB hz hk hS1 => ?_)
  cases hpo
  obtain ⟨-, rfl⟩ := hd
  rw [ht] at hB
  exact k H1 locs1 ls hB hS1 hl
end
