/-! ===== hours, pays ===== -/
/-- levels behind k likely lessons, chosen by a rule, turns going on -/
def hlv (n : Nat) (top qk bl pr : Nat → Nat) (g : Bool) (sd rule tu : Nat) (lv : Nat → Nat) : Nat → Nat → Nat
  | 0 => lv
  | k + 1 => lesLv n (fun _ => true) (hlv n top qk bl pr g sd rule tu lv k) top qk bl pr g (chz (hlv n top qk bl pr g sd rule tu lv k) n rule ((tu + k) % n)) false sd
def hkn (n : Nat) (top qk bl pr : Nat → Nat) (g : Bool) (sd rule tu : Nat) (lv : Nat → Nat) (k : Nat) : Bool := decide (kn (hlv n top qk bl pr g sd rule tu lv k) n = n)
theorem rem_n {a n : Nat} (ha : a < 2147483648) (h0 : 0 < n) (hn : n < 2147483648) : nI a - nI a / nI n * nI n = nI (a % n) := pk_rem ha h0 hn
theorem nz_n {n : Nat} (h0 : 0 < n) (hn : n < 2147483648) : nzI (nI n) = true := by
  unfold nzI
  have : ¬ nI n = 0 := by rw [li_0, eqI hn (by omega)]; omega
  simp [this]
theorem hours_c {S : St} {n sd rule tu : Nat} {lv top qk bl pr : Nat → Nat} {g : Bool} (hB : Bn S n lv top qk bl pr g sd) (hr : rule < 3) (ht : tu < n) : ∃ S', FX6_hours_49 FU (nI rule) (nI tu) 0 S = some (fk (hkn n top qk bl pr g sd rule tu lv) 301 0, S') :=
  loopFU (fun fu (s : Int32 × Int32 × St) => FX6_hours_49 fu (nI rule) s.1 s.2.1 s.2.2) (fun j s => ∃ S1, s = (nI ((tu + j) % n), nI j, S1) ∧ Bn S1 n (hlv n top qk bl pr g sd rule tu lv j) top qk bl pr g sd ∧ fk (hkn n top qk bl pr g sd rule tu lv) (301 - j) j = fk (hkn n top qk bl pr g sd rule tu lv) 301 0) (fun r => ∃ S', r = some (fk (hkn n top qk bl pr g sd rule tu lv) 301 0, S')) 301 (FU_lt (by omega))
    (by
      intro j fu s hj ⟨S1, e, hB1, hk⟩
      subst e
      have hkl := kn_le (hlv n top qk bl pr g sd rule tu lv j) n
      have h6 := hB1.2.1
      have hlt : (tu + j) % n < n := Nat.mod_lt _ (by omega)
      dsimp only
      rw [FX6_hours_49, if_neg (by rw [li_300, ltI (by omega) (by omega)]; omega), knowing_eq hB1, bd_s, hB1.1]
      rw [show 301 - j = (301 - (j + 1)) + 1 by omega, fk] at hk
      by_cases hkn' : kn (hlv n top qk bl pr g sd rule tu lv j) n = n
      · right
        rw [if_pos (by rw [hkn'])]
        rw [if_pos (show hkn n top qk bl pr g sd rule tu lv j = true from decide_eq_true hkn')] at hk
        exact ⟨S1, by rw [hk]⟩
      · left
        rw [if_neg (by unfold hkn; simp [hkn'])] at hk
        obtain ⟨S2, e2, hB2⟩ := hold_eq hB1 (one := chz (hlv n top qk bl pr g sd rule tu lv j) n rule ((tu + j) % n)) (dw := false) (chz_lt hlt)
        rw [lesSd_f] at hB2
        refine ⟨(nI ((tu + (j + 1)) % n), nI (j + 1), S2), ?_, S2, rfl, hB2, hk⟩
        rw [if_neg (by rw [eqI (by omega) (by omega)]; exact hkn'), chosen_eq hB1 hr, bd_s, show (0 : Int32) = bI false from rfl, e2, bd_s, after_eq hB2 hlt, bd_s, Nat.mod_add_mod, Nat.add_assoc]
        simp only [li_1, nI_add])
    (by
      intro fu s ⟨S1, e, hB1, hk⟩
      subst e
      refine ⟨S1, ?_⟩
      dsimp only
      rw [FX6_hours_49, if_pos (by decide), ← hk]
      rfl)
    (nI tu, nI 0, S) ⟨S, by rw [Nat.add_zero, Nat.mod_eq_of_lt ht], hB, rfl⟩
theorem hours_m {S : St} {n sd rule tu : Nat} {lv top qk bl pr : Nat → Nat} {g : Bool} (hB : Mn S n lv top qk bl pr sd) (hg : gN S 44 5 = bI g) (hr : rule < 3) (ht : tu < n) : ∃ S', FX7_hours_43 FU (nI rule) (nI tu) 0 S = some (fk (hkn n top qk bl pr g sd rule tu lv) 301 0, S') ∧ gN S' 44 23 = nI sd :=
  loopFU (fun fu (s : Int32 × Int32 × St) => FX7_hours_43 fu (nI rule) s.1 s.2.1 s.2.2) (fun j s => ∃ S1, s = (nI ((tu + j) % n), nI j, S1) ∧ Mn S1 n (hlv n top qk bl pr g sd rule tu lv j) top qk bl pr sd ∧ gN S1 44 5 = bI g ∧ fk (hkn n top qk bl pr g sd rule tu lv) (301 - j) j = fk (hkn n top qk bl pr g sd rule tu lv) 301 0) (fun r => ∃ S', r = some (fk (hkn n top qk bl pr g sd rule tu lv) 301 0, S') ∧ gN S' 44 23 = nI sd) 301 (FU_lt (by omega))
    (by
      intro j fu s hj ⟨S1, e, hB1, hg1, hk⟩
      subst e
      have hkl := kn_le (hlv n top qk bl pr g sd rule tu lv j) n
      have h6 := hB1.2.1
      have hlt : (tu + j) % n < n := Nat.mod_lt _ (by omega)
      dsimp only
      rw [FX7_hours_43, if_neg (by rw [li_300, ltI (by omega) (by omega)]; omega), knownNow_eq hB1, bd_s, hB1.1]
      rw [show 301 - j = (301 - (j + 1)) + 1 by omega, fk] at hk
      by_cases hkn' : kn (hlv n top qk bl pr g sd rule tu lv j) n = n
      · right
        rw [if_pos (by rw [hkn'])]
        rw [if_pos (show hkn n top qk bl pr g sd rule tu lv j = true from decide_eq_true hkn')] at hk
        exact ⟨S1, by rw [hk], hB1.2.2.1⟩
      · left
        rw [if_neg (by unfold hkn; simp [hkn'])] at hk
        obtain ⟨S2, e2, hB2⟩ := teachAll_eq hB1 (one := chz (hlv n top qk bl pr g sd rule tu lv j) n rule ((tu + j) % n)) (g := g) (dw := false) (chz_lt hlt)
        rw [lesSd_f] at hB2
        refine ⟨(nI ((tu + (j + 1)) % n), nI (j + 1), S2), ?_, S2, rfl, hB2, by rw [(wX7_teach e2).n 44 5 (by simp) (by simp)]; exact hg1, hk⟩
        rw [if_neg (by rw [eqI (by omega) (by omega)]; exact hkn'), upBy_eq hB1 (by omega) hr, bd_s, everybody_eq hB1.1 hB1.2.1, bd_s, hg1, show (0 : Int32) = bI false from rfl, e2, bd_s, hB2.1, gd_t (nz_n (by omega) (by omega))]
        simp only [li_1, nI_add]
        rw [rem_n (by omega) (by omega) (by omega), Nat.mod_add_mod, Nat.add_assoc])
    (by
      intro fu s ⟨S1, e, hB1, hg1, hk⟩
      subst e
      refine ⟨S1, ?_, hB1.2.2.1⟩
      dsimp only
      rw [FX7_hours_43, if_pos (by decide), ← hk]
      rfl)
    (nI tu, nI 0, S) ⟨S, by rw [Nat.add_zero, Nat.mod_eq_of_lt ht], hB, hg, rfl⟩
section
variable {c : Cx}
theorem ag_hours (hw : WC c) (x y : Int32) : Ag c (fX6_hours x y) (fX7_hours x y) := by
  cases hr : inB x 3 with
  | false =>
    exact ⟨-1000001, c, hw, fun S h => ⟨S, by rw [fX6_hours, isRule_c, hr, bd_s, if_pos bI_f0]; rfl, h⟩, fun S h => ⟨S, by rw [fX7_hours, isRule_m, hr, bd_s, if_pos bI_f0]; rfl, h⟩, rfl⟩
  | true =>
  cases ht : inB y (nt (xK c)) with
  | false =>
    exact ⟨-1000001, c, hw, fun S h => ⟨S, by rw [fX6_hours, isRule_c, hr, bd_s, if_neg bI_t0, isThing_c h hw, ht, bd_s, if_pos bI_f0]; rfl, h⟩, fun S h => ⟨S, by rw [fX7_hours, isRule_m, hr, bd_s, if_neg bI_t0, isThing_m h hw, ht, bd_s, if_pos bI_f0]; rfl, h⟩, rfl⟩
  | true =>
    obtain ⟨rule, r1, r2, rfl⟩ := inB_get hr
    obtain ⟨t, h1, h2, rfl⟩ := inB_get ht
    have k2 := hw.1.2.1
    by_cases hn : np (xK c) = 0
    · refine ⟨-1000003, c, hw, fun S h => ⟨S, ?_, h⟩, fun S h => ⟨S, ?_, h⟩, rfl⟩
      · rw [fX6_hours, isRule_c, hr, bd_s, if_neg bI_t0, isThing_c h hw, ht, bd_s, if_neg bI_t0, gd_t (told_is h), np_c h, hn, if_neg (by decide)]
      · rw [fX7_hours, isRule_m, hr, bd_s, if_neg bI_t0, isThing_m h hw, ht, bd_s, if_neg bI_t0, np_m h, hn, if_pos (by decide)]
    · have hT := dT_lt hw hn
      refine ⟨fk (hkn (np (xK c)) (fun q => tpv (xK c) (dl (xS c)) 0 q t) (kq (xK c)) (kb (xK c)) (kp (xK c)) (dG (xS c)) (dS (xS c)) rule (dT (xS c)) (fun q => dl (xS c) q t)) 301 0, c, hw, fun S h => ?_, fun S h => ?_, rfl⟩
      · obtain ⟨S1, e1, r1', hB1, -, hw1⟩ := sitAll_c h hw h1
        obtain ⟨S2, e2⟩ := hours_c hB1 r1 hT
        have e : fX6_hours (nI rule) (nI t) S = some (fk (hkn (np (xK c)) (fun q => tpv (xK c) (dl (xS c)) 0 q t) (kq (xK c)) (kb (xK c)) (kp (xK c)) (dG (xS c)) (dS (xS c)) rule (dT (xS c)) (fun q => dl (xS c) q t)) 301 0, S2) := by
          rw [fX6_hours, isRule_c, hr, bd_s, if_neg bI_t0, isThing_c h hw, ht, bd_s, if_neg bI_t0, gd_t (told_is h), np_c h, if_pos (by rw [li_1, leI (by omega) (by omega)]; omega), e1, bd_s]
          dsimp only
          rw [r1'.2.2.2.1.2.2.2, e2]
        exact ⟨S2, e, (wX6_hours e).okC h (by decide)⟩
      · obtain ⟨S1, e1, r1', hB1⟩ := take_m h hw h1
        obtain ⟨S2, e2, hs2⟩ := hours_m hB1 r1'.2.1.2.1 r1 hT
        have e : fX7_hours (nI rule) (nI t) S = some (fk (hkn (np (xK c)) (fun q => tpv (xK c) (dl (xS c)) 0 q t) (kq (xK c)) (kb (xK c)) (kp (xK c)) (dG (xS c)) (dS (xS c)) rule (dT (xS c)) (fun q => dl (xS c) q t)) 301 0, S2) := by
          rw [fX7_hours, isRule_m, hr, bd_s, if_neg bI_t0, isThing_m h hw, ht, bd_s, if_neg bI_t0, np_m h, if_neg (by rw [li_0, eqI (by omega) (by omega)]; omega)]
          simp only [li_0] at e2 ⊢
          rw [e1, bd_s, r1'.2.1.2.2.2, e2]
        exact ⟨S2, e, RM_seed h (wX7_hours e) (by decide) hs2⟩
end
/-- levels behind k likely lessons of who seems to know least -/
def plv (n : Nat) (top qk bl pr : Nat → Nat) (g : Bool) (sd p less : Nat) (lv : Nat → Nat) : Nat → Nat → Nat
  | 0 => lv
  | k + 1 => lesLv n (fun _ => true) (plv n top qk bl pr g sd p less lv k) top qk bl pr g (am (vz (plv n top qk bl pr g sd p less lv k) (nI p) less) n) false sd
theorem behind_c {S : St} {n sd p less m : Nat} {lv top qk bl pr : Nat → Nat} {g : Bool} (hB : Bn S n lv top qk bl pr g sd) (hp : p < n) (hl : less ≤ 9) (hm : m ≤ 99) : ∃ S', FX6_levelBehind_8 FU (nI p) (nI less) (nI m) 0 S = some (nI (plv n top qk bl pr g sd p less lv m p), S') :=
  loopFU (fun fu (s : Int32 × St) => FX6_levelBehind_8 fu (nI p) (nI less) (nI m) s.1 s.2) (fun j s => ∃ S1, s = (nI j, S1) ∧ Bn S1 n (plv n top qk bl pr g sd p less lv j) top qk bl pr g sd) (fun r => ∃ S', r = some (nI (plv n top qk bl pr g sd p less lv m p), S')) m (FU_lt (by omega))
    (by
      intro j fu s hj ⟨S1, e, hB1⟩
      subst e
      have h6 := hB1.2.1
      obtain ⟨S2, e2, hB2⟩ := hold_eq hB1 (one := am (vz (plv n top qk bl pr g sd p less lv j) (nI p) less) n) (dw := false) (am_lt _ n (by omega))
      rw [lesSd_f] at hB2
      refine Or.inl ⟨(nI (j + 1), S2), ?_, S2, rfl, hB2⟩
      dsimp only
      rw [FX6_levelBehind_8, if_neg (by rw [leI (by omega) (by omega)]; omega), least_eq hB1 hl, bd_s, show (0 : Int32) = bI false from rfl, e2, bd_s]
      simp only [li_1, nI_add])
    (by
      intro fu s ⟨S1, e, hB1⟩
      subst e
      have h6 := hB1.2.1
      refine ⟨S1, ?_⟩
      dsimp only
      rw [FX6_levelBehind_8, if_pos (Int32.le_refl _), gdI (by omega) (by omega), clI (by omega), (hB1.2.2.2.2.2 p hp).1.1])
    (nI 0, S) ⟨S, rfl, hB⟩
theorem behind_m {S : St} {n sd p less m : Nat} {lv top qk bl pr : Nat → Nat} {g : Bool} (hB : Mn S n lv top qk bl pr sd) (hg : gN S 44 5 = bI g) (hp : p < n) (hl : less ≤ 9) (hm : m ≤ 99) : ∃ S', FX7_levelBehind_9 FU (nI p) (nI less) (nI m) 0 S = some (nI (plv n top qk bl pr g sd p less lv m p), S') ∧ gN S' 44 23 = nI sd :=
  loopFU (fun fu (s : Int32 × St) => FX7_levelBehind_9 fu (nI p) (nI less) (nI m) s.1 s.2) (fun j s => ∃ S1, s = (nI j, S1) ∧ Mn S1 n (plv n top qk bl pr g sd p less lv j) top qk bl pr sd ∧ gN S1 44 5 = bI g) (fun r => ∃ S', r = some (nI (plv n top qk bl pr g sd p less lv m p), S') ∧ gN S' 44 23 = nI sd) m (FU_lt (by omega))
    (by
      intro j fu s hj ⟨S1, e, hB1, hg1⟩
      subst e
      have h6 := hB1.2.1
      obtain ⟨S2, e2, hB2⟩ := teachAll_eq hB1 (one := am (vz (plv n top qk bl pr g sd p less lv j) (nI p) less) n) (g := g) (dw := false) (am_lt _ n (by omega))
      rw [lesSd_f] at hB2
      refine Or.inl ⟨(nI (j + 1), S2), ?_, S2, rfl, hB2, by rw [(wX7_teach e2).n 44 5 (by simp) (by simp)]; exact hg1⟩
      dsimp only
      rw [FX7_levelBehind_9, if_neg (by rw [leI (by omega) (by omega)]; omega), leastOf_eq hB1 (by omega) hl, bd_s, everybody_eq hB1.1 hB1.2.1, bd_s, hg1, show (0 : Int32) = bI false from rfl, e2, bd_s]
      simp only [li_1, nI_add])
    (by
      intro fu s ⟨S1, e, hB1, hg1⟩
      subst e
      have h6 := hB1.2.1
      refine ⟨S1, ?_, hB1.2.2.1⟩
      dsimp only
      rw [FX7_levelBehind_9, if_pos (Int32.le_refl _), gdI (by omega) (by omega), clI (by omega), (hB1.2.2.2.2 p hp).1.1])
    (nI 0, S) ⟨S, rfl, hB, hg⟩
section
variable {c : Cx}
/-- the level behind, as both say it -/
def lbv (c : Cx) (p t less m : Nat) : Int32 := nI (plv (np (xK c)) (fun q => tpv (xK c) (dl (xS c)) 0 q t) (kq (xK c)) (kb (xK c)) (kp (xK c)) (dG (xS c)) (dS (xS c)) p less (fun q => dl (xS c) q t) m p)
theorem lb_c {S : St} (hw : WC c) (h : RC S c) {p t less m : Nat} (hp : p < np (xK c)) (ht : t < nt (xK c)) (hl : less ≤ 9) (hm : m ≤ 99) : ∃ S', fX6_levelBehind (nI p) (nI t) (nI less) (nI m) S = some (lbv c p t less m, S') ∧ RC S' c := by
  obtain ⟨S1, e1, r1', hB1, -, hw1⟩ := sitAll_c h hw ht
  obtain ⟨S2, e2⟩ := behind_c hB1 hp hl hm
  have e : fX6_levelBehind (nI p) (nI t) (nI less) (nI m) S = some (lbv c p t less m, S2) := by
    rw [fX6_levelBehind, e1, bd_s, e2]
    rfl
  exact ⟨S2, e, (wX6_levelBehind e).okC h (by decide)⟩
theorem lb_m {S : St} (hw : WC c) (h : RM S c) {p t less m : Nat} (hp : p < np (xK c)) (ht : t < nt (xK c)) (hl : less ≤ 9) (hm : m ≤ 99) : ∃ S', fX7_levelBehind (nI p) (nI t) (nI less) (nI m) S = some (lbv c p t less m, S') ∧ RM S' c := by
  obtain ⟨S1, e1, r1', hB1⟩ := take_m h hw ht
  obtain ⟨S2, e2, hs2⟩ := behind_m hB1 r1'.2.1.2.1 hp hl hm
  have e : fX7_levelBehind (nI p) (nI t) (nI less) (nI m) S = some (lbv c p t less m, S2) := by
    rw [fX7_levelBehind, show (0 : Int32) = nI 0 from rfl, e1, bd_s, show nI 0 = (0 : Int32) from rfl, e2]
    rfl
  exact ⟨S2, e, RM_seed h (wX7_levelBehind e) (by decide) hs2⟩
theorem in_nat {S : St} {x : Int32} {lo hi : Nat} (h2 : hi < 2147483648) (h1 : lo < 2147483648) : fX7_in x.toInt64 (lN lo) (lN hi) S = some (bI (decide (nI lo ≤ x ∧ x ≤ nI hi)), S) := by
  rw [← toI64 h1, ← toI64 h2, in_gen]
theorem out_lo {x : Int32} {a : Nat} (h : ¬ nI a ≤ x) : x < nI a := Int32.not_le.mp h
theorem out_hi {x : Int32} {a : Nat} (h : ¬ x ≤ nI a) : nI a < x := Int32.not_le.mp h
theorem rng_get {x : Int32} {lo hi : Nat} (h2 : hi < 2147483648) (hl : lo < 2147483648) (h : nI lo ≤ x ∧ x ≤ nI hi) : ∃ m, lo ≤ m ∧ m ≤ hi ∧ x = nI m := by
  have h0 : ¬ x < 0 := fun q => by
    have := Int32.lt_of_le_of_lt h.1 q
    rw [li_0, ltI hl (by omega)] at this
    omega
  obtain ⟨m, hm, rfl⟩ := nI_of h0
  refine ⟨m, ?_, ?_, rfl⟩
  · have := h.1; rwa [leI hl hm] at this
  · have := h.2; rwa [leI hm h2] at this
theorem ag_pays (hw : WC c) (x y u v : Int32) : Ag c (fX6_pays x y u v) (fX7_pays x y u v) := by
  cases hp : inB x (np (xK c)) with
  | false =>
    exact ⟨-1000001, c, hw, fun S h => ⟨S, by rw [fX6_pays, isPupil_c h hw, hp, bd_s, if_pos bI_f0]; rfl, h⟩, fun S h => ⟨S, by rw [fX7_pays, isPupil_m h hw, hp, bd_s, if_pos bI_f0]; rfl, h⟩, rfl⟩
  | true =>
  cases ht : inB y (nt (xK c)) with
  | false =>
    exact ⟨-1000001, c, hw, fun S h => ⟨S, by rw [fX6_pays, isPupil_c h hw, hp, bd_s, if_neg bI_t0, isThing_c h hw, ht, bd_s, if_pos bI_f0]; rfl, h⟩, fun S h => ⟨S, by rw [fX7_pays, isPupil_m h hw, hp, bd_s, if_neg bI_t0, isThing_m h hw, ht, bd_s, if_pos bI_f0]; rfl, h⟩, rfl⟩
  | true =>
    obtain ⟨p, g1, g2, rfl⟩ := inB_get hp
    obtain ⟨t, h1, h2, rfl⟩ := inB_get ht
    have ec : ∀ S, RC S c → fX6_pays (nI p) (nI t) u v S = if u < nI 0 then FX6_pays_42 S else if nI 9 < u then FX6_pays_42 S else if v < nI 1 then FX6_pays_42 S else if v ≤ nI 99 then (bd (fX6_levelBehind (nI p) (nI t) u v S) fun r15 S16 => bd (fX6_levelBehind (nI p) (nI t) 0 v S16) fun r19 S20 => some (r15 - r19, S20)) else FX6_pays_42 S := fun S h => by
      rw [fX6_pays, isPupil_c h hw, hp, bd_s, if_neg bI_t0, isThing_c h hw, ht, bd_s, if_neg bI_t0]
      rfl
    have em : ∀ S, RM S c → fX7_pays (nI p) (nI t) u v S = if decide (nI 0 ≤ u ∧ u ≤ nI 9) = false then FX7_pays_44 S else if decide (nI 1 ≤ v ∧ v ≤ nI 99) = false then FX7_pays_44 S else (bd (fX7_levelBehind (nI p) (nI t) u v S) fun r15 S16 => bd (fX7_levelBehind (nI p) (nI t) 0 v S16) fun r19 S20 => some (r15 - r19, S20)) := fun S h => by
      rw [fX7_pays, isPupil_m h hw, hp, bd_s, if_neg bI_t0, isThing_m h hw, ht, bd_s, if_neg bI_t0, show (0 : Int64) = lN 0 from rfl, show (9 : Int64) = lN 9 from rfl, in_nat (by decide) (by decide), bd_s, show (1 : Int64) = lN 1 from rfl, show (99 : Int64) = lN 99 from rfl, in_nat (by decide) (by decide), bd_s]
      simp only [li_0, bI_0]
    by_cases hu : nI 0 ≤ u ∧ u ≤ nI 9
    · by_cases hv : nI 1 ≤ v ∧ v ≤ nI 99
      · obtain ⟨s, s1, s2, rfl⟩ := rng_get (by decide) (by decide) hu
        obtain ⟨m, m1, m2, rfl⟩ := rng_get (by decide) (by decide) hv
        refine ⟨lbv c p t s m - lbv c p t 0 m, c, hw, fun S h => ?_, fun S h => ?_, rfl⟩
        · obtain ⟨S1, e1, q1⟩ := lb_c hw h (less := s) g1 h1 s2 m2
          obtain ⟨S2, e2, q2⟩ := lb_c hw q1 (less := 0) g1 h1 (by omega) m2
          refine ⟨S2, ?_, q2⟩
          rw [ec S h, if_neg (by rw [ltI (by omega) (by omega)]; omega), if_neg (by rw [ltI (by omega) (by omega)]; omega), if_neg (by rw [ltI (by omega) (by omega)]; omega), if_pos (by rw [leI (by omega) (by omega)]; omega), e1, bd_s, show (0 : Int32) = nI 0 from rfl, e2, bd_s]
        · obtain ⟨S1, e1, q1⟩ := lb_m hw h (less := s) g1 h1 s2 m2
          obtain ⟨S2, e2, q2⟩ := lb_m hw q1 (less := 0) g1 h1 (by omega) m2
          refine ⟨S2, ?_, q2⟩
          rw [em S h, if_neg (by simp [hu]), if_neg (by simp [hv]), e1, bd_s, show (0 : Int32) = nI 0 from rfl, e2, bd_s]
      · refine ⟨-1000002, c, hw, fun S h => ⟨S, ?_, h⟩, fun S h => ⟨S, ?_, h⟩, rfl⟩
        · rw [ec S h, if_neg (Int32.not_lt.mpr hu.1), if_neg (Int32.not_lt.mpr hu.2)]
          by_cases h1 : nI 1 ≤ v
          · rw [if_neg (Int32.not_lt.mpr h1), if_neg (fun q => hv ⟨h1, q⟩)]; rfl
          · rw [if_pos (out_lo h1)]; rfl
        · rw [em S h, if_neg (by simp [hu]), if_pos (decide_eq_false hv)]; rfl
    · refine ⟨-1000002, c, hw, fun S h => ⟨S, ?_, h⟩, fun S h => ⟨S, ?_, h⟩, rfl⟩
      · rw [ec S h]
        by_cases h1 : nI 0 ≤ u
        · rw [if_neg (Int32.not_lt.mpr h1), if_pos (out_hi (fun q => hu ⟨h1, q⟩))]; rfl
        · rw [if_pos (out_lo h1)]; rfl
      · rw [em S h, if_pos (decide_eq_false hu)]; rfl
end
