/-! ===== the whole run ===== -/
def cx0 : Cx := ((0, fun _ => 0, -1), (0, 0, fun _ => 0, fun _ => 0, fun _ => 0, fun _ => 0), (fun _ _ => 0, false, 0, 0), ((false, (fun _ _ => 0, false, 0, 0)), (false, (fun _ _ => 0, false, 0, 0))), (0, fun _ => 0, fun _ => 0))
theorem Jn_0 : Jn S0 cx0 := by
  have ff : ¬ false = true := by decide
  have n0 : ∀ {q : Prop} {i : Nat}, i < 0 → q := fun h => absurd h (by omega)
  refine ⟨⟨⟨Nat.zero_le _, Nat.zero_le _, fun t h => n0 h, fun p h => n0 h⟩, ⟨fun p t h => n0 h, by decide, Or.inr rfl⟩, fun q => absurd q ff, fun q => absurd q ff, Nat.zero_le _, fun i h => n0 h, Nat.zero_le _, fun i h => n0 h⟩, ⟨Or.inl ⟨rfl, rfl⟩, Or.inl ⟨rfl, rfl⟩, ⟨rfl, rfl, fun t h => n0 h, fun p h => n0 h⟩, ⟨fun p t h => n0 h, rfl, rfl, rfl⟩, fun q => absurd q ff, fun q => absurd q ff, rfl, ⟨rfl, fun i h => n0 h, rfl⟩, rfl, fun i h => n0 h⟩, ⟨Or.inl rfl, Or.inl rfl⟩, ⟨⟨rfl, rfl, fun t h => n0 h, fun p h => n0 h⟩, ⟨fun p t h => n0 h, rfl, rfl, rfl⟩, ⟨rfl, rfl⟩, fun q => absurd q ff, fun q => absurd q ff, ⟨rfl, fun i h => n0 h, rfl⟩, rfl, fun i h => n0 h⟩, 0, fun _ => 0, rfl, Nat.zero_le _, fun i h => n0 h, fun s _ => Or.inl rfl⟩
theorem law_pure (L : Nat) (xs : Nat → Int32) (hL : L ≤ 2560) : ∃ S, FL_law_18 L xs FU 0 S0 = some (1, S) :=
  loopFU (fun fu (y : Int32 × St) => FL_law_18 L xs fu y.1 y.2) (fun j y => ∃ S c, y = (nI (5 * j), S) ∧ Jn S c) (fun z => ∃ S, z = some (1, S)) (L / 5) (FU_lt (by omega))
    (by
      intro j fu y hj ⟨S, c, e, hJ⟩
      subst e
      obtain ⟨S', c', e', J'⟩ := law_go (xs := xs) (n := fu) hL (show 5 * j + 5 ≤ L by omega) hJ
      exact Or.inl ⟨(nI (5 * j + 5), S'), e', S', c', rfl, J'⟩)
    (by
      intro fu y ⟨S, c, e, hJ⟩
      subst e
      exact ⟨S, law_stop hL (by omega) (by omega)⟩)
    (nI 0, S0) ⟨S0, cx0, rfl, Jn_0⟩
