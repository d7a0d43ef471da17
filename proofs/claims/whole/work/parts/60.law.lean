/-- the script: b, its length L, its ints xs; no cell of the world is it -/
def LX (X : VX) (G : VG) (b L : Nat) (xs : Nat → Int32) : Prop := va_X b L xs X.2.2.2.2.1 X.2.2.2.2.1.heap ∧ b < X.2.2.2.2.1.heap.size ∧ ¬ Aw G b
/-- what the law's walk stands on: its end with 1, the answer, the script -/
def LR (X : VX) (G : VG) (q : Int32 × St) (Q : State → Prop) (b L : Nat) (xs : Nat → Int32) : Prop := (∀ (S : St) (pc n : Nat) (lv : List (Option Value)), Dn cL_law pc .ireturn 1 n → V X G 4 Q pc lv [.int 1] S) ∧ q.1 = 1 ∧ LX X G b L xs
theorem v_lwret {X : VX} {G : VG} {q : Int32 × St} {Q : State → Prop} {b L : Nat} {xs : Nat → Int32} {pc n : Nat} {lv : List (Option Value)} {x : Int32} {S : St} (hr : LR X G q Q b L xs) (hd : Dn cL_law pc .ireturn 1 n) (h : some (x, S) = some q) : V X G 4 Q pc lv [.int x] S := by
  cases h
  have : x = 1 := hr.2.1
  subst this
  exact hr.1 S pc n lv hd
theorem v_sld {X : VX} {G : VG} {cc : ByteArray} {nL lev pc n : Nat} {own : String} {Q : State → Prop} {lv : List (Option Value)} {st : List Value} {S : St} {b L : Nat} {xs : Nat → Int32} {i : Int32} (hX : Fx X G cc nL own lev) (hs : LX X G b L xs) (hd : Dn cc pc .iaload 1 n) (hi : inB i L = true) (k : V X G nL Q n lv (.int (xs i.toNatClampNeg) :: st) S) : V X G nL Q pc lv (.int i :: .ref b :: st) S := by
  obtain ⟨hd, rfl⟩ := hd
  obtain ⟨hx, hb, hml, hown, hts, hE, hR, hlk⟩ := hX
  intro H locs ls hP hS hl
  exact va_sld hx hb hs.1 hs.2.1 hs.2.2 hS (inB_in hi) hd (k H locs ls hP hS hl)
theorem v_slenX {X : VX} {G : VG} {cc : ByteArray} {nL lev pc n : Nat} {own : String} {Q : State → Prop} {lv : List (Option Value)} {st : List Value} {S : St} {b L : Nat} {xs : Nat → Int32} (hX : Fx X G cc nL own lev) (hs : LX X G b L xs) (hd : Dn cc pc .arraylength 1 n) (k : V X G nL Q n lv (.int (nI L) :: st) S) : V X G nL Q pc lv (.ref b :: st) S := by
  obtain ⟨hd, rfl⟩ := hd
  obtain ⟨hx, hb, hml, hown, hts, hE, hR, hlk⟩ := hX
  intro H locs ls hP hS hl
  exact va_slen hx hb hs.1 hs.2.1 hs.2.2 hS hd (k H locs ls hP hS hl)

def FL_law_1143 (L : Nat) (xs : Nat → Int32) (k18 : Int32 → St → Option (Int32 × St)) (l3 : Int32) (S : St) : Option (Int32 × St) :=
  let x520 := l3 + 5
  k18 x520 S
def FL_law_496 (L : Nat) (xs : Nat → Int32) (k18 : Int32 → St → Option (Int32 × St)) (l3 : Int32) (s0 : Int32) (s1 : Int32) (s2 : Int32) (s4 : Int32) (S : St) : Option (Int32 × St) :=
  bd (fX7_lesson s2 s1 s0 S) fun r503 S504 =>
  if (s4 : Int32) = r503 then (
    FL_law_1143 L xs k18 l3 S504
  ) else (
    some (0, S504)
  )
def FL_law_469 (L : Nat) (xs : Nat → Int32) (k18 : Int32 → St → Option (Int32 × St)) (l3 : Int32) (s0 : Int32) (s1 : Int32) (s2 : Int32) (S : St) : Option (Int32 × St) :=
  bd (fX6_lesson s2 s1 s0 S) fun r492 S493 =>
  let x496 := l3 + 1
  gd (inB x496 L) <|
  let x498 := l3 + 2
  gd (inB x498 L) <|
  let x500 := l3 + 3
  gd (inB x500 L) <|
  if ((xs (x500 : Int32).toNatClampNeg) : Int32) = 0 then (
    FL_law_496 L xs k18 l3 0 (xs (x498 : Int32).toNatClampNeg) (xs (x496 : Int32).toNatClampNeg) r492 S493
  ) else (
    FL_law_496 L xs k18 l3 1 (xs (x498 : Int32).toNatClampNeg) (xs (x496 : Int32).toNatClampNeg) r492 S493
  )
def FL_law_694 (L : Nat) (xs : Nat → Int32) (k18 : Int32 → St → Option (Int32 × St)) (l3 : Int32) (s0 : Int32) (s1 : Int32) (s2 : Int32) (s3 : Int32) (s5 : Int32) (S : St) : Option (Int32 × St) :=
  bd (fX7_run s3 s2 s1 s0 S) fun r487 S488 =>
  if (s5 : Int32) = r487 then (
    FL_law_1143 L xs k18 l3 S488
  ) else (
    some (0, S488)
  )
def FL_law_662 (L : Nat) (xs : Nat → Int32) (k18 : Int32 → St → Option (Int32 × St)) (l3 : Int32) (s0 : Int32) (s1 : Int32) (s2 : Int32) (s3 : Int32) (S : St) : Option (Int32 × St) :=
  bd (fX6_run s3 s2 s1 s0 S) fun r474 S475 =>
  let x478 := l3 + 1
  gd (inB x478 L) <|
  let x480 := l3 + 2
  gd (inB x480 L) <|
  let x482 := l3 + 3
  gd (inB x482 L) <|
  let x484 := l3 + 4
  gd (inB x484 L) <|
  if ((xs (x484 : Int32).toNatClampNeg) : Int32) = 0 then (
    FL_law_694 L xs k18 l3 0 (xs (x482 : Int32).toNatClampNeg) (xs (x480 : Int32).toNatClampNeg) (xs (x478 : Int32).toNatClampNeg) r474 S475
  ) else (
    FL_law_694 L xs k18 l3 1 (xs (x482 : Int32).toNatClampNeg) (xs (x480 : Int32).toNatClampNeg) (xs (x478 : Int32).toNatClampNeg) r474 S475
  )
def FL_law_437 (L : Nat) (xs : Nat → Int32) (k18 : Int32 → St → Option (Int32 × St)) (l3 : Int32) (s0 : Int32) (s2 : Int32) (S : St) : Option (Int32 × St) :=
  bd (fX7_guest s0 S) fun r515 S516 =>
  if (s2 : Int32) = r515 then (
    FL_law_1143 L xs k18 l3 S516
  ) else (
    some (0, S516)
  )
def FL_law_420 (L : Nat) (xs : Nat → Int32) (k18 : Int32 → St → Option (Int32 × St)) (l3 : Int32) (s0 : Int32) (S : St) : Option (Int32 × St) :=
  bd (fX6_guest s0 S) fun r508 S509 =>
  let x512 := l3 + 1
  gd (inB x512 L) <|
  if ((xs (x512 : Int32).toNatClampNeg) : Int32) = 0 then (
    FL_law_437 L xs k18 l3 0 r508 S509
  ) else (
    FL_law_437 L xs k18 l3 1 r508 S509
  )
def FL_law_18 (L : Nat) (xs : Nat → Int32) : Nat → Int32 → St → Option (Int32 × St)
  | 0, _, _ => none
  | n + 1, l3, S =>
    if (((nI L) - 5) : Int32) < l3 then (
      some (1, S)
    ) else (
      gd (inB l3 L) <|
      let x3 := (xs (l3 : Int32).toNatClampNeg) &&& 31
      if (x3 : Int32) = 0 then (
        let x4 := l3 + 1
        gd (inB x4 L) <|
        let x6 := l3 + 2
        gd (inB x6 L) <|
        let x8 := l3 + 3
        gd (inB x8 L) <|
        bd (fX6_feed (xs (x4 : Int32).toNatClampNeg) ((((xs (x6 : Int32).toNatClampNeg : Int32).toInt64) <<< ((32 : Int32).toInt64 &&& 63)) ||| (((xs (x8 : Int32).toNatClampNeg : Int32).toInt64) &&& 4294967295)) S) fun r10 S11 =>
        let x14 := l3 + 1
        gd (inB x14 L) <|
        let x16 := l3 + 2
        gd (inB x16 L) <|
        let x18 := l3 + 3
        gd (inB x18 L) <|
        bd (fX7_feed (xs (x14 : Int32).toNatClampNeg) ((((xs (x16 : Int32).toNatClampNeg : Int32).toInt64) <<< ((32 : Int32).toInt64 &&& 63)) ||| (((xs (x18 : Int32).toNatClampNeg : Int32).toInt64) &&& 4294967295)) S11) fun r20 S21 =>
        if (r10 : Int32) = r20 then (
          FL_law_1143 L xs (fun l3_ S_ => FL_law_18 L xs n l3_ S_) l3 S21
        ) else (
          some (0, S21)
        )
      ) else (
      if (x3 : Int32) = 1 then (
        bd (fX6_school S) fun r26 S27 =>
        bd (fX7_school S27) fun r30 S31 =>
        if (r26 : Int32) = r30 then (
          FL_law_1143 L xs (fun l3_ S_ => FL_law_18 L xs n l3_ S_) l3 S31
        ) else (
          some (0, S31)
        )
      ) else (
      if (x3 : Int32) = 2 then (
        bd (fX6_fault S) fun r36 S37 =>
        bd (fX7_fault S37) fun r40 S41 =>
        if (r36 : Int32) = r40 then (
          FL_law_1143 L xs (fun l3_ S_ => FL_law_18 L xs n l3_ S_) l3 S41
        ) else (
          some (0, S41)
        )
      ) else (
      if (x3 : Int32) = 3 then (
        let x46 := l3 + 1
        gd (inB x46 L) <|
        bd (fX6_count (xs (x46 : Int32).toNatClampNeg) S) fun r48 S49 =>
        let x52 := l3 + 1
        gd (inB x52 L) <|
        bd (fX7_count (xs (x52 : Int32).toNatClampNeg) S49) fun r54 S55 =>
        if (r48 : Int32) = r54 then (
          FL_law_1143 L xs (fun l3_ S_ => FL_law_18 L xs n l3_ S_) l3 S55
        ) else (
          some (0, S55)
        )
      ) else (
      if (x3 : Int32) = 4 then (
        let x60 := l3 + 1
        gd (inB x60 L) <|
        let x62 := l3 + 2
        gd (inB x62 L) <|
        bd (fX6_pupil (xs (x60 : Int32).toNatClampNeg) (xs (x62 : Int32).toNatClampNeg) S) fun r64 S65 =>
        let x68 := l3 + 1
        gd (inB x68 L) <|
        let x70 := l3 + 2
        gd (inB x70 L) <|
        bd (fX7_pupil (xs (x68 : Int32).toNatClampNeg) (xs (x70 : Int32).toNatClampNeg) S65) fun r72 S73 =>
        if (r64 : Int32) = r72 then (
          FL_law_1143 L xs (fun l3_ S_ => FL_law_18 L xs n l3_ S_) l3 S73
        ) else (
          some (0, S73)
        )
      ) else (
      if (x3 : Int32) = 5 then (
        let x78 := l3 + 1
        gd (inB x78 L) <|
        bd (fX6_leans (xs (x78 : Int32).toNatClampNeg) S) fun r80 S81 =>
        let x84 := l3 + 1
        gd (inB x84 L) <|
        bd (fX7_leans (xs (x84 : Int32).toNatClampNeg) S81) fun r86 S87 =>
        if (r80 : Int32) = r86 then (
          FL_law_1143 L xs (fun l3_ S_ => FL_law_18 L xs n l3_ S_) l3 S87
        ) else (
          some (0, S87)
        )
      ) else (
      if (x3 : Int32) = 6 then (
        let x92 := l3 + 1
        gd (inB x92 L) <|
        let x94 := l3 + 2
        gd (inB x94 L) <|
        bd (fX6_level (xs (x92 : Int32).toNatClampNeg) (xs (x94 : Int32).toNatClampNeg) S) fun r96 S97 =>
        let x100 := l3 + 1
        gd (inB x100 L) <|
        let x102 := l3 + 2
        gd (inB x102 L) <|
        bd (fX7_level (xs (x100 : Int32).toNatClampNeg) (xs (x102 : Int32).toNatClampNeg) S97) fun r104 S105 =>
        if (r96 : Int32) = r104 then (
          FL_law_1143 L xs (fun l3_ S_ => FL_law_18 L xs n l3_ S_) l3 S105
        ) else (
          some (0, S105)
        )
      ) else (
      if (x3 : Int32) = 7 then (
        let x110 := l3 + 1
        gd (inB x110 L) <|
        let x112 := l3 + 2
        gd (inB x112 L) <|
        bd (fX6_rises (xs (x110 : Int32).toNatClampNeg) (xs (x112 : Int32).toNatClampNeg) S) fun r114 S115 =>
        let x118 := l3 + 1
        gd (inB x118 L) <|
        let x120 := l3 + 2
        gd (inB x120 L) <|
        bd (fX7_rises (xs (x118 : Int32).toNatClampNeg) (xs (x120 : Int32).toNatClampNeg) S115) fun r122 S123 =>
        if (r114 : Int32) = r122 then (
          FL_law_1143 L xs (fun l3_ S_ => FL_law_18 L xs n l3_ S_) l3 S123
        ) else (
          some (0, S123)
        )
      ) else (
      if (x3 : Int32) = 8 then (
        let x128 := l3 + 1
        gd (inB x128 L) <|
        if ((xs (x128 : Int32).toNatClampNeg) : Int32) = 0 then (
          FL_law_420 L xs (fun l3_ S_ => FL_law_18 L xs n l3_ S_) l3 0 S
        ) else (
          FL_law_420 L xs (fun l3_ S_ => FL_law_18 L xs n l3_ S_) l3 1 S
        )
      ) else (
      if (x3 : Int32) = 9 then (
        let x132 := l3 + 1
        gd (inB x132 L) <|
        let x134 := l3 + 2
        gd (inB x134 L) <|
        let x136 := l3 + 3
        gd (inB x136 L) <|
        if ((xs (x136 : Int32).toNatClampNeg) : Int32) = 0 then (
          FL_law_469 L xs (fun l3_ S_ => FL_law_18 L xs n l3_ S_) l3 0 (xs (x134 : Int32).toNatClampNeg) (xs (x132 : Int32).toNatClampNeg) S
        ) else (
          FL_law_469 L xs (fun l3_ S_ => FL_law_18 L xs n l3_ S_) l3 1 (xs (x134 : Int32).toNatClampNeg) (xs (x132 : Int32).toNatClampNeg) S
        )
      ) else (
      if (x3 : Int32) = 10 then (
        let x140 := l3 + 1
        gd (inB x140 L) <|
        let x142 := l3 + 2
        gd (inB x142 L) <|
        let x144 := l3 + 3
        gd (inB x144 L) <|
        bd (fX6_exact (xs (x140 : Int32).toNatClampNeg) (xs (x142 : Int32).toNatClampNeg) (xs (x144 : Int32).toNatClampNeg) S) fun r146 S147 =>
        let x150 := l3 + 1
        gd (inB x150 L) <|
        let x152 := l3 + 2
        gd (inB x152 L) <|
        let x154 := l3 + 3
        gd (inB x154 L) <|
        bd (fX7_exact (xs (x150 : Int32).toNatClampNeg) (xs (x152 : Int32).toNatClampNeg) (xs (x154 : Int32).toNatClampNeg) S147) fun r156 S157 =>
        if (r146 : Int32) = r156 then (
          FL_law_1143 L xs (fun l3_ S_ => FL_law_18 L xs n l3_ S_) l3 S157
        ) else (
          some (0, S157)
        )
      ) else (
      if (x3 : Int32) = 11 then (
        let x162 := l3 + 1
        gd (inB x162 L) <|
        let x164 := l3 + 2
        gd (inB x164 L) <|
        let x166 := l3 + 3
        gd (inB x166 L) <|
        let x168 := l3 + 4
        gd (inB x168 L) <|
        bd (fX6_behind (xs (x162 : Int32).toNatClampNeg) (xs (x164 : Int32).toNatClampNeg) (xs (x166 : Int32).toNatClampNeg) (xs (x168 : Int32).toNatClampNeg) S) fun r170 S171 =>
        let x174 := l3 + 1
        gd (inB x174 L) <|
        let x176 := l3 + 2
        gd (inB x176 L) <|
        let x178 := l3 + 3
        gd (inB x178 L) <|
        let x180 := l3 + 4
        gd (inB x180 L) <|
        bd (fX7_behind (xs (x174 : Int32).toNatClampNeg) (xs (x176 : Int32).toNatClampNeg) (xs (x178 : Int32).toNatClampNeg) (xs (x180 : Int32).toNatClampNeg) S171) fun r182 S183 =>
        if (r170 : Int32) = r182 then (
          FL_law_1143 L xs (fun l3_ S_ => FL_law_18 L xs n l3_ S_) l3 S183
        ) else (
          some (0, S183)
        )
      ) else (
      if (x3 : Int32) = 12 then (
        let x188 := l3 + 1
        gd (inB x188 L) <|
        let x190 := l3 + 2
        gd (inB x190 L) <|
        bd (fX6_up (xs (x188 : Int32).toNatClampNeg) (xs (x190 : Int32).toNatClampNeg) S) fun r192 S193 =>
        let x196 := l3 + 1
        gd (inB x196 L) <|
        let x198 := l3 + 2
        gd (inB x198 L) <|
        bd (fX7_up (xs (x196 : Int32).toNatClampNeg) (xs (x198 : Int32).toNatClampNeg) S193) fun r200 S201 =>
        if (r192 : Int32) = r200 then (
          FL_law_1143 L xs (fun l3_ S_ => FL_law_18 L xs n l3_ S_) l3 S201
        ) else (
          some (0, S201)
        )
      ) else (
      if (x3 : Int32) = 13 then (
        let x206 := l3 + 1
        gd (inB x206 L) <|
        let x208 := l3 + 2
        gd (inB x208 L) <|
        let x210 := l3 + 3
        gd (inB x210 L) <|
        let x212 := l3 + 4
        gd (inB x212 L) <|
        if ((xs (x212 : Int32).toNatClampNeg) : Int32) = 0 then (
          FL_law_662 L xs (fun l3_ S_ => FL_law_18 L xs n l3_ S_) l3 0 (xs (x210 : Int32).toNatClampNeg) (xs (x208 : Int32).toNatClampNeg) (xs (x206 : Int32).toNatClampNeg) S
        ) else (
          FL_law_662 L xs (fun l3_ S_ => FL_law_18 L xs n l3_ S_) l3 1 (xs (x210 : Int32).toNatClampNeg) (xs (x208 : Int32).toNatClampNeg) (xs (x206 : Int32).toNatClampNeg) S
        )
      ) else (
      if (x3 : Int32) = 14 then (
        let x216 := l3 + 1
        gd (inB x216 L) <|
        bd (fX6_master (xs (x216 : Int32).toNatClampNeg) S) fun r218 S219 =>
        let x222 := l3 + 1
        gd (inB x222 L) <|
        bd (fX7_master (xs (x222 : Int32).toNatClampNeg) S219) fun r224 S225 =>
        if (r218 : Int32) = r224 then (
          FL_law_1143 L xs (fun l3_ S_ => FL_law_18 L xs n l3_ S_) l3 S225
        ) else (
          some (0, S225)
        )
      ) else (
      if (x3 : Int32) = 15 then (
        let x230 := l3 + 1
        gd (inB x230 L) <|
        bd (fX6_summer (xs (x230 : Int32).toNatClampNeg) S) fun r232 S233 =>
        let x236 := l3 + 1
        gd (inB x236 L) <|
        bd (fX7_summer (xs (x236 : Int32).toNatClampNeg) S233) fun r238 S239 =>
        if (r232 : Int32) = r238 then (
          FL_law_1143 L xs (fun l3_ S_ => FL_law_18 L xs n l3_ S_) l3 S239
        ) else (
          some (0, S239)
        )
      ) else (
      if (x3 : Int32) = 16 then (
        let x244 := l3 + 1
        gd (inB x244 L) <|
        let x246 := l3 + 2
        gd (inB x246 L) <|
        bd (fX6_hours (xs (x244 : Int32).toNatClampNeg) (xs (x246 : Int32).toNatClampNeg) S) fun r248 S249 =>
        let x252 := l3 + 1
        gd (inB x252 L) <|
        let x254 := l3 + 2
        gd (inB x254 L) <|
        bd (fX7_hours (xs (x252 : Int32).toNatClampNeg) (xs (x254 : Int32).toNatClampNeg) S249) fun r256 S257 =>
        if (r248 : Int32) = r256 then (
          FL_law_1143 L xs (fun l3_ S_ => FL_law_18 L xs n l3_ S_) l3 S257
        ) else (
          some (0, S257)
        )
      ) else (
      if (x3 : Int32) = 17 then (
        let x262 := l3 + 1
        gd (inB x262 L) <|
        bd (fX6_fewest (xs (x262 : Int32).toNatClampNeg) S) fun r264 S265 =>
        let x268 := l3 + 1
        gd (inB x268 L) <|
        bd (fX7_fewest (xs (x268 : Int32).toNatClampNeg) S265) fun r270 S271 =>
        if (r264 : Int32) = r270 then (
          FL_law_1143 L xs (fun l3_ S_ => FL_law_18 L xs n l3_ S_) l3 S271
        ) else (
          some (0, S271)
        )
      ) else (
      if (x3 : Int32) = 18 then (
        let x276 := l3 + 1
        gd (inB x276 L) <|
        let x278 := l3 + 2
        gd (inB x278 L) <|
        bd (fX6_row (xs (x276 : Int32).toNatClampNeg) (xs (x278 : Int32).toNatClampNeg) S) fun r280 S281 =>
        let x284 := l3 + 1
        gd (inB x284 L) <|
        let x286 := l3 + 2
        gd (inB x286 L) <|
        bd (fX7_row (xs (x284 : Int32).toNatClampNeg) (xs (x286 : Int32).toNatClampNeg) S281) fun r288 S289 =>
        if (r280 : Int32) = r288 then (
          FL_law_1143 L xs (fun l3_ S_ => FL_law_18 L xs n l3_ S_) l3 S289
        ) else (
          some (0, S289)
        )
      ) else (
      if (x3 : Int32) = 19 then (
        let x294 := l3 + 1
        gd (inB x294 L) <|
        bd (fX6_stuck (xs (x294 : Int32).toNatClampNeg) S) fun r296 S297 =>
        let x300 := l3 + 1
        gd (inB x300 L) <|
        bd (fX7_stuck (xs (x300 : Int32).toNatClampNeg) S297) fun r302 S303 =>
        if (r296 : Int32) = r302 then (
          FL_law_1143 L xs (fun l3_ S_ => FL_law_18 L xs n l3_ S_) l3 S303
        ) else (
          some (0, S303)
        )
      ) else (
      if (x3 : Int32) = 20 then (
        let x308 := l3 + 1
        gd (inB x308 L) <|
        bd (fX6_worth (xs (x308 : Int32).toNatClampNeg) S) fun r310 S311 =>
        let x314 := l3 + 1
        gd (inB x314 L) <|
        bd (fX7_worth (xs (x314 : Int32).toNatClampNeg) S311) fun r316 S317 =>
        if (r310 : Int32) = r316 then (
          FL_law_1143 L xs (fun l3_ S_ => FL_law_18 L xs n l3_ S_) l3 S317
        ) else (
          some (0, S317)
        )
      ) else (
      if (x3 : Int32) = 21 then (
        let x322 := l3 + 1
        gd (inB x322 L) <|
        bd (fX6_mastered (xs (x322 : Int32).toNatClampNeg) S) fun r324 S325 =>
        let x328 := l3 + 1
        gd (inB x328 L) <|
        bd (fX7_mastered (xs (x328 : Int32).toNatClampNeg) S325) fun r330 S331 =>
        if (r324 : Int32) = r330 then (
          FL_law_1143 L xs (fun l3_ S_ => FL_law_18 L xs n l3_ S_) l3 S331
        ) else (
          some (0, S331)
        )
      ) else (
      if (x3 : Int32) = 22 then (
        let x336 := l3 + 1
        gd (inB x336 L) <|
        let x338 := l3 + 2
        gd (inB x338 L) <|
        let x340 := l3 + 3
        gd (inB x340 L) <|
        let x342 := l3 + 4
        gd (inB x342 L) <|
        bd (fX6_pays (xs (x336 : Int32).toNatClampNeg) (xs (x338 : Int32).toNatClampNeg) (xs (x340 : Int32).toNatClampNeg) (xs (x342 : Int32).toNatClampNeg) S) fun r344 S345 =>
        let x348 := l3 + 1
        gd (inB x348 L) <|
        let x350 := l3 + 2
        gd (inB x350 L) <|
        let x352 := l3 + 3
        gd (inB x352 L) <|
        let x354 := l3 + 4
        gd (inB x354 L) <|
        bd (fX7_pays (xs (x348 : Int32).toNatClampNeg) (xs (x350 : Int32).toNatClampNeg) (xs (x352 : Int32).toNatClampNeg) (xs (x354 : Int32).toNatClampNeg) S345) fun r356 S357 =>
        if (r344 : Int32) = r356 then (
          FL_law_1143 L xs (fun l3_ S_ => FL_law_18 L xs n l3_ S_) l3 S357
        ) else (
          some (0, S357)
        )
      ) else (
      if (x3 : Int32) = 23 then (
        let x362 := l3 + 1
        gd (inB x362 L) <|
        bd (fX6_order (xs (x362 : Int32).toNatClampNeg) S) fun r364 S365 =>
        let x368 := l3 + 1
        gd (inB x368 L) <|
        bd (fX7_order (xs (x368 : Int32).toNatClampNeg) S365) fun r370 S371 =>
        if (r364 : Int32) = r370 then (
          FL_law_1143 L xs (fun l3_ S_ => FL_law_18 L xs n l3_ S_) l3 S371
        ) else (
          some (0, S371)
        )
      ) else (
      if (x3 : Int32) = 24 then (
        let x376 := l3 + 1
        gd (inB x376 L) <|
        let x378 := l3 + 2
        gd (inB x378 L) <|
        bd (fX6_classes (xs (x376 : Int32).toNatClampNeg) (xs (x378 : Int32).toNatClampNeg) S) fun r380 S381 =>
        let x384 := l3 + 1
        gd (inB x384 L) <|
        let x386 := l3 + 2
        gd (inB x386 L) <|
        bd (fX7_classes (xs (x384 : Int32).toNatClampNeg) (xs (x386 : Int32).toNatClampNeg) S381) fun r388 S389 =>
        if (r380 : Int32) = r388 then (
          FL_law_1143 L xs (fun l3_ S_ => FL_law_18 L xs n l3_ S_) l3 S389
        ) else (
          some (0, S389)
        )
      ) else (
      if (x3 : Int32) = 25 then (
        let x394 := l3 + 1
        gd (inB x394 L) <|
        let x396 := l3 + 2
        gd (inB x396 L) <|
        bd (fX6_log (xs (x394 : Int32).toNatClampNeg) (xs (x396 : Int32).toNatClampNeg) S) fun r398 S399 =>
        let x402 := l3 + 1
        gd (inB x402 L) <|
        let x404 := l3 + 2
        gd (inB x404 L) <|
        bd (fX7_log (xs (x402 : Int32).toNatClampNeg) (xs (x404 : Int32).toNatClampNeg) S399) fun r406 S407 =>
        if (r398 : Int32) = r406 then (
          FL_law_1143 L xs (fun l3_ S_ => FL_law_18 L xs n l3_ S_) l3 S407
        ) else (
          some (0, S407)
        )
      ) else (
      if (x3 : Int32) = 26 then (
        bd (fX6_clear S) fun r412 S413 =>
        bd (fX7_clear S413) fun r416 S417 =>
        if (r412 : Int32) = r416 then (
          FL_law_1143 L xs (fun l3_ S_ => FL_law_18 L xs n l3_ S_) l3 S417
        ) else (
          some (0, S417)
        )
      ) else (
      if (x3 : Int32) = 27 then (
        bd (fX6_judge S) fun r422 S423 =>
        bd (fX7_judge S423) fun r426 S427 =>
        if (r422 : Int32) = r426 then (
          FL_law_1143 L xs (fun l3_ S_ => FL_law_18 L xs n l3_ S_) l3 S427
        ) else (
          some (0, S427)
        )
      ) else (
      if (x3 : Int32) = 28 then (
        let x432 := l3 + 1
        gd (inB x432 L) <|
        bd (fX6_seed (xs (x432 : Int32).toNatClampNeg) S) fun r434 S435 =>
        let x438 := l3 + 1
        gd (inB x438 L) <|
        bd (fX7_seed (xs (x438 : Int32).toNatClampNeg) S435) fun r440 S441 =>
        if (r434 : Int32) = r440 then (
          FL_law_1143 L xs (fun l3_ S_ => FL_law_18 L xs n l3_ S_) l3 S441
        ) else (
          some (0, S441)
        )
      ) else (
      if (x3 : Int32) = 29 then (
        let x446 := l3 + 1
        gd (inB x446 L) <|
        bd (fX6_keep (xs (x446 : Int32).toNatClampNeg) S) fun r448 S449 =>
        let x452 := l3 + 1
        gd (inB x452 L) <|
        bd (fX7_keep (xs (x452 : Int32).toNatClampNeg) S449) fun r454 S455 =>
        if (r448 : Int32) = r454 then (
          FL_law_1143 L xs (fun l3_ S_ => FL_law_18 L xs n l3_ S_) l3 S455
        ) else (
          some (0, S455)
        )
      ) else (
      if (x3 : Int32) = 30 then (
        let x460 := l3 + 1
        gd (inB x460 L) <|
        bd (fX6_goBack (xs (x460 : Int32).toNatClampNeg) S) fun r462 S463 =>
        let x466 := l3 + 1
        gd (inB x466 L) <|
        bd (fX7_goBack (xs (x466 : Int32).toNatClampNeg) S463) fun r468 S469 =>
        if (r462 : Int32) = r468 then (
          FL_law_1143 L xs (fun l3_ S_ => FL_law_18 L xs n l3_ S_) l3 S469
        ) else (
          some (0, S469)
        )
      ) else (
        FL_law_1143 L xs (fun l3_ S_ => FL_law_18 L xs n l3_ S_) l3 S
      )))))))))))))))))))))))))))))))
    )
set_option maxRecDepth 10000 in
set_option maxHeartbeats 4000000 in
theorem pL_law_1143 {X : VX} {G : VG} {q : Int32 × St} {Q : State → Prop} {b L : Nat} {xs : Nat → Int32} (hX : Fx X G cL_law 4 RL 72) (hr : LR X G q Q b L xs) {k18 : Int32 → St → Option (Int32 × St)} (hk18 : ∀ {l3 : Int32} {S : St}, k18 l3 S = some q → V X G 4 Q 18 [some (.ref b), some (.ref (G.2.1 0)), some (.ref (G.2.1 44)), some (.int l3)] [] S) {l3 : Int32} {S : St} (h : FL_law_1143 L xs k18 l3 S = some q) : V X G 4 Q 1143 [some (.ref b), some (.ref (G.2.1 0)), some (.ref (G.2.1 44)), some (.int l3)] [] S := by
  unfold FL_law_1143 at h
  refine v_iinc hX eL_law_1143 rfl (congrArg (_ + ·) ic_5) (Nat.le_of_ble_eq_true rfl) rfl (lv' := [some _, some _, some _, some _]) rfl ?_
  refine v_goto hX eL_law_1146 rfl ?_
  exact hk18 h
set_option maxRecDepth 10000 in
set_option maxHeartbeats 4000000 in
theorem pL_law_496 {X : VX} {G : VG} {q : Int32 × St} {Q : State → Prop} {b L : Nat} {xs : Nat → Int32} (hX : Fx X G cL_law 4 RL 72) (hr : LR X G q Q b L xs) {k18 : Int32 → St → Option (Int32 × St)} (hk18 : ∀ {l3 : Int32} {S : St}, k18 l3 S = some q → V X G 4 Q 18 [some (.ref b), some (.ref (G.2.1 0)), some (.ref (G.2.1 44)), some (.int l3)] [] S) {l3 : Int32} {s0 : Int32} {s1 : Int32} {s2 : Int32} {s4 : Int32} {S : St} (h : FL_law_496 L xs k18 l3 s0 s1 s2 s4 S = some q) : V X G 4 Q 496 [some (.ref b), some (.ref (G.2.1 0)), some (.ref (G.2.1 44)), some (.int l3)] [.int s0, .int s1, .int s2, .ref (G.2.1 44), .int s4] S := by
  unfold FL_law_496 at h
  obtain ⟨q505, hq506, h⟩ := bd_e h
  refine v_cvI hX eL_law_496 cw_L_60 (mX7_lesson hq506) (Nat.le_of_ble_eq_true rfl) oc_44 (As := [_, _, _]) rfl rfl (Nat.le_of_ble_eq_true rfl) ?_
  refine v_icmp_eq hX eL_law_499 rfl (fun c507 => ?_) (fun c507 => ?_)
  · have h := it_t c507 h
    exact pL_law_1143 hX hr hk18 h
  · have h := it_f c507 h
    refine v_iconst hX eL_law_502 ic_0 ?_
    exact v_lwret hr eL_law_503 h
set_option maxRecDepth 10000 in
set_option maxHeartbeats 4000000 in
theorem pL_law_469 {X : VX} {G : VG} {q : Int32 × St} {Q : State → Prop} {b L : Nat} {xs : Nat → Int32} (hX : Fx X G cL_law 4 RL 72) (hr : LR X G q Q b L xs) {k18 : Int32 → St → Option (Int32 × St)} (hk18 : ∀ {l3 : Int32} {S : St}, k18 l3 S = some q → V X G 4 Q 18 [some (.ref b), some (.ref (G.2.1 0)), some (.ref (G.2.1 44)), some (.int l3)] [] S) {l3 : Int32} {s0 : Int32} {s1 : Int32} {s2 : Int32} {S : St} (h : FL_law_469 L xs k18 l3 s0 s1 s2 S = some q) : V X G 4 Q 469 [some (.ref b), some (.ref (G.2.1 0)), some (.ref (G.2.1 44)), some (.int l3)] [.int s0, .int s1, .int s2, .ref (G.2.1 0)] S := by
  unfold FL_law_469 at h
  obtain ⟨q494, hq495, h⟩ := bd_e h
  refine v_cvI hX eL_law_469 cw_L_56 (mX6_lesson hq495) (Nat.le_of_ble_eq_true rfl) oc_0 (As := [_, _, _]) rfl rfl (Nat.le_of_ble_eq_true rfl) ?_
  refine v_aload_n hX eL_law_472 rfl ?_
  refine v_aload_n hX eL_law_473 rfl ?_
  refine v_iload_n hX eL_law_474 rfl ?_
  refine v_iconst hX eL_law_475 ic_1 ?_
  refine v_iadd hX eL_law_476 ?_
  obtain ⟨g497, h⟩ := gd_e h
  refine v_sld hX hr.2.2 eL_law_477 g497 ?_
  refine v_aload_n hX eL_law_478 rfl ?_
  refine v_iload_n hX eL_law_479 rfl ?_
  refine v_iconst hX eL_law_480 ic_2 ?_
  refine v_iadd hX eL_law_481 ?_
  obtain ⟨g499, h⟩ := gd_e h
  refine v_sld hX hr.2.2 eL_law_482 g499 ?_
  refine v_aload_n hX eL_law_483 rfl ?_
  refine v_iload_n hX eL_law_484 rfl ?_
  refine v_iconst hX eL_law_485 ic_3 ?_
  refine v_iadd hX eL_law_486 ?_
  obtain ⟨g501, h⟩ := gd_e h
  refine v_sld hX hr.2.2 eL_law_487 g501 ?_
  refine v_if_eq hX eL_law_488 rfl (fun c502 => ?_) (fun c502 => ?_)
  · have h := it_t c502 h
    refine v_iconst hX eL_law_495 ic_0 ?_
    exact pL_law_496 hX hr hk18 h
  · have h := it_f c502 h
    refine v_iconst hX eL_law_491 ic_1 ?_
    refine v_goto hX eL_law_492 rfl ?_
    exact pL_law_496 hX hr hk18 h
set_option maxRecDepth 10000 in
set_option maxHeartbeats 4000000 in
theorem pL_law_694 {X : VX} {G : VG} {q : Int32 × St} {Q : State → Prop} {b L : Nat} {xs : Nat → Int32} (hX : Fx X G cL_law 4 RL 72) (hr : LR X G q Q b L xs) {k18 : Int32 → St → Option (Int32 × St)} (hk18 : ∀ {l3 : Int32} {S : St}, k18 l3 S = some q → V X G 4 Q 18 [some (.ref b), some (.ref (G.2.1 0)), some (.ref (G.2.1 44)), some (.int l3)] [] S) {l3 : Int32} {s0 : Int32} {s1 : Int32} {s2 : Int32} {s3 : Int32} {s5 : Int32} {S : St} (h : FL_law_694 L xs k18 l3 s0 s1 s2 s3 s5 S = some q) : V X G 4 Q 694 [some (.ref b), some (.ref (G.2.1 0)), some (.ref (G.2.1 44)), some (.int l3)] [.int s0, .int s1, .int s2, .int s3, .ref (G.2.1 44), .int s5] S := by
  unfold FL_law_694 at h
  obtain ⟨q489, hq490, h⟩ := bd_e h
  refine v_cvI hX eL_law_694 cw_L_79 (mX7_run hq490) (Nat.le_of_ble_eq_true rfl) oc_44 (As := [_, _, _, _]) rfl rfl (Nat.le_of_ble_eq_true rfl) ?_
  refine v_icmp_eq hX eL_law_697 rfl (fun c491 => ?_) (fun c491 => ?_)
  · have h := it_t c491 h
    exact pL_law_1143 hX hr hk18 h
  · have h := it_f c491 h
    refine v_iconst hX eL_law_700 ic_0 ?_
    exact v_lwret hr eL_law_701 h
set_option maxRecDepth 10000 in
set_option maxHeartbeats 4000000 in
theorem pL_law_662 {X : VX} {G : VG} {q : Int32 × St} {Q : State → Prop} {b L : Nat} {xs : Nat → Int32} (hX : Fx X G cL_law 4 RL 72) (hr : LR X G q Q b L xs) {k18 : Int32 → St → Option (Int32 × St)} (hk18 : ∀ {l3 : Int32} {S : St}, k18 l3 S = some q → V X G 4 Q 18 [some (.ref b), some (.ref (G.2.1 0)), some (.ref (G.2.1 44)), some (.int l3)] [] S) {l3 : Int32} {s0 : Int32} {s1 : Int32} {s2 : Int32} {s3 : Int32} {S : St} (h : FL_law_662 L xs k18 l3 s0 s1 s2 s3 S = some q) : V X G 4 Q 662 [some (.ref b), some (.ref (G.2.1 0)), some (.ref (G.2.1 44)), some (.int l3)] [.int s0, .int s1, .int s2, .int s3, .ref (G.2.1 0)] S := by
  unfold FL_law_662 at h
  obtain ⟨q476, hq477, h⟩ := bd_e h
  refine v_cvI hX eL_law_662 cw_L_75 (mX6_run hq477) (Nat.le_of_ble_eq_true rfl) oc_0 (As := [_, _, _, _]) rfl rfl (Nat.le_of_ble_eq_true rfl) ?_
  refine v_aload_n hX eL_law_665 rfl ?_
  refine v_aload_n hX eL_law_666 rfl ?_
  refine v_iload_n hX eL_law_667 rfl ?_
  refine v_iconst hX eL_law_668 ic_1 ?_
  refine v_iadd hX eL_law_669 ?_
  obtain ⟨g479, h⟩ := gd_e h
  refine v_sld hX hr.2.2 eL_law_670 g479 ?_
  refine v_aload_n hX eL_law_671 rfl ?_
  refine v_iload_n hX eL_law_672 rfl ?_
  refine v_iconst hX eL_law_673 ic_2 ?_
  refine v_iadd hX eL_law_674 ?_
  obtain ⟨g481, h⟩ := gd_e h
  refine v_sld hX hr.2.2 eL_law_675 g481 ?_
  refine v_aload_n hX eL_law_676 rfl ?_
  refine v_iload_n hX eL_law_677 rfl ?_
  refine v_iconst hX eL_law_678 ic_3 ?_
  refine v_iadd hX eL_law_679 ?_
  obtain ⟨g483, h⟩ := gd_e h
  refine v_sld hX hr.2.2 eL_law_680 g483 ?_
  refine v_aload_n hX eL_law_681 rfl ?_
  refine v_iload_n hX eL_law_682 rfl ?_
  refine v_iconst hX eL_law_683 ic_4 ?_
  refine v_iadd hX eL_law_684 ?_
  obtain ⟨g485, h⟩ := gd_e h
  refine v_sld hX hr.2.2 eL_law_685 g485 ?_
  refine v_if_eq hX eL_law_686 rfl (fun c486 => ?_) (fun c486 => ?_)
  · have h := it_t c486 h
    refine v_iconst hX eL_law_693 ic_0 ?_
    exact pL_law_694 hX hr hk18 h
  · have h := it_f c486 h
    refine v_iconst hX eL_law_689 ic_1 ?_
    refine v_goto hX eL_law_690 rfl ?_
    exact pL_law_694 hX hr hk18 h
set_option maxRecDepth 10000 in
set_option maxHeartbeats 4000000 in
theorem pL_law_437 {X : VX} {G : VG} {q : Int32 × St} {Q : State → Prop} {b L : Nat} {xs : Nat → Int32} (hX : Fx X G cL_law 4 RL 72) (hr : LR X G q Q b L xs) {k18 : Int32 → St → Option (Int32 × St)} (hk18 : ∀ {l3 : Int32} {S : St}, k18 l3 S = some q → V X G 4 Q 18 [some (.ref b), some (.ref (G.2.1 0)), some (.ref (G.2.1 44)), some (.int l3)] [] S) {l3 : Int32} {s0 : Int32} {s2 : Int32} {S : St} (h : FL_law_437 L xs k18 l3 s0 s2 S = some q) : V X G 4 Q 437 [some (.ref b), some (.ref (G.2.1 0)), some (.ref (G.2.1 44)), some (.int l3)] [.int s0, .ref (G.2.1 44), .int s2] S := by
  unfold FL_law_437 at h
  obtain ⟨q517, hq518, h⟩ := bd_e h
  refine v_cvI hX eL_law_437 cw_L_55 (mX7_guest hq518) (Nat.le_of_ble_eq_true rfl) oc_44 (As := [_]) rfl rfl (Nat.le_of_ble_eq_true rfl) ?_
  refine v_icmp_eq hX eL_law_440 rfl (fun c519 => ?_) (fun c519 => ?_)
  · have h := it_t c519 h
    exact pL_law_1143 hX hr hk18 h
  · have h := it_f c519 h
    refine v_iconst hX eL_law_443 ic_0 ?_
    exact v_lwret hr eL_law_444 h
set_option maxRecDepth 10000 in
set_option maxHeartbeats 4000000 in
theorem pL_law_420 {X : VX} {G : VG} {q : Int32 × St} {Q : State → Prop} {b L : Nat} {xs : Nat → Int32} (hX : Fx X G cL_law 4 RL 72) (hr : LR X G q Q b L xs) {k18 : Int32 → St → Option (Int32 × St)} (hk18 : ∀ {l3 : Int32} {S : St}, k18 l3 S = some q → V X G 4 Q 18 [some (.ref b), some (.ref (G.2.1 0)), some (.ref (G.2.1 44)), some (.int l3)] [] S) {l3 : Int32} {s0 : Int32} {S : St} (h : FL_law_420 L xs k18 l3 s0 S = some q) : V X G 4 Q 420 [some (.ref b), some (.ref (G.2.1 0)), some (.ref (G.2.1 44)), some (.int l3)] [.int s0, .ref (G.2.1 0)] S := by
  unfold FL_law_420 at h
  obtain ⟨q510, hq511, h⟩ := bd_e h
  refine v_cvI hX eL_law_420 cw_L_51 (mX6_guest hq511) (Nat.le_of_ble_eq_true rfl) oc_0 (As := [_]) rfl rfl (Nat.le_of_ble_eq_true rfl) ?_
  refine v_aload_n hX eL_law_423 rfl ?_
  refine v_aload_n hX eL_law_424 rfl ?_
  refine v_iload_n hX eL_law_425 rfl ?_
  refine v_iconst hX eL_law_426 ic_1 ?_
  refine v_iadd hX eL_law_427 ?_
  obtain ⟨g513, h⟩ := gd_e h
  refine v_sld hX hr.2.2 eL_law_428 g513 ?_
  refine v_if_eq hX eL_law_429 rfl (fun c514 => ?_) (fun c514 => ?_)
  · have h := it_t c514 h
    refine v_iconst hX eL_law_436 ic_0 ?_
    exact pL_law_437 hX hr hk18 h
  · have h := it_f c514 h
    refine v_iconst hX eL_law_432 ic_1 ?_
    refine v_goto hX eL_law_433 rfl ?_
    exact pL_law_437 hX hr hk18 h
set_option maxRecDepth 10000 in
set_option maxHeartbeats 4000000 in
theorem pL_law_18 {X : VX} {G : VG} {q : Int32 × St} {Q : State → Prop} {b L : Nat} {xs : Nat → Int32} (hX : Fx X G cL_law 4 RL 72) (hr : LR X G q Q b L xs) : ∀ (n : Nat) {l3 : Int32} {S : St}, FL_law_18 L xs n l3 S = some q → V X G 4 Q 18 [some (.ref b), some (.ref (G.2.1 0)), some (.ref (G.2.1 44)), some (.int l3)] [] S := by
  intro n
  induction n with
  | zero => intro _ _  h; cases h
  | succ n ih =>
    intro l3 S  h
    rw [FL_law_18] at h
    refine v_iload_n hX eL_law_18 rfl ?_
    refine v_aload_n hX eL_law_19 rfl ?_
    refine v_slenX hX hr.2.2 eL_law_20 ?_
    refine v_iconst hX eL_law_21 ic_5 ?_
    refine v_isub hX eL_law_22 ?_
    refine v_icmp_gt hX eL_law_23 rfl (fun c1 => ?_) (fun c1 => ?_)
    · have h := it_t c1 h
      refine v_iconst hX eL_law_1149 ic_1 ?_
      exact v_lwret hr eL_law_1150 h
    · have h := it_f c1 h
      refine v_aload_n hX eL_law_26 rfl ?_
      refine v_iload_n hX eL_law_27 rfl ?_
      obtain ⟨g2, h⟩ := gd_e h
      refine v_sld hX hr.2.2 eL_law_28 g2 ?_
      refine v_bipush hX eL_law_29 bp_31 ?_
      refine v_iand hX eL_law_31 ?_
      refine cs_e h (fun c25 h => ?_) (fun c25 h => ?_)
      · refine v_tabIn hX eL_law_32 (by rw [c25]; decide) (by rw [c25]; decide) (by rw [c25]; rfl) rfl ?_
        refine v_aload_n hX eL_law_172 rfl ?_
        refine v_aload_n hX eL_law_173 rfl ?_
        refine v_iload_n hX eL_law_174 rfl ?_
        refine v_iconst hX eL_law_175 ic_1 ?_
        refine v_iadd hX eL_law_176 ?_
        obtain ⟨g5, h⟩ := gd_e h
        refine v_sld hX hr.2.2 eL_law_177 g5 ?_
        refine v_aload_n hX eL_law_178 rfl ?_
        refine v_iload_n hX eL_law_179 rfl ?_
        refine v_iconst hX eL_law_180 ic_2 ?_
        refine v_iadd hX eL_law_181 ?_
        obtain ⟨g7, h⟩ := gd_e h
        refine v_sld hX hr.2.2 eL_law_182 g7 ?_
        refine v_i2l hX eL_law_183 ?_
        refine v_bipush hX eL_law_184 bp_32 ?_
        refine v_lshl hX eL_law_186 ?_
        refine v_aload_n hX eL_law_187 rfl ?_
        refine v_iload_n hX eL_law_188 rfl ?_
        refine v_iconst hX eL_law_189 ic_3 ?_
        refine v_iadd hX eL_law_190 ?_
        obtain ⟨g9, h⟩ := gd_e h
        refine v_sld hX hr.2.2 eL_law_191 g9 ?_
        refine v_i2l hX eL_law_192 ?_
        refine v_ldc2 hX eL_law_193 ql_L_13 ?_
        refine v_land hX eL_law_196 ?_
        refine v_lor hX eL_law_197 ?_
        obtain ⟨q12, hq13, h⟩ := bd_e h
        refine v_cvI hX eL_law_198 cw_L_15 (mX6_feed hq13) (Nat.le_of_ble_eq_true rfl) oc_0 (As := [_, _]) rfl rfl (Nat.le_of_ble_eq_true rfl) ?_
        refine v_aload_n hX eL_law_201 rfl ?_
        refine v_aload_n hX eL_law_202 rfl ?_
        refine v_iload_n hX eL_law_203 rfl ?_
        refine v_iconst hX eL_law_204 ic_1 ?_
        refine v_iadd hX eL_law_205 ?_
        obtain ⟨g15, h⟩ := gd_e h
        refine v_sld hX hr.2.2 eL_law_206 g15 ?_
        refine v_aload_n hX eL_law_207 rfl ?_
        refine v_iload_n hX eL_law_208 rfl ?_
        refine v_iconst hX eL_law_209 ic_2 ?_
        refine v_iadd hX eL_law_210 ?_
        obtain ⟨g17, h⟩ := gd_e h
        refine v_sld hX hr.2.2 eL_law_211 g17 ?_
        refine v_i2l hX eL_law_212 ?_
        refine v_bipush hX eL_law_213 bp_32 ?_
        refine v_lshl hX eL_law_215 ?_
        refine v_aload_n hX eL_law_216 rfl ?_
        refine v_iload_n hX eL_law_217 rfl ?_
        refine v_iconst hX eL_law_218 ic_3 ?_
        refine v_iadd hX eL_law_219 ?_
        obtain ⟨g19, h⟩ := gd_e h
        refine v_sld hX hr.2.2 eL_law_220 g19 ?_
        refine v_i2l hX eL_law_221 ?_
        refine v_ldc2 hX eL_law_222 ql_L_13 ?_
        refine v_land hX eL_law_225 ?_
        refine v_lor hX eL_law_226 ?_
        obtain ⟨q22, hq23, h⟩ := bd_e h
        refine v_cvI hX eL_law_227 cw_L_19 (mX7_feed hq23) (Nat.le_of_ble_eq_true rfl) oc_44 (As := [_, _]) rfl rfl (Nat.le_of_ble_eq_true rfl) ?_
        refine v_icmp_eq hX eL_law_230 rfl (fun c24 => ?_) (fun c24 => ?_)
        · have h := it_t c24 h
          exact pL_law_1143 hX hr (fun h => ih h) h
        · have h := it_f c24 h
          refine v_iconst hX eL_law_233 ic_0 ?_
          exact v_lwret hr eL_law_234 h
      refine cs_e h (fun c35 h => ?_) (fun c35 h => ?_)
      · refine v_tabIn hX eL_law_32 (by rw [c35]; decide) (by rw [c35]; decide) (by rw [c35]; rfl) rfl ?_
        refine v_aload_n hX eL_law_235 rfl ?_
        obtain ⟨q28, hq29, h⟩ := bd_e h
        refine v_cvI hX eL_law_236 cw_L_20 (mX6_school hq29) (Nat.le_of_ble_eq_true rfl) oc_0 (As := []) rfl rfl (Nat.le_of_ble_eq_true rfl) ?_
        refine v_aload_n hX eL_law_239 rfl ?_
        obtain ⟨q32, hq33, h⟩ := bd_e h
        refine v_cvI hX eL_law_240 cw_L_24 (mX7_school hq33) (Nat.le_of_ble_eq_true rfl) oc_44 (As := []) rfl rfl (Nat.le_of_ble_eq_true rfl) ?_
        refine v_icmp_eq hX eL_law_243 rfl (fun c34 => ?_) (fun c34 => ?_)
        · have h := it_t c34 h
          exact pL_law_1143 hX hr (fun h => ih h) h
        · have h := it_f c34 h
          refine v_iconst hX eL_law_246 ic_0 ?_
          exact v_lwret hr eL_law_247 h
      refine cs_e h (fun c45 h => ?_) (fun c45 h => ?_)
      · refine v_tabIn hX eL_law_32 (by rw [c45]; decide) (by rw [c45]; decide) (by rw [c45]; rfl) rfl ?_
        refine v_aload_n hX eL_law_248 rfl ?_
        obtain ⟨q38, hq39, h⟩ := bd_e h
        refine v_cvI hX eL_law_249 cw_L_25 (mX6_fault hq39) (Nat.le_of_ble_eq_true rfl) oc_0 (As := []) rfl rfl (Nat.le_of_ble_eq_true rfl) ?_
        refine v_aload_n hX eL_law_252 rfl ?_
        obtain ⟨q42, hq43, h⟩ := bd_e h
        refine v_cvI hX eL_law_253 cw_L_28 (mX7_fault hq43) (Nat.le_of_ble_eq_true rfl) oc_44 (As := []) rfl rfl (Nat.le_of_ble_eq_true rfl) ?_
        refine v_icmp_eq hX eL_law_256 rfl (fun c44 => ?_) (fun c44 => ?_)
        · have h := it_t c44 h
          exact pL_law_1143 hX hr (fun h => ih h) h
        · have h := it_f c44 h
          refine v_iconst hX eL_law_259 ic_0 ?_
          exact v_lwret hr eL_law_260 h
      refine cs_e h (fun c59 h => ?_) (fun c59 h => ?_)
      · refine v_tabIn hX eL_law_32 (by rw [c59]; decide) (by rw [c59]; decide) (by rw [c59]; rfl) rfl ?_
        refine v_aload_n hX eL_law_261 rfl ?_
        refine v_aload_n hX eL_law_262 rfl ?_
        refine v_iload_n hX eL_law_263 rfl ?_
        refine v_iconst hX eL_law_264 ic_1 ?_
        refine v_iadd hX eL_law_265 ?_
        obtain ⟨g47, h⟩ := gd_e h
        refine v_sld hX hr.2.2 eL_law_266 g47 ?_
        obtain ⟨q50, hq51, h⟩ := bd_e h
        refine v_cvI hX eL_law_267 cw_L_29 (mX6_count hq51) (Nat.le_of_ble_eq_true rfl) oc_0 (As := [_]) rfl rfl (Nat.le_of_ble_eq_true rfl) ?_
        refine v_aload_n hX eL_law_270 rfl ?_
        refine v_aload_n hX eL_law_271 rfl ?_
        refine v_iload_n hX eL_law_272 rfl ?_
        refine v_iconst hX eL_law_273 ic_1 ?_
        refine v_iadd hX eL_law_274 ?_
        obtain ⟨g53, h⟩ := gd_e h
        refine v_sld hX hr.2.2 eL_law_275 g53 ?_
        obtain ⟨q56, hq57, h⟩ := bd_e h
        refine v_cvI hX eL_law_276 cw_L_33 (mX7_count hq57) (Nat.le_of_ble_eq_true rfl) oc_44 (As := [_]) rfl rfl (Nat.le_of_ble_eq_true rfl) ?_
        refine v_icmp_eq hX eL_law_279 rfl (fun c58 => ?_) (fun c58 => ?_)
        · have h := it_t c58 h
          exact pL_law_1143 hX hr (fun h => ih h) h
        · have h := it_f c58 h
          refine v_iconst hX eL_law_282 ic_0 ?_
          exact v_lwret hr eL_law_283 h
      refine cs_e h (fun c77 h => ?_) (fun c77 h => ?_)
      · refine v_tabIn hX eL_law_32 (by rw [c77]; decide) (by rw [c77]; decide) (by rw [c77]; rfl) rfl ?_
        refine v_aload_n hX eL_law_284 rfl ?_
        refine v_aload_n hX eL_law_285 rfl ?_
        refine v_iload_n hX eL_law_286 rfl ?_
        refine v_iconst hX eL_law_287 ic_1 ?_
        refine v_iadd hX eL_law_288 ?_
        obtain ⟨g61, h⟩ := gd_e h
        refine v_sld hX hr.2.2 eL_law_289 g61 ?_
        refine v_aload_n hX eL_law_290 rfl ?_
        refine v_iload_n hX eL_law_291 rfl ?_
        refine v_iconst hX eL_law_292 ic_2 ?_
        refine v_iadd hX eL_law_293 ?_
        obtain ⟨g63, h⟩ := gd_e h
        refine v_sld hX hr.2.2 eL_law_294 g63 ?_
        obtain ⟨q66, hq67, h⟩ := bd_e h
        refine v_cvI hX eL_law_295 cw_L_34 (mX6_pupil hq67) (Nat.le_of_ble_eq_true rfl) oc_0 (As := [_, _]) rfl rfl (Nat.le_of_ble_eq_true rfl) ?_
        refine v_aload_n hX eL_law_298 rfl ?_
        refine v_aload_n hX eL_law_299 rfl ?_
        refine v_iload_n hX eL_law_300 rfl ?_
        refine v_iconst hX eL_law_301 ic_1 ?_
        refine v_iadd hX eL_law_302 ?_
        obtain ⟨g69, h⟩ := gd_e h
        refine v_sld hX hr.2.2 eL_law_303 g69 ?_
        refine v_aload_n hX eL_law_304 rfl ?_
        refine v_iload_n hX eL_law_305 rfl ?_
        refine v_iconst hX eL_law_306 ic_2 ?_
        refine v_iadd hX eL_law_307 ?_
        obtain ⟨g71, h⟩ := gd_e h
        refine v_sld hX hr.2.2 eL_law_308 g71 ?_
        obtain ⟨q74, hq75, h⟩ := bd_e h
        refine v_cvI hX eL_law_309 cw_L_38 (mX7_pupil hq75) (Nat.le_of_ble_eq_true rfl) oc_44 (As := [_, _]) rfl rfl (Nat.le_of_ble_eq_true rfl) ?_
        refine v_icmp_eq hX eL_law_312 rfl (fun c76 => ?_) (fun c76 => ?_)
        · have h := it_t c76 h
          exact pL_law_1143 hX hr (fun h => ih h) h
        · have h := it_f c76 h
          refine v_iconst hX eL_law_315 ic_0 ?_
          exact v_lwret hr eL_law_316 h
      refine cs_e h (fun c91 h => ?_) (fun c91 h => ?_)
      · refine v_tabIn hX eL_law_32 (by rw [c91]; decide) (by rw [c91]; decide) (by rw [c91]; rfl) rfl ?_
        refine v_aload_n hX eL_law_317 rfl ?_
        refine v_aload_n hX eL_law_318 rfl ?_
        refine v_iload_n hX eL_law_319 rfl ?_
        refine v_iconst hX eL_law_320 ic_1 ?_
        refine v_iadd hX eL_law_321 ?_
        obtain ⟨g79, h⟩ := gd_e h
        refine v_sld hX hr.2.2 eL_law_322 g79 ?_
        obtain ⟨q82, hq83, h⟩ := bd_e h
        refine v_cvI hX eL_law_323 cw_L_39 (mX6_leans hq83) (Nat.le_of_ble_eq_true rfl) oc_0 (As := [_]) rfl rfl (Nat.le_of_ble_eq_true rfl) ?_
        refine v_aload_n hX eL_law_326 rfl ?_
        refine v_aload_n hX eL_law_327 rfl ?_
        refine v_iload_n hX eL_law_328 rfl ?_
        refine v_iconst hX eL_law_329 ic_1 ?_
        refine v_iadd hX eL_law_330 ?_
        obtain ⟨g85, h⟩ := gd_e h
        refine v_sld hX hr.2.2 eL_law_331 g85 ?_
        obtain ⟨q88, hq89, h⟩ := bd_e h
        refine v_cvI hX eL_law_332 cw_L_42 (mX7_leans hq89) (Nat.le_of_ble_eq_true rfl) oc_44 (As := [_]) rfl rfl (Nat.le_of_ble_eq_true rfl) ?_
        refine v_icmp_eq hX eL_law_335 rfl (fun c90 => ?_) (fun c90 => ?_)
        · have h := it_t c90 h
          exact pL_law_1143 hX hr (fun h => ih h) h
        · have h := it_f c90 h
          refine v_iconst hX eL_law_338 ic_0 ?_
          exact v_lwret hr eL_law_339 h
      refine cs_e h (fun c109 h => ?_) (fun c109 h => ?_)
      · refine v_tabIn hX eL_law_32 (by rw [c109]; decide) (by rw [c109]; decide) (by rw [c109]; rfl) rfl ?_
        refine v_aload_n hX eL_law_340 rfl ?_
        refine v_aload_n hX eL_law_341 rfl ?_
        refine v_iload_n hX eL_law_342 rfl ?_
        refine v_iconst hX eL_law_343 ic_1 ?_
        refine v_iadd hX eL_law_344 ?_
        obtain ⟨g93, h⟩ := gd_e h
        refine v_sld hX hr.2.2 eL_law_345 g93 ?_
        refine v_aload_n hX eL_law_346 rfl ?_
        refine v_iload_n hX eL_law_347 rfl ?_
        refine v_iconst hX eL_law_348 ic_2 ?_
        refine v_iadd hX eL_law_349 ?_
        obtain ⟨g95, h⟩ := gd_e h
        refine v_sld hX hr.2.2 eL_law_350 g95 ?_
        obtain ⟨q98, hq99, h⟩ := bd_e h
        refine v_cvI hX eL_law_351 cw_L_43 (mX6_level hq99) (Nat.le_of_ble_eq_true rfl) oc_0 (As := [_, _]) rfl rfl (Nat.le_of_ble_eq_true rfl) ?_
        refine v_aload_n hX eL_law_354 rfl ?_
        refine v_aload_n hX eL_law_355 rfl ?_
        refine v_iload_n hX eL_law_356 rfl ?_
        refine v_iconst hX eL_law_357 ic_1 ?_
        refine v_iadd hX eL_law_358 ?_
        obtain ⟨g101, h⟩ := gd_e h
        refine v_sld hX hr.2.2 eL_law_359 g101 ?_
        refine v_aload_n hX eL_law_360 rfl ?_
        refine v_iload_n hX eL_law_361 rfl ?_
        refine v_iconst hX eL_law_362 ic_2 ?_
        refine v_iadd hX eL_law_363 ?_
        obtain ⟨g103, h⟩ := gd_e h
        refine v_sld hX hr.2.2 eL_law_364 g103 ?_
        obtain ⟨q106, hq107, h⟩ := bd_e h
        refine v_cvI hX eL_law_365 cw_L_46 (mX7_level hq107) (Nat.le_of_ble_eq_true rfl) oc_44 (As := [_, _]) rfl rfl (Nat.le_of_ble_eq_true rfl) ?_
        refine v_icmp_eq hX eL_law_368 rfl (fun c108 => ?_) (fun c108 => ?_)
        · have h := it_t c108 h
          exact pL_law_1143 hX hr (fun h => ih h) h
        · have h := it_f c108 h
          refine v_iconst hX eL_law_371 ic_0 ?_
          exact v_lwret hr eL_law_372 h
      refine cs_e h (fun c127 h => ?_) (fun c127 h => ?_)
      · refine v_tabIn hX eL_law_32 (by rw [c127]; decide) (by rw [c127]; decide) (by rw [c127]; rfl) rfl ?_
        refine v_aload_n hX eL_law_373 rfl ?_
        refine v_aload_n hX eL_law_374 rfl ?_
        refine v_iload_n hX eL_law_375 rfl ?_
        refine v_iconst hX eL_law_376 ic_1 ?_
        refine v_iadd hX eL_law_377 ?_
        obtain ⟨g111, h⟩ := gd_e h
        refine v_sld hX hr.2.2 eL_law_378 g111 ?_
        refine v_aload_n hX eL_law_379 rfl ?_
        refine v_iload_n hX eL_law_380 rfl ?_
        refine v_iconst hX eL_law_381 ic_2 ?_
        refine v_iadd hX eL_law_382 ?_
        obtain ⟨g113, h⟩ := gd_e h
        refine v_sld hX hr.2.2 eL_law_383 g113 ?_
        obtain ⟨q116, hq117, h⟩ := bd_e h
        refine v_cvI hX eL_law_384 cw_L_47 (mX6_rises hq117) (Nat.le_of_ble_eq_true rfl) oc_0 (As := [_, _]) rfl rfl (Nat.le_of_ble_eq_true rfl) ?_
        refine v_aload_n hX eL_law_387 rfl ?_
        refine v_aload_n hX eL_law_388 rfl ?_
        refine v_iload_n hX eL_law_389 rfl ?_
        refine v_iconst hX eL_law_390 ic_1 ?_
        refine v_iadd hX eL_law_391 ?_
        obtain ⟨g119, h⟩ := gd_e h
        refine v_sld hX hr.2.2 eL_law_392 g119 ?_
        refine v_aload_n hX eL_law_393 rfl ?_
        refine v_iload_n hX eL_law_394 rfl ?_
        refine v_iconst hX eL_law_395 ic_2 ?_
        refine v_iadd hX eL_law_396 ?_
        obtain ⟨g121, h⟩ := gd_e h
        refine v_sld hX hr.2.2 eL_law_397 g121 ?_
        obtain ⟨q124, hq125, h⟩ := bd_e h
        refine v_cvI hX eL_law_398 cw_L_50 (mX7_rises hq125) (Nat.le_of_ble_eq_true rfl) oc_44 (As := [_, _]) rfl rfl (Nat.le_of_ble_eq_true rfl) ?_
        refine v_icmp_eq hX eL_law_401 rfl (fun c126 => ?_) (fun c126 => ?_)
        · have h := it_t c126 h
          exact pL_law_1143 hX hr (fun h => ih h) h
        · have h := it_f c126 h
          refine v_iconst hX eL_law_404 ic_0 ?_
          exact v_lwret hr eL_law_405 h
      refine cs_e h (fun c131 h => ?_) (fun c131 h => ?_)
      · refine v_tabIn hX eL_law_32 (by rw [c131]; decide) (by rw [c131]; decide) (by rw [c131]; rfl) rfl ?_
        refine v_aload_n hX eL_law_406 rfl ?_
        refine v_aload_n hX eL_law_407 rfl ?_
        refine v_iload_n hX eL_law_408 rfl ?_
        refine v_iconst hX eL_law_409 ic_1 ?_
        refine v_iadd hX eL_law_410 ?_
        obtain ⟨g129, h⟩ := gd_e h
        refine v_sld hX hr.2.2 eL_law_411 g129 ?_
        refine v_if_eq hX eL_law_412 rfl (fun c130 => ?_) (fun c130 => ?_)
        · have h := it_t c130 h
          refine v_iconst hX eL_law_419 ic_0 ?_
          exact pL_law_420 hX hr (fun h => ih h) h
        · have h := it_f c130 h
          refine v_iconst hX eL_law_415 ic_1 ?_
          refine v_goto hX eL_law_416 rfl ?_
          exact pL_law_420 hX hr (fun h => ih h) h
      refine cs_e h (fun c139 h => ?_) (fun c139 h => ?_)
      · refine v_tabIn hX eL_law_32 (by rw [c139]; decide) (by rw [c139]; decide) (by rw [c139]; rfl) rfl ?_
        refine v_aload_n hX eL_law_445 rfl ?_
        refine v_aload_n hX eL_law_446 rfl ?_
        refine v_iload_n hX eL_law_447 rfl ?_
        refine v_iconst hX eL_law_448 ic_1 ?_
        refine v_iadd hX eL_law_449 ?_
        obtain ⟨g133, h⟩ := gd_e h
        refine v_sld hX hr.2.2 eL_law_450 g133 ?_
        refine v_aload_n hX eL_law_451 rfl ?_
        refine v_iload_n hX eL_law_452 rfl ?_
        refine v_iconst hX eL_law_453 ic_2 ?_
        refine v_iadd hX eL_law_454 ?_
        obtain ⟨g135, h⟩ := gd_e h
        refine v_sld hX hr.2.2 eL_law_455 g135 ?_
        refine v_aload_n hX eL_law_456 rfl ?_
        refine v_iload_n hX eL_law_457 rfl ?_
        refine v_iconst hX eL_law_458 ic_3 ?_
        refine v_iadd hX eL_law_459 ?_
        obtain ⟨g137, h⟩ := gd_e h
        refine v_sld hX hr.2.2 eL_law_460 g137 ?_
        refine v_if_eq hX eL_law_461 rfl (fun c138 => ?_) (fun c138 => ?_)
        · have h := it_t c138 h
          refine v_iconst hX eL_law_468 ic_0 ?_
          exact pL_law_469 hX hr (fun h => ih h) h
        · have h := it_f c138 h
          refine v_iconst hX eL_law_464 ic_1 ?_
          refine v_goto hX eL_law_465 rfl ?_
          exact pL_law_469 hX hr (fun h => ih h) h
      refine cs_e h (fun c161 h => ?_) (fun c161 h => ?_)
      · refine v_tabIn hX eL_law_32 (by rw [c161]; decide) (by rw [c161]; decide) (by rw [c161]; rfl) rfl ?_
        refine v_aload_n hX eL_law_504 rfl ?_
        refine v_aload_n hX eL_law_505 rfl ?_
        refine v_iload_n hX eL_law_506 rfl ?_
        refine v_iconst hX eL_law_507 ic_1 ?_
        refine v_iadd hX eL_law_508 ?_
        obtain ⟨g141, h⟩ := gd_e h
        refine v_sld hX hr.2.2 eL_law_509 g141 ?_
        refine v_aload_n hX eL_law_510 rfl ?_
        refine v_iload_n hX eL_law_511 rfl ?_
        refine v_iconst hX eL_law_512 ic_2 ?_
        refine v_iadd hX eL_law_513 ?_
        obtain ⟨g143, h⟩ := gd_e h
        refine v_sld hX hr.2.2 eL_law_514 g143 ?_
        refine v_aload_n hX eL_law_515 rfl ?_
        refine v_iload_n hX eL_law_516 rfl ?_
        refine v_iconst hX eL_law_517 ic_3 ?_
        refine v_iadd hX eL_law_518 ?_
        obtain ⟨g145, h⟩ := gd_e h
        refine v_sld hX hr.2.2 eL_law_519 g145 ?_
        obtain ⟨q148, hq149, h⟩ := bd_e h
        refine v_cvI hX eL_law_520 cw_L_61 (mX6_exact hq149) (Nat.le_of_ble_eq_true rfl) oc_0 (As := [_, _, _]) rfl rfl (Nat.le_of_ble_eq_true rfl) ?_
        refine v_aload_n hX eL_law_523 rfl ?_
        refine v_aload_n hX eL_law_524 rfl ?_
        refine v_iload_n hX eL_law_525 rfl ?_
        refine v_iconst hX eL_law_526 ic_1 ?_
        refine v_iadd hX eL_law_527 ?_
        obtain ⟨g151, h⟩ := gd_e h
        refine v_sld hX hr.2.2 eL_law_528 g151 ?_
        refine v_aload_n hX eL_law_529 rfl ?_
        refine v_iload_n hX eL_law_530 rfl ?_
        refine v_iconst hX eL_law_531 ic_2 ?_
        refine v_iadd hX eL_law_532 ?_
        obtain ⟨g153, h⟩ := gd_e h
        refine v_sld hX hr.2.2 eL_law_533 g153 ?_
        refine v_aload_n hX eL_law_534 rfl ?_
        refine v_iload_n hX eL_law_535 rfl ?_
        refine v_iconst hX eL_law_536 ic_3 ?_
        refine v_iadd hX eL_law_537 ?_
        obtain ⟨g155, h⟩ := gd_e h
        refine v_sld hX hr.2.2 eL_law_538 g155 ?_
        obtain ⟨q158, hq159, h⟩ := bd_e h
        refine v_cvI hX eL_law_539 cw_L_65 (mX7_exact hq159) (Nat.le_of_ble_eq_true rfl) oc_44 (As := [_, _, _]) rfl rfl (Nat.le_of_ble_eq_true rfl) ?_
        refine v_icmp_eq hX eL_law_542 rfl (fun c160 => ?_) (fun c160 => ?_)
        · have h := it_t c160 h
          exact pL_law_1143 hX hr (fun h => ih h) h
        · have h := it_f c160 h
          refine v_iconst hX eL_law_545 ic_0 ?_
          exact v_lwret hr eL_law_546 h
      refine cs_e h (fun c187 h => ?_) (fun c187 h => ?_)
      · refine v_tabIn hX eL_law_32 (by rw [c187]; decide) (by rw [c187]; decide) (by rw [c187]; rfl) rfl ?_
        refine v_aload_n hX eL_law_547 rfl ?_
        refine v_aload_n hX eL_law_548 rfl ?_
        refine v_iload_n hX eL_law_549 rfl ?_
        refine v_iconst hX eL_law_550 ic_1 ?_
        refine v_iadd hX eL_law_551 ?_
        obtain ⟨g163, h⟩ := gd_e h
        refine v_sld hX hr.2.2 eL_law_552 g163 ?_
        refine v_aload_n hX eL_law_553 rfl ?_
        refine v_iload_n hX eL_law_554 rfl ?_
        refine v_iconst hX eL_law_555 ic_2 ?_
        refine v_iadd hX eL_law_556 ?_
        obtain ⟨g165, h⟩ := gd_e h
        refine v_sld hX hr.2.2 eL_law_557 g165 ?_
        refine v_aload_n hX eL_law_558 rfl ?_
        refine v_iload_n hX eL_law_559 rfl ?_
        refine v_iconst hX eL_law_560 ic_3 ?_
        refine v_iadd hX eL_law_561 ?_
        obtain ⟨g167, h⟩ := gd_e h
        refine v_sld hX hr.2.2 eL_law_562 g167 ?_
        refine v_aload_n hX eL_law_563 rfl ?_
        refine v_iload_n hX eL_law_564 rfl ?_
        refine v_iconst hX eL_law_565 ic_4 ?_
        refine v_iadd hX eL_law_566 ?_
        obtain ⟨g169, h⟩ := gd_e h
        refine v_sld hX hr.2.2 eL_law_567 g169 ?_
        obtain ⟨q172, hq173, h⟩ := bd_e h
        refine v_cvI hX eL_law_568 cw_L_66 (mX6_behind hq173) (Nat.le_of_ble_eq_true rfl) oc_0 (As := [_, _, _, _]) rfl rfl (Nat.le_of_ble_eq_true rfl) ?_
        refine v_aload_n hX eL_law_571 rfl ?_
        refine v_aload_n hX eL_law_572 rfl ?_
        refine v_iload_n hX eL_law_573 rfl ?_
        refine v_iconst hX eL_law_574 ic_1 ?_
        refine v_iadd hX eL_law_575 ?_
        obtain ⟨g175, h⟩ := gd_e h
        refine v_sld hX hr.2.2 eL_law_576 g175 ?_
        refine v_aload_n hX eL_law_577 rfl ?_
        refine v_iload_n hX eL_law_578 rfl ?_
        refine v_iconst hX eL_law_579 ic_2 ?_
        refine v_iadd hX eL_law_580 ?_
        obtain ⟨g177, h⟩ := gd_e h
        refine v_sld hX hr.2.2 eL_law_581 g177 ?_
        refine v_aload_n hX eL_law_582 rfl ?_
        refine v_iload_n hX eL_law_583 rfl ?_
        refine v_iconst hX eL_law_584 ic_3 ?_
        refine v_iadd hX eL_law_585 ?_
        obtain ⟨g179, h⟩ := gd_e h
        refine v_sld hX hr.2.2 eL_law_586 g179 ?_
        refine v_aload_n hX eL_law_587 rfl ?_
        refine v_iload_n hX eL_law_588 rfl ?_
        refine v_iconst hX eL_law_589 ic_4 ?_
        refine v_iadd hX eL_law_590 ?_
        obtain ⟨g181, h⟩ := gd_e h
        refine v_sld hX hr.2.2 eL_law_591 g181 ?_
        obtain ⟨q184, hq185, h⟩ := bd_e h
        refine v_cvI hX eL_law_592 cw_L_70 (mX7_behind hq185) (Nat.le_of_ble_eq_true rfl) oc_44 (As := [_, _, _, _]) rfl rfl (Nat.le_of_ble_eq_true rfl) ?_
        refine v_icmp_eq hX eL_law_595 rfl (fun c186 => ?_) (fun c186 => ?_)
        · have h := it_t c186 h
          exact pL_law_1143 hX hr (fun h => ih h) h
        · have h := it_f c186 h
          refine v_iconst hX eL_law_598 ic_0 ?_
          exact v_lwret hr eL_law_599 h
      refine cs_e h (fun c205 h => ?_) (fun c205 h => ?_)
      · refine v_tabIn hX eL_law_32 (by rw [c205]; decide) (by rw [c205]; decide) (by rw [c205]; rfl) rfl ?_
        refine v_aload_n hX eL_law_600 rfl ?_
        refine v_aload_n hX eL_law_601 rfl ?_
        refine v_iload_n hX eL_law_602 rfl ?_
        refine v_iconst hX eL_law_603 ic_1 ?_
        refine v_iadd hX eL_law_604 ?_
        obtain ⟨g189, h⟩ := gd_e h
        refine v_sld hX hr.2.2 eL_law_605 g189 ?_
        refine v_aload_n hX eL_law_606 rfl ?_
        refine v_iload_n hX eL_law_607 rfl ?_
        refine v_iconst hX eL_law_608 ic_2 ?_
        refine v_iadd hX eL_law_609 ?_
        obtain ⟨g191, h⟩ := gd_e h
        refine v_sld hX hr.2.2 eL_law_610 g191 ?_
        obtain ⟨q194, hq195, h⟩ := bd_e h
        refine v_cvI hX eL_law_611 cw_L_71 (mX6_up hq195) (Nat.le_of_ble_eq_true rfl) oc_0 (As := [_, _]) rfl rfl (Nat.le_of_ble_eq_true rfl) ?_
        refine v_aload_n hX eL_law_614 rfl ?_
        refine v_aload_n hX eL_law_615 rfl ?_
        refine v_iload_n hX eL_law_616 rfl ?_
        refine v_iconst hX eL_law_617 ic_1 ?_
        refine v_iadd hX eL_law_618 ?_
        obtain ⟨g197, h⟩ := gd_e h
        refine v_sld hX hr.2.2 eL_law_619 g197 ?_
        refine v_aload_n hX eL_law_620 rfl ?_
        refine v_iload_n hX eL_law_621 rfl ?_
        refine v_iconst hX eL_law_622 ic_2 ?_
        refine v_iadd hX eL_law_623 ?_
        obtain ⟨g199, h⟩ := gd_e h
        refine v_sld hX hr.2.2 eL_law_624 g199 ?_
        obtain ⟨q202, hq203, h⟩ := bd_e h
        refine v_cvI hX eL_law_625 cw_L_74 (mX7_up hq203) (Nat.le_of_ble_eq_true rfl) oc_44 (As := [_, _]) rfl rfl (Nat.le_of_ble_eq_true rfl) ?_
        refine v_icmp_eq hX eL_law_628 rfl (fun c204 => ?_) (fun c204 => ?_)
        · have h := it_t c204 h
          exact pL_law_1143 hX hr (fun h => ih h) h
        · have h := it_f c204 h
          refine v_iconst hX eL_law_631 ic_0 ?_
          exact v_lwret hr eL_law_632 h
      refine cs_e h (fun c215 h => ?_) (fun c215 h => ?_)
      · refine v_tabIn hX eL_law_32 (by rw [c215]; decide) (by rw [c215]; decide) (by rw [c215]; rfl) rfl ?_
        refine v_aload_n hX eL_law_633 rfl ?_
        refine v_aload_n hX eL_law_634 rfl ?_
        refine v_iload_n hX eL_law_635 rfl ?_
        refine v_iconst hX eL_law_636 ic_1 ?_
        refine v_iadd hX eL_law_637 ?_
        obtain ⟨g207, h⟩ := gd_e h
        refine v_sld hX hr.2.2 eL_law_638 g207 ?_
        refine v_aload_n hX eL_law_639 rfl ?_
        refine v_iload_n hX eL_law_640 rfl ?_
        refine v_iconst hX eL_law_641 ic_2 ?_
        refine v_iadd hX eL_law_642 ?_
        obtain ⟨g209, h⟩ := gd_e h
        refine v_sld hX hr.2.2 eL_law_643 g209 ?_
        refine v_aload_n hX eL_law_644 rfl ?_
        refine v_iload_n hX eL_law_645 rfl ?_
        refine v_iconst hX eL_law_646 ic_3 ?_
        refine v_iadd hX eL_law_647 ?_
        obtain ⟨g211, h⟩ := gd_e h
        refine v_sld hX hr.2.2 eL_law_648 g211 ?_
        refine v_aload_n hX eL_law_649 rfl ?_
        refine v_iload_n hX eL_law_650 rfl ?_
        refine v_iconst hX eL_law_651 ic_4 ?_
        refine v_iadd hX eL_law_652 ?_
        obtain ⟨g213, h⟩ := gd_e h
        refine v_sld hX hr.2.2 eL_law_653 g213 ?_
        refine v_if_eq hX eL_law_654 rfl (fun c214 => ?_) (fun c214 => ?_)
        · have h := it_t c214 h
          refine v_iconst hX eL_law_661 ic_0 ?_
          exact pL_law_662 hX hr (fun h => ih h) h
        · have h := it_f c214 h
          refine v_iconst hX eL_law_657 ic_1 ?_
          refine v_goto hX eL_law_658 rfl ?_
          exact pL_law_662 hX hr (fun h => ih h) h
      refine cs_e h (fun c229 h => ?_) (fun c229 h => ?_)
      · refine v_tabIn hX eL_law_32 (by rw [c229]; decide) (by rw [c229]; decide) (by rw [c229]; rfl) rfl ?_
        refine v_aload_n hX eL_law_702 rfl ?_
        refine v_aload_n hX eL_law_703 rfl ?_
        refine v_iload_n hX eL_law_704 rfl ?_
        refine v_iconst hX eL_law_705 ic_1 ?_
        refine v_iadd hX eL_law_706 ?_
        obtain ⟨g217, h⟩ := gd_e h
        refine v_sld hX hr.2.2 eL_law_707 g217 ?_
        obtain ⟨q220, hq221, h⟩ := bd_e h
        refine v_cvI hX eL_law_708 cw_L_80 (mX6_master hq221) (Nat.le_of_ble_eq_true rfl) oc_0 (As := [_]) rfl rfl (Nat.le_of_ble_eq_true rfl) ?_
        refine v_aload_n hX eL_law_711 rfl ?_
        refine v_aload_n hX eL_law_712 rfl ?_
        refine v_iload_n hX eL_law_713 rfl ?_
        refine v_iconst hX eL_law_714 ic_1 ?_
        refine v_iadd hX eL_law_715 ?_
        obtain ⟨g223, h⟩ := gd_e h
        refine v_sld hX hr.2.2 eL_law_716 g223 ?_
        obtain ⟨q226, hq227, h⟩ := bd_e h
        refine v_cvI hX eL_law_717 cw_L_83 (mX7_master hq227) (Nat.le_of_ble_eq_true rfl) oc_44 (As := [_]) rfl rfl (Nat.le_of_ble_eq_true rfl) ?_
        refine v_icmp_eq hX eL_law_720 rfl (fun c228 => ?_) (fun c228 => ?_)
        · have h := it_t c228 h
          exact pL_law_1143 hX hr (fun h => ih h) h
        · have h := it_f c228 h
          refine v_iconst hX eL_law_723 ic_0 ?_
          exact v_lwret hr eL_law_724 h
      refine cs_e h (fun c243 h => ?_) (fun c243 h => ?_)
      · refine v_tabIn hX eL_law_32 (by rw [c243]; decide) (by rw [c243]; decide) (by rw [c243]; rfl) rfl ?_
        refine v_aload_n hX eL_law_725 rfl ?_
        refine v_aload_n hX eL_law_726 rfl ?_
        refine v_iload_n hX eL_law_727 rfl ?_
        refine v_iconst hX eL_law_728 ic_1 ?_
        refine v_iadd hX eL_law_729 ?_
        obtain ⟨g231, h⟩ := gd_e h
        refine v_sld hX hr.2.2 eL_law_730 g231 ?_
        obtain ⟨q234, hq235, h⟩ := bd_e h
        refine v_cvI hX eL_law_731 cw_L_84 (mX6_summer hq235) (Nat.le_of_ble_eq_true rfl) oc_0 (As := [_]) rfl rfl (Nat.le_of_ble_eq_true rfl) ?_
        refine v_aload_n hX eL_law_734 rfl ?_
        refine v_aload_n hX eL_law_735 rfl ?_
        refine v_iload_n hX eL_law_736 rfl ?_
        refine v_iconst hX eL_law_737 ic_1 ?_
        refine v_iadd hX eL_law_738 ?_
        obtain ⟨g237, h⟩ := gd_e h
        refine v_sld hX hr.2.2 eL_law_739 g237 ?_
        obtain ⟨q240, hq241, h⟩ := bd_e h
        refine v_cvI hX eL_law_740 cw_L_87 (mX7_summer hq241) (Nat.le_of_ble_eq_true rfl) oc_44 (As := [_]) rfl rfl (Nat.le_of_ble_eq_true rfl) ?_
        refine v_icmp_eq hX eL_law_743 rfl (fun c242 => ?_) (fun c242 => ?_)
        · have h := it_t c242 h
          exact pL_law_1143 hX hr (fun h => ih h) h
        · have h := it_f c242 h
          refine v_iconst hX eL_law_746 ic_0 ?_
          exact v_lwret hr eL_law_747 h
      refine cs_e h (fun c261 h => ?_) (fun c261 h => ?_)
      · refine v_tabIn hX eL_law_32 (by rw [c261]; decide) (by rw [c261]; decide) (by rw [c261]; rfl) rfl ?_
        refine v_aload_n hX eL_law_748 rfl ?_
        refine v_aload_n hX eL_law_749 rfl ?_
        refine v_iload_n hX eL_law_750 rfl ?_
        refine v_iconst hX eL_law_751 ic_1 ?_
        refine v_iadd hX eL_law_752 ?_
        obtain ⟨g245, h⟩ := gd_e h
        refine v_sld hX hr.2.2 eL_law_753 g245 ?_
        refine v_aload_n hX eL_law_754 rfl ?_
        refine v_iload_n hX eL_law_755 rfl ?_
        refine v_iconst hX eL_law_756 ic_2 ?_
        refine v_iadd hX eL_law_757 ?_
        obtain ⟨g247, h⟩ := gd_e h
        refine v_sld hX hr.2.2 eL_law_758 g247 ?_
        obtain ⟨q250, hq251, h⟩ := bd_e h
        refine v_cvI hX eL_law_759 cw_L_88 (mX6_hours hq251) (Nat.le_of_ble_eq_true rfl) oc_0 (As := [_, _]) rfl rfl (Nat.le_of_ble_eq_true rfl) ?_
        refine v_aload_n hX eL_law_762 rfl ?_
        refine v_aload_n hX eL_law_763 rfl ?_
        refine v_iload_n hX eL_law_764 rfl ?_
        refine v_iconst hX eL_law_765 ic_1 ?_
        refine v_iadd hX eL_law_766 ?_
        obtain ⟨g253, h⟩ := gd_e h
        refine v_sld hX hr.2.2 eL_law_767 g253 ?_
        refine v_aload_n hX eL_law_768 rfl ?_
        refine v_iload_n hX eL_law_769 rfl ?_
        refine v_iconst hX eL_law_770 ic_2 ?_
        refine v_iadd hX eL_law_771 ?_
        obtain ⟨g255, h⟩ := gd_e h
        refine v_sld hX hr.2.2 eL_law_772 g255 ?_
        obtain ⟨q258, hq259, h⟩ := bd_e h
        refine v_cvI hX eL_law_773 cw_L_91 (mX7_hours hq259) (Nat.le_of_ble_eq_true rfl) oc_44 (As := [_, _]) rfl rfl (Nat.le_of_ble_eq_true rfl) ?_
        refine v_icmp_eq hX eL_law_776 rfl (fun c260 => ?_) (fun c260 => ?_)
        · have h := it_t c260 h
          exact pL_law_1143 hX hr (fun h => ih h) h
        · have h := it_f c260 h
          refine v_iconst hX eL_law_779 ic_0 ?_
          exact v_lwret hr eL_law_780 h
      refine cs_e h (fun c275 h => ?_) (fun c275 h => ?_)
      · refine v_tabIn hX eL_law_32 (by rw [c275]; decide) (by rw [c275]; decide) (by rw [c275]; rfl) rfl ?_
        refine v_aload_n hX eL_law_781 rfl ?_
        refine v_aload_n hX eL_law_782 rfl ?_
        refine v_iload_n hX eL_law_783 rfl ?_
        refine v_iconst hX eL_law_784 ic_1 ?_
        refine v_iadd hX eL_law_785 ?_
        obtain ⟨g263, h⟩ := gd_e h
        refine v_sld hX hr.2.2 eL_law_786 g263 ?_
        obtain ⟨q266, hq267, h⟩ := bd_e h
        refine v_cvI hX eL_law_787 cw_L_92 (mX6_fewest hq267) (Nat.le_of_ble_eq_true rfl) oc_0 (As := [_]) rfl rfl (Nat.le_of_ble_eq_true rfl) ?_
        refine v_aload_n hX eL_law_790 rfl ?_
        refine v_aload_n hX eL_law_791 rfl ?_
        refine v_iload_n hX eL_law_792 rfl ?_
        refine v_iconst hX eL_law_793 ic_1 ?_
        refine v_iadd hX eL_law_794 ?_
        obtain ⟨g269, h⟩ := gd_e h
        refine v_sld hX hr.2.2 eL_law_795 g269 ?_
        obtain ⟨q272, hq273, h⟩ := bd_e h
        refine v_cvI hX eL_law_796 cw_L_95 (mX7_fewest hq273) (Nat.le_of_ble_eq_true rfl) oc_44 (As := [_]) rfl rfl (Nat.le_of_ble_eq_true rfl) ?_
        refine v_icmp_eq hX eL_law_799 rfl (fun c274 => ?_) (fun c274 => ?_)
        · have h := it_t c274 h
          exact pL_law_1143 hX hr (fun h => ih h) h
        · have h := it_f c274 h
          refine v_iconst hX eL_law_802 ic_0 ?_
          exact v_lwret hr eL_law_803 h
      refine cs_e h (fun c293 h => ?_) (fun c293 h => ?_)
      · refine v_tabIn hX eL_law_32 (by rw [c293]; decide) (by rw [c293]; decide) (by rw [c293]; rfl) rfl ?_
        refine v_aload_n hX eL_law_804 rfl ?_
        refine v_aload_n hX eL_law_805 rfl ?_
        refine v_iload_n hX eL_law_806 rfl ?_
        refine v_iconst hX eL_law_807 ic_1 ?_
        refine v_iadd hX eL_law_808 ?_
        obtain ⟨g277, h⟩ := gd_e h
        refine v_sld hX hr.2.2 eL_law_809 g277 ?_
        refine v_aload_n hX eL_law_810 rfl ?_
        refine v_iload_n hX eL_law_811 rfl ?_
        refine v_iconst hX eL_law_812 ic_2 ?_
        refine v_iadd hX eL_law_813 ?_
        obtain ⟨g279, h⟩ := gd_e h
        refine v_sld hX hr.2.2 eL_law_814 g279 ?_
        obtain ⟨q282, hq283, h⟩ := bd_e h
        refine v_cvI hX eL_law_815 cw_L_96 (mX6_row hq283) (Nat.le_of_ble_eq_true rfl) oc_0 (As := [_, _]) rfl rfl (Nat.le_of_ble_eq_true rfl) ?_
        refine v_aload_n hX eL_law_818 rfl ?_
        refine v_aload_n hX eL_law_819 rfl ?_
        refine v_iload_n hX eL_law_820 rfl ?_
        refine v_iconst hX eL_law_821 ic_1 ?_
        refine v_iadd hX eL_law_822 ?_
        obtain ⟨g285, h⟩ := gd_e h
        refine v_sld hX hr.2.2 eL_law_823 g285 ?_
        refine v_aload_n hX eL_law_824 rfl ?_
        refine v_iload_n hX eL_law_825 rfl ?_
        refine v_iconst hX eL_law_826 ic_2 ?_
        refine v_iadd hX eL_law_827 ?_
        obtain ⟨g287, h⟩ := gd_e h
        refine v_sld hX hr.2.2 eL_law_828 g287 ?_
        obtain ⟨q290, hq291, h⟩ := bd_e h
        refine v_cvI hX eL_law_829 cw_L_99 (mX7_row hq291) (Nat.le_of_ble_eq_true rfl) oc_44 (As := [_, _]) rfl rfl (Nat.le_of_ble_eq_true rfl) ?_
        refine v_icmp_eq hX eL_law_832 rfl (fun c292 => ?_) (fun c292 => ?_)
        · have h := it_t c292 h
          exact pL_law_1143 hX hr (fun h => ih h) h
        · have h := it_f c292 h
          refine v_iconst hX eL_law_835 ic_0 ?_
          exact v_lwret hr eL_law_836 h
      refine cs_e h (fun c307 h => ?_) (fun c307 h => ?_)
      · refine v_tabIn hX eL_law_32 (by rw [c307]; decide) (by rw [c307]; decide) (by rw [c307]; rfl) rfl ?_
        refine v_aload_n hX eL_law_837 rfl ?_
        refine v_aload_n hX eL_law_838 rfl ?_
        refine v_iload_n hX eL_law_839 rfl ?_
        refine v_iconst hX eL_law_840 ic_1 ?_
        refine v_iadd hX eL_law_841 ?_
        obtain ⟨g295, h⟩ := gd_e h
        refine v_sld hX hr.2.2 eL_law_842 g295 ?_
        obtain ⟨q298, hq299, h⟩ := bd_e h
        refine v_cvI hX eL_law_843 cw_L_100 (mX6_stuck hq299) (Nat.le_of_ble_eq_true rfl) oc_0 (As := [_]) rfl rfl (Nat.le_of_ble_eq_true rfl) ?_
        refine v_aload_n hX eL_law_846 rfl ?_
        refine v_aload_n hX eL_law_847 rfl ?_
        refine v_iload_n hX eL_law_848 rfl ?_
        refine v_iconst hX eL_law_849 ic_1 ?_
        refine v_iadd hX eL_law_850 ?_
        obtain ⟨g301, h⟩ := gd_e h
        refine v_sld hX hr.2.2 eL_law_851 g301 ?_
        obtain ⟨q304, hq305, h⟩ := bd_e h
        refine v_cvI hX eL_law_852 cw_L_103 (mX7_stuck hq305) (Nat.le_of_ble_eq_true rfl) oc_44 (As := [_]) rfl rfl (Nat.le_of_ble_eq_true rfl) ?_
        refine v_icmp_eq hX eL_law_855 rfl (fun c306 => ?_) (fun c306 => ?_)
        · have h := it_t c306 h
          exact pL_law_1143 hX hr (fun h => ih h) h
        · have h := it_f c306 h
          refine v_iconst hX eL_law_858 ic_0 ?_
          exact v_lwret hr eL_law_859 h
      refine cs_e h (fun c321 h => ?_) (fun c321 h => ?_)
      · refine v_tabIn hX eL_law_32 (by rw [c321]; decide) (by rw [c321]; decide) (by rw [c321]; rfl) rfl ?_
        refine v_aload_n hX eL_law_860 rfl ?_
        refine v_aload_n hX eL_law_861 rfl ?_
        refine v_iload_n hX eL_law_862 rfl ?_
        refine v_iconst hX eL_law_863 ic_1 ?_
        refine v_iadd hX eL_law_864 ?_
        obtain ⟨g309, h⟩ := gd_e h
        refine v_sld hX hr.2.2 eL_law_865 g309 ?_
        obtain ⟨q312, hq313, h⟩ := bd_e h
        refine v_cvI hX eL_law_866 cw_L_104 (mX6_worth hq313) (Nat.le_of_ble_eq_true rfl) oc_0 (As := [_]) rfl rfl (Nat.le_of_ble_eq_true rfl) ?_
        refine v_aload_n hX eL_law_869 rfl ?_
        refine v_aload_n hX eL_law_870 rfl ?_
        refine v_iload_n hX eL_law_871 rfl ?_
        refine v_iconst hX eL_law_872 ic_1 ?_
        refine v_iadd hX eL_law_873 ?_
        obtain ⟨g315, h⟩ := gd_e h
        refine v_sld hX hr.2.2 eL_law_874 g315 ?_
        obtain ⟨q318, hq319, h⟩ := bd_e h
        refine v_cvI hX eL_law_875 cw_L_107 (mX7_worth hq319) (Nat.le_of_ble_eq_true rfl) oc_44 (As := [_]) rfl rfl (Nat.le_of_ble_eq_true rfl) ?_
        refine v_icmp_eq hX eL_law_878 rfl (fun c320 => ?_) (fun c320 => ?_)
        · have h := it_t c320 h
          exact pL_law_1143 hX hr (fun h => ih h) h
        · have h := it_f c320 h
          refine v_iconst hX eL_law_881 ic_0 ?_
          exact v_lwret hr eL_law_882 h
      refine cs_e h (fun c335 h => ?_) (fun c335 h => ?_)
      · refine v_tabIn hX eL_law_32 (by rw [c335]; decide) (by rw [c335]; decide) (by rw [c335]; rfl) rfl ?_
        refine v_aload_n hX eL_law_883 rfl ?_
        refine v_aload_n hX eL_law_884 rfl ?_
        refine v_iload_n hX eL_law_885 rfl ?_
        refine v_iconst hX eL_law_886 ic_1 ?_
        refine v_iadd hX eL_law_887 ?_
        obtain ⟨g323, h⟩ := gd_e h
        refine v_sld hX hr.2.2 eL_law_888 g323 ?_
        obtain ⟨q326, hq327, h⟩ := bd_e h
        refine v_cvI hX eL_law_889 cw_L_108 (mX6_mastered hq327) (Nat.le_of_ble_eq_true rfl) oc_0 (As := [_]) rfl rfl (Nat.le_of_ble_eq_true rfl) ?_
        refine v_aload_n hX eL_law_892 rfl ?_
        refine v_aload_n hX eL_law_893 rfl ?_
        refine v_iload_n hX eL_law_894 rfl ?_
        refine v_iconst hX eL_law_895 ic_1 ?_
        refine v_iadd hX eL_law_896 ?_
        obtain ⟨g329, h⟩ := gd_e h
        refine v_sld hX hr.2.2 eL_law_897 g329 ?_
        obtain ⟨q332, hq333, h⟩ := bd_e h
        refine v_cvI hX eL_law_898 cw_L_111 (mX7_mastered hq333) (Nat.le_of_ble_eq_true rfl) oc_44 (As := [_]) rfl rfl (Nat.le_of_ble_eq_true rfl) ?_
        refine v_icmp_eq hX eL_law_901 rfl (fun c334 => ?_) (fun c334 => ?_)
        · have h := it_t c334 h
          exact pL_law_1143 hX hr (fun h => ih h) h
        · have h := it_f c334 h
          refine v_iconst hX eL_law_904 ic_0 ?_
          exact v_lwret hr eL_law_905 h
      refine cs_e h (fun c361 h => ?_) (fun c361 h => ?_)
      · refine v_tabIn hX eL_law_32 (by rw [c361]; decide) (by rw [c361]; decide) (by rw [c361]; rfl) rfl ?_
        refine v_aload_n hX eL_law_906 rfl ?_
        refine v_aload_n hX eL_law_907 rfl ?_
        refine v_iload_n hX eL_law_908 rfl ?_
        refine v_iconst hX eL_law_909 ic_1 ?_
        refine v_iadd hX eL_law_910 ?_
        obtain ⟨g337, h⟩ := gd_e h
        refine v_sld hX hr.2.2 eL_law_911 g337 ?_
        refine v_aload_n hX eL_law_912 rfl ?_
        refine v_iload_n hX eL_law_913 rfl ?_
        refine v_iconst hX eL_law_914 ic_2 ?_
        refine v_iadd hX eL_law_915 ?_
        obtain ⟨g339, h⟩ := gd_e h
        refine v_sld hX hr.2.2 eL_law_916 g339 ?_
        refine v_aload_n hX eL_law_917 rfl ?_
        refine v_iload_n hX eL_law_918 rfl ?_
        refine v_iconst hX eL_law_919 ic_3 ?_
        refine v_iadd hX eL_law_920 ?_
        obtain ⟨g341, h⟩ := gd_e h
        refine v_sld hX hr.2.2 eL_law_921 g341 ?_
        refine v_aload_n hX eL_law_922 rfl ?_
        refine v_iload_n hX eL_law_923 rfl ?_
        refine v_iconst hX eL_law_924 ic_4 ?_
        refine v_iadd hX eL_law_925 ?_
        obtain ⟨g343, h⟩ := gd_e h
        refine v_sld hX hr.2.2 eL_law_926 g343 ?_
        obtain ⟨q346, hq347, h⟩ := bd_e h
        refine v_cvI hX eL_law_927 cw_L_112 (mX6_pays hq347) (Nat.le_of_ble_eq_true rfl) oc_0 (As := [_, _, _, _]) rfl rfl (Nat.le_of_ble_eq_true rfl) ?_
        refine v_aload_n hX eL_law_930 rfl ?_
        refine v_aload_n hX eL_law_931 rfl ?_
        refine v_iload_n hX eL_law_932 rfl ?_
        refine v_iconst hX eL_law_933 ic_1 ?_
        refine v_iadd hX eL_law_934 ?_
        obtain ⟨g349, h⟩ := gd_e h
        refine v_sld hX hr.2.2 eL_law_935 g349 ?_
        refine v_aload_n hX eL_law_936 rfl ?_
        refine v_iload_n hX eL_law_937 rfl ?_
        refine v_iconst hX eL_law_938 ic_2 ?_
        refine v_iadd hX eL_law_939 ?_
        obtain ⟨g351, h⟩ := gd_e h
        refine v_sld hX hr.2.2 eL_law_940 g351 ?_
        refine v_aload_n hX eL_law_941 rfl ?_
        refine v_iload_n hX eL_law_942 rfl ?_
        refine v_iconst hX eL_law_943 ic_3 ?_
        refine v_iadd hX eL_law_944 ?_
        obtain ⟨g353, h⟩ := gd_e h
        refine v_sld hX hr.2.2 eL_law_945 g353 ?_
        refine v_aload_n hX eL_law_946 rfl ?_
        refine v_iload_n hX eL_law_947 rfl ?_
        refine v_iconst hX eL_law_948 ic_4 ?_
        refine v_iadd hX eL_law_949 ?_
        obtain ⟨g355, h⟩ := gd_e h
        refine v_sld hX hr.2.2 eL_law_950 g355 ?_
        obtain ⟨q358, hq359, h⟩ := bd_e h
        refine v_cvI hX eL_law_951 cw_L_115 (mX7_pays hq359) (Nat.le_of_ble_eq_true rfl) oc_44 (As := [_, _, _, _]) rfl rfl (Nat.le_of_ble_eq_true rfl) ?_
        refine v_icmp_eq hX eL_law_954 rfl (fun c360 => ?_) (fun c360 => ?_)
        · have h := it_t c360 h
          exact pL_law_1143 hX hr (fun h => ih h) h
        · have h := it_f c360 h
          refine v_iconst hX eL_law_957 ic_0 ?_
          exact v_lwret hr eL_law_958 h
      refine cs_e h (fun c375 h => ?_) (fun c375 h => ?_)
      · refine v_tabIn hX eL_law_32 (by rw [c375]; decide) (by rw [c375]; decide) (by rw [c375]; rfl) rfl ?_
        refine v_aload_n hX eL_law_959 rfl ?_
        refine v_aload_n hX eL_law_960 rfl ?_
        refine v_iload_n hX eL_law_961 rfl ?_
        refine v_iconst hX eL_law_962 ic_1 ?_
        refine v_iadd hX eL_law_963 ?_
        obtain ⟨g363, h⟩ := gd_e h
        refine v_sld hX hr.2.2 eL_law_964 g363 ?_
        obtain ⟨q366, hq367, h⟩ := bd_e h
        refine v_cvI hX eL_law_965 cw_L_116 (mX6_order hq367) (Nat.le_of_ble_eq_true rfl) oc_0 (As := [_]) rfl rfl (Nat.le_of_ble_eq_true rfl) ?_
        refine v_aload_n hX eL_law_968 rfl ?_
        refine v_aload_n hX eL_law_969 rfl ?_
        refine v_iload_n hX eL_law_970 rfl ?_
        refine v_iconst hX eL_law_971 ic_1 ?_
        refine v_iadd hX eL_law_972 ?_
        obtain ⟨g369, h⟩ := gd_e h
        refine v_sld hX hr.2.2 eL_law_973 g369 ?_
        obtain ⟨q372, hq373, h⟩ := bd_e h
        refine v_cvI hX eL_law_974 cw_L_119 (mX7_order hq373) (Nat.le_of_ble_eq_true rfl) oc_44 (As := [_]) rfl rfl (Nat.le_of_ble_eq_true rfl) ?_
        refine v_icmp_eq hX eL_law_977 rfl (fun c374 => ?_) (fun c374 => ?_)
        · have h := it_t c374 h
          exact pL_law_1143 hX hr (fun h => ih h) h
        · have h := it_f c374 h
          refine v_iconst hX eL_law_980 ic_0 ?_
          exact v_lwret hr eL_law_981 h
      refine cs_e h (fun c393 h => ?_) (fun c393 h => ?_)
      · refine v_tabIn hX eL_law_32 (by rw [c393]; decide) (by rw [c393]; decide) (by rw [c393]; rfl) rfl ?_
        refine v_aload_n hX eL_law_982 rfl ?_
        refine v_aload_n hX eL_law_983 rfl ?_
        refine v_iload_n hX eL_law_984 rfl ?_
        refine v_iconst hX eL_law_985 ic_1 ?_
        refine v_iadd hX eL_law_986 ?_
        obtain ⟨g377, h⟩ := gd_e h
        refine v_sld hX hr.2.2 eL_law_987 g377 ?_
        refine v_aload_n hX eL_law_988 rfl ?_
        refine v_iload_n hX eL_law_989 rfl ?_
        refine v_iconst hX eL_law_990 ic_2 ?_
        refine v_iadd hX eL_law_991 ?_
        obtain ⟨g379, h⟩ := gd_e h
        refine v_sld hX hr.2.2 eL_law_992 g379 ?_
        obtain ⟨q382, hq383, h⟩ := bd_e h
        refine v_cvI hX eL_law_993 cw_L_120 (mX6_classes hq383) (Nat.le_of_ble_eq_true rfl) oc_0 (As := [_, _]) rfl rfl (Nat.le_of_ble_eq_true rfl) ?_
        refine v_aload_n hX eL_law_996 rfl ?_
        refine v_aload_n hX eL_law_997 rfl ?_
        refine v_iload_n hX eL_law_998 rfl ?_
        refine v_iconst hX eL_law_999 ic_1 ?_
        refine v_iadd hX eL_law_1000 ?_
        obtain ⟨g385, h⟩ := gd_e h
        refine v_sld hX hr.2.2 eL_law_1001 g385 ?_
        refine v_aload_n hX eL_law_1002 rfl ?_
        refine v_iload_n hX eL_law_1003 rfl ?_
        refine v_iconst hX eL_law_1004 ic_2 ?_
        refine v_iadd hX eL_law_1005 ?_
        obtain ⟨g387, h⟩ := gd_e h
        refine v_sld hX hr.2.2 eL_law_1006 g387 ?_
        obtain ⟨q390, hq391, h⟩ := bd_e h
        refine v_cvI hX eL_law_1007 cw_L_123 (mX7_classes hq391) (Nat.le_of_ble_eq_true rfl) oc_44 (As := [_, _]) rfl rfl (Nat.le_of_ble_eq_true rfl) ?_
        refine v_icmp_eq hX eL_law_1010 rfl (fun c392 => ?_) (fun c392 => ?_)
        · have h := it_t c392 h
          exact pL_law_1143 hX hr (fun h => ih h) h
        · have h := it_f c392 h
          refine v_iconst hX eL_law_1013 ic_0 ?_
          exact v_lwret hr eL_law_1014 h
      refine cs_e h (fun c411 h => ?_) (fun c411 h => ?_)
      · refine v_tabIn hX eL_law_32 (by rw [c411]; decide) (by rw [c411]; decide) (by rw [c411]; rfl) rfl ?_
        refine v_aload_n hX eL_law_1015 rfl ?_
        refine v_aload_n hX eL_law_1016 rfl ?_
        refine v_iload_n hX eL_law_1017 rfl ?_
        refine v_iconst hX eL_law_1018 ic_1 ?_
        refine v_iadd hX eL_law_1019 ?_
        obtain ⟨g395, h⟩ := gd_e h
        refine v_sld hX hr.2.2 eL_law_1020 g395 ?_
        refine v_aload_n hX eL_law_1021 rfl ?_
        refine v_iload_n hX eL_law_1022 rfl ?_
        refine v_iconst hX eL_law_1023 ic_2 ?_
        refine v_iadd hX eL_law_1024 ?_
        obtain ⟨g397, h⟩ := gd_e h
        refine v_sld hX hr.2.2 eL_law_1025 g397 ?_
        obtain ⟨q400, hq401, h⟩ := bd_e h
        refine v_cvI hX eL_law_1026 cw_L_124 (mX6_log hq401) (Nat.le_of_ble_eq_true rfl) oc_0 (As := [_, _]) rfl rfl (Nat.le_of_ble_eq_true rfl) ?_
        refine v_aload_n hX eL_law_1029 rfl ?_
        refine v_aload_n hX eL_law_1030 rfl ?_
        refine v_iload_n hX eL_law_1031 rfl ?_
        refine v_iconst hX eL_law_1032 ic_1 ?_
        refine v_iadd hX eL_law_1033 ?_
        obtain ⟨g403, h⟩ := gd_e h
        refine v_sld hX hr.2.2 eL_law_1034 g403 ?_
        refine v_aload_n hX eL_law_1035 rfl ?_
        refine v_iload_n hX eL_law_1036 rfl ?_
        refine v_iconst hX eL_law_1037 ic_2 ?_
        refine v_iadd hX eL_law_1038 ?_
        obtain ⟨g405, h⟩ := gd_e h
        refine v_sld hX hr.2.2 eL_law_1039 g405 ?_
        obtain ⟨q408, hq409, h⟩ := bd_e h
        refine v_cvI hX eL_law_1040 cw_L_127 (mX7_log hq409) (Nat.le_of_ble_eq_true rfl) oc_44 (As := [_, _]) rfl rfl (Nat.le_of_ble_eq_true rfl) ?_
        refine v_icmp_eq hX eL_law_1043 rfl (fun c410 => ?_) (fun c410 => ?_)
        · have h := it_t c410 h
          exact pL_law_1143 hX hr (fun h => ih h) h
        · have h := it_f c410 h
          refine v_iconst hX eL_law_1046 ic_0 ?_
          exact v_lwret hr eL_law_1047 h
      refine cs_e h (fun c421 h => ?_) (fun c421 h => ?_)
      · refine v_tabIn hX eL_law_32 (by rw [c421]; decide) (by rw [c421]; decide) (by rw [c421]; rfl) rfl ?_
        refine v_aload_n hX eL_law_1048 rfl ?_
        obtain ⟨q414, hq415, h⟩ := bd_e h
        refine v_cvI hX eL_law_1049 cw_L_128 (mX6_clear hq415) (Nat.le_of_ble_eq_true rfl) oc_0 (As := []) rfl rfl (Nat.le_of_ble_eq_true rfl) ?_
        refine v_aload_n hX eL_law_1052 rfl ?_
        obtain ⟨q418, hq419, h⟩ := bd_e h
        refine v_cvI hX eL_law_1053 cw_L_131 (mX7_clear hq419) (Nat.le_of_ble_eq_true rfl) oc_44 (As := []) rfl rfl (Nat.le_of_ble_eq_true rfl) ?_
        refine v_icmp_eq hX eL_law_1056 rfl (fun c420 => ?_) (fun c420 => ?_)
        · have h := it_t c420 h
          exact pL_law_1143 hX hr (fun h => ih h) h
        · have h := it_f c420 h
          refine v_iconst hX eL_law_1059 ic_0 ?_
          exact v_lwret hr eL_law_1060 h
      refine cs_e h (fun c431 h => ?_) (fun c431 h => ?_)
      · refine v_tabIn hX eL_law_32 (by rw [c431]; decide) (by rw [c431]; decide) (by rw [c431]; rfl) rfl ?_
        refine v_aload_n hX eL_law_1061 rfl ?_
        obtain ⟨q424, hq425, h⟩ := bd_e h
        refine v_cvI hX eL_law_1062 cw_L_132 (mX6_judge hq425) (Nat.le_of_ble_eq_true rfl) oc_0 (As := []) rfl rfl (Nat.le_of_ble_eq_true rfl) ?_
        refine v_aload_n hX eL_law_1065 rfl ?_
        obtain ⟨q428, hq429, h⟩ := bd_e h
        refine v_cvI hX eL_law_1066 cw_L_135 (mX7_judge hq429) (Nat.le_of_ble_eq_true rfl) oc_44 (As := []) rfl rfl (Nat.le_of_ble_eq_true rfl) ?_
        refine v_icmp_eq hX eL_law_1069 rfl (fun c430 => ?_) (fun c430 => ?_)
        · have h := it_t c430 h
          exact pL_law_1143 hX hr (fun h => ih h) h
        · have h := it_f c430 h
          refine v_iconst hX eL_law_1072 ic_0 ?_
          exact v_lwret hr eL_law_1073 h
      refine cs_e h (fun c445 h => ?_) (fun c445 h => ?_)
      · refine v_tabIn hX eL_law_32 (by rw [c445]; decide) (by rw [c445]; decide) (by rw [c445]; rfl) rfl ?_
        refine v_aload_n hX eL_law_1074 rfl ?_
        refine v_aload_n hX eL_law_1075 rfl ?_
        refine v_iload_n hX eL_law_1076 rfl ?_
        refine v_iconst hX eL_law_1077 ic_1 ?_
        refine v_iadd hX eL_law_1078 ?_
        obtain ⟨g433, h⟩ := gd_e h
        refine v_sld hX hr.2.2 eL_law_1079 g433 ?_
        obtain ⟨q436, hq437, h⟩ := bd_e h
        refine v_cvI hX eL_law_1080 cw_L_136 (mX6_seed hq437) (Nat.le_of_ble_eq_true rfl) oc_0 (As := [_]) rfl rfl (Nat.le_of_ble_eq_true rfl) ?_
        refine v_aload_n hX eL_law_1083 rfl ?_
        refine v_aload_n hX eL_law_1084 rfl ?_
        refine v_iload_n hX eL_law_1085 rfl ?_
        refine v_iconst hX eL_law_1086 ic_1 ?_
        refine v_iadd hX eL_law_1087 ?_
        obtain ⟨g439, h⟩ := gd_e h
        refine v_sld hX hr.2.2 eL_law_1088 g439 ?_
        obtain ⟨q442, hq443, h⟩ := bd_e h
        refine v_cvI hX eL_law_1089 cw_L_139 (mX7_seed hq443) (Nat.le_of_ble_eq_true rfl) oc_44 (As := [_]) rfl rfl (Nat.le_of_ble_eq_true rfl) ?_
        refine v_icmp_eq hX eL_law_1092 rfl (fun c444 => ?_) (fun c444 => ?_)
        · have h := it_t c444 h
          exact pL_law_1143 hX hr (fun h => ih h) h
        · have h := it_f c444 h
          refine v_iconst hX eL_law_1095 ic_0 ?_
          exact v_lwret hr eL_law_1096 h
      refine cs_e h (fun c459 h => ?_) (fun c459 h => ?_)
      · refine v_tabIn hX eL_law_32 (by rw [c459]; decide) (by rw [c459]; decide) (by rw [c459]; rfl) rfl ?_
        refine v_aload_n hX eL_law_1097 rfl ?_
        refine v_aload_n hX eL_law_1098 rfl ?_
        refine v_iload_n hX eL_law_1099 rfl ?_
        refine v_iconst hX eL_law_1100 ic_1 ?_
        refine v_iadd hX eL_law_1101 ?_
        obtain ⟨g447, h⟩ := gd_e h
        refine v_sld hX hr.2.2 eL_law_1102 g447 ?_
        obtain ⟨q450, hq451, h⟩ := bd_e h
        refine v_cvI hX eL_law_1103 cw_L_140 (mX6_keep hq451) (Nat.le_of_ble_eq_true rfl) oc_0 (As := [_]) rfl rfl (Nat.le_of_ble_eq_true rfl) ?_
        refine v_aload_n hX eL_law_1106 rfl ?_
        refine v_aload_n hX eL_law_1107 rfl ?_
        refine v_iload_n hX eL_law_1108 rfl ?_
        refine v_iconst hX eL_law_1109 ic_1 ?_
        refine v_iadd hX eL_law_1110 ?_
        obtain ⟨g453, h⟩ := gd_e h
        refine v_sld hX hr.2.2 eL_law_1111 g453 ?_
        obtain ⟨q456, hq457, h⟩ := bd_e h
        refine v_cvI hX eL_law_1112 cw_L_143 (mX7_keep hq457) (Nat.le_of_ble_eq_true rfl) oc_44 (As := [_]) rfl rfl (Nat.le_of_ble_eq_true rfl) ?_
        refine v_icmp_eq hX eL_law_1115 rfl (fun c458 => ?_) (fun c458 => ?_)
        · have h := it_t c458 h
          exact pL_law_1143 hX hr (fun h => ih h) h
        · have h := it_f c458 h
          refine v_iconst hX eL_law_1118 ic_0 ?_
          exact v_lwret hr eL_law_1119 h
      refine cs_e h (fun c473 h => ?_) (fun c473 h => ?_)
      · refine v_tabIn hX eL_law_32 (by rw [c473]; decide) (by rw [c473]; decide) (by rw [c473]; rfl) rfl ?_
        refine v_aload_n hX eL_law_1120 rfl ?_
        refine v_aload_n hX eL_law_1121 rfl ?_
        refine v_iload_n hX eL_law_1122 rfl ?_
        refine v_iconst hX eL_law_1123 ic_1 ?_
        refine v_iadd hX eL_law_1124 ?_
        obtain ⟨g461, h⟩ := gd_e h
        refine v_sld hX hr.2.2 eL_law_1125 g461 ?_
        obtain ⟨q464, hq465, h⟩ := bd_e h
        refine v_cvI hX eL_law_1126 cw_L_144 (mX6_goBack hq465) (Nat.le_of_ble_eq_true rfl) oc_0 (As := [_]) rfl rfl (Nat.le_of_ble_eq_true rfl) ?_
        refine v_aload_n hX eL_law_1129 rfl ?_
        refine v_aload_n hX eL_law_1130 rfl ?_
        refine v_iload_n hX eL_law_1131 rfl ?_
        refine v_iconst hX eL_law_1132 ic_1 ?_
        refine v_iadd hX eL_law_1133 ?_
        obtain ⟨g467, h⟩ := gd_e h
        refine v_sld hX hr.2.2 eL_law_1134 g467 ?_
        obtain ⟨q470, hq471, h⟩ := bd_e h
        refine v_cvI hX eL_law_1135 cw_L_147 (mX7_goBack hq471) (Nat.le_of_ble_eq_true rfl) oc_44 (As := [_]) rfl rfl (Nat.le_of_ble_eq_true rfl) ?_
        refine v_icmp_eq hX eL_law_1138 rfl (fun c472 => ?_) (fun c472 => ?_)
        · have h := it_t c472 h
          exact pL_law_1143 hX hr (fun h => ih h) h
        · have h := it_f c472 h
          refine v_iconst hX eL_law_1141 ic_0 ?_
          exact v_lwret hr eL_law_1142 h
      refine v_tabOut hX eL_law_32 (tab_out31 c25 c35 c45 c59 c77 c91 c109 c127 c131 c139 c161 c187 c205 c215 c229 c243 c261 c275 c293 c307 c321 c335 c361 c375 c393 c411 c421 c431 c445 c459 c473) rfl ?_
      exact pL_law_1143 hX hr (fun h => ih h) h
