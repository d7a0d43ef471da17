theorem eJ0_length_8abf5_0 : Dn cJ0_length_8abf5 0 (.aload_n 0) 1 1 := ⟨by decide +kernel, rfl⟩
theorem eJ0_length_8abf5_1 : Dn cJ0_length_8abf5 1 (.getfield 9) 3 4 := ⟨by decide +kernel, rfl⟩
theorem eJ0_length_8abf5_4 : Dn cJ0_length_8abf5 4 (.arraylength) 1 5 := ⟨by decide +kernel, rfl⟩
theorem eJ0_length_8abf5_5 : Dn cJ0_length_8abf5 5 (.aload_n 0) 1 6 := ⟨by decide +kernel, rfl⟩
theorem eJ0_length_8abf5_6 : Dn cJ0_length_8abf5 6 (.invokevirtual 335) 3 9 := ⟨by decide +kernel, rfl⟩
theorem eJ0_length_8abf5_9 : Dn cJ0_length_8abf5 9 (.ishr) 1 10 := ⟨by decide +kernel, rfl⟩
theorem eJ0_length_8abf5_10 : Dn cJ0_length_8abf5 10 (.ireturn) 1 11 := ⟨by decide +kernel, rfl⟩
theorem eJ0_coder_7d493_0 : Dn cJ0_coder_7d493 0 (.getstatic 38) 3 3 := ⟨by decide +kernel, rfl⟩
theorem eJ0_coder_7d493_3 : Dn cJ0_coder_7d493 3 (.ifCond .eq 10) 3 6 := ⟨by decide +kernel, rfl⟩
theorem eJ0_coder_7d493_6 : Dn cJ0_coder_7d493 6 (.aload_n 0) 1 7 := ⟨by decide +kernel, rfl⟩
theorem eJ0_coder_7d493_7 : Dn cJ0_coder_7d493 7 (.getfield 15) 3 10 := ⟨by decide +kernel, rfl⟩
theorem eJ0_coder_7d493_10 : Dn cJ0_coder_7d493 10 (.goto 4) 3 13 := ⟨by decide +kernel, rfl⟩
theorem eJ0_coder_7d493_13 : Dn cJ0_coder_7d493 13 (.iconst 1) 1 14 := ⟨by decide +kernel, rfl⟩
theorem eJ0_coder_7d493_14 : Dn cJ0_coder_7d493 14 (.ireturn) 1 15 := ⟨by decide +kernel, rfl⟩
theorem eJ0_charAt_5068e_0 : Dn cJ0_charAt_5068e 0 (.aload_n 0) 1 1 := ⟨by decide +kernel, rfl⟩
theorem eJ0_charAt_5068e_1 : Dn cJ0_charAt_5068e 1 (.invokevirtual 492) 3 4 := ⟨by decide +kernel, rfl⟩
theorem eJ0_charAt_5068e_4 : Dn cJ0_charAt_5068e 4 (.ifCond .eq 12) 3 7 := ⟨by decide +kernel, rfl⟩
theorem eJ0_charAt_5068e_7 : Dn cJ0_charAt_5068e 7 (.aload_n 0) 1 8 := ⟨by decide +kernel, rfl⟩
theorem eJ0_charAt_5068e_8 : Dn cJ0_charAt_5068e 8 (.getfield 9) 3 11 := ⟨by decide +kernel, rfl⟩
theorem eJ0_charAt_5068e_11 : Dn cJ0_charAt_5068e 11 (.iload_n 1) 1 12 := ⟨by decide +kernel, rfl⟩
theorem eJ0_charAt_5068e_12 : Dn cJ0_charAt_5068e 12 (.invokestatic 495) 3 15 := ⟨by decide +kernel, rfl⟩
theorem eJ0_charAt_5068e_15 : Dn cJ0_charAt_5068e 15 (.ireturn) 1 16 := ⟨by decide +kernel, rfl⟩
theorem eJ0_charAt_5068e_16 : Dn cJ0_charAt_5068e 16 (.aload_n 0) 1 17 := ⟨by decide +kernel, rfl⟩
theorem eJ0_charAt_5068e_17 : Dn cJ0_charAt_5068e 17 (.getfield 9) 3 20 := ⟨by decide +kernel, rfl⟩
theorem eJ0_charAt_5068e_20 : Dn cJ0_charAt_5068e 20 (.iload_n 1) 1 21 := ⟨by decide +kernel, rfl⟩
theorem eJ0_charAt_5068e_21 : Dn cJ0_charAt_5068e 21 (.invokestatic 498) 3 24 := ⟨by decide +kernel, rfl⟩
theorem eJ0_charAt_5068e_24 : Dn cJ0_charAt_5068e 24 (.ireturn) 1 25 := ⟨by decide +kernel, rfl⟩
theorem eJ0_isLatin1_aae02_0 : Dn cJ0_isLatin1_aae02 0 (.getstatic 38) 3 3 := ⟨by decide +kernel, rfl⟩
theorem eJ0_isLatin1_aae02_3 : Dn cJ0_isLatin1_aae02 3 (.ifCond .eq 14) 3 6 := ⟨by decide +kernel, rfl⟩
theorem eJ0_isLatin1_aae02_6 : Dn cJ0_isLatin1_aae02 6 (.aload_n 0) 1 7 := ⟨by decide +kernel, rfl⟩
theorem eJ0_isLatin1_aae02_7 : Dn cJ0_isLatin1_aae02 7 (.getfield 15) 3 10 := ⟨by decide +kernel, rfl⟩
theorem eJ0_isLatin1_aae02_10 : Dn cJ0_isLatin1_aae02 10 (.ifCond .ne 7) 3 13 := ⟨by decide +kernel, rfl⟩
theorem eJ0_isLatin1_aae02_13 : Dn cJ0_isLatin1_aae02 13 (.iconst 1) 1 14 := ⟨by decide +kernel, rfl⟩
theorem eJ0_isLatin1_aae02_14 : Dn cJ0_isLatin1_aae02 14 (.goto 4) 3 17 := ⟨by decide +kernel, rfl⟩
theorem eJ0_isLatin1_aae02_17 : Dn cJ0_isLatin1_aae02 17 (.iconst 0) 1 18 := ⟨by decide +kernel, rfl⟩
theorem eJ0_isLatin1_aae02_18 : Dn cJ0_isLatin1_aae02 18 (.ireturn) 1 19 := ⟨by decide +kernel, rfl⟩
theorem eJ0_checkIndex_df160_0 : Dn cJ0_checkIndex_df160 0 (.iload_n 0) 1 1 := ⟨by decide +kernel, rfl⟩
theorem eJ0_checkIndex_df160_1 : Dn cJ0_checkIndex_df160 1 (.iload_n 1) 1 2 := ⟨by decide +kernel, rfl⟩
theorem eJ0_checkIndex_df160_2 : Dn cJ0_checkIndex_df160 2 (.getstatic 1053) 3 5 := ⟨by decide +kernel, rfl⟩
theorem eJ0_checkIndex_df160_5 : Dn cJ0_checkIndex_df160 5 (.invokestatic 1059) 3 8 := ⟨by decide +kernel, rfl⟩
theorem eJ0_checkIndex_df160_8 : Dn cJ0_checkIndex_df160 8 (.pop) 1 9 := ⟨by decide +kernel, rfl⟩
theorem eJ0_checkIndex_df160_9 : Dn cJ0_checkIndex_df160 9 (.return_) 1 10 := ⟨by decide +kernel, rfl⟩
theorem eJ1_charAt_3b067_0 : Dn cJ1_charAt_3b067 0 (.iload_n 1) 1 1 := ⟨by decide +kernel, rfl⟩
theorem eJ1_charAt_3b067_1 : Dn cJ1_charAt_3b067 1 (.aload_n 0) 1 2 := ⟨by decide +kernel, rfl⟩
theorem eJ1_charAt_3b067_2 : Dn cJ1_charAt_3b067 2 (.arraylength) 1 3 := ⟨by decide +kernel, rfl⟩
theorem eJ1_charAt_3b067_3 : Dn cJ1_charAt_3b067 3 (.invokestatic 9) 3 6 := ⟨by decide +kernel, rfl⟩
theorem eJ1_charAt_3b067_6 : Dn cJ1_charAt_3b067 6 (.aload_n 0) 1 7 := ⟨by decide +kernel, rfl⟩
theorem eJ1_charAt_3b067_7 : Dn cJ1_charAt_3b067 7 (.iload_n 1) 1 8 := ⟨by decide +kernel, rfl⟩
theorem eJ1_charAt_3b067_8 : Dn cJ1_charAt_3b067 8 (.baload) 1 9 := ⟨by decide +kernel, rfl⟩
theorem eJ1_charAt_3b067_9 : Dn cJ1_charAt_3b067 9 (.sipush 255) 3 12 := ⟨by decide +kernel, rfl⟩
theorem eJ1_charAt_3b067_12 : Dn cJ1_charAt_3b067 12 (.iand) 1 13 := ⟨by decide +kernel, rfl⟩
theorem eJ1_charAt_3b067_13 : Dn cJ1_charAt_3b067 13 (.i2c) 1 14 := ⟨by decide +kernel, rfl⟩
theorem eJ1_charAt_3b067_14 : Dn cJ1_charAt_3b067 14 (.ireturn) 1 15 := ⟨by decide +kernel, rfl⟩
theorem eJ3_checkIndex_8e157_0 : Dn cJ3_checkIndex_8e157 0 (.iload_n 0) 1 1 := ⟨by decide +kernel, rfl⟩
theorem eJ3_checkIndex_8e157_1 : Dn cJ3_checkIndex_8e157 1 (.ifCond .lt 8) 3 4 := ⟨by decide +kernel, rfl⟩
theorem eJ3_checkIndex_8e157_4 : Dn cJ3_checkIndex_8e157 4 (.iload_n 0) 1 5 := ⟨by decide +kernel, rfl⟩
theorem eJ3_checkIndex_8e157_5 : Dn cJ3_checkIndex_8e157 5 (.iload_n 1) 1 6 := ⟨by decide +kernel, rfl⟩
theorem eJ3_checkIndex_8e157_6 : Dn cJ3_checkIndex_8e157 6 (.if_icmp .lt 10) 3 9 := ⟨by decide +kernel, rfl⟩
theorem eJ3_checkIndex_8e157_9 : Dn cJ3_checkIndex_8e157 9 (.aload_n 2) 1 10 := ⟨by decide +kernel, rfl⟩
theorem eJ3_checkIndex_8e157_10 : Dn cJ3_checkIndex_8e157 10 (.iload_n 0) 1 11 := ⟨by decide +kernel, rfl⟩
theorem eJ3_checkIndex_8e157_11 : Dn cJ3_checkIndex_8e157 11 (.iload_n 1) 1 12 := ⟨by decide +kernel, rfl⟩
theorem eJ3_checkIndex_8e157_12 : Dn cJ3_checkIndex_8e157 12 (.invokestatic 95) 3 15 := ⟨by decide +kernel, rfl⟩
theorem eJ3_checkIndex_8e157_15 : Dn cJ3_checkIndex_8e157 15 (.athrow) 1 16 := ⟨by decide +kernel, rfl⟩
theorem eJ3_checkIndex_8e157_16 : Dn cJ3_checkIndex_8e157 16 (.iload_n 0) 1 17 := ⟨by decide +kernel, rfl⟩
theorem eJ3_checkIndex_8e157_17 : Dn cJ3_checkIndex_8e157 17 (.ireturn) 1 18 := ⟨by decide +kernel, rfl⟩
theorem lk_J0_9 : Cond.fieldLink RJ0 9 "java/lang/String" "value" "[B" ∈ tb := mem_tb (List.mem_of_getElem? (i := 1340) (by decide +kernel)) rfl
theorem lk_J0_15 : Cond.fieldLink RJ0 15 "java/lang/String" "coder" "B" ∈ tb := mem_tb (List.mem_of_getElem? (i := 1341) (by decide +kernel)) rfl
theorem lk_J0_38 : Cond.fieldLink RJ0 38 "java/lang/String" "COMPACT_STRINGS" "Z" ∈ tb := mem_tb (List.mem_of_getElem? (i := 386) (by decide +kernel)) rfl
theorem lk_J0_1053 : Cond.fieldLink RJ0 1053 "jdk/internal/util/Preconditions" "SIOOBE_FORMATTER" "Ljava/util/function/BiFunction;" ∈ tb := mem_tb (List.mem_of_getElem? (i := 402) (by decide +kernel)) rfl
theorem wl_J0_335 : Cond.methodLink RJ0 335 yJ0_coder_7d493 ∈ tb := mem_tb (List.mem_of_getElem? (i := 382) (by decide +kernel)) rfl
theorem wc_J0_coder_7d493 : Cond.code yJ0_coder_7d493 cJ0_coder_7d493 1 (some .byte) ∈ tb := mem_tb (List.mem_of_getElem? (i := 385) (by decide +kernel)) rfl
theorem wn_J0_335 : Cond.initialized RJ0 ∈ tb := mem_tb (List.mem_of_getElem? (i := 92) (by decide +kernel)) rfl
theorem wi_J0_coder_7d493 : Cond.instanceMethod yJ0_coder_7d493 ∈ tb := mem_tb (List.mem_of_getElem? (i := 383) (by decide +kernel)) rfl
theorem ws_J0_coder_7d493 : Cond.selects RJ0 yJ0_coder_7d493 yJ0_coder_7d493 ∈ tb := mem_tb (List.mem_of_getElem? (i := 384) (by decide +kernel)) rfl
theorem cw_J0_335 : CW RJ0 335 RJ0 yJ0_coder_7d493 cJ0_coder_7d493 1 (some .byte) 0 := ⟨wl_J0_335, wi_J0_coder_7d493, ws_J0_coder_7d493, wn_J0_335, wc_J0_coder_7d493, by decide +kernel, by decide⟩
theorem wl_J0_492 : Cond.methodLink RJ0 492 yJ0_isLatin1_aae02 ∈ tb := mem_tb (List.mem_of_getElem? (i := 392) (by decide +kernel)) rfl
theorem wc_J0_isLatin1_aae02 : Cond.code yJ0_isLatin1_aae02 cJ0_isLatin1_aae02 1 (some .boolean) ∈ tb := mem_tb (List.mem_of_getElem? (i := 395) (by decide +kernel)) rfl
theorem wn_J0_492 : Cond.initialized RJ0 ∈ tb := mem_tb (List.mem_of_getElem? (i := 92) (by decide +kernel)) rfl
theorem wi_J0_isLatin1_aae02 : Cond.instanceMethod yJ0_isLatin1_aae02 ∈ tb := mem_tb (List.mem_of_getElem? (i := 393) (by decide +kernel)) rfl
theorem ws_J0_isLatin1_aae02 : Cond.selects RJ0 yJ0_isLatin1_aae02 yJ0_isLatin1_aae02 ∈ tb := mem_tb (List.mem_of_getElem? (i := 394) (by decide +kernel)) rfl
theorem cw_J0_492 : CW RJ0 492 RJ0 yJ0_isLatin1_aae02 cJ0_isLatin1_aae02 1 (some .boolean) 0 := ⟨wl_J0_492, wi_J0_isLatin1_aae02, ws_J0_isLatin1_aae02, wn_J0_492, wc_J0_isLatin1_aae02, by decide +kernel, by decide⟩
theorem wl_J0_495 : Cond.methodLink RJ0 495 yJ1_charAt_3b067 ∈ tb := mem_tb (List.mem_of_getElem? (i := 396) (by decide +kernel)) rfl
theorem wc_J1_charAt_3b067 : Cond.code yJ1_charAt_3b067 cJ1_charAt_3b067 2 (some .char) ∈ tb := mem_tb (List.mem_of_getElem? (i := 398) (by decide +kernel)) rfl
theorem wn_J0_495 : Cond.initialized RJ1 ∈ tb := mem_tb (List.mem_of_getElem? (i := 93) (by decide +kernel)) rfl
theorem wt_J1_charAt_3b067 : Cond.static yJ1_charAt_3b067 ∈ tb := mem_tb (List.mem_of_getElem? (i := 397) (by decide +kernel)) rfl
theorem cw_J0_495 : CS RJ0 495 yJ1_charAt_3b067 cJ1_charAt_3b067 2 (some .char) 2 := ⟨wl_J0_495, wt_J1_charAt_3b067, wn_J0_495, wc_J1_charAt_3b067, by decide +kernel, by decide⟩
theorem wl_J0_1059 : Cond.methodLink RJ0 1059 yJ3_checkIndex_8e157 ∈ tb := mem_tb (List.mem_of_getElem? (i := 404) (by decide +kernel)) rfl
theorem wc_J3_checkIndex_8e157 : Cond.code yJ3_checkIndex_8e157 cJ3_checkIndex_8e157 3 (some .int) ∈ tb := mem_tb (List.mem_of_getElem? (i := 406) (by decide +kernel)) rfl
theorem wn_J0_1059 : Cond.initialized RJ3 ∈ tb := mem_tb (List.mem_of_getElem? (i := 94) (by decide +kernel)) rfl
theorem wt_J3_checkIndex_8e157 : Cond.static yJ3_checkIndex_8e157 ∈ tb := mem_tb (List.mem_of_getElem? (i := 405) (by decide +kernel)) rfl
theorem cw_J0_1059 : CS RJ0 1059 yJ3_checkIndex_8e157 cJ3_checkIndex_8e157 3 (some .int) 3 := ⟨wl_J0_1059, wt_J3_checkIndex_8e157, wn_J0_1059, wc_J3_checkIndex_8e157, by decide +kernel, by decide⟩
theorem wl_J1_9 : Cond.methodLink RJ1 9 yJ0_checkIndex_df160 ∈ tb := mem_tb (List.mem_of_getElem? (i := 399) (by decide +kernel)) rfl
theorem wc_J0_checkIndex_df160 : Cond.code yJ0_checkIndex_df160 cJ0_checkIndex_df160 2 none ∈ tb := mem_tb (List.mem_of_getElem? (i := 401) (by decide +kernel)) rfl
theorem wn_J1_9 : Cond.initialized RJ0 ∈ tb := mem_tb (List.mem_of_getElem? (i := 92) (by decide +kernel)) rfl
theorem wt_J0_checkIndex_df160 : Cond.static yJ0_checkIndex_df160 ∈ tb := mem_tb (List.mem_of_getElem? (i := 400) (by decide +kernel)) rfl
theorem cw_J1_9 : CS RJ1 9 yJ0_checkIndex_df160 cJ0_checkIndex_df160 2 none 2 := ⟨wl_J1_9, wt_J0_checkIndex_df160, wn_J1_9, wc_J0_checkIndex_df160, by decide +kernel, by decide⟩
theorem wl_X2_101 : Cond.methodLink RX2 101 yJ0_length_8abf5 ∈ tb := mem_tb (List.mem_of_getElem? (i := 378) (by decide +kernel)) rfl
theorem wc_J0_length_8abf5 : Cond.code yJ0_length_8abf5 cJ0_length_8abf5 1 (some .int) ∈ tb := mem_tb (List.mem_of_getElem? (i := 381) (by decide +kernel)) rfl
theorem wn_X2_101 : Cond.initialized RJ0 ∈ tb := mem_tb (List.mem_of_getElem? (i := 92) (by decide +kernel)) rfl
theorem wi_J0_length_8abf5 : Cond.instanceMethod yJ0_length_8abf5 ∈ tb := mem_tb (List.mem_of_getElem? (i := 379) (by decide +kernel)) rfl
theorem ws_J0_length_8abf5 : Cond.selects RJ0 yJ0_length_8abf5 yJ0_length_8abf5 ∈ tb := mem_tb (List.mem_of_getElem? (i := 380) (by decide +kernel)) rfl
theorem cw_X2_101 : CW RX2 101 RJ0 yJ0_length_8abf5 cJ0_length_8abf5 1 (some .int) 0 := ⟨wl_X2_101, wi_J0_length_8abf5, ws_J0_length_8abf5, wn_X2_101, wc_J0_length_8abf5, by decide +kernel, by decide⟩
theorem wl_X2_105 : Cond.methodLink RX2 105 yJ0_charAt_5068e ∈ tb := mem_tb (List.mem_of_getElem? (i := 388) (by decide +kernel)) rfl
theorem wc_J0_charAt_5068e : Cond.code yJ0_charAt_5068e cJ0_charAt_5068e 2 (some .char) ∈ tb := mem_tb (List.mem_of_getElem? (i := 391) (by decide +kernel)) rfl
theorem wn_X2_105 : Cond.initialized RJ0 ∈ tb := mem_tb (List.mem_of_getElem? (i := 92) (by decide +kernel)) rfl
theorem wi_J0_charAt_5068e : Cond.instanceMethod yJ0_charAt_5068e ∈ tb := mem_tb (List.mem_of_getElem? (i := 389) (by decide +kernel)) rfl
theorem ws_J0_charAt_5068e : Cond.selects RJ0 yJ0_charAt_5068e yJ0_charAt_5068e ∈ tb := mem_tb (List.mem_of_getElem? (i := 390) (by decide +kernel)) rfl
theorem cw_X2_105 : CW RX2 105 RJ0 yJ0_charAt_5068e cJ0_charAt_5068e 2 (some .char) 1 := ⟨wl_X2_105, wi_J0_charAt_5068e, ws_J0_charAt_5068e, wn_X2_105, wc_J0_charAt_5068e, by decide +kernel, by decide⟩

section
variable {X : VX} {G : VG} {cc : ByteArray} {nL lev pc n : Nat} {own : String} {Q : State → Prop} {lv : List (Option Value)} {st stk : List Value} {S : St} {idx : Nat} {y : MethodName} {bytes : ByteArray} {maxL na lev' c : Nat} {rt : Option FieldType} {As : List Value} {Qc : Array Value → State → Outcome → State → Prop}
theorem v_cvIS {i : Nat} {q : Int32 × St} (hX : Fx X G cc nL own lev) (hd : Dn cc pc (.invokevirtual idx) 3 n) (hw : CW own idx RJ0 y bytes maxL rt na) (hM : MI X.2.1 G y bytes maxL rt lev' (.ref (G.2.2.2.2.1 i) :: As) S q) (hlev : lev' + 1 ≤ lev) (hi : i < 3) (hst : stk = As.reverse ++ .ref (G.2.2.2.2.1 i) :: st) (hn : As.length = na) (hcat : (st.map fun v => v.category).sum ≤ 8) (k : V X G nL Q n lv (.int q.1 :: st) q.2) : V X G nL Q pc lv stk S := by
  intro H locs ls hP hS hl
  have hrun : va_Run X.1 X.2.1 X.2.2.1 X.2.2.2.1 X.2.2.2.2.1 X.2.2.2.2.2.1 X.2.2.2.2.2.2.1 X.2.2.2.2.2.2.2.1 X.2.2.2.2.2.2.2.2.1 X.2.2.2.2.2.2.2.2.2.1 H locs X.2.2.2.2.2.2.2.2.2.2.1 X.2.2.2.2.2.2.2.2.2.2.2 0 0 (F0 X.2.2.2.2.2.1 pc ls stk) st (QI G q (Value.ref (G.2.2.2.2.1 i) :: As).toArray) (Aw G) := by
    obtain ⟨hx, hb, hml, hown, hts, hE, hR, hlk⟩ := hX
    obtain ⟨w1, w2, w3, w4, w5, w6, w7⟩ := hw
    have hrecv := vk_recv hE.2.2.1.2.2.1 hi hS
    have cb := callB_of (R := X.2.2.2.1) (rm := rmD lev') (mc := 0) (ms := 0) na hts (tbl_cons w5) rfl rfl rfl (hts _ (by rw [w6.1]; exact w4)) (hts _ w1) w6.2 (by
      refine ⟨?_, ?_⟩
      · show lev' + 1 + 1 ≤ _
        omega
      · show 8 + (maxL + 11) + 40 * (lev' + 1) ≤ _
        omega)
    subst hst
    exact va_runV (As := As) (rest := st) (Ts := tb) ⟨hx, hb, hml, hown, hts⟩ hM ⟨cb, hts _ w2, hts _ w3⟩ ⟨pw_blind, hrecv, fun U hU hW => ⟨rfl, by rw [hU]; exact hP, hE.go hS hU hW⟩⟩ rfl hn hl.1 rfl (lv_room hcat) hd.1 ⟨hR.2.2.1, hR.2.2.2⟩
  refine va_calli hrun hS (fun _ _ h => h) (fun _ h => h) (fun r u t H1 locs1 ht hvm hpo hB hz hk hS1 => ?_)
  obtain ⟨rfl, rfl⟩ := hpo
  obtain ⟨-, rfl⟩ := hd
  rw [ht] at hB
  exact k H1 locs1 ls hB hS1 hl
theorem v_gcs (hX : Fx X G cc nL RJ0 lev) (hd : Dn cc pc (.getstatic 38) 3 n) (k : V X G nL Q n lv (.int 1 :: st) S) : V X G nL Q pc lv st S := by
  obtain ⟨hd, rfl⟩ := hd
  obtain ⟨hx, hb, hml, hown, hts, hE, hR, hlk⟩ := hX
  intro H locs ls hP hS hl
  exact va_gets hx hb hE.2.2.1.2.2.2.1 hS hown (hts _ lk_J0_38) (fun _ h => h) hd (k H locs ls hP hS hl)
theorem v_gfmt (hX : Fx X G cc nL RJ0 lev) (hd : Dn cc pc (.getstatic 1053) 3 n) (k0 : V X G nL Q n lv (.null :: st) S) (k1 : ∀ t : Nat, V X G nL Q n lv (.ref t :: st) S) : V X G nL Q pc lv st S := by
  obtain ⟨hd, rfl⟩ := hd
  obtain ⟨hx, hb, hml, hown, hts, hE, hR, hlk⟩ := hX
  intro H locs ls hP hS hl
  rcases hE.2.2.1.2.2.2.2 with hz | ⟨t, hz⟩
  · exact va_gets hx hb hz hS hown (hts _ lk_J0_1053) (fun _ h => h) hd (k0 H locs ls hP hS hl)
  · exact va_gets hx hb hz hS hown (hts _ lk_J0_1053) (fun _ h => h) hd (k1 t H locs ls hP hS hl)
theorem v_sval {i : Nat} (hX : Fx X G cc nL RJ0 lev) (hi : i < 3) (hd : Dn cc pc (.getfield 9) 3 n) (k : V X G nL Q n lv (.ref (G.2.2.2.2.2 i) :: st) S) : V X G nL Q pc lv (.ref (G.2.2.2.2.1 i) :: st) S := by
  obtain ⟨hd, rfl⟩ := hd
  obtain ⟨hx, hb, hml, hown, hts, hE, hR, hlk⟩ := hX
  intro H locs ls hP hS hl
  exact vk_getf hx hb (hE.2.2.1.2.2.1.1 i hi).2.2.1 hS hown (hts _ lk_J0_9) (fun _ h => h) hd (k H locs ls hP hS hl)
theorem v_scod {i : Nat} (hX : Fx X G cc nL RJ0 lev) (hi : i < 3) (hd : Dn cc pc (.getfield 15) 3 n) (k : V X G nL Q n lv (.int 0 :: st) S) : V X G nL Q pc lv (.ref (G.2.2.2.2.1 i) :: st) S := by
  obtain ⟨hd, rfl⟩ := hd
  obtain ⟨hx, hb, hml, hown, hts, hE, hR, hlk⟩ := hX
  intro H locs ls hP hS hl
  exact vk_getf hx hb (hE.2.2.1.2.2.1.1 i hi).2.1 hS hown (hts _ lk_J0_15) (fun _ h => h) hd (k H locs ls hP hS hl)
theorem v_sblen {i : Nat} (hX : Fx X G cc nL own lev) (hi : i < 3) (hd : Dn cc pc .arraylength 1 n) (k : V X G nL Q n lv (.int (nI (strL.getD i 0)) :: st) S) : V X G nL Q pc lv (.ref (G.2.2.2.2.2 i) :: st) S := by
  obtain ⟨hd, rfl⟩ := hd
  obtain ⟨hx, hb, hml, hown, hts, hE, hR, hlk⟩ := hX
  intro H locs ls hP hS hl
  exact va_tlen hx hb (hE.2.2.1.2.2.1.1 i hi).2.2.2 hS rfl hd (k H locs ls hP hS hl)
theorem v_sbld {i : Nat} {j : Int32} (hX : Fx X G cc nL own lev) (hi : i < 3) (hd : Dn cc pc .baload 1 n) (hj : inB j (strL.getD i 0) = true) (k : V X G nL Q n lv (.int ((strB.getD i []).getD j.toNatClampNeg 0) :: st) S) : V X G nL Q pc lv (.int j :: .ref (G.2.2.2.2.2 i) :: st) S := by
  obtain ⟨hd, rfl⟩ := hd
  obtain ⟨hx, hb, hml, hown, hts, hE, hR, hlk⟩ := hX
  intro H locs ls hP hS hl
  exact va_tb hx hb (hE.2.2.1.2.2.1.1 i hi).2.2.2 hS (inB_in hj) rfl hd (k H locs ls hP hS hl)
theorem v_ldcS0 (hX : Fx X G cc nL RX2 lev) (hd : Dn cc pc (.ldc 46) 2 n) (k : V X G nL Q n lv (.ref (G.2.2.2.2.1 0) :: st) S) : V X G nL Q pc lv st S := by
  obtain ⟨hd, rfl⟩ := hd
  obtain ⟨hx, hb, hml, hown, hts, hE, hR, hlk⟩ := hX
  intro H locs ls hP hS hl
  exact va_ldcS hx hb hown hE.2.2.2.1 hd (k H locs ls hP hS hl)
theorem v_ldcS1 (hX : Fx X G cc nL RX2 lev) (hd : Dn cc pc (.ldc 55) 2 n) (k : V X G nL Q n lv (.ref (G.2.2.2.2.1 1) :: st) S) : V X G nL Q pc lv st S := by
  obtain ⟨hd, rfl⟩ := hd
  obtain ⟨hx, hb, hml, hown, hts, hE, hR, hlk⟩ := hX
  intro H locs ls hP hS hl
  exact va_ldcS hx hb hown hE.2.2.2.2.1 hd (k H locs ls hP hS hl)
theorem v_ldcS2 (hX : Fx X G cc nL RX2 lev) (hd : Dn cc pc (.ldc 67) 2 n) (k : V X G nL Q n lv (.ref (G.2.2.2.2.1 2) :: st) S) : V X G nL Q pc lv st S := by
  obtain ⟨hd, rfl⟩ := hd
  obtain ⟨hx, hb, hml, hown, hts, hE, hR, hlk⟩ := hX
  intro H locs ls hP hS hl
  exact va_ldcS hx hb hown hE.2.2.2.2.2.1 hd (k H locs ls hP hS hl)
theorem v_nret {q : Int32 × St} {x : Int32} {ty : FieldType} (hX : Fx X G cc nL own lev) (hr : Rt X = some ty) (hd : Dn cc pc .ireturn 1 n) (hn : narrow ty (.int x) = .int x) (h : some (x, S) = some q) : V X G nL (ZQ X G (QI G q)) pc lv [.int x] S := by
  cases h
  obtain ⟨hx, hb, hml, hown, hts, hE, hR, hlk⟩ := hX
  intro H locs ls hP hS hl
  exact W.zret hx hb hr hn (fun t ht hW => ⟨⟨x, S, rfl, ⟨rfl, rfl⟩, by subst ht; exact hP⟩, hS.F ht⟩) hS.2.2 hd.1 hlk
end
/-- the sign at place j of text i -/
def strC (i j : Nat) : Int32 := ((((strB.getD i []).getD j 0) &&& 255).toUInt32 % 65536).toInt32
theorem mJ0_coder {l : Launch} {G : VG} {i : Nat} {S : St} (hi : i < 3) : MI l G yJ0_coder_7d493 cJ0_coder_7d493 1 (some .byte) 0 [.ref (G.2.2.2.2.1 i)] S (0, S) := by
  refine met_of (by decide +kernel) (Nat.le_of_ble_eq_true rfl) (fun X _ hX hr => ?_)
  refine v_gcs hX eJ0_coder_7d493_0 ?_
  refine v_if_eq hX eJ0_coder_7d493_3 rfl (fun c => absurd c (by decide)) (fun _ => ?_)
  refine v_aload_n hX eJ0_coder_7d493_6 rfl ?_
  refine v_scod hX hi eJ0_coder_7d493_7 ?_
  refine v_goto hX eJ0_coder_7d493_10 (tgt := 14) rfl ?_
  exact v_nret hX hr eJ0_coder_7d493_14 rfl rfl
theorem mJ0_isLatin1 {l : Launch} {G : VG} {i : Nat} {S : St} (hi : i < 3) : MI l G yJ0_isLatin1_aae02 cJ0_isLatin1_aae02 1 (some .boolean) 0 [.ref (G.2.2.2.2.1 i)] S (1, S) := by
  refine met_of (by decide +kernel) (Nat.le_of_ble_eq_true rfl) (fun X _ hX hr => ?_)
  refine v_gcs hX eJ0_isLatin1_aae02_0 ?_
  refine v_if_eq hX eJ0_isLatin1_aae02_3 rfl (fun c => absurd c (by decide)) (fun _ => ?_)
  refine v_aload_n hX eJ0_isLatin1_aae02_6 rfl ?_
  refine v_scod hX hi eJ0_isLatin1_aae02_7 ?_
  refine v_if_ne hX eJ0_isLatin1_aae02_10 rfl (fun c => absurd rfl c) (fun _ => ?_)
  refine v_iconst hX eJ0_isLatin1_aae02_13 ic_1 ?_
  refine v_goto hX eJ0_isLatin1_aae02_14 (tgt := 18) rfl ?_
  exact v_zret hX hr eJ0_isLatin1_aae02_18 rfl rfl
theorem mJ0_length {l : Launch} {G : VG} {i : Nat} {S : St} (hi : i < 3) : MI l G yJ0_length_8abf5 cJ0_length_8abf5 1 (some .int) 1 [.ref (G.2.2.2.2.1 i)] S (nI (strL.getD i 0), S) := by
  refine met_of (by decide +kernel) (Nat.le_of_ble_eq_true rfl) (fun X _ hX hr => ?_)
  refine v_aload_n hX eJ0_length_8abf5_0 rfl ?_
  refine v_sval hX hi eJ0_length_8abf5_1 ?_
  refine v_sblen hX hi eJ0_length_8abf5_4 ?_
  refine v_aload_n hX eJ0_length_8abf5_5 rfl ?_
  refine v_cvIS hX eJ0_length_8abf5_6 cw_J0_335 (mJ0_coder hi) (Nat.le_of_ble_eq_true rfl) hi (As := []) rfl rfl (Nat.le_of_ble_eq_true rfl) ?_
  refine v_ishr hX eJ0_length_8abf5_9 ?_
  rw [sb_shr0]
  exact v_iret hX hr eJ0_length_8abf5_10 rfl
theorem mJ3_checkIndex {l : Launch} {G : VG} {i n : Int32} {S : St} {w : Value} (hw : w = .null ∨ ∃ t, w = .ref t) (h0 : ¬ i < 0) (h1 : i < n) : MI l G yJ3_checkIndex_8e157 cJ3_checkIndex_8e157 3 (some .int) 0 [.int i, .int n, w] S (i, S) := by
  have body : ∀ (lv : List (Option Value)) (X : VX), lv[0]? = some (some (.int i)) → lv[1]? = some (some (.int n)) → Fx X G cJ3_checkIndex_8e157 3 RJ3 0 → Rt X = some .int → V X G 3 (ZQ X G (QI G (i, S))) 0 lv [] S := by
    intro lv X hi hn hX hr
    refine v_iload_n hX eJ3_checkIndex_8e157_0 hi ?_
    refine v_if_lt hX eJ3_checkIndex_8e157_1 rfl (fun c => absurd c h0) (fun _ => ?_)
    refine v_iload_n hX eJ3_checkIndex_8e157_4 hi ?_
    refine v_iload_n hX eJ3_checkIndex_8e157_5 hn ?_
    refine v_icmp_lt hX eJ3_checkIndex_8e157_6 (tgt := 16) rfl (fun _ => ?_) (fun c => absurd h1 c)
    refine v_iload_n hX eJ3_checkIndex_8e157_16 hi ?_
    exact v_iret hX hr eJ3_checkIndex_8e157_17 rfl
  rcases hw with rfl | ⟨t, rfl⟩
  · exact met_of (by decide +kernel) (Nat.le_of_ble_eq_true rfl) (fun X _ hX hr => body _ X rfl rfl hX hr)
  · exact met_of (by decide +kernel) (Nat.le_of_ble_eq_true rfl) (fun X _ hX hr => body _ X rfl rfl hX hr)
theorem mJ0_checkIndex {l : Launch} {G : VG} {i n : Int32} {S : St} (h0 : ¬ i < 0) (h1 : i < n) : MV l G yJ0_checkIndex_df160 cJ0_checkIndex_df160 2 none 1 [.int i, .int n] S ((), S) := by
  refine met_of (by decide +kernel) (Nat.le_of_ble_eq_true rfl) (fun X _ hX hr => ?_)
  refine v_iload_n hX eJ0_checkIndex_df160_0 rfl ?_
  refine v_iload_n hX eJ0_checkIndex_df160_1 rfl ?_
  refine v_gfmt hX eJ0_checkIndex_df160_2 ?_ (fun t => ?_)
  · refine v_csI hX eJ0_checkIndex_df160_5 cw_J0_1059 (mJ3_checkIndex (Or.inl rfl) h0 h1) (Nat.le_of_ble_eq_true rfl) (As := [_, _, _]) rfl rfl (Nat.le_of_ble_eq_true rfl) ?_
    refine v_pop hX eJ0_checkIndex_df160_8 rfl ?_
    exact v_vret hX hr eJ0_checkIndex_df160_9 rfl
  · refine v_csI hX eJ0_checkIndex_df160_5 cw_J0_1059 (mJ3_checkIndex (Or.inr ⟨t, rfl⟩) h0 h1) (Nat.le_of_ble_eq_true rfl) (As := [_, _, _]) rfl rfl (Nat.le_of_ble_eq_true rfl) ?_
    refine v_pop hX eJ0_checkIndex_df160_8 rfl ?_
    exact v_vret hX hr eJ0_checkIndex_df160_9 rfl
theorem inB_lt {j : Int32} {n : Nat} (hn : n < 2 ^ 31) (h : inB j n = true) : ¬ j < 0 ∧ j < nI n := by
  simp only [inB, Bool.and_eq_true, decide_eq_true_eq] at h
  have h0 : ¬ j < 0 := Int32.not_lt.mpr h.1
  obtain ⟨k, hk, rfl⟩ := nI_of h0
  rw [nI_clamp hk] at h
  exact ⟨h0, (nI_ltI hk hn).mpr h.2⟩
theorem strL_lt {i : Nat} : strL.getD i 0 < 2 ^ 31 := by
  match i with
  | 0 => decide
  | 1 => decide
  | 2 => decide
  | i + 3 => show (0 : Nat) < 2 ^ 31; decide
theorem mJ1_charAt {l : Launch} {G : VG} {i : Nat} {j : Int32} {S : St} (hi : i < 3) (hj : inB j (strL.getD i 0) = true) : MI l G yJ1_charAt_3b067 cJ1_charAt_3b067 2 (some .char) 2 [.ref (G.2.2.2.2.2 i), .int j] S (strC i j.toNatClampNeg, S) := by
  obtain ⟨h0, h1⟩ := inB_lt strL_lt hj
  refine met_of (by decide +kernel) (Nat.le_of_ble_eq_true rfl) (fun X _ hX hr => ?_)
  refine v_iload_n hX eJ1_charAt_3b067_0 rfl ?_
  refine v_aload_n hX eJ1_charAt_3b067_1 rfl ?_
  refine v_sblen hX hi eJ1_charAt_3b067_2 ?_
  refine v_csV hX eJ1_charAt_3b067_3 cw_J1_9 (mJ0_checkIndex h0 h1) (Nat.le_of_ble_eq_true rfl) (As := [_, _]) rfl rfl (Nat.le_of_ble_eq_true rfl) ?_
  refine v_aload_n hX eJ1_charAt_3b067_6 rfl ?_
  refine v_iload_n hX eJ1_charAt_3b067_7 rfl ?_
  refine v_sbld hX hi eJ1_charAt_3b067_8 hj ?_
  refine v_sipush hX eJ1_charAt_3b067_9 sp_255 ?_
  refine v_iand hX eJ1_charAt_3b067_12 ?_
  refine v_i2c hX eJ1_charAt_3b067_13 ?_
  exact v_nret hX hr eJ1_charAt_3b067_14 (pk_nc _) rfl
theorem mJ0_charAt {l : Launch} {G : VG} {i : Nat} {j : Int32} {S : St} (hi : i < 3) (hj : inB j (strL.getD i 0) = true) : MI l G yJ0_charAt_5068e cJ0_charAt_5068e 2 (some .char) 3 [.ref (G.2.2.2.2.1 i), .int j] S (strC i j.toNatClampNeg, S) := by
  refine met_of (by decide +kernel) (Nat.le_of_ble_eq_true rfl) (fun X _ hX hr => ?_)
  refine v_aload_n hX eJ0_charAt_5068e_0 rfl ?_
  refine v_cvIS hX eJ0_charAt_5068e_1 cw_J0_492 (mJ0_isLatin1 hi) (Nat.le_of_ble_eq_true rfl) hi (As := []) rfl rfl (Nat.le_of_ble_eq_true rfl) ?_
  refine v_if_eq hX eJ0_charAt_5068e_4 rfl (fun c => absurd (show (1 : Int32) = 0 from c) (by decide)) (fun _ => ?_)
  refine v_aload_n hX eJ0_charAt_5068e_7 rfl ?_
  refine v_sval hX hi eJ0_charAt_5068e_8 ?_
  refine v_iload_n hX eJ0_charAt_5068e_11 rfl ?_
  refine v_csI hX eJ0_charAt_5068e_12 cw_J0_495 (mJ1_charAt hi hj) (Nat.le_of_ble_eq_true rfl) (As := [_, _]) rfl rfl (Nat.le_of_ble_eq_true rfl) ?_
  exact v_nret hX hr eJ0_charAt_5068e_15 (pk_nc _) rfl
section
variable {X : VX} {G : VG} {cc : ByteArray} {nL lev pc n : Nat} {own : String} {Q : State → Prop} {lv : List (Option Value)} {st : List Value} {S : St} {idx : Nat}
theorem v_slen {i : Nat} (hX : Fx X G cc nL own lev) (hd : Dn cc pc (.invokevirtual idx) 3 n) (hw : CW own idx RJ0 yJ0_length_8abf5 cJ0_length_8abf5 1 (some .int) 0) (hi : i < 3) (hcat : (st.map fun v => v.category).sum ≤ 8) (hlev : 6 ≤ lev) (k : V X G nL Q n lv (.int (nI (strL.getD i 0)) :: st) S) : V X G nL Q pc lv (.ref (G.2.2.2.2.1 i) :: st) S :=
  v_cvIS hX hd hw (mJ0_length hi) (by omega) hi (As := []) rfl rfl hcat k
theorem v_schar {i : Nat} {j : Int32} (hX : Fx X G cc nL own lev) (hd : Dn cc pc (.invokevirtual idx) 3 n) (hw : CW own idx RJ0 yJ0_charAt_5068e cJ0_charAt_5068e 2 (some .char) 1) (hi : i < 3) (hj : inB j (strL.getD i 0) = true) (hcat : (st.map fun v => v.category).sum ≤ 8) (hlev : 6 ≤ lev) (k : V X G nL Q n lv (.int (strC i j.toNatClampNeg) :: st) S) : V X G nL Q pc lv (.int j :: .ref (G.2.2.2.2.1 i) :: st) S :=
  v_cvIS hX hd hw (mJ0_charAt hi hj) (by omega) hi (As := [.int j]) rfl rfl hcat k
end

theorem look_out2 {x : Int32} {a b d : Int} (h0 : ¬ x = 0) (h1 : ¬ x = 1) : Op.lookupswitch.offset (#[((0 : Int), a), ((1 : Int), b)] : Array (Int × Int)).toList d x.toInt = d := by
  have n0 : ¬ (0 : Int) = x.toInt := fun q => h0 (Int32.toInt_inj.mp q.symm)
  have n1 : ¬ (1 : Int) = x.toInt := fun q => h1 (Int32.toInt_inj.mp q.symm)
  show Op.lookupswitch.offset [((0 : Int), a), ((1 : Int), b)] d x.toInt = d
  rw [Op.lookupswitch.offset_cons, if_neg n0, Op.lookupswitch.offset_cons, if_neg n1, Op.lookupswitch.offset_nil]

