set_option maxRecDepth 20000 in
set_option maxHeartbeats 4000000 in
theorem mX7_init {l : Launch} {D : VD} : MC l D yX7_init cX7_init 1 0 24 403188 7 24 [.int 0, .int 0, .null, .null, .null, .int 0, .int 0, .null, .int 0, .int 0, .int 0, .long 0, .int 0, .int 0, .int 0, .int 0, .int 0, .null, .null, .null, .null, .null, .null, .int 0, .null, .null, .null, .null, .int 0, .null, .null, .null, .null, .null, .int 0, .int 0, .null, .null, .null, .null, .null] (pwX7 D.2.1) := by
  refine mc_of (by decide +kernel) (Nat.le_of_ble_eq_true rfl) rfl (fun X A h0 _ hX hname hr => ?_)
  refine u_aload_n hX eX7_init_0 rfl ?_
  refine u_objI hX eX7_init_1 wo_X7_1 (Nat.le_of_ble_eq_true rfl) ?_
  refine u_aload_n hX eX7_init_4 rfl ?_
  refine u_bipush hX eX7_init_5 bp_6 ?_
  refine u_newaI (N := 6) hX eX7_init_7 (by decide) (by decide) (Nat.le_of_ble_eq_true rfl) (Nat.le_of_ble_eq_true rfl) (Nat.le_of_ble_eq_true rfl) (fun q7 => ?_)
  refine u_putF (j := 2) hX eX7_init_9 clX7 (Nat.le_of_ble_eq_true rfl) lk_X7_7 rfl rfl rfl (Nat.le_of_ble_eq_true rfl) (fs2 := [_, _, _, _, _, _, _, _, _, _, _, _, _, _, _, _, _, _, _, _, _, _, _, _, _, _, _, _, _, _, _, _, _, _, _, _, _, _, _, _, _]) rfl rfl hname rfl ?_
  refine u_aload_n hX eX7_init_12 rfl ?_
  refine u_bipush hX eX7_init_13 bp_18 ?_
  refine u_newaI (N := 18) hX eX7_init_15 (by decide) (by decide) (Nat.le_of_ble_eq_true rfl) (Nat.le_of_ble_eq_true rfl) (Nat.le_of_ble_eq_true rfl) (fun q15 => ?_)
  refine u_putF (j := 3) hX eX7_init_17 clX7 (Nat.le_of_ble_eq_true rfl) lk_X7_13 rfl rfl rfl (Nat.le_of_ble_eq_true rfl) (fs2 := [_, _, _, _, _, _, _, _, _, _, _, _, _, _, _, _, _, _, _, _, _, _, _, _, _, _, _, _, _, _, _, _, _, _, _, _, _, _, _, _, _]) rfl rfl hname rfl ?_
  refine u_aload_n hX eX7_init_20 rfl ?_
  refine u_bipush hX eX7_init_21 bp_36 ?_
  refine u_newaI (N := 36) hX eX7_init_23 (by decide) (by decide) (Nat.le_of_ble_eq_true rfl) (Nat.le_of_ble_eq_true rfl) (Nat.le_of_ble_eq_true rfl) (fun q23 => ?_)
  refine u_putF (j := 4) hX eX7_init_25 clX7 (Nat.le_of_ble_eq_true rfl) lk_X7_16 rfl rfl rfl (Nat.le_of_ble_eq_true rfl) (fs2 := [_, _, _, _, _, _, _, _, _, _, _, _, _, _, _, _, _, _, _, _, _, _, _, _, _, _, _, _, _, _, _, _, _, _, _, _, _, _, _, _, _]) rfl rfl hname rfl ?_
  refine u_aload_n hX eX7_init_28 rfl ?_
  refine u_sipush hX eX7_init_29 sp_400 ?_
  refine u_newaI (N := 400) hX eX7_init_32 (by decide) (by decide) (Nat.le_of_ble_eq_true rfl) (Nat.le_of_ble_eq_true rfl) (Nat.le_of_ble_eq_true rfl) (fun q32 => ?_)
  refine u_putF (j := 7) hX eX7_init_34 clX7 (Nat.le_of_ble_eq_true rfl) lk_X7_19 rfl rfl rfl (Nat.le_of_ble_eq_true rfl) (fs2 := [_, _, _, _, _, _, _, _, _, _, _, _, _, _, _, _, _, _, _, _, _, _, _, _, _, _, _, _, _, _, _, _, _, _, _, _, _, _, _, _, _]) rfl rfl hname rfl ?_
  refine u_aload_n hX eX7_init_37 rfl ?_
  refine u_iconst hX eX7_init_38 ic_m1 ?_
  refine u_put (j := 9) hX eX7_init_39 clX7 (Nat.le_of_ble_eq_true rfl) lk_X7_22 rfl rfl rfl (Nat.le_of_ble_eq_true rfl) (fs2 := [_, _, _, _, _, _, _, _, _, _, _, _, _, _, _, _, _, _, _, _, _, _, _, _, _, _, _, _, _, _, _, _, _, _, _, _, _, _, _, _, _]) rfl rfl ?_
  refine u_aload_n hX eX7_init_42 rfl ?_
  refine u_bipush hX eX7_init_43 bp_6 ?_
  refine u_newaI (N := 6) hX eX7_init_45 (by decide) (by decide) (Nat.le_of_ble_eq_true rfl) (Nat.le_of_ble_eq_true rfl) (Nat.le_of_ble_eq_true rfl) (fun q45 => ?_)
  refine u_putF (j := 17) hX eX7_init_47 clX7 (Nat.le_of_ble_eq_true rfl) lk_X7_26 rfl rfl rfl (Nat.le_of_ble_eq_true rfl) (fs2 := [_, _, _, _, _, _, _, _, _, _, _, _, _, _, _, _, _, _, _, _, _, _, _, _, _, _, _, _, _, _, _, _, _, _, _, _, _, _, _, _, _]) rfl rfl hname rfl ?_
  refine u_aload_n hX eX7_init_50 rfl ?_
  refine u_bipush hX eX7_init_51 bp_18 ?_
  refine u_newaI (N := 18) hX eX7_init_53 (by decide) (by decide) (Nat.le_of_ble_eq_true rfl) (Nat.le_of_ble_eq_true rfl) (Nat.le_of_ble_eq_true rfl) (fun q53 => ?_)
  refine u_putF (j := 18) hX eX7_init_55 clX7 (Nat.le_of_ble_eq_true rfl) lk_X7_29 rfl rfl rfl (Nat.le_of_ble_eq_true rfl) (fs2 := [_, _, _, _, _, _, _, _, _, _, _, _, _, _, _, _, _, _, _, _, _, _, _, _, _, _, _, _, _, _, _, _, _, _, _, _, _, _, _, _, _]) rfl rfl hname rfl ?_
  refine u_aload_n hX eX7_init_58 rfl ?_
  refine u_bipush hX eX7_init_59 bp_36 ?_
  refine u_newaI (N := 36) hX eX7_init_61 (by decide) (by decide) (Nat.le_of_ble_eq_true rfl) (Nat.le_of_ble_eq_true rfl) (Nat.le_of_ble_eq_true rfl) (fun q61 => ?_)
  refine u_putF (j := 19) hX eX7_init_63 clX7 (Nat.le_of_ble_eq_true rfl) lk_X7_32 rfl rfl rfl (Nat.le_of_ble_eq_true rfl) (fs2 := [_, _, _, _, _, _, _, _, _, _, _, _, _, _, _, _, _, _, _, _, _, _, _, _, _, _, _, _, _, _, _, _, _, _, _, _, _, _, _, _, _]) rfl rfl hname rfl ?_
  refine u_aload_n hX eX7_init_66 rfl ?_
  refine u_bipush hX eX7_init_67 bp_6 ?_
  refine u_newaI (N := 6) hX eX7_init_69 (by decide) (by decide) (Nat.le_of_ble_eq_true rfl) (Nat.le_of_ble_eq_true rfl) (Nat.le_of_ble_eq_true rfl) (fun q69 => ?_)
  refine u_putF (j := 20) hX eX7_init_71 clX7 (Nat.le_of_ble_eq_true rfl) lk_X7_35 rfl rfl rfl (Nat.le_of_ble_eq_true rfl) (fs2 := [_, _, _, _, _, _, _, _, _, _, _, _, _, _, _, _, _, _, _, _, _, _, _, _, _, _, _, _, _, _, _, _, _, _, _, _, _, _, _, _, _]) rfl rfl hname rfl ?_
  refine u_aload_n hX eX7_init_74 rfl ?_
  refine u_bipush hX eX7_init_75 bp_6 ?_
  refine u_newaI (N := 6) hX eX7_init_77 (by decide) (by decide) (Nat.le_of_ble_eq_true rfl) (Nat.le_of_ble_eq_true rfl) (Nat.le_of_ble_eq_true rfl) (fun q77 => ?_)
  refine u_putF (j := 21) hX eX7_init_79 clX7 (Nat.le_of_ble_eq_true rfl) lk_X7_38 rfl rfl rfl (Nat.le_of_ble_eq_true rfl) (fs2 := [_, _, _, _, _, _, _, _, _, _, _, _, _, _, _, _, _, _, _, _, _, _, _, _, _, _, _, _, _, _, _, _, _, _, _, _, _, _, _, _, _]) rfl rfl hname rfl ?_
  refine u_aload_n hX eX7_init_82 rfl ?_
  refine u_bipush hX eX7_init_83 bp_6 ?_
  refine u_newaI (N := 6) hX eX7_init_85 (by decide) (by decide) (Nat.le_of_ble_eq_true rfl) (Nat.le_of_ble_eq_true rfl) (Nat.le_of_ble_eq_true rfl) (fun q85 => ?_)
  refine u_putF (j := 22) hX eX7_init_87 clX7 (Nat.le_of_ble_eq_true rfl) lk_X7_41 rfl rfl rfl (Nat.le_of_ble_eq_true rfl) (fs2 := [_, _, _, _, _, _, _, _, _, _, _, _, _, _, _, _, _, _, _, _, _, _, _, _, _, _, _, _, _, _, _, _, _, _, _, _, _, _, _, _, _]) rfl rfl hname rfl ?_
  refine u_aload_n hX eX7_init_90 rfl ?_
  refine u_ldc hX eX7_init_91 qc_X7_44 ?_
  refine u_newaI (N := 100000) hX eX7_init_93 (by decide) (by decide) (Nat.le_of_ble_eq_true rfl) (Nat.le_of_ble_eq_true rfl) (Nat.le_of_ble_eq_true rfl) (fun q93 => ?_)
  refine u_putF (j := 24) hX eX7_init_95 clX7 (Nat.le_of_ble_eq_true rfl) lk_X7_45 rfl rfl rfl (Nat.le_of_ble_eq_true rfl) (fs2 := [_, _, _, _, _, _, _, _, _, _, _, _, _, _, _, _, _, _, _, _, _, _, _, _, _, _, _, _, _, _, _, _, _, _, _, _, _, _, _, _, _]) rfl rfl hname rfl ?_
  refine u_aload_n hX eX7_init_98 rfl ?_
  refine u_ldc hX eX7_init_99 qc_X7_44 ?_
  refine u_newaI (N := 100000) hX eX7_init_101 (by decide) (by decide) (Nat.le_of_ble_eq_true rfl) (Nat.le_of_ble_eq_true rfl) (Nat.le_of_ble_eq_true rfl) (fun q101 => ?_)
  refine u_putF (j := 25) hX eX7_init_103 clX7 (Nat.le_of_ble_eq_true rfl) lk_X7_48 rfl rfl rfl (Nat.le_of_ble_eq_true rfl) (fs2 := [_, _, _, _, _, _, _, _, _, _, _, _, _, _, _, _, _, _, _, _, _, _, _, _, _, _, _, _, _, _, _, _, _, _, _, _, _, _, _, _, _]) rfl rfl hname rfl ?_
  refine u_aload_n hX eX7_init_106 rfl ?_
  refine u_ldc hX eX7_init_107 qc_X7_44 ?_
  refine u_newaI (N := 100000) hX eX7_init_109 (by decide) (by decide) (Nat.le_of_ble_eq_true rfl) (Nat.le_of_ble_eq_true rfl) (Nat.le_of_ble_eq_true rfl) (fun q109 => ?_)
  refine u_putF (j := 26) hX eX7_init_111 clX7 (Nat.le_of_ble_eq_true rfl) lk_X7_51 rfl rfl rfl (Nat.le_of_ble_eq_true rfl) (fs2 := [_, _, _, _, _, _, _, _, _, _, _, _, _, _, _, _, _, _, _, _, _, _, _, _, _, _, _, _, _, _, _, _, _, _, _, _, _, _, _, _, _]) rfl rfl hname rfl ?_
  refine u_aload_n hX eX7_init_114 rfl ?_
  refine u_ldc hX eX7_init_115 qc_X7_44 ?_
  refine u_newaZ (N := 100000) hX eX7_init_117 (by decide) (by decide) (Nat.le_of_ble_eq_true rfl) (Nat.le_of_ble_eq_true rfl) (Nat.le_of_ble_eq_true rfl) (fun q117 => ?_)
  refine u_putF (j := 27) hX eX7_init_119 clX7 (Nat.le_of_ble_eq_true rfl) lk_X7_54 rfl rfl rfl (Nat.le_of_ble_eq_true rfl) (fs2 := [_, _, _, _, _, _, _, _, _, _, _, _, _, _, _, _, _, _, _, _, _, _, _, _, _, _, _, _, _, _, _, _, _, _, _, _, _, _, _, _, _]) rfl rfl hname rfl ?_
  refine u_aload_n hX eX7_init_122 rfl ?_
  refine u_sipush hX eX7_init_123 sp_384 ?_
  refine u_newaI (N := 384) hX eX7_init_126 (by decide) (by decide) (Nat.le_of_ble_eq_true rfl) (Nat.le_of_ble_eq_true rfl) (Nat.le_of_ble_eq_true rfl) (fun q126 => ?_)
  refine u_putF (j := 29) hX eX7_init_128 clX7 (Nat.le_of_ble_eq_true rfl) lk_X7_58 rfl rfl rfl (Nat.le_of_ble_eq_true rfl) (fs2 := [_, _, _, _, _, _, _, _, _, _, _, _, _, _, _, _, _, _, _, _, _, _, _, _, _, _, _, _, _, _, _, _, _, _, _, _, _, _, _, _, _]) rfl rfl hname rfl ?_
  refine u_aload_n hX eX7_init_131 rfl ?_
  refine u_bipush hX eX7_init_132 bp_64 ?_
  refine u_newaI (N := 64) hX eX7_init_134 (by decide) (by decide) (Nat.le_of_ble_eq_true rfl) (Nat.le_of_ble_eq_true rfl) (Nat.le_of_ble_eq_true rfl) (fun q134 => ?_)
  refine u_putF (j := 30) hX eX7_init_136 clX7 (Nat.le_of_ble_eq_true rfl) lk_X7_61 rfl rfl rfl (Nat.le_of_ble_eq_true rfl) (fs2 := [_, _, _, _, _, _, _, _, _, _, _, _, _, _, _, _, _, _, _, _, _, _, _, _, _, _, _, _, _, _, _, _, _, _, _, _, _, _, _, _, _]) rfl rfl hname rfl ?_
  refine u_aload_n hX eX7_init_139 rfl ?_
  refine u_sipush hX eX7_init_140 sp_1000 ?_
  refine u_newaJ (N := 1000) hX eX7_init_143 (by decide) (by decide) (Nat.le_of_ble_eq_true rfl) (Nat.le_of_ble_eq_true rfl) (Nat.le_of_ble_eq_true rfl) (fun q143 => ?_)
  refine u_putF (j := 31) hX eX7_init_145 clX7 (Nat.le_of_ble_eq_true rfl) lk_X7_64 rfl rfl rfl (Nat.le_of_ble_eq_true rfl) (fs2 := [_, _, _, _, _, _, _, _, _, _, _, _, _, _, _, _, _, _, _, _, _, _, _, _, _, _, _, _, _, _, _, _, _, _, _, _, _, _, _, _, _]) rfl rfl hname rfl ?_
  refine u_aload_n hX eX7_init_148 rfl ?_
  refine u_sipush hX eX7_init_149 sp_1000 ?_
  refine u_newaJ (N := 1000) hX eX7_init_152 (by decide) (by decide) (Nat.le_of_ble_eq_true rfl) (Nat.le_of_ble_eq_true rfl) (Nat.le_of_ble_eq_true rfl) (fun q152 => ?_)
  refine u_putF (j := 32) hX eX7_init_154 clX7 (Nat.le_of_ble_eq_true rfl) lk_X7_68 rfl rfl rfl (Nat.le_of_ble_eq_true rfl) (fs2 := [_, _, _, _, _, _, _, _, _, _, _, _, _, _, _, _, _, _, _, _, _, _, _, _, _, _, _, _, _, _, _, _, _, _, _, _, _, _, _, _, _]) rfl rfl hname rfl ?_
  refine u_aload_n hX eX7_init_157 rfl ?_
  refine u_iconst hX eX7_init_158 ic_4 ?_
  refine u_newaI (N := 4) hX eX7_init_159 (by decide) (by decide) (Nat.le_of_ble_eq_true rfl) (Nat.le_of_ble_eq_true rfl) (Nat.le_of_ble_eq_true rfl) (fun q159 => ?_)
  refine u_putF (j := 33) hX eX7_init_161 clX7 (Nat.le_of_ble_eq_true rfl) lk_X7_71 rfl rfl rfl (Nat.le_of_ble_eq_true rfl) (fs2 := [_, _, _, _, _, _, _, _, _, _, _, _, _, _, _, _, _, _, _, _, _, _, _, _, _, _, _, _, _, _, _, _, _, _, _, _, _, _, _, _, _]) rfl rfl hname rfl ?_
  refine u_aload_n hX eX7_init_164 rfl ?_
  refine u_bipush hX eX7_init_165 bp_40 ?_
  refine u_newaI (N := 40) hX eX7_init_167 (by decide) (by decide) (Nat.le_of_ble_eq_true rfl) (Nat.le_of_ble_eq_true rfl) (Nat.le_of_ble_eq_true rfl) (fun q167 => ?_)
  refine u_putF (j := 36) hX eX7_init_169 clX7 (Nat.le_of_ble_eq_true rfl) lk_X7_74 rfl rfl rfl (Nat.le_of_ble_eq_true rfl) (fs2 := [_, _, _, _, _, _, _, _, _, _, _, _, _, _, _, _, _, _, _, _, _, _, _, _, _, _, _, _, _, _, _, _, _, _, _, _, _, _, _, _, _]) rfl rfl hname rfl ?_
  refine u_aload_n hX eX7_init_172 rfl ?_
  refine u_bipush hX eX7_init_173 bp_40 ?_
  refine u_newaI (N := 40) hX eX7_init_175 (by decide) (by decide) (Nat.le_of_ble_eq_true rfl) (Nat.le_of_ble_eq_true rfl) (Nat.le_of_ble_eq_true rfl) (fun q175 => ?_)
  refine u_putF (j := 37) hX eX7_init_177 clX7 (Nat.le_of_ble_eq_true rfl) lk_X7_77 rfl rfl rfl (Nat.le_of_ble_eq_true rfl) (fs2 := [_, _, _, _, _, _, _, _, _, _, _, _, _, _, _, _, _, _, _, _, _, _, _, _, _, _, _, _, _, _, _, _, _, _, _, _, _, _, _, _, _]) rfl rfl hname rfl ?_
  refine u_aload_n hX eX7_init_180 rfl ?_
  refine u_bipush hX eX7_init_181 bp_36 ?_
  refine u_newaI (N := 36) hX eX7_init_183 (by decide) (by decide) (Nat.le_of_ble_eq_true rfl) (Nat.le_of_ble_eq_true rfl) (Nat.le_of_ble_eq_true rfl) (fun q183 => ?_)
  refine u_putF (j := 38) hX eX7_init_185 clX7 (Nat.le_of_ble_eq_true rfl) lk_X7_80 rfl rfl rfl (Nat.le_of_ble_eq_true rfl) (fs2 := [_, _, _, _, _, _, _, _, _, _, _, _, _, _, _, _, _, _, _, _, _, _, _, _, _, _, _, _, _, _, _, _, _, _, _, _, _, _, _, _, _]) rfl rfl hname rfl ?_
  refine u_aload_n hX eX7_init_188 rfl ?_
  refine u_bipush hX eX7_init_189 bp_80 ?_
  refine u_newaI (N := 80) hX eX7_init_191 (by decide) (by decide) (Nat.le_of_ble_eq_true rfl) (Nat.le_of_ble_eq_true rfl) (Nat.le_of_ble_eq_true rfl) (fun q191 => ?_)
  refine u_putF (j := 39) hX eX7_init_193 clX7 (Nat.le_of_ble_eq_true rfl) lk_X7_83 rfl rfl rfl (Nat.le_of_ble_eq_true rfl) (fs2 := [_, _, _, _, _, _, _, _, _, _, _, _, _, _, _, _, _, _, _, _, _, _, _, _, _, _, _, _, _, _, _, _, _, _, _, _, _, _, _, _, _]) rfl rfl hname rfl ?_
  refine u_aload_n hX eX7_init_196 rfl ?_
  refine u_iconst hX eX7_init_197 ic_2 ?_
  refine u_newaZ (N := 2) hX eX7_init_198 (by decide) (by decide) (Nat.le_of_ble_eq_true rfl) (Nat.le_of_ble_eq_true rfl) (Nat.le_of_ble_eq_true rfl) (fun q198 => ?_)
  refine u_putF (j := 40) hX eX7_init_200 clX7 (Nat.le_of_ble_eq_true rfl) lk_X7_86 rfl rfl rfl (Nat.le_of_ble_eq_true rfl) (fs2 := [_, _, _, _, _, _, _, _, _, _, _, _, _, _, _, _, _, _, _, _, _, _, _, _, _, _, _, _, _, _, _, _, _, _, _, _, _, _, _, _, _]) rfl rfl hname rfl ?_
  refine u_aload_n hX eX7_init_203 rfl ?_
  refine u_iconst hX eX7_init_204 ic_0 ?_
  refine u_put (j := 0) hX eX7_init_205 clX7 (Nat.le_of_ble_eq_true rfl) lk_X7_89 rfl rfl rfl (Nat.le_of_ble_eq_true rfl) (fs2 := [_, _, _, _, _, _, _, _, _, _, _, _, _, _, _, _, _, _, _, _, _, _, _, _, _, _, _, _, _, _, _, _, _, _, _, _, _, _, _, _, _]) rfl rfl ?_
  refine u_ret (qs := [q7, q15, q23, q32, q45, q53, q61, q69, q77, q85, q93, q101, q109, q117, q126, q134, q143, q152, q159, q167, q175, q183, q191, q198]) hX hr eX7_init_208 rfl (by decide) (by decide) ?_
  simp only [pwX7, List.getD_cons_zero, List.getD_cons_succ, List.nil_append, List.cons_append]
