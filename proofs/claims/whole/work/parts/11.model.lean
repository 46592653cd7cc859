/-! THE REFERENCE, method by method -/
noncomputable def z_X8_init : List (Nat × bm_O) := [(0, op_aload 0), (1, op_objinit), (4, op_aload 0), (5, op_const (164)), (8, op_newa), (10, op_putR 7 0), (13, op_aload 0), (14, op_const (656)), (17, op_newa), (19, op_putR 7 1), (22, op_aload 0), (23, op_const (40)), (25, op_newa), (27, op_putR 7 3), (30, op_aload 0), (31, op_const (48)), (33, op_newa), (35, op_putR 7 5), (38, op_aload 0), (39, op_const (48)), (41, op_newa), (43, op_putR 7 6), (46, op_aload 0), (47, op_const (20)), (49, op_newa), (51, op_putR 7 16), (54, op_aload 0), (55, op_const (20)), (57, op_newa), (59, op_putR 7 17), (62, op_aload 0), (63, op_const (20)), (65, op_newa), (67, op_putR 7 18), (70, op_aload 0), (71, op_getR 7 0), (74, op_const (2)), (75, op_const (2)), (76, op_iastore), (77, op_aload 0), (78, op_getR 7 0), (81, op_const (3)), (82, op_const (24)), (84, op_iastore), (85, op_aload 0), (86, op_getR 7 0), (89, op_const (4)), (90, op_const (20)), (92, op_iastore), (93, op_aload 0), (94, op_getR 7 0), (97, op_const (5)), (98, op_const (1)), (99, op_iastore), (100, op_aload 0), (101, op_getR 7 0), (104, op_const (7)), (106, op_const (1)), (107, op_iastore), (108, op_ret)]
noncomputable def f_X8_init : bm_F := Classical.choose (bm_hide (bm_mt 1 z_X8_init))
theorem u_X8_init : f_X8_init = bm_mt 1 z_X8_init := Classical.choose_spec (bm_hide _)
theorem k_X8_init (l : Launch) (g : bm_G) : bm_MetF l g yX8_init cX8_init 1 none 1 16 f_X8_init := by
  rw [u_X8_init]
  refine bm_met (by decide) ?_
  intro p e R s m args below meth c n0 s0 hx hb hml hown hts hK hr hlk hnm hF hL
  refine bm_cc (s_aload_n hx hb dX8_init_0) ?_
  refine bm_cc (s_objinit hx hb hml hown hts tw_82 tw_5 tw_6 (by rw [hF]; decide) (by rw [hL]; decide) dX8_init_1) ?_
  refine bm_cc (s_aload_n hx hb dX8_init_4) ?_
  refine bm_cc (s_sipush hx hb dX8_init_5 (by decide)) ?_
  refine bm_cc (s_newa hx hb hts hK tw_7 dX8_init_8) ?_
  refine bm_cc (s_putR hx hb hown hts hK (C := RX8) (TT := TX8) (N := 19) (ci := 7) (j := 0) inT8 rfl (by decide) rfl (by decide) tyX8 tyX8_ok nmX8 rfl tw_83 rfl ⟨rfl, hnm, rfl⟩ (ty := .array .int) (by decide +kernel) (fun q => ⟨rfl, rfl⟩) dX8_init_10) ?_
  refine bm_cc (s_aload_n hx hb dX8_init_13) ?_
  refine bm_cc (s_sipush hx hb dX8_init_14 (by decide)) ?_
  refine bm_cc (s_newa hx hb hts hK tw_7 dX8_init_17) ?_
  refine bm_cc (s_putR hx hb hown hts hK (C := RX8) (TT := TX8) (N := 19) (ci := 7) (j := 1) inT8 rfl (by decide) rfl (by decide) tyX8 tyX8_ok nmX8 rfl tw_84 rfl ⟨rfl, hnm, rfl⟩ (ty := .array .int) (by decide +kernel) (fun q => ⟨rfl, rfl⟩) dX8_init_19) ?_
  refine bm_cc (s_aload_n hx hb dX8_init_22) ?_
  refine bm_cc (s_bipush hx hb dX8_init_23 (by decide)) ?_
  refine bm_cc (s_newa hx hb hts hK tw_7 dX8_init_25) ?_
  refine bm_cc (s_putR hx hb hown hts hK (C := RX8) (TT := TX8) (N := 19) (ci := 7) (j := 3) inT8 rfl (by decide) rfl (by decide) tyX8 tyX8_ok nmX8 rfl tw_85 rfl ⟨rfl, hnm, rfl⟩ (ty := .array .int) (by decide +kernel) (fun q => ⟨rfl, rfl⟩) dX8_init_27) ?_
  refine bm_cc (s_aload_n hx hb dX8_init_30) ?_
  refine bm_cc (s_bipush hx hb dX8_init_31 (by decide)) ?_
  refine bm_cc (s_newa hx hb hts hK tw_7 dX8_init_33) ?_
  refine bm_cc (s_putR hx hb hown hts hK (C := RX8) (TT := TX8) (N := 19) (ci := 7) (j := 5) inT8 rfl (by decide) rfl (by decide) tyX8 tyX8_ok nmX8 rfl tw_86 rfl ⟨rfl, hnm, rfl⟩ (ty := .array .int) (by decide +kernel) (fun q => ⟨rfl, rfl⟩) dX8_init_35) ?_
  refine bm_cc (s_aload_n hx hb dX8_init_38) ?_
  refine bm_cc (s_bipush hx hb dX8_init_39 (by decide)) ?_
  refine bm_cc (s_newa hx hb hts hK tw_7 dX8_init_41) ?_
  refine bm_cc (s_putR hx hb hown hts hK (C := RX8) (TT := TX8) (N := 19) (ci := 7) (j := 6) inT8 rfl (by decide) rfl (by decide) tyX8 tyX8_ok nmX8 rfl tw_87 rfl ⟨rfl, hnm, rfl⟩ (ty := .array .int) (by decide +kernel) (fun q => ⟨rfl, rfl⟩) dX8_init_43) ?_
  refine bm_cc (s_aload_n hx hb dX8_init_46) ?_
  refine bm_cc (s_bipush hx hb dX8_init_47 (by decide)) ?_
  refine bm_cc (s_newa hx hb hts hK tw_7 dX8_init_49) ?_
  refine bm_cc (s_putR hx hb hown hts hK (C := RX8) (TT := TX8) (N := 19) (ci := 7) (j := 16) inT8 rfl (by decide) rfl (by decide) tyX8 tyX8_ok nmX8 rfl tw_88 rfl ⟨rfl, hnm, rfl⟩ (ty := .array .int) (by decide +kernel) (fun q => ⟨rfl, rfl⟩) dX8_init_51) ?_
  refine bm_cc (s_aload_n hx hb dX8_init_54) ?_
  refine bm_cc (s_bipush hx hb dX8_init_55 (by decide)) ?_
  refine bm_cc (s_newa hx hb hts hK tw_7 dX8_init_57) ?_
  refine bm_cc (s_putR hx hb hown hts hK (C := RX8) (TT := TX8) (N := 19) (ci := 7) (j := 17) inT8 rfl (by decide) rfl (by decide) tyX8 tyX8_ok nmX8 rfl tw_89 rfl ⟨rfl, hnm, rfl⟩ (ty := .array .int) (by decide +kernel) (fun q => ⟨rfl, rfl⟩) dX8_init_59) ?_
  refine bm_cc (s_aload_n hx hb dX8_init_62) ?_
  refine bm_cc (s_bipush hx hb dX8_init_63 (by decide)) ?_
  refine bm_cc (s_newa hx hb hts hK tw_7 dX8_init_65) ?_
  refine bm_cc (s_putR hx hb hown hts hK (C := RX8) (TT := TX8) (N := 19) (ci := 7) (j := 18) inT8 rfl (by decide) rfl (by decide) tyX8 tyX8_ok nmX8 rfl tw_90 rfl ⟨rfl, hnm, rfl⟩ (ty := .array .int) (by decide +kernel) (fun q => ⟨rfl, rfl⟩) dX8_init_67) ?_
  refine bm_cc (s_aload_n hx hb dX8_init_70) ?_
  refine bm_cc (s_getR hx hb hown hts hK (C := RX8) (TT := TX8) (N := 19) (ci := 7) (j := 0) inT8 rfl (by decide) rfl (by decide) rfl tw_83 rfl dX8_init_71) ?_
  refine bm_cc (s_iconst hx hb dX8_init_74 (by decide)) ?_
  refine bm_cc (s_iconst hx hb dX8_init_75 (by decide)) ?_
  refine bm_cc (s_iastore hx hb hK dX8_init_76) ?_
  refine bm_cc (s_aload_n hx hb dX8_init_77) ?_
  refine bm_cc (s_getR hx hb hown hts hK (C := RX8) (TT := TX8) (N := 19) (ci := 7) (j := 0) inT8 rfl (by decide) rfl (by decide) rfl tw_83 rfl dX8_init_78) ?_
  refine bm_cc (s_iconst hx hb dX8_init_81 (by decide)) ?_
  refine bm_cc (s_bipush hx hb dX8_init_82 (by decide)) ?_
  refine bm_cc (s_iastore hx hb hK dX8_init_84) ?_
  refine bm_cc (s_aload_n hx hb dX8_init_85) ?_
  refine bm_cc (s_getR hx hb hown hts hK (C := RX8) (TT := TX8) (N := 19) (ci := 7) (j := 0) inT8 rfl (by decide) rfl (by decide) rfl tw_83 rfl dX8_init_86) ?_
  refine bm_cc (s_iconst hx hb dX8_init_89 (by decide)) ?_
  refine bm_cc (s_bipush hx hb dX8_init_90 (by decide)) ?_
  refine bm_cc (s_iastore hx hb hK dX8_init_92) ?_
  refine bm_cc (s_aload_n hx hb dX8_init_93) ?_
  refine bm_cc (s_getR hx hb hown hts hK (C := RX8) (TT := TX8) (N := 19) (ci := 7) (j := 0) inT8 rfl (by decide) rfl (by decide) rfl tw_83 rfl dX8_init_94) ?_
  refine bm_cc (s_iconst hx hb dX8_init_97 (by decide)) ?_
  refine bm_cc (s_iconst hx hb dX8_init_98 (by decide)) ?_
  refine bm_cc (s_iastore hx hb hK dX8_init_99) ?_
  refine bm_cc (s_aload_n hx hb dX8_init_100) ?_
  refine bm_cc (s_getR hx hb hown hts hK (C := RX8) (TT := TX8) (N := 19) (ci := 7) (j := 0) inT8 rfl (by decide) rfl (by decide) rfl tw_83 rfl dX8_init_101) ?_
  refine bm_cc (s_bipush hx hb dX8_init_104 (by decide)) ?_
  refine bm_cc (s_iconst hx hb dX8_init_106 (by decide)) ?_
  refine bm_cc (s_iastore hx hb hK dX8_init_107) ?_
  refine bm_cc (s_ret hx hb hr hlk dX8_init_108) ?_
  exact bm_c9

noncomputable def z_X8_in : List (Nat × bm_O) := [(0, op_iload 0), (1, op_iload 1), (2, op_iclt 14), (5, op_iload 0), (6, op_iload 2), (7, op_icgt 14), (10, op_const (1)), (11, op_goto 15), (14, op_const (0)), (15, op_zret)]
noncomputable def f_X8_in : bm_F := Classical.choose (bm_hide (bm_mt 3 z_X8_in))
theorem u_X8_in : f_X8_in = bm_mt 3 z_X8_in := Classical.choose_spec (bm_hide _)
theorem k_X8_in (l : Launch) (g : bm_G) : bm_MetF l g yX8_in cX8_in 3 (some .boolean) 0 0 f_X8_in := by
  rw [u_X8_in]
  refine bm_met (by decide) ?_
  intro p e R s m args below meth c n0 s0 hx hb hml hown hts hK hr hlk hnm hF hL
  refine bm_cc (s_iload_n hx hb dX8_in_0) ?_
  refine bm_cc (s_iload_n hx hb dX8_in_1) ?_
  refine bm_cc (s_iclt hx hb dX8_in_2 (by decide)) ?_
  refine bm_cc (s_iload_n hx hb dX8_in_5) ?_
  refine bm_cc (s_iload_n hx hb dX8_in_6) ?_
  refine bm_cc (s_icgt hx hb dX8_in_7 (by decide)) ?_
  refine bm_cc (s_iconst hx hb dX8_in_10 (by decide)) ?_
  refine bm_cc (s_goto hx hb dX8_in_11 (by decide)) ?_
  refine bm_cc (s_iconst hx hb dX8_in_14 (by decide)) ?_
  refine bm_cc (s_zret hx hb hr hlk dX8_in_15) ?_
  exact bm_c9

noncomputable def z_X8_changes : List (Nat × bm_O) := [(0, op_aload 0), (1, op_getI 7 2), (4, op_const (4)), (5, op_icne 49), (8, op_const (0)), (9, op_istore 1), (10, op_iload 1), (11, op_const (492)), (14, op_icge 39), (17, op_aload 0), (18, op_getR 7 1), (21, op_iload 1), (22, op_aload 0), (23, op_getR 7 1), (26, op_iload 1), (27, op_const (164)), (30, op_bin (fun a b => a + b)), (31, op_iaload), (32, op_iastore), (33, op_iinc 1 1), (36, op_goto 10), (39, op_aload 0), (40, op_dup), (41, op_getI 7 2), (44, op_const (1)), (45, op_bin (fun a b => a - b)), (46, op_putI 7 2), (49, op_const (0)), (50, op_istore 1), (51, op_iload 1), (52, op_const (164)), (55, op_icge 85), (58, op_aload 0), (59, op_getR 7 1), (62, op_const (164)), (65, op_aload 0), (66, op_getI 7 2), (69, op_bin (fun a b => a * b)), (70, op_iload 1), (71, op_bin (fun a b => a + b)), (72, op_aload 0), (73, op_getR 7 0), (76, op_iload 1), (77, op_iaload), (78, op_iastore), (79, op_iinc 1 1), (82, op_goto 51), (85, op_aload 0), (86, op_dup), (87, op_getI 7 2), (90, op_const (1)), (91, op_bin (fun a b => a + b)), (92, op_putI 7 2), (95, op_ret)]
noncomputable def f_X8_changes : bm_F := Classical.choose (bm_hide (bm_mt 2 z_X8_changes))
theorem u_X8_changes : f_X8_changes = bm_mt 2 z_X8_changes := Classical.choose_spec (bm_hide _)
theorem k_X8_changes (l : Launch) (g : bm_G) : bm_MetF l g yX8_changes cX8_changes 2 none 0 0 f_X8_changes := by
  rw [u_X8_changes]
  refine bm_met (by decide) ?_
  intro p e R s m args below meth c n0 s0 hx hb hml hown hts hK hr hlk hnm hF hL
  refine bm_cc (s_aload_n hx hb dX8_changes_0) ?_
  refine bm_cc (s_getI hx hb hown hts hK (C := RX8) (TT := TX8) (N := 19) (ci := 7) (j := 2) inT8 rfl (by decide) rfl (by decide) rfl tw_122 rfl dX8_changes_1) ?_
  refine bm_cc (s_iconst hx hb dX8_changes_4 (by decide)) ?_
  refine bm_cc (s_icne hx hb dX8_changes_5 (by decide)) ?_
  refine bm_cc (s_iconst hx hb dX8_changes_8 (by decide)) ?_
  refine bm_cc (s_istore_n hx hb dX8_changes_9) ?_
  refine bm_cc (s_iload_n hx hb dX8_changes_10) ?_
  refine bm_cc (s_sipush hx hb dX8_changes_11 (by decide)) ?_
  refine bm_cc (s_icge hx hb dX8_changes_14 (by decide)) ?_
  refine bm_cc (s_aload_n hx hb dX8_changes_17) ?_
  refine bm_cc (s_getR hx hb hown hts hK (C := RX8) (TT := TX8) (N := 19) (ci := 7) (j := 1) inT8 rfl (by decide) rfl (by decide) rfl tw_84 rfl dX8_changes_18) ?_
  refine bm_cc (s_iload_n hx hb dX8_changes_21) ?_
  refine bm_cc (s_aload_n hx hb dX8_changes_22) ?_
  refine bm_cc (s_getR hx hb hown hts hK (C := RX8) (TT := TX8) (N := 19) (ci := 7) (j := 1) inT8 rfl (by decide) rfl (by decide) rfl tw_84 rfl dX8_changes_23) ?_
  refine bm_cc (s_iload_n hx hb dX8_changes_26) ?_
  refine bm_cc (s_sipush hx hb dX8_changes_27 (by decide)) ?_
  refine bm_cc (s_iadd hx hb dX8_changes_30) ?_
  refine bm_cc (s_iaload hx hb hK dX8_changes_31) ?_
  refine bm_cc (s_iastore hx hb hK dX8_changes_32) ?_
  refine bm_cc (s_iinc hx hb dX8_changes_33 (by decide)) ?_
  refine bm_cc (s_goto hx hb dX8_changes_36 (by decide)) ?_
  refine bm_cc (s_aload_n hx hb dX8_changes_39) ?_
  refine bm_cc (s_dup hx hb dX8_changes_40) ?_
  refine bm_cc (s_getI hx hb hown hts hK (C := RX8) (TT := TX8) (N := 19) (ci := 7) (j := 2) inT8 rfl (by decide) rfl (by decide) rfl tw_122 rfl dX8_changes_41) ?_
  refine bm_cc (s_iconst hx hb dX8_changes_44 (by decide)) ?_
  refine bm_cc (s_isub hx hb dX8_changes_45) ?_
  refine bm_cc (s_putI hx hb hown hts hK (C := RX8) (TT := TX8) (N := 19) (ci := 7) (j := 2) inT8 rfl (by decide) rfl (by decide) tyX8 tyX8_ok nmX8 rfl tw_122 rfl rfl (by decide +kernel) dX8_changes_46) ?_
  refine bm_cc (s_iconst hx hb dX8_changes_49 (by decide)) ?_
  refine bm_cc (s_istore_n hx hb dX8_changes_50) ?_
  refine bm_cc (s_iload_n hx hb dX8_changes_51) ?_
  refine bm_cc (s_sipush hx hb dX8_changes_52 (by decide)) ?_
  refine bm_cc (s_icge hx hb dX8_changes_55 (by decide)) ?_
  refine bm_cc (s_aload_n hx hb dX8_changes_58) ?_
  refine bm_cc (s_getR hx hb hown hts hK (C := RX8) (TT := TX8) (N := 19) (ci := 7) (j := 1) inT8 rfl (by decide) rfl (by decide) rfl tw_84 rfl dX8_changes_59) ?_
  refine bm_cc (s_sipush hx hb dX8_changes_62 (by decide)) ?_
  refine bm_cc (s_aload_n hx hb dX8_changes_65) ?_
  refine bm_cc (s_getI hx hb hown hts hK (C := RX8) (TT := TX8) (N := 19) (ci := 7) (j := 2) inT8 rfl (by decide) rfl (by decide) rfl tw_122 rfl dX8_changes_66) ?_
  refine bm_cc (s_imul hx hb dX8_changes_69) ?_
  refine bm_cc (s_iload_n hx hb dX8_changes_70) ?_
  refine bm_cc (s_iadd hx hb dX8_changes_71) ?_
  refine bm_cc (s_aload_n hx hb dX8_changes_72) ?_
  refine bm_cc (s_getR hx hb hown hts hK (C := RX8) (TT := TX8) (N := 19) (ci := 7) (j := 0) inT8 rfl (by decide) rfl (by decide) rfl tw_83 rfl dX8_changes_73) ?_
  refine bm_cc (s_iload_n hx hb dX8_changes_76) ?_
  refine bm_cc (s_iaload hx hb hK dX8_changes_77) ?_
  refine bm_cc (s_iastore hx hb hK dX8_changes_78) ?_
  refine bm_cc (s_iinc hx hb dX8_changes_79 (by decide)) ?_
  refine bm_cc (s_goto hx hb dX8_changes_82 (by decide)) ?_
  refine bm_cc (s_aload_n hx hb dX8_changes_85) ?_
  refine bm_cc (s_dup hx hb dX8_changes_86) ?_
  refine bm_cc (s_getI hx hb hown hts hK (C := RX8) (TT := TX8) (N := 19) (ci := 7) (j := 2) inT8 rfl (by decide) rfl (by decide) rfl tw_122 rfl dX8_changes_87) ?_
  refine bm_cc (s_iconst hx hb dX8_changes_90 (by decide)) ?_
  refine bm_cc (s_iadd hx hb dX8_changes_91) ?_
  refine bm_cc (s_putI hx hb hown hts hK (C := RX8) (TT := TX8) (N := 19) (ci := 7) (j := 2) inT8 rfl (by decide) rfl (by decide) tyX8 tyX8_ok nmX8 rfl tw_122 rfl rfl (by decide +kernel) dX8_changes_92) ?_
  refine bm_cc (s_ret hx hb hr hlk dX8_changes_95) ?_
  exact bm_c9

noncomputable def z_X8_contest : List (Nat × bm_O) := [(0, op_iload 1), (1, op_const (1)), (2, op_const (20)), (4, op_call 1 3 bm_c0 f_X8_in), (7, op_ifeq 19), (10, op_iload 2), (11, op_const (1)), (12, op_const (3)), (13, op_call 1 3 bm_c0 f_X8_in), (16, op_ifne 21), (19, op_const (-1)), (20, op_iret), (21, op_aload 0), (22, op_getR 7 0), (25, op_const (0)), (26, op_iaload), (27, op_istore 3), (28, op_iload 3), (29, op_const (6)), (31, op_icne 37), (34, op_const (-3)), (36, op_iret), (37, op_aload 0), (38, op_call 0 1 (bm_rc 7) f_X8_changes), (41, op_aload 0), (42, op_getR 7 0), (45, op_const (32)), (47, op_const (6)), (49, op_iload 3), (50, op_bin (fun a b => a * b)), (51, op_bin (fun a b => a + b)), (52, op_const (0)), (53, op_bin (fun a b => a + b)), (54, op_iload 1), (55, op_iastore), (56, op_aload 0), (57, op_getR 7 0), (60, op_const (32)), (62, op_const (6)), (64, op_iload 3), (65, op_bin (fun a b => a * b)), (66, op_bin (fun a b => a + b)), (67, op_const (1)), (68, op_bin (fun a b => a + b)), (69, op_iload 2), (70, op_iastore), (71, op_aload 0), (72, op_getR 7 0), (75, op_const (0)), (76, op_dup2), (77, op_iaload), (78, op_const (1)), (79, op_bin (fun a b => a + b)), (80, op_iastore), (81, op_iload 3), (82, op_iret)]
noncomputable def f_X8_contest : bm_F := Classical.choose (bm_hide (bm_mt 4 z_X8_contest))
theorem u_X8_contest : f_X8_contest = bm_mt 4 z_X8_contest := Classical.choose_spec (bm_hide _)
theorem k_X8_contest (l : Launch) (g : bm_G) : bm_MetF l g yX8_contest cX8_contest 4 (some .int) 1 22 f_X8_contest := by
  rw [u_X8_contest]
  refine bm_met (by decide) ?_
  intro p e R s m args below meth c n0 s0 hx hb hml hown hts hK hr hlk hnm hF hL
  refine bm_cc (s_iload_n hx hb dX8_contest_0) ?_
  refine bm_cc (s_iconst hx hb dX8_contest_1 (by decide)) ?_
  refine bm_cc (s_bipush hx hb dX8_contest_2 (by decide)) ?_
  refine bm_cc (s_callS hx hb hml hown hts hK (k_X8_in l g) tw_125 tw_126 tw_123 tw_124 ⟨by decide, by decide, by decide +kernel⟩ ⟨by rw [hF]; decide, by rw [hL]; decide⟩ dX8_contest_4) ?_
  refine bm_cc (s_ifeq hx hb dX8_contest_7 (by decide)) ?_
  refine bm_cc (s_iload_n hx hb dX8_contest_10) ?_
  refine bm_cc (s_iconst hx hb dX8_contest_11 (by decide)) ?_
  refine bm_cc (s_iconst hx hb dX8_contest_12 (by decide)) ?_
  refine bm_cc (s_callS hx hb hml hown hts hK (k_X8_in l g) tw_125 tw_126 tw_123 tw_124 ⟨by decide, by decide, by decide +kernel⟩ ⟨by rw [hF]; decide, by rw [hL]; decide⟩ dX8_contest_13) ?_
  refine bm_cc (s_ifne hx hb dX8_contest_16 (by decide)) ?_
  refine bm_cc (s_iconst hx hb dX8_contest_19 (by decide)) ?_
  refine bm_cc (s_iret hx hb hr hlk dX8_contest_20) ?_
  refine bm_cc (s_aload_n hx hb dX8_contest_21) ?_
  refine bm_cc (s_getR hx hb hown hts hK (C := RX8) (TT := TX8) (N := 19) (ci := 7) (j := 0) inT8 rfl (by decide) rfl (by decide) rfl tw_83 rfl dX8_contest_22) ?_
  refine bm_cc (s_iconst hx hb dX8_contest_25 (by decide)) ?_
  refine bm_cc (s_iaload hx hb hK dX8_contest_26) ?_
  refine bm_cc (s_istore_n hx hb dX8_contest_27) ?_
  refine bm_cc (s_iload_n hx hb dX8_contest_28) ?_
  refine bm_cc (s_bipush hx hb dX8_contest_29 (by decide)) ?_
  refine bm_cc (s_icne hx hb dX8_contest_31 (by decide)) ?_
  refine bm_cc (s_bipush hx hb dX8_contest_34 (by decide)) ?_
  refine bm_cc (s_iret hx hb hr hlk dX8_contest_36) ?_
  refine bm_cc (s_aload_n hx hb dX8_contest_37) ?_
  refine bm_cc (s_callV hx hb hml hown hts hK (C := RX8) (TT := TX8) (N := 19) (ci := 7) rfl (by decide) (k_X8_changes l g) tw_128 tw_129 tw_130 tw_123 tw_127 ⟨by decide, by decide, by decide +kernel⟩ ⟨by rw [hF]; decide, by rw [hL]; decide⟩ dX8_contest_38) ?_
  refine bm_cc (s_aload_n hx hb dX8_contest_41) ?_
  refine bm_cc (s_getR hx hb hown hts hK (C := RX8) (TT := TX8) (N := 19) (ci := 7) (j := 0) inT8 rfl (by decide) rfl (by decide) rfl tw_83 rfl dX8_contest_42) ?_
  refine bm_cc (s_bipush hx hb dX8_contest_45 (by decide)) ?_
  refine bm_cc (s_bipush hx hb dX8_contest_47 (by decide)) ?_
  refine bm_cc (s_iload_n hx hb dX8_contest_49) ?_
  refine bm_cc (s_imul hx hb dX8_contest_50) ?_
  refine bm_cc (s_iadd hx hb dX8_contest_51) ?_
  refine bm_cc (s_iconst hx hb dX8_contest_52 (by decide)) ?_
  refine bm_cc (s_iadd hx hb dX8_contest_53) ?_
  refine bm_cc (s_iload_n hx hb dX8_contest_54) ?_
  refine bm_cc (s_iastore hx hb hK dX8_contest_55) ?_
  refine bm_cc (s_aload_n hx hb dX8_contest_56) ?_
  refine bm_cc (s_getR hx hb hown hts hK (C := RX8) (TT := TX8) (N := 19) (ci := 7) (j := 0) inT8 rfl (by decide) rfl (by decide) rfl tw_83 rfl dX8_contest_57) ?_
  refine bm_cc (s_bipush hx hb dX8_contest_60 (by decide)) ?_
  refine bm_cc (s_bipush hx hb dX8_contest_62 (by decide)) ?_
  refine bm_cc (s_iload_n hx hb dX8_contest_64) ?_
  refine bm_cc (s_imul hx hb dX8_contest_65) ?_
  refine bm_cc (s_iadd hx hb dX8_contest_66) ?_
  refine bm_cc (s_iconst hx hb dX8_contest_67 (by decide)) ?_
  refine bm_cc (s_iadd hx hb dX8_contest_68) ?_
  refine bm_cc (s_iload_n hx hb dX8_contest_69) ?_
  refine bm_cc (s_iastore hx hb hK dX8_contest_70) ?_
  refine bm_cc (s_aload_n hx hb dX8_contest_71) ?_
  refine bm_cc (s_getR hx hb hown hts hK (C := RX8) (TT := TX8) (N := 19) (ci := 7) (j := 0) inT8 rfl (by decide) rfl (by decide) rfl tw_83 rfl dX8_contest_72) ?_
  refine bm_cc (s_iconst hx hb dX8_contest_75 (by decide)) ?_
  refine bm_cc (s_dup2 hx hb dX8_contest_76) ?_
  refine bm_cc (s_iaload hx hb hK dX8_contest_77) ?_
  refine bm_cc (s_iconst hx hb dX8_contest_78 (by decide)) ?_
  refine bm_cc (s_iadd hx hb dX8_contest_79) ?_
  refine bm_cc (s_iastore hx hb hK dX8_contest_80) ?_
  refine bm_cc (s_iload_n hx hb dX8_contest_81) ?_
  refine bm_cc (s_iret hx hb hr hlk dX8_contest_82) ?_
  exact bm_c9

noncomputable def z_X8_isContest : List (Nat × bm_O) := [(0, op_iload 1), (1, op_iflt 18), (4, op_iload 1), (5, op_aload 0), (6, op_getR 7 0), (9, op_const (0)), (10, op_iaload), (11, op_icge 18), (14, op_const (1)), (15, op_goto 19), (18, op_const (0)), (19, op_zret)]
noncomputable def f_X8_isContest : bm_F := Classical.choose (bm_hide (bm_mt 2 z_X8_isContest))
theorem u_X8_isContest : f_X8_isContest = bm_mt 2 z_X8_isContest := Classical.choose_spec (bm_hide _)
theorem k_X8_isContest (l : Launch) (g : bm_G) : bm_MetF l g yX8_isContest cX8_isContest 2 (some .boolean) 0 0 f_X8_isContest := by
  rw [u_X8_isContest]
  refine bm_met (by decide) ?_
  intro p e R s m args below meth c n0 s0 hx hb hml hown hts hK hr hlk hnm hF hL
  refine bm_cc (s_iload_n hx hb dX8_isContest_0) ?_
  refine bm_cc (s_iflt hx hb dX8_isContest_1 (by decide)) ?_
  refine bm_cc (s_iload_n hx hb dX8_isContest_4) ?_
  refine bm_cc (s_aload_n hx hb dX8_isContest_5) ?_
  refine bm_cc (s_getR hx hb hown hts hK (C := RX8) (TT := TX8) (N := 19) (ci := 7) (j := 0) inT8 rfl (by decide) rfl (by decide) rfl tw_83 rfl dX8_isContest_6) ?_
  refine bm_cc (s_iconst hx hb dX8_isContest_9 (by decide)) ?_
  refine bm_cc (s_iaload hx hb hK dX8_isContest_10) ?_
  refine bm_cc (s_icge hx hb dX8_isContest_11 (by decide)) ?_
  refine bm_cc (s_iconst hx hb dX8_isContest_14 (by decide)) ?_
  refine bm_cc (s_goto hx hb dX8_isContest_15 (by decide)) ?_
  refine bm_cc (s_iconst hx hb dX8_isContest_18 (by decide)) ?_
  refine bm_cc (s_zret hx hb hr hlk dX8_isContest_19) ?_
  exact bm_c9

noncomputable def z_X8_of : List (Nat × bm_O) := [(0, op_aload 0), (1, op_getR 7 0), (4, op_const (32)), (6, op_const (6)), (8, op_iload 1), (9, op_bin (fun a b => a * b)), (10, op_bin (fun a b => a + b)), (11, op_iload 2), (12, op_bin (fun a b => a + b)), (13, op_iaload), (14, op_iret)]
noncomputable def f_X8_of : bm_F := Classical.choose (bm_hide (bm_mt 3 z_X8_of))
theorem u_X8_of : f_X8_of = bm_mt 3 z_X8_of := Classical.choose_spec (bm_hide _)
theorem k_X8_of (l : Launch) (g : bm_G) : bm_MetF l g yX8_of cX8_of 3 (some .int) 0 0 f_X8_of := by
  rw [u_X8_of]
  refine bm_met (by decide) ?_
  intro p e R s m args below meth c n0 s0 hx hb hml hown hts hK hr hlk hnm hF hL
  refine bm_cc (s_aload_n hx hb dX8_of_0) ?_
  refine bm_cc (s_getR hx hb hown hts hK (C := RX8) (TT := TX8) (N := 19) (ci := 7) (j := 0) inT8 rfl (by decide) rfl (by decide) rfl tw_83 rfl dX8_of_1) ?_
  refine bm_cc (s_bipush hx hb dX8_of_4 (by decide)) ?_
  refine bm_cc (s_bipush hx hb dX8_of_6 (by decide)) ?_
  refine bm_cc (s_iload_n hx hb dX8_of_8) ?_
  refine bm_cc (s_imul hx hb dX8_of_9) ?_
  refine bm_cc (s_iadd hx hb dX8_of_10) ?_
  refine bm_cc (s_iload_n hx hb dX8_of_11) ?_
  refine bm_cc (s_iadd hx hb dX8_of_12) ?_
  refine bm_cc (s_iaload hx hb hK dX8_of_13) ?_
  refine bm_cc (s_iret hx hb hr hlk dX8_of_14) ?_
  exact bm_c9

noncomputable def z_X8_name : List (Nat × bm_O) := [(0, op_aload 0), (1, op_iload 1), (2, op_call 1 2 (bm_rc 7) f_X8_isContest), (5, op_ifeq 18), (8, op_iload 2), (9, op_const (1)), (10, op_const (20)), (12, op_call 1 3 bm_c0 f_X8_in), (15, op_ifne 20), (18, op_const (-1)), (19, op_iret), (20, op_aload 0), (21, op_getR 7 0), (24, op_const (1)), (25, op_iaload), (26, op_ifle 32), (29, op_const (-2)), (31, op_iret), (32, op_aload 0), (33, op_iload 1), (34, op_const (3)), (35, op_call 1 3 (bm_rc 7) f_X8_of), (38, op_istore 3), (39, op_iload 3), (40, op_const (8)), (42, op_icne 48), (45, op_const (-3)), (47, op_iret), (48, op_aload 0), (49, op_call 0 1 (bm_rc 7) f_X8_changes), (52, op_aload 0), (53, op_getR 7 0), (56, op_const (68)), (58, op_const (16)), (60, op_iload 1), (61, op_bin (fun a b => a * b)), (62, op_bin (fun a b => a + b)), (63, op_const (2)), (64, op_iload 3), (65, op_bin (fun a b => a * b)), (66, op_bin (fun a b => a + b)), (67, op_iload 2), (68, op_iastore), (69, op_aload 0), (70, op_getR 7 0), (73, op_const (32)), (75, op_const (6)), (77, op_iload 1), (78, op_bin (fun a b => a * b)), (79, op_bin (fun a b => a + b)), (80, op_const (3)), (81, op_bin (fun a b => a + b)), (82, op_dup2), (83, op_iaload), (84, op_const (1)), (85, op_bin (fun a b => a + b)), (86, op_iastore), (87, op_iload 3), (88, op_iret)]
noncomputable def f_X8_name : bm_F := Classical.choose (bm_hide (bm_mt 4 z_X8_name))
theorem u_X8_name : f_X8_name = bm_mt 4 z_X8_name := Classical.choose_spec (bm_hide _)
theorem k_X8_name (l : Launch) (g : bm_G) : bm_MetF l g yX8_name cX8_name 4 (some .int) 1 22 f_X8_name := by
  rw [u_X8_name]
  refine bm_met (by decide) ?_
  intro p e R s m args below meth c n0 s0 hx hb hml hown hts hK hr hlk hnm hF hL
  refine bm_cc (s_aload_n hx hb dX8_name_0) ?_
  refine bm_cc (s_iload_n hx hb dX8_name_1) ?_
  refine bm_cc (s_callV hx hb hml hown hts hK (C := RX8) (TT := TX8) (N := 19) (ci := 7) rfl (by decide) (k_X8_isContest l g) tw_160 tw_161 tw_162 tw_123 tw_159 ⟨by decide, by decide, by decide +kernel⟩ ⟨by rw [hF]; decide, by rw [hL]; decide⟩ dX8_name_2) ?_
  refine bm_cc (s_ifeq hx hb dX8_name_5 (by decide)) ?_
  refine bm_cc (s_iload_n hx hb dX8_name_8) ?_
  refine bm_cc (s_iconst hx hb dX8_name_9 (by decide)) ?_
  refine bm_cc (s_bipush hx hb dX8_name_10 (by decide)) ?_
  refine bm_cc (s_callS hx hb hml hown hts hK (k_X8_in l g) tw_125 tw_126 tw_123 tw_124 ⟨by decide, by decide, by decide +kernel⟩ ⟨by rw [hF]; decide, by rw [hL]; decide⟩ dX8_name_12) ?_
  refine bm_cc (s_ifne hx hb dX8_name_15 (by decide)) ?_
  refine bm_cc (s_iconst hx hb dX8_name_18 (by decide)) ?_
  refine bm_cc (s_iret hx hb hr hlk dX8_name_19) ?_
  refine bm_cc (s_aload_n hx hb dX8_name_20) ?_
  refine bm_cc (s_getR hx hb hown hts hK (C := RX8) (TT := TX8) (N := 19) (ci := 7) (j := 0) inT8 rfl (by decide) rfl (by decide) rfl tw_83 rfl dX8_name_21) ?_
  refine bm_cc (s_iconst hx hb dX8_name_24 (by decide)) ?_
  refine bm_cc (s_iaload hx hb hK dX8_name_25) ?_
  refine bm_cc (s_ifle hx hb dX8_name_26 (by decide)) ?_
  refine bm_cc (s_bipush hx hb dX8_name_29 (by decide)) ?_
  refine bm_cc (s_iret hx hb hr hlk dX8_name_31) ?_
  refine bm_cc (s_aload_n hx hb dX8_name_32) ?_
  refine bm_cc (s_iload_n hx hb dX8_name_33) ?_
  refine bm_cc (s_iconst hx hb dX8_name_34 (by decide)) ?_
  refine bm_cc (s_callV hx hb hml hown hts hK (C := RX8) (TT := TX8) (N := 19) (ci := 7) rfl (by decide) (k_X8_of l g) tw_164 tw_165 tw_166 tw_123 tw_163 ⟨by decide, by decide, by decide +kernel⟩ ⟨by rw [hF]; decide, by rw [hL]; decide⟩ dX8_name_35) ?_
  refine bm_cc (s_istore_n hx hb dX8_name_38) ?_
  refine bm_cc (s_iload_n hx hb dX8_name_39) ?_
  refine bm_cc (s_bipush hx hb dX8_name_40 (by decide)) ?_
  refine bm_cc (s_icne hx hb dX8_name_42 (by decide)) ?_
  refine bm_cc (s_bipush hx hb dX8_name_45 (by decide)) ?_
  refine bm_cc (s_iret hx hb hr hlk dX8_name_47) ?_
  refine bm_cc (s_aload_n hx hb dX8_name_48) ?_
  refine bm_cc (s_callV hx hb hml hown hts hK (C := RX8) (TT := TX8) (N := 19) (ci := 7) rfl (by decide) (k_X8_changes l g) tw_128 tw_129 tw_130 tw_123 tw_127 ⟨by decide, by decide, by decide +kernel⟩ ⟨by rw [hF]; decide, by rw [hL]; decide⟩ dX8_name_49) ?_
  refine bm_cc (s_aload_n hx hb dX8_name_52) ?_
  refine bm_cc (s_getR hx hb hown hts hK (C := RX8) (TT := TX8) (N := 19) (ci := 7) (j := 0) inT8 rfl (by decide) rfl (by decide) rfl tw_83 rfl dX8_name_53) ?_
  refine bm_cc (s_bipush hx hb dX8_name_56 (by decide)) ?_
  refine bm_cc (s_bipush hx hb dX8_name_58 (by decide)) ?_
  refine bm_cc (s_iload_n hx hb dX8_name_60) ?_
  refine bm_cc (s_imul hx hb dX8_name_61) ?_
  refine bm_cc (s_iadd hx hb dX8_name_62) ?_
  refine bm_cc (s_iconst hx hb dX8_name_63 (by decide)) ?_
  refine bm_cc (s_iload_n hx hb dX8_name_64) ?_
  refine bm_cc (s_imul hx hb dX8_name_65) ?_
  refine bm_cc (s_iadd hx hb dX8_name_66) ?_
  refine bm_cc (s_iload_n hx hb dX8_name_67) ?_
  refine bm_cc (s_iastore hx hb hK dX8_name_68) ?_
  refine bm_cc (s_aload_n hx hb dX8_name_69) ?_
  refine bm_cc (s_getR hx hb hown hts hK (C := RX8) (TT := TX8) (N := 19) (ci := 7) (j := 0) inT8 rfl (by decide) rfl (by decide) rfl tw_83 rfl dX8_name_70) ?_
  refine bm_cc (s_bipush hx hb dX8_name_73 (by decide)) ?_
  refine bm_cc (s_bipush hx hb dX8_name_75 (by decide)) ?_
  refine bm_cc (s_iload_n hx hb dX8_name_77) ?_
  refine bm_cc (s_imul hx hb dX8_name_78) ?_
  refine bm_cc (s_iadd hx hb dX8_name_79) ?_
  refine bm_cc (s_iconst hx hb dX8_name_80 (by decide)) ?_
  refine bm_cc (s_iadd hx hb dX8_name_81) ?_
  refine bm_cc (s_dup2 hx hb dX8_name_82) ?_
  refine bm_cc (s_iaload hx hb hK dX8_name_83) ?_
  refine bm_cc (s_iconst hx hb dX8_name_84 (by decide)) ?_
  refine bm_cc (s_iadd hx hb dX8_name_85) ?_
  refine bm_cc (s_iastore hx hb hK dX8_name_86) ?_
  refine bm_cc (s_iload_n hx hb dX8_name_87) ?_
  refine bm_cc (s_iret hx hb hr hlk dX8_name_88) ?_
  exact bm_c9

noncomputable def z_X8_way : List (Nat × bm_O) := [(0, op_aload 0), (1, op_iload 1), (2, op_call 1 2 (bm_rc 7) f_X8_isContest), (5, op_ifeq 17), (8, op_iload 2), (9, op_const (0)), (10, op_const (2)), (11, op_call 1 3 bm_c0 f_X8_in), (14, op_ifne 19), (17, op_const (-1)), (18, op_iret), (19, op_aload 0), (20, op_getR 7 0), (23, op_const (1)), (24, op_iaload), (25, op_ifle 31), (28, op_const (-2)), (30, op_iret), (31, op_aload 0), (32, op_call 0 1 (bm_rc 7) f_X8_changes), (35, op_aload 0), (36, op_iload 1), (37, op_const (2)), (38, op_call 1 3 (bm_rc 7) f_X8_of), (41, op_istore 3), (42, op_aload 0), (43, op_getR 7 0), (46, op_const (32)), (48, op_const (6)), (50, op_iload 1), (51, op_bin (fun a b => a * b)), (52, op_bin (fun a b => a + b)), (53, op_const (2)), (54, op_bin (fun a b => a + b)), (55, op_iload 2), (56, op_iastore), (57, op_iload 3), (58, op_iret)]
noncomputable def f_X8_way : bm_F := Classical.choose (bm_hide (bm_mt 4 z_X8_way))
theorem u_X8_way : f_X8_way = bm_mt 4 z_X8_way := Classical.choose_spec (bm_hide _)
theorem k_X8_way (l : Launch) (g : bm_G) : bm_MetF l g yX8_way cX8_way 4 (some .int) 1 22 f_X8_way := by
  rw [u_X8_way]
  refine bm_met (by decide) ?_
  intro p e R s m args below meth c n0 s0 hx hb hml hown hts hK hr hlk hnm hF hL
  refine bm_cc (s_aload_n hx hb dX8_way_0) ?_
  refine bm_cc (s_iload_n hx hb dX8_way_1) ?_
  refine bm_cc (s_callV hx hb hml hown hts hK (C := RX8) (TT := TX8) (N := 19) (ci := 7) rfl (by decide) (k_X8_isContest l g) tw_160 tw_161 tw_162 tw_123 tw_159 ⟨by decide, by decide, by decide +kernel⟩ ⟨by rw [hF]; decide, by rw [hL]; decide⟩ dX8_way_2) ?_
  refine bm_cc (s_ifeq hx hb dX8_way_5 (by decide)) ?_
  refine bm_cc (s_iload_n hx hb dX8_way_8) ?_
  refine bm_cc (s_iconst hx hb dX8_way_9 (by decide)) ?_
  refine bm_cc (s_iconst hx hb dX8_way_10 (by decide)) ?_
  refine bm_cc (s_callS hx hb hml hown hts hK (k_X8_in l g) tw_125 tw_126 tw_123 tw_124 ⟨by decide, by decide, by decide +kernel⟩ ⟨by rw [hF]; decide, by rw [hL]; decide⟩ dX8_way_11) ?_
  refine bm_cc (s_ifne hx hb dX8_way_14 (by decide)) ?_
  refine bm_cc (s_iconst hx hb dX8_way_17 (by decide)) ?_
  refine bm_cc (s_iret hx hb hr hlk dX8_way_18) ?_
  refine bm_cc (s_aload_n hx hb dX8_way_19) ?_
  refine bm_cc (s_getR hx hb hown hts hK (C := RX8) (TT := TX8) (N := 19) (ci := 7) (j := 0) inT8 rfl (by decide) rfl (by decide) rfl tw_83 rfl dX8_way_20) ?_
  refine bm_cc (s_iconst hx hb dX8_way_23 (by decide)) ?_
  refine bm_cc (s_iaload hx hb hK dX8_way_24) ?_
  refine bm_cc (s_ifle hx hb dX8_way_25 (by decide)) ?_
  refine bm_cc (s_bipush hx hb dX8_way_28 (by decide)) ?_
  refine bm_cc (s_iret hx hb hr hlk dX8_way_30) ?_
  refine bm_cc (s_aload_n hx hb dX8_way_31) ?_
  refine bm_cc (s_callV hx hb hml hown hts hK (C := RX8) (TT := TX8) (N := 19) (ci := 7) rfl (by decide) (k_X8_changes l g) tw_128 tw_129 tw_130 tw_123 tw_127 ⟨by decide, by decide, by decide +kernel⟩ ⟨by rw [hF]; decide, by rw [hL]; decide⟩ dX8_way_32) ?_
  refine bm_cc (s_aload_n hx hb dX8_way_35) ?_
  refine bm_cc (s_iload_n hx hb dX8_way_36) ?_
  refine bm_cc (s_iconst hx hb dX8_way_37 (by decide)) ?_
  refine bm_cc (s_callV hx hb hml hown hts hK (C := RX8) (TT := TX8) (N := 19) (ci := 7) rfl (by decide) (k_X8_of l g) tw_164 tw_165 tw_166 tw_123 tw_163 ⟨by decide, by decide, by decide +kernel⟩ ⟨by rw [hF]; decide, by rw [hL]; decide⟩ dX8_way_38) ?_
  refine bm_cc (s_istore_n hx hb dX8_way_41) ?_
  refine bm_cc (s_aload_n hx hb dX8_way_42) ?_
  refine bm_cc (s_getR hx hb hown hts hK (C := RX8) (TT := TX8) (N := 19) (ci := 7) (j := 0) inT8 rfl (by decide) rfl (by decide) rfl tw_83 rfl dX8_way_43) ?_
  refine bm_cc (s_bipush hx hb dX8_way_46 (by decide)) ?_
  refine bm_cc (s_bipush hx hb dX8_way_48 (by decide)) ?_
  refine bm_cc (s_iload_n hx hb dX8_way_50) ?_
  refine bm_cc (s_imul hx hb dX8_way_51) ?_
  refine bm_cc (s_iadd hx hb dX8_way_52) ?_
  refine bm_cc (s_iconst hx hb dX8_way_53 (by decide)) ?_
  refine bm_cc (s_iadd hx hb dX8_way_54) ?_
  refine bm_cc (s_iload_n hx hb dX8_way_55) ?_
  refine bm_cc (s_iastore hx hb hK dX8_way_56) ?_
  refine bm_cc (s_iload_n hx hb dX8_way_57) ?_
  refine bm_cc (s_iret hx hb hr hlk dX8_way_58) ?_
  exact bm_c9

noncomputable def z_X8_isVersion : List (Nat × bm_O) := [(0, op_iload 1), (1, op_iflt 19), (4, op_iload 1), (5, op_aload 0), (6, op_getR 7 0), (9, op_const (7)), (11, op_iaload), (12, op_icge 19), (15, op_const (1)), (16, op_goto 20), (19, op_const (0)), (20, op_zret)]
noncomputable def f_X8_isVersion : bm_F := Classical.choose (bm_hide (bm_mt 2 z_X8_isVersion))
theorem u_X8_isVersion : f_X8_isVersion = bm_mt 2 z_X8_isVersion := Classical.choose_spec (bm_hide _)
theorem k_X8_isVersion (l : Launch) (g : bm_G) : bm_MetF l g yX8_isVersion cX8_isVersion 2 (some .boolean) 0 0 f_X8_isVersion := by
  rw [u_X8_isVersion]
  refine bm_met (by decide) ?_
  intro p e R s m args below meth c n0 s0 hx hb hml hown hts hK hr hlk hnm hF hL
  refine bm_cc (s_iload_n hx hb dX8_isVersion_0) ?_
  refine bm_cc (s_iflt hx hb dX8_isVersion_1 (by decide)) ?_
  refine bm_cc (s_iload_n hx hb dX8_isVersion_4) ?_
  refine bm_cc (s_aload_n hx hb dX8_isVersion_5) ?_
  refine bm_cc (s_getR hx hb hown hts hK (C := RX8) (TT := TX8) (N := 19) (ci := 7) (j := 0) inT8 rfl (by decide) rfl (by decide) rfl tw_83 rfl dX8_isVersion_6) ?_
  refine bm_cc (s_bipush hx hb dX8_isVersion_9 (by decide)) ?_
  refine bm_cc (s_iaload hx hb hK dX8_isVersion_11) ?_
  refine bm_cc (s_icge hx hb dX8_isVersion_12 (by decide)) ?_
  refine bm_cc (s_iconst hx hb dX8_isVersion_15 (by decide)) ?_
  refine bm_cc (s_goto hx hb dX8_isVersion_16 (by decide)) ?_
  refine bm_cc (s_iconst hx hb dX8_isVersion_19 (by decide)) ?_
  refine bm_cc (s_zret hx hb hr hlk dX8_isVersion_20) ?_
  exact bm_c9

noncomputable def z_X8_papers : List (Nat × bm_O) := [(0, op_aload 0), (1, op_iload 1), (2, op_call 1 2 (bm_rc 7) f_X8_isVersion), (5, op_ifeq 19), (8, op_iload 2), (9, op_const (0)), (10, op_const (9999)), (13, op_call 1 3 bm_c0 f_X8_in), (16, op_ifne 21), (19, op_const (-1)), (20, op_iret), (21, op_aload 0), (22, op_call 0 1 (bm_rc 7) f_X8_changes), (25, op_aload 0), (26, op_getR 7 0), (29, op_const (8)), (31, op_iload 1), (32, op_bin (fun a b => a + b)), (33, op_iaload), (34, op_istore 3), (35, op_aload 0), (36, op_getR 7 0), (39, op_const (8)), (41, op_iload 1), (42, op_bin (fun a b => a + b)), (43, op_iload 2), (44, op_iastore), (45, op_iload 3), (46, op_iret)]
noncomputable def f_X8_papers : bm_F := Classical.choose (bm_hide (bm_mt 4 z_X8_papers))
theorem u_X8_papers : f_X8_papers = bm_mt 4 z_X8_papers := Classical.choose_spec (bm_hide _)
theorem k_X8_papers (l : Launch) (g : bm_G) : bm_MetF l g yX8_papers cX8_papers 4 (some .int) 1 22 f_X8_papers := by
  rw [u_X8_papers]
  refine bm_met (by decide) ?_
  intro p e R s m args below meth c n0 s0 hx hb hml hown hts hK hr hlk hnm hF hL
  refine bm_cc (s_aload_n hx hb dX8_papers_0) ?_
  refine bm_cc (s_iload_n hx hb dX8_papers_1) ?_
  refine bm_cc (s_callV hx hb hml hown hts hK (C := RX8) (TT := TX8) (N := 19) (ci := 7) rfl (by decide) (k_X8_isVersion l g) tw_192 tw_193 tw_194 tw_123 tw_191 ⟨by decide, by decide, by decide +kernel⟩ ⟨by rw [hF]; decide, by rw [hL]; decide⟩ dX8_papers_2) ?_
  refine bm_cc (s_ifeq hx hb dX8_papers_5 (by decide)) ?_
  refine bm_cc (s_iload_n hx hb dX8_papers_8) ?_
  refine bm_cc (s_iconst hx hb dX8_papers_9 (by decide)) ?_
  refine bm_cc (s_sipush hx hb dX8_papers_10 (by decide)) ?_
  refine bm_cc (s_callS hx hb hml hown hts hK (k_X8_in l g) tw_125 tw_126 tw_123 tw_124 ⟨by decide, by decide, by decide +kernel⟩ ⟨by rw [hF]; decide, by rw [hL]; decide⟩ dX8_papers_13) ?_
  refine bm_cc (s_ifne hx hb dX8_papers_16 (by decide)) ?_
  refine bm_cc (s_iconst hx hb dX8_papers_19 (by decide)) ?_
  refine bm_cc (s_iret hx hb hr hlk dX8_papers_20) ?_
  refine bm_cc (s_aload_n hx hb dX8_papers_21) ?_
  refine bm_cc (s_callV hx hb hml hown hts hK (C := RX8) (TT := TX8) (N := 19) (ci := 7) rfl (by decide) (k_X8_changes l g) tw_128 tw_129 tw_130 tw_123 tw_127 ⟨by decide, by decide, by decide +kernel⟩ ⟨by rw [hF]; decide, by rw [hL]; decide⟩ dX8_papers_22) ?_
  refine bm_cc (s_aload_n hx hb dX8_papers_25) ?_
  refine bm_cc (s_getR hx hb hown hts hK (C := RX8) (TT := TX8) (N := 19) (ci := 7) (j := 0) inT8 rfl (by decide) rfl (by decide) rfl tw_83 rfl dX8_papers_26) ?_
  refine bm_cc (s_bipush hx hb dX8_papers_29 (by decide)) ?_
  refine bm_cc (s_iload_n hx hb dX8_papers_31) ?_
  refine bm_cc (s_iadd hx hb dX8_papers_32) ?_
  refine bm_cc (s_iaload hx hb hK dX8_papers_33) ?_
  refine bm_cc (s_istore_n hx hb dX8_papers_34) ?_
  refine bm_cc (s_aload_n hx hb dX8_papers_35) ?_
  refine bm_cc (s_getR hx hb hown hts hK (C := RX8) (TT := TX8) (N := 19) (ci := 7) (j := 0) inT8 rfl (by decide) rfl (by decide) rfl tw_83 rfl dX8_papers_36) ?_
  refine bm_cc (s_bipush hx hb dX8_papers_39 (by decide)) ?_
  refine bm_cc (s_iload_n hx hb dX8_papers_41) ?_
  refine bm_cc (s_iadd hx hb dX8_papers_42) ?_
  refine bm_cc (s_iload_n hx hb dX8_papers_43) ?_
  refine bm_cc (s_iastore hx hb hK dX8_papers_44) ?_
  refine bm_cc (s_iload_n hx hb dX8_papers_45) ?_
  refine bm_cc (s_iret hx hb hr hlk dX8_papers_46) ?_
  exact bm_c9

noncomputable def z_X8_isSetting : List (Nat × bm_O) := [(0, op_iload 0), (1, op_tsw [40, 47, 56, 65, 72, 92] 100), (40, op_iload 1), (41, op_const (1)), (42, op_const (4)), (43, op_call 1 3 bm_c0 f_X8_in), (46, op_zret), (47, op_iload 1), (48, op_const (16)), (50, op_const (60)), (52, op_call 1 3 bm_c0 f_X8_in), (55, op_zret), (56, op_iload 1), (57, op_const (8)), (59, op_const (40)), (61, op_call 1 3 bm_c0 f_X8_in), (64, op_zret), (65, op_iload 1), (66, op_const (1)), (67, op_const (3)), (68, op_call 1 3 bm_c0 f_X8_in), (71, op_zret), (72, op_iload 1), (73, op_ifeq 86), (76, op_iload 1), (77, op_const (4)), (78, op_const (30)), (80, op_call 1 3 bm_c0 f_X8_in), (83, op_ifeq 90), (86, op_const (1)), (87, op_goto 91), (90, op_const (0)), (91, op_zret), (92, op_iload 1), (93, op_const (1)), (94, op_const (24)), (96, op_call 1 3 bm_c0 f_X8_in), (99, op_zret), (100, op_const (0)), (101, op_zret)]
noncomputable def f_X8_isSetting : bm_F := Classical.choose (bm_hide (bm_mt 2 z_X8_isSetting))
theorem u_X8_isSetting : f_X8_isSetting = bm_mt 2 z_X8_isSetting := Classical.choose_spec (bm_hide _)
theorem k_X8_isSetting (l : Launch) (g : bm_G) : bm_MetF l g yX8_isSetting cX8_isSetting 2 (some .boolean) 1 22 f_X8_isSetting := by
  rw [u_X8_isSetting]
  refine bm_met (by decide) ?_
  intro p e R s m args below meth c n0 s0 hx hb hml hown hts hK hr hlk hnm hF hL
  refine bm_cc (s_iload_n hx hb dX8_isSetting_0) ?_
  refine bm_cc (s_tsw hx hb dX8_isSetting_1 (by decide) (by decide) (by decide) (by decide)) ?_
  refine bm_cc (s_iload_n hx hb dX8_isSetting_40) ?_
  refine bm_cc (s_iconst hx hb dX8_isSetting_41 (by decide)) ?_
  refine bm_cc (s_iconst hx hb dX8_isSetting_42 (by decide)) ?_
  refine bm_cc (s_callS hx hb hml hown hts hK (k_X8_in l g) tw_125 tw_126 tw_123 tw_124 ⟨by decide, by decide, by decide +kernel⟩ ⟨by rw [hF]; decide, by rw [hL]; decide⟩ dX8_isSetting_43) ?_
  refine bm_cc (s_zret hx hb hr hlk dX8_isSetting_46) ?_
  refine bm_cc (s_iload_n hx hb dX8_isSetting_47) ?_
  refine bm_cc (s_bipush hx hb dX8_isSetting_48 (by decide)) ?_
  refine bm_cc (s_bipush hx hb dX8_isSetting_50 (by decide)) ?_
  refine bm_cc (s_callS hx hb hml hown hts hK (k_X8_in l g) tw_125 tw_126 tw_123 tw_124 ⟨by decide, by decide, by decide +kernel⟩ ⟨by rw [hF]; decide, by rw [hL]; decide⟩ dX8_isSetting_52) ?_
  refine bm_cc (s_zret hx hb hr hlk dX8_isSetting_55) ?_
  refine bm_cc (s_iload_n hx hb dX8_isSetting_56) ?_
  refine bm_cc (s_bipush hx hb dX8_isSetting_57 (by decide)) ?_
  refine bm_cc (s_bipush hx hb dX8_isSetting_59 (by decide)) ?_
  refine bm_cc (s_callS hx hb hml hown hts hK (k_X8_in l g) tw_125 tw_126 tw_123 tw_124 ⟨by decide, by decide, by decide +kernel⟩ ⟨by rw [hF]; decide, by rw [hL]; decide⟩ dX8_isSetting_61) ?_
  refine bm_cc (s_zret hx hb hr hlk dX8_isSetting_64) ?_
  refine bm_cc (s_iload_n hx hb dX8_isSetting_65) ?_
  refine bm_cc (s_iconst hx hb dX8_isSetting_66 (by decide)) ?_
  refine bm_cc (s_iconst hx hb dX8_isSetting_67 (by decide)) ?_
  refine bm_cc (s_callS hx hb hml hown hts hK (k_X8_in l g) tw_125 tw_126 tw_123 tw_124 ⟨by decide, by decide, by decide +kernel⟩ ⟨by rw [hF]; decide, by rw [hL]; decide⟩ dX8_isSetting_68) ?_
  refine bm_cc (s_zret hx hb hr hlk dX8_isSetting_71) ?_
  refine bm_cc (s_iload_n hx hb dX8_isSetting_72) ?_
  refine bm_cc (s_ifeq hx hb dX8_isSetting_73 (by decide)) ?_
  refine bm_cc (s_iload_n hx hb dX8_isSetting_76) ?_
  refine bm_cc (s_iconst hx hb dX8_isSetting_77 (by decide)) ?_
  refine bm_cc (s_bipush hx hb dX8_isSetting_78 (by decide)) ?_
  refine bm_cc (s_callS hx hb hml hown hts hK (k_X8_in l g) tw_125 tw_126 tw_123 tw_124 ⟨by decide, by decide, by decide +kernel⟩ ⟨by rw [hF]; decide, by rw [hL]; decide⟩ dX8_isSetting_80) ?_
  refine bm_cc (s_ifeq hx hb dX8_isSetting_83 (by decide)) ?_
  refine bm_cc (s_iconst hx hb dX8_isSetting_86 (by decide)) ?_
  refine bm_cc (s_goto hx hb dX8_isSetting_87 (by decide)) ?_
  refine bm_cc (s_iconst hx hb dX8_isSetting_90 (by decide)) ?_
  refine bm_cc (s_zret hx hb hr hlk dX8_isSetting_91) ?_
  refine bm_cc (s_iload_n hx hb dX8_isSetting_92) ?_
  refine bm_cc (s_iconst hx hb dX8_isSetting_93 (by decide)) ?_
  refine bm_cc (s_bipush hx hb dX8_isSetting_94 (by decide)) ?_
  refine bm_cc (s_callS hx hb hml hown hts hK (k_X8_in l g) tw_125 tw_126 tw_123 tw_124 ⟨by decide, by decide, by decide +kernel⟩ ⟨by rw [hF]; decide, by rw [hL]; decide⟩ dX8_isSetting_96) ?_
  refine bm_cc (s_zret hx hb hr hlk dX8_isSetting_99) ?_
  refine bm_cc (s_iconst hx hb dX8_isSetting_100 (by decide)) ?_
  refine bm_cc (s_zret hx hb hr hlk dX8_isSetting_101) ?_
  exact bm_c9

noncomputable def z_X8_set : List (Nat × bm_O) := [(0, op_iload 1), (1, op_iload 2), (2, op_call 1 2 bm_c0 f_X8_isSetting), (5, op_ifne 10), (8, op_const (-1)), (9, op_iret), (10, op_aload 0), (11, op_call 0 1 (bm_rc 7) f_X8_changes), (14, op_aload 0), (15, op_getR 7 0), (18, op_const (2)), (19, op_iload 1), (20, op_bin (fun a b => a + b)), (21, op_iaload), (22, op_istore 3), (23, op_aload 0), (24, op_getR 7 0), (27, op_const (2)), (28, op_iload 1), (29, op_bin (fun a b => a + b)), (30, op_iload 2), (31, op_iastore), (32, op_aload 0), (33, op_getR 7 0), (36, op_const (7)), (38, op_iaload), (39, op_istore 4), (41, op_iload 4), (43, op_const (24)), (45, op_icge 65), (48, op_aload 0), (49, op_getR 7 0), (52, op_const (8)), (54, op_iload 4), (56, op_bin (fun a b => a + b)), (57, op_const (0)), (58, op_iastore), (59, op_iinc 4 1), (62, op_goto 41), (65, op_iload 3), (66, op_iret)]
noncomputable def f_X8_set : bm_F := Classical.choose (bm_hide (bm_mt 5 z_X8_set))
theorem u_X8_set : f_X8_set = bm_mt 5 z_X8_set := Classical.choose_spec (bm_hide _)
theorem k_X8_set (l : Launch) (g : bm_G) : bm_MetF l g yX8_set cX8_set 5 (some .int) 2 43 f_X8_set := by
  rw [u_X8_set]
  refine bm_met (by decide) ?_
  intro p e R s m args below meth c n0 s0 hx hb hml hown hts hK hr hlk hnm hF hL
  refine bm_cc (s_iload_n hx hb dX8_set_0) ?_
  refine bm_cc (s_iload_n hx hb dX8_set_1) ?_
  refine bm_cc (s_callS hx hb hml hown hts hK (k_X8_isSetting l g) tw_209 tw_210 tw_123 tw_208 ⟨by decide, by decide, by decide +kernel⟩ ⟨by rw [hF]; decide, by rw [hL]; decide⟩ dX8_set_2) ?_
  refine bm_cc (s_ifne hx hb dX8_set_5 (by decide)) ?_
  refine bm_cc (s_iconst hx hb dX8_set_8 (by decide)) ?_
  refine bm_cc (s_iret hx hb hr hlk dX8_set_9) ?_
  refine bm_cc (s_aload_n hx hb dX8_set_10) ?_
  refine bm_cc (s_callV hx hb hml hown hts hK (C := RX8) (TT := TX8) (N := 19) (ci := 7) rfl (by decide) (k_X8_changes l g) tw_128 tw_129 tw_130 tw_123 tw_127 ⟨by decide, by decide, by decide +kernel⟩ ⟨by rw [hF]; decide, by rw [hL]; decide⟩ dX8_set_11) ?_
  refine bm_cc (s_aload_n hx hb dX8_set_14) ?_
  refine bm_cc (s_getR hx hb hown hts hK (C := RX8) (TT := TX8) (N := 19) (ci := 7) (j := 0) inT8 rfl (by decide) rfl (by decide) rfl tw_83 rfl dX8_set_15) ?_
  refine bm_cc (s_iconst hx hb dX8_set_18 (by decide)) ?_
  refine bm_cc (s_iload_n hx hb dX8_set_19) ?_
  refine bm_cc (s_iadd hx hb dX8_set_20) ?_
  refine bm_cc (s_iaload hx hb hK dX8_set_21) ?_
  refine bm_cc (s_istore_n hx hb dX8_set_22) ?_
  refine bm_cc (s_aload_n hx hb dX8_set_23) ?_
  refine bm_cc (s_getR hx hb hown hts hK (C := RX8) (TT := TX8) (N := 19) (ci := 7) (j := 0) inT8 rfl (by decide) rfl (by decide) rfl tw_83 rfl dX8_set_24) ?_
  refine bm_cc (s_iconst hx hb dX8_set_27 (by decide)) ?_
  refine bm_cc (s_iload_n hx hb dX8_set_28) ?_
  refine bm_cc (s_iadd hx hb dX8_set_29) ?_
  refine bm_cc (s_iload_n hx hb dX8_set_30) ?_
  refine bm_cc (s_iastore hx hb hK dX8_set_31) ?_
  refine bm_cc (s_aload_n hx hb dX8_set_32) ?_
  refine bm_cc (s_getR hx hb hown hts hK (C := RX8) (TT := TX8) (N := 19) (ci := 7) (j := 0) inT8 rfl (by decide) rfl (by decide) rfl tw_83 rfl dX8_set_33) ?_
  refine bm_cc (s_bipush hx hb dX8_set_36 (by decide)) ?_
  refine bm_cc (s_iaload hx hb hK dX8_set_38) ?_
  refine bm_cc (s_istore hx hb dX8_set_39) ?_
  refine bm_cc (s_iload hx hb dX8_set_41) ?_
  refine bm_cc (s_bipush hx hb dX8_set_43 (by decide)) ?_
  refine bm_cc (s_icge hx hb dX8_set_45 (by decide)) ?_
  refine bm_cc (s_aload_n hx hb dX8_set_48) ?_
  refine bm_cc (s_getR hx hb hown hts hK (C := RX8) (TT := TX8) (N := 19) (ci := 7) (j := 0) inT8 rfl (by decide) rfl (by decide) rfl tw_83 rfl dX8_set_49) ?_
  refine bm_cc (s_bipush hx hb dX8_set_52 (by decide)) ?_
  refine bm_cc (s_iload hx hb dX8_set_54) ?_
  refine bm_cc (s_iadd hx hb dX8_set_56) ?_
  refine bm_cc (s_iconst hx hb dX8_set_57 (by decide)) ?_
  refine bm_cc (s_iastore hx hb hK dX8_set_58) ?_
  refine bm_cc (s_iinc hx hb dX8_set_59 (by decide)) ?_
  refine bm_cc (s_goto hx hb dX8_set_62 (by decide)) ?_
  refine bm_cc (s_iload_n hx hb dX8_set_65) ?_
  refine bm_cc (s_iret hx hb hr hlk dX8_set_66) ?_
  exact bm_c9

noncomputable def z_X8_clear : List (Nat × bm_O) := [(0, op_aload 0), (1, op_call 0 1 (bm_rc 7) f_X8_changes), (4, op_aload 0), (5, op_getR 7 0), (8, op_const (1)), (9, op_iaload), (10, op_istore 1), (11, op_aload 0), (12, op_getR 7 0), (15, op_const (1)), (16, op_const (0)), (17, op_iastore), (18, op_const (0)), (19, op_istore 2), (20, op_iload 2), (21, op_const (6)), (23, op_icge 95), (26, op_aload 0), (27, op_getR 7 0), (30, op_const (32)), (32, op_const (6)), (34, op_iload 2), (35, op_bin (fun a b => a * b)), (36, op_bin (fun a b => a + b)), (37, op_const (4)), (38, op_bin (fun a b => a + b)), (39, op_const (0)), (40, op_iastore), (41, op_aload 0), (42, op_getR 7 0), (45, op_const (32)), (47, op_const (6)), (49, op_iload 2), (50, op_bin (fun a b => a * b)), (51, op_bin (fun a b => a + b)), (52, op_const (5)), (53, op_bin (fun a b => a + b)), (54, op_const (0)), (55, op_iastore), (56, op_const (0)), (57, op_istore 3), (58, op_iload 3), (59, op_const (8)), (61, op_icge 89), (64, op_aload 0), (65, op_getR 7 0), (68, op_const (68)), (70, op_const (16)), (72, op_iload 2), (73, op_bin (fun a b => a * b)), (74, op_bin (fun a b => a + b)), (75, op_const (2)), (76, op_iload 3), (77, op_bin (fun a b => a * b)), (78, op_bin (fun a b => a + b)), (79, op_const (1)), (80, op_bin (fun a b => a + b)), (81, op_const (0)), (82, op_iastore), (83, op_iinc 3 1), (86, op_goto 58), (89, op_iinc 2 1), (92, op_goto 20), (95, op_iload 1), (96, op_iret)]
noncomputable def f_X8_clear : bm_F := Classical.choose (bm_hide (bm_mt 4 z_X8_clear))
theorem u_X8_clear : f_X8_clear = bm_mt 4 z_X8_clear := Classical.choose_spec (bm_hide _)
theorem k_X8_clear (l : Launch) (g : bm_G) : bm_MetF l g yX8_clear cX8_clear 4 (some .int) 1 21 f_X8_clear := by
  rw [u_X8_clear]
  refine bm_met (by decide) ?_
  intro p e R s m args below meth c n0 s0 hx hb hml hown hts hK hr hlk hnm hF hL
  refine bm_cc (s_aload_n hx hb dX8_clear_0) ?_
  refine bm_cc (s_callV hx hb hml hown hts hK (C := RX8) (TT := TX8) (N := 19) (ci := 7) rfl (by decide) (k_X8_changes l g) tw_128 tw_129 tw_130 tw_123 tw_127 ⟨by decide, by decide, by decide +kernel⟩ ⟨by rw [hF]; decide, by rw [hL]; decide⟩ dX8_clear_1) ?_
  refine bm_cc (s_aload_n hx hb dX8_clear_4) ?_
  refine bm_cc (s_getR hx hb hown hts hK (C := RX8) (TT := TX8) (N := 19) (ci := 7) (j := 0) inT8 rfl (by decide) rfl (by decide) rfl tw_83 rfl dX8_clear_5) ?_
  refine bm_cc (s_iconst hx hb dX8_clear_8 (by decide)) ?_
  refine bm_cc (s_iaload hx hb hK dX8_clear_9) ?_
  refine bm_cc (s_istore_n hx hb dX8_clear_10) ?_
  refine bm_cc (s_aload_n hx hb dX8_clear_11) ?_
  refine bm_cc (s_getR hx hb hown hts hK (C := RX8) (TT := TX8) (N := 19) (ci := 7) (j := 0) inT8 rfl (by decide) rfl (by decide) rfl tw_83 rfl dX8_clear_12) ?_
  refine bm_cc (s_iconst hx hb dX8_clear_15 (by decide)) ?_
  refine bm_cc (s_iconst hx hb dX8_clear_16 (by decide)) ?_
  refine bm_cc (s_iastore hx hb hK dX8_clear_17) ?_
  refine bm_cc (s_iconst hx hb dX8_clear_18 (by decide)) ?_
  refine bm_cc (s_istore_n hx hb dX8_clear_19) ?_
  refine bm_cc (s_iload_n hx hb dX8_clear_20) ?_
  refine bm_cc (s_bipush hx hb dX8_clear_21 (by decide)) ?_
  refine bm_cc (s_icge hx hb dX8_clear_23 (by decide)) ?_
  refine bm_cc (s_aload_n hx hb dX8_clear_26) ?_
  refine bm_cc (s_getR hx hb hown hts hK (C := RX8) (TT := TX8) (N := 19) (ci := 7) (j := 0) inT8 rfl (by decide) rfl (by decide) rfl tw_83 rfl dX8_clear_27) ?_
  refine bm_cc (s_bipush hx hb dX8_clear_30 (by decide)) ?_
  refine bm_cc (s_bipush hx hb dX8_clear_32 (by decide)) ?_
  refine bm_cc (s_iload_n hx hb dX8_clear_34) ?_
  refine bm_cc (s_imul hx hb dX8_clear_35) ?_
  refine bm_cc (s_iadd hx hb dX8_clear_36) ?_
  refine bm_cc (s_iconst hx hb dX8_clear_37 (by decide)) ?_
  refine bm_cc (s_iadd hx hb dX8_clear_38) ?_
  refine bm_cc (s_iconst hx hb dX8_clear_39 (by decide)) ?_
  refine bm_cc (s_iastore hx hb hK dX8_clear_40) ?_
  refine bm_cc (s_aload_n hx hb dX8_clear_41) ?_
  refine bm_cc (s_getR hx hb hown hts hK (C := RX8) (TT := TX8) (N := 19) (ci := 7) (j := 0) inT8 rfl (by decide) rfl (by decide) rfl tw_83 rfl dX8_clear_42) ?_
  refine bm_cc (s_bipush hx hb dX8_clear_45 (by decide)) ?_
  refine bm_cc (s_bipush hx hb dX8_clear_47 (by decide)) ?_
  refine bm_cc (s_iload_n hx hb dX8_clear_49) ?_
  refine bm_cc (s_imul hx hb dX8_clear_50) ?_
  refine bm_cc (s_iadd hx hb dX8_clear_51) ?_
  refine bm_cc (s_iconst hx hb dX8_clear_52 (by decide)) ?_
  refine bm_cc (s_iadd hx hb dX8_clear_53) ?_
  refine bm_cc (s_iconst hx hb dX8_clear_54 (by decide)) ?_
  refine bm_cc (s_iastore hx hb hK dX8_clear_55) ?_
  refine bm_cc (s_iconst hx hb dX8_clear_56 (by decide)) ?_
  refine bm_cc (s_istore_n hx hb dX8_clear_57) ?_
  refine bm_cc (s_iload_n hx hb dX8_clear_58) ?_
  refine bm_cc (s_bipush hx hb dX8_clear_59 (by decide)) ?_
  refine bm_cc (s_icge hx hb dX8_clear_61 (by decide)) ?_
  refine bm_cc (s_aload_n hx hb dX8_clear_64) ?_
  refine bm_cc (s_getR hx hb hown hts hK (C := RX8) (TT := TX8) (N := 19) (ci := 7) (j := 0) inT8 rfl (by decide) rfl (by decide) rfl tw_83 rfl dX8_clear_65) ?_
  refine bm_cc (s_bipush hx hb dX8_clear_68 (by decide)) ?_
  refine bm_cc (s_bipush hx hb dX8_clear_70 (by decide)) ?_
  refine bm_cc (s_iload_n hx hb dX8_clear_72) ?_
  refine bm_cc (s_imul hx hb dX8_clear_73) ?_
  refine bm_cc (s_iadd hx hb dX8_clear_74) ?_
  refine bm_cc (s_iconst hx hb dX8_clear_75 (by decide)) ?_
  refine bm_cc (s_iload_n hx hb dX8_clear_76) ?_
  refine bm_cc (s_imul hx hb dX8_clear_77) ?_
  refine bm_cc (s_iadd hx hb dX8_clear_78) ?_
  refine bm_cc (s_iconst hx hb dX8_clear_79 (by decide)) ?_
  refine bm_cc (s_iadd hx hb dX8_clear_80) ?_
  refine bm_cc (s_iconst hx hb dX8_clear_81 (by decide)) ?_
  refine bm_cc (s_iastore hx hb hK dX8_clear_82) ?_
  refine bm_cc (s_iinc hx hb dX8_clear_83 (by decide)) ?_
  refine bm_cc (s_goto hx hb dX8_clear_86 (by decide)) ?_
  refine bm_cc (s_iinc hx hb dX8_clear_89 (by decide)) ?_
  refine bm_cc (s_goto hx hb dX8_clear_92 (by decide)) ?_
  refine bm_cc (s_iload_n hx hb dX8_clear_95) ?_
  refine bm_cc (s_iret hx hb hr hlk dX8_clear_96) ?_
  exact bm_c9

noncomputable def z_X8_votesOf : List (Nat × bm_O) := [(0, op_aload 0), (1, op_getR 7 0), (4, op_const (68)), (6, op_const (16)), (8, op_iload 1), (9, op_bin (fun a b => a * b)), (10, op_bin (fun a b => a + b)), (11, op_const (2)), (12, op_iload 2), (13, op_bin (fun a b => a * b)), (14, op_bin (fun a b => a + b)), (15, op_const (1)), (16, op_bin (fun a b => a + b)), (17, op_iaload), (18, op_iret)]
noncomputable def f_X8_votesOf : bm_F := Classical.choose (bm_hide (bm_mt 3 z_X8_votesOf))
theorem u_X8_votesOf : f_X8_votesOf = bm_mt 3 z_X8_votesOf := Classical.choose_spec (bm_hide _)
theorem k_X8_votesOf (l : Launch) (g : bm_G) : bm_MetF l g yX8_votesOf cX8_votesOf 3 (some .int) 0 0 f_X8_votesOf := by
  rw [u_X8_votesOf]
  refine bm_met (by decide) ?_
  intro p e R s m args below meth c n0 s0 hx hb hml hown hts hK hr hlk hnm hF hL
  refine bm_cc (s_aload_n hx hb dX8_votesOf_0) ?_
  refine bm_cc (s_getR hx hb hown hts hK (C := RX8) (TT := TX8) (N := 19) (ci := 7) (j := 0) inT8 rfl (by decide) rfl (by decide) rfl tw_83 rfl dX8_votesOf_1) ?_
  refine bm_cc (s_bipush hx hb dX8_votesOf_4 (by decide)) ?_
  refine bm_cc (s_bipush hx hb dX8_votesOf_6 (by decide)) ?_
  refine bm_cc (s_iload_n hx hb dX8_votesOf_8) ?_
  refine bm_cc (s_imul hx hb dX8_votesOf_9) ?_
  refine bm_cc (s_iadd hx hb dX8_votesOf_10) ?_
  refine bm_cc (s_iconst hx hb dX8_votesOf_11 (by decide)) ?_
  refine bm_cc (s_iload_n hx hb dX8_votesOf_12) ?_
  refine bm_cc (s_imul hx hb dX8_votesOf_13) ?_
  refine bm_cc (s_iadd hx hb dX8_votesOf_14) ?_
  refine bm_cc (s_iconst hx hb dX8_votesOf_15 (by decide)) ?_
  refine bm_cc (s_iadd hx hb dX8_votesOf_16) ?_
  refine bm_cc (s_iaload hx hb hK dX8_votesOf_17) ?_
  refine bm_cc (s_iret hx hb hr hlk dX8_votesOf_18) ?_
  exact bm_c9

noncomputable def z_X8_votesIn : List (Nat × bm_O) := [(0, op_const (0)), (1, op_istore 2), (2, op_const (0)), (3, op_istore 3), (4, op_iload 3), (5, op_aload 0), (6, op_iload 1), (7, op_const (3)), (8, op_call 1 3 (bm_rc 7) f_X8_of), (11, op_icge 29), (14, op_iload 2), (15, op_aload 0), (16, op_iload 1), (17, op_iload 3), (18, op_call 1 3 (bm_rc 7) f_X8_votesOf), (21, op_bin (fun a b => a + b)), (22, op_istore 2), (23, op_iinc 3 1), (26, op_goto 4), (29, op_iload 2), (30, op_iret)]
noncomputable def f_X8_votesIn : bm_F := Classical.choose (bm_hide (bm_mt 4 z_X8_votesIn))
theorem u_X8_votesIn : f_X8_votesIn = bm_mt 4 z_X8_votesIn := Classical.choose_spec (bm_hide _)
theorem k_X8_votesIn (l : Launch) (g : bm_G) : bm_MetF l g yX8_votesIn cX8_votesIn 4 (some .int) 1 22 f_X8_votesIn := by
  rw [u_X8_votesIn]
  refine bm_met (by decide) ?_
  intro p e R s m args below meth c n0 s0 hx hb hml hown hts hK hr hlk hnm hF hL
  refine bm_cc (s_iconst hx hb dX8_votesIn_0 (by decide)) ?_
  refine bm_cc (s_istore_n hx hb dX8_votesIn_1) ?_
  refine bm_cc (s_iconst hx hb dX8_votesIn_2 (by decide)) ?_
  refine bm_cc (s_istore_n hx hb dX8_votesIn_3) ?_
  refine bm_cc (s_iload_n hx hb dX8_votesIn_4) ?_
  refine bm_cc (s_aload_n hx hb dX8_votesIn_5) ?_
  refine bm_cc (s_iload_n hx hb dX8_votesIn_6) ?_
  refine bm_cc (s_iconst hx hb dX8_votesIn_7 (by decide)) ?_
  refine bm_cc (s_callV hx hb hml hown hts hK (C := RX8) (TT := TX8) (N := 19) (ci := 7) rfl (by decide) (k_X8_of l g) tw_164 tw_165 tw_166 tw_123 tw_163 ⟨by decide, by decide, by decide +kernel⟩ ⟨by rw [hF]; decide, by rw [hL]; decide⟩ dX8_votesIn_8) ?_
  refine bm_cc (s_icge hx hb dX8_votesIn_11 (by decide)) ?_
  refine bm_cc (s_iload_n hx hb dX8_votesIn_14) ?_
  refine bm_cc (s_aload_n hx hb dX8_votesIn_15) ?_
  refine bm_cc (s_iload_n hx hb dX8_votesIn_16) ?_
  refine bm_cc (s_iload_n hx hb dX8_votesIn_17) ?_
  refine bm_cc (s_callV hx hb hml hown hts hK (C := RX8) (TT := TX8) (N := 19) (ci := 7) rfl (by decide) (k_X8_votesOf l g) tw_240 tw_241 tw_242 tw_123 tw_239 ⟨by decide, by decide, by decide +kernel⟩ ⟨by rw [hF]; decide, by rw [hL]; decide⟩ dX8_votesIn_18) ?_
  refine bm_cc (s_iadd hx hb dX8_votesIn_21) ?_
  refine bm_cc (s_istore_n hx hb dX8_votesIn_22) ?_
  refine bm_cc (s_iinc hx hb dX8_votesIn_23 (by decide)) ?_
  refine bm_cc (s_goto hx hb dX8_votesIn_26 (by decide)) ?_
  refine bm_cc (s_iload_n hx hb dX8_votesIn_29) ?_
  refine bm_cc (s_iret hx hb hr hlk dX8_votesIn_30) ?_
  exact bm_c9

noncomputable def z_X8_contestOf : List (Nat × bm_O) := [(0, op_aload 0), (1, op_iload 1), (2, op_call 1 2 (bm_rc 7) f_X8_isContest), (5, op_ifeq 18), (8, op_iload 2), (9, op_const (0)), (10, op_const (6)), (12, op_call 1 3 bm_c0 f_X8_in), (15, op_ifne 20), (18, op_const (-1)), (19, op_iret), (20, op_iload 2), (21, op_const (4)), (22, op_icge 34), (25, op_aload 0), (26, op_iload 1), (27, op_iload 2), (28, op_call 1 3 (bm_rc 7) f_X8_of), (31, op_goto 55), (34, op_iload 2), (35, op_const (4)), (36, op_icne 47), (39, op_aload 0), (40, op_iload 1), (41, op_call 1 2 (bm_rc 7) f_X8_votesIn), (44, op_goto 55), (47, op_aload 0), (48, op_iload 1), (49, op_iload 2), (50, op_const (1)), (51, op_bin (fun a b => a - b)), (52, op_call 1 3 (bm_rc 7) f_X8_of), (55, op_iret)]
noncomputable def f_X8_contestOf : bm_F := Classical.choose (bm_hide (bm_mt 3 z_X8_contestOf))
theorem u_X8_contestOf : f_X8_contestOf = bm_mt 3 z_X8_contestOf := Classical.choose_spec (bm_hide _)
theorem k_X8_contestOf (l : Launch) (g : bm_G) : bm_MetF l g yX8_contestOf cX8_contestOf 3 (some .int) 2 45 f_X8_contestOf := by
  rw [u_X8_contestOf]
  refine bm_met (by decide) ?_
  intro p e R s m args below meth c n0 s0 hx hb hml hown hts hK hr hlk hnm hF hL
  refine bm_cc (s_aload_n hx hb dX8_contestOf_0) ?_
  refine bm_cc (s_iload_n hx hb dX8_contestOf_1) ?_
  refine bm_cc (s_callV hx hb hml hown hts hK (C := RX8) (TT := TX8) (N := 19) (ci := 7) rfl (by decide) (k_X8_isContest l g) tw_160 tw_161 tw_162 tw_123 tw_159 ⟨by decide, by decide, by decide +kernel⟩ ⟨by rw [hF]; decide, by rw [hL]; decide⟩ dX8_contestOf_2) ?_
  refine bm_cc (s_ifeq hx hb dX8_contestOf_5 (by decide)) ?_
  refine bm_cc (s_iload_n hx hb dX8_contestOf_8) ?_
  refine bm_cc (s_iconst hx hb dX8_contestOf_9 (by decide)) ?_
  refine bm_cc (s_bipush hx hb dX8_contestOf_10 (by decide)) ?_
  refine bm_cc (s_callS hx hb hml hown hts hK (k_X8_in l g) tw_125 tw_126 tw_123 tw_124 ⟨by decide, by decide, by decide +kernel⟩ ⟨by rw [hF]; decide, by rw [hL]; decide⟩ dX8_contestOf_12) ?_
  refine bm_cc (s_ifne hx hb dX8_contestOf_15 (by decide)) ?_
  refine bm_cc (s_iconst hx hb dX8_contestOf_18 (by decide)) ?_
  refine bm_cc (s_iret hx hb hr hlk dX8_contestOf_19) ?_
  refine bm_cc (s_iload_n hx hb dX8_contestOf_20) ?_
  refine bm_cc (s_iconst hx hb dX8_contestOf_21 (by decide)) ?_
  refine bm_cc (s_icge hx hb dX8_contestOf_22 (by decide)) ?_
  refine bm_cc (s_aload_n hx hb dX8_contestOf_25) ?_
  refine bm_cc (s_iload_n hx hb dX8_contestOf_26) ?_
  refine bm_cc (s_iload_n hx hb dX8_contestOf_27) ?_
  refine bm_cc (s_callV hx hb hml hown hts hK (C := RX8) (TT := TX8) (N := 19) (ci := 7) rfl (by decide) (k_X8_of l g) tw_164 tw_165 tw_166 tw_123 tw_163 ⟨by decide, by decide, by decide +kernel⟩ ⟨by rw [hF]; decide, by rw [hL]; decide⟩ dX8_contestOf_28) ?_
  refine bm_cc (s_goto hx hb dX8_contestOf_31 (by decide)) ?_
  refine bm_cc (s_iload_n hx hb dX8_contestOf_34) ?_
  refine bm_cc (s_iconst hx hb dX8_contestOf_35 (by decide)) ?_
  refine bm_cc (s_icne hx hb dX8_contestOf_36 (by decide)) ?_
  refine bm_cc (s_aload_n hx hb dX8_contestOf_39) ?_
  refine bm_cc (s_iload_n hx hb dX8_contestOf_40) ?_
  refine bm_cc (s_callV hx hb hml hown hts hK (C := RX8) (TT := TX8) (N := 19) (ci := 7) rfl (by decide) (k_X8_votesIn l g) tw_244 tw_245 tw_246 tw_123 tw_243 ⟨by decide, by decide, by decide +kernel⟩ ⟨by rw [hF]; decide, by rw [hL]; decide⟩ dX8_contestOf_41) ?_
  refine bm_cc (s_goto hx hb dX8_contestOf_44 (by decide)) ?_
  refine bm_cc (s_aload_n hx hb dX8_contestOf_47) ?_
  refine bm_cc (s_iload_n hx hb dX8_contestOf_48) ?_
  refine bm_cc (s_iload_n hx hb dX8_contestOf_49) ?_
  refine bm_cc (s_iconst hx hb dX8_contestOf_50 (by decide)) ?_
  refine bm_cc (s_isub hx hb dX8_contestOf_51) ?_
  refine bm_cc (s_callV hx hb hml hown hts hK (C := RX8) (TT := TX8) (N := 19) (ci := 7) rfl (by decide) (k_X8_of l g) tw_164 tw_165 tw_166 tw_123 tw_163 ⟨by decide, by decide, by decide +kernel⟩ ⟨by rw [hF]; decide, by rw [hL]; decide⟩ dX8_contestOf_52) ?_
  refine bm_cc (s_iret hx hb hr hlk dX8_contestOf_55) ?_
  exact bm_c9

noncomputable def z_X8_isName : List (Nat × bm_O) := [(0, op_aload 0), (1, op_iload 1), (2, op_call 1 2 (bm_rc 7) f_X8_isContest), (5, op_ifeq 26), (8, op_iload 2), (9, op_iflt 26), (12, op_iload 2), (13, op_aload 0), (14, op_iload 1), (15, op_const (3)), (16, op_call 1 3 (bm_rc 7) f_X8_of), (19, op_icge 26), (22, op_const (1)), (23, op_goto 27), (26, op_const (0)), (27, op_zret)]
noncomputable def f_X8_isName : bm_F := Classical.choose (bm_hide (bm_mt 3 z_X8_isName))
theorem u_X8_isName : f_X8_isName = bm_mt 3 z_X8_isName := Classical.choose_spec (bm_hide _)
theorem k_X8_isName (l : Launch) (g : bm_G) : bm_MetF l g yX8_isName cX8_isName 3 (some .boolean) 1 22 f_X8_isName := by
  rw [u_X8_isName]
  refine bm_met (by decide) ?_
  intro p e R s m args below meth c n0 s0 hx hb hml hown hts hK hr hlk hnm hF hL
  refine bm_cc (s_aload_n hx hb dX8_isName_0) ?_
  refine bm_cc (s_iload_n hx hb dX8_isName_1) ?_
  refine bm_cc (s_callV hx hb hml hown hts hK (C := RX8) (TT := TX8) (N := 19) (ci := 7) rfl (by decide) (k_X8_isContest l g) tw_160 tw_161 tw_162 tw_123 tw_159 ⟨by decide, by decide, by decide +kernel⟩ ⟨by rw [hF]; decide, by rw [hL]; decide⟩ dX8_isName_2) ?_
  refine bm_cc (s_ifeq hx hb dX8_isName_5 (by decide)) ?_
  refine bm_cc (s_iload_n hx hb dX8_isName_8) ?_
  refine bm_cc (s_iflt hx hb dX8_isName_9 (by decide)) ?_
  refine bm_cc (s_iload_n hx hb dX8_isName_12) ?_
  refine bm_cc (s_aload_n hx hb dX8_isName_13) ?_
  refine bm_cc (s_iload_n hx hb dX8_isName_14) ?_
  refine bm_cc (s_iconst hx hb dX8_isName_15 (by decide)) ?_
  refine bm_cc (s_callV hx hb hml hown hts hK (C := RX8) (TT := TX8) (N := 19) (ci := 7) rfl (by decide) (k_X8_of l g) tw_164 tw_165 tw_166 tw_123 tw_163 ⟨by decide, by decide, by decide +kernel⟩ ⟨by rw [hF]; decide, by rw [hL]; decide⟩ dX8_isName_16) ?_
  refine bm_cc (s_icge hx hb dX8_isName_19 (by decide)) ?_
  refine bm_cc (s_iconst hx hb dX8_isName_22 (by decide)) ?_
  refine bm_cc (s_goto hx hb dX8_isName_23 (by decide)) ?_
  refine bm_cc (s_iconst hx hb dX8_isName_26 (by decide)) ?_
  refine bm_cc (s_zret hx hb hr hlk dX8_isName_27) ?_
  exact bm_c9

noncomputable def z_X8_lengthOf : List (Nat × bm_O) := [(0, op_aload 0), (1, op_getR 7 0), (4, op_const (68)), (6, op_const (16)), (8, op_iload 1), (9, op_bin (fun a b => a * b)), (10, op_bin (fun a b => a + b)), (11, op_const (2)), (12, op_iload 2), (13, op_bin (fun a b => a * b)), (14, op_bin (fun a b => a + b)), (15, op_iaload), (16, op_iret)]
noncomputable def f_X8_lengthOf : bm_F := Classical.choose (bm_hide (bm_mt 3 z_X8_lengthOf))
theorem u_X8_lengthOf : f_X8_lengthOf = bm_mt 3 z_X8_lengthOf := Classical.choose_spec (bm_hide _)
theorem k_X8_lengthOf (l : Launch) (g : bm_G) : bm_MetF l g yX8_lengthOf cX8_lengthOf 3 (some .int) 0 0 f_X8_lengthOf := by
  rw [u_X8_lengthOf]
  refine bm_met (by decide) ?_
  intro p e R s m args below meth c n0 s0 hx hb hml hown hts hK hr hlk hnm hF hL
  refine bm_cc (s_aload_n hx hb dX8_lengthOf_0) ?_
  refine bm_cc (s_getR hx hb hown hts hK (C := RX8) (TT := TX8) (N := 19) (ci := 7) (j := 0) inT8 rfl (by decide) rfl (by decide) rfl tw_83 rfl dX8_lengthOf_1) ?_
  refine bm_cc (s_bipush hx hb dX8_lengthOf_4 (by decide)) ?_
  refine bm_cc (s_bipush hx hb dX8_lengthOf_6 (by decide)) ?_
  refine bm_cc (s_iload_n hx hb dX8_lengthOf_8) ?_
  refine bm_cc (s_imul hx hb dX8_lengthOf_9) ?_
  refine bm_cc (s_iadd hx hb dX8_lengthOf_10) ?_
  refine bm_cc (s_iconst hx hb dX8_lengthOf_11 (by decide)) ?_
  refine bm_cc (s_iload_n hx hb dX8_lengthOf_12) ?_
  refine bm_cc (s_imul hx hb dX8_lengthOf_13) ?_
  refine bm_cc (s_iadd hx hb dX8_lengthOf_14) ?_
  refine bm_cc (s_iaload hx hb hK dX8_lengthOf_15) ?_
  refine bm_cc (s_iret hx hb hr hlk dX8_lengthOf_16) ?_
  exact bm_c9

noncomputable def z_X8_standing : List (Nat × bm_O) := [(0, op_aload 0), (1, op_iload 2), (2, op_const (3)), (3, op_call 1 3 (bm_rc 7) f_X8_of), (6, op_istore 4), (8, op_aload 0), (9, op_iload 2), (10, op_const (2)), (11, op_call 1 3 (bm_rc 7) f_X8_of), (14, op_tsw [40, 42] 52), (40, op_iload 3), (41, op_iret), (42, op_iload 1), (43, op_iload 4), (45, op_binz (fun a b => a - a / b * b)), (46, op_iload 3), (47, op_bin (fun a b => a + b)), (48, op_iload 4), (50, op_binz (fun a b => a - a / b * b)), (51, op_iret), (52, op_iload 1), (53, op_const (2)), (54, op_binz (fun a b => a - a / b * b)), (55, op_ifne 62), (58, op_iload 3), (59, op_goto 68), (62, op_iload 4), (64, op_const (1)), (65, op_bin (fun a b => a - b)), (66, op_iload 3), (67, op_bin (fun a b => a - b)), (68, op_iret)]
noncomputable def f_X8_standing : bm_F := Classical.choose (bm_hide (bm_mt 5 z_X8_standing))
theorem u_X8_standing : f_X8_standing = bm_mt 5 z_X8_standing := Classical.choose_spec (bm_hide _)
theorem k_X8_standing (l : Launch) (g : bm_G) : bm_MetF l g yX8_standing cX8_standing 5 (some .int) 1 22 f_X8_standing := by
  rw [u_X8_standing]
  refine bm_met (by decide) ?_
  intro p e R s m args below meth c n0 s0 hx hb hml hown hts hK hr hlk hnm hF hL
  refine bm_cc (s_aload_n hx hb dX8_standing_0) ?_
  refine bm_cc (s_iload_n hx hb dX8_standing_1) ?_
  refine bm_cc (s_iconst hx hb dX8_standing_2 (by decide)) ?_
  refine bm_cc (s_callV hx hb hml hown hts hK (C := RX8) (TT := TX8) (N := 19) (ci := 7) rfl (by decide) (k_X8_of l g) tw_164 tw_165 tw_166 tw_123 tw_163 ⟨by decide, by decide, by decide +kernel⟩ ⟨by rw [hF]; decide, by rw [hL]; decide⟩ dX8_standing_3) ?_
  refine bm_cc (s_istore hx hb dX8_standing_6) ?_
  refine bm_cc (s_aload_n hx hb dX8_standing_8) ?_
  refine bm_cc (s_iload_n hx hb dX8_standing_9) ?_
  refine bm_cc (s_iconst hx hb dX8_standing_10 (by decide)) ?_
  refine bm_cc (s_callV hx hb hml hown hts hK (C := RX8) (TT := TX8) (N := 19) (ci := 7) rfl (by decide) (k_X8_of l g) tw_164 tw_165 tw_166 tw_123 tw_163 ⟨by decide, by decide, by decide +kernel⟩ ⟨by rw [hF]; decide, by rw [hL]; decide⟩ dX8_standing_11) ?_
  refine bm_cc (s_lsw2 hx hb dX8_standing_14 (by decide) (by decide) (by decide)) ?_
  refine bm_cc (s_iload_n hx hb dX8_standing_40) ?_
  refine bm_cc (s_iret hx hb hr hlk dX8_standing_41) ?_
  refine bm_cc (s_iload_n hx hb dX8_standing_42) ?_
  refine bm_cc (s_iload hx hb dX8_standing_43) ?_
  refine bm_cc (s_irem hx hb dX8_standing_45) ?_
  refine bm_cc (s_iload_n hx hb dX8_standing_46) ?_
  refine bm_cc (s_iadd hx hb dX8_standing_47) ?_
  refine bm_cc (s_iload hx hb dX8_standing_48) ?_
  refine bm_cc (s_irem hx hb dX8_standing_50) ?_
  refine bm_cc (s_iret hx hb hr hlk dX8_standing_51) ?_
  refine bm_cc (s_iload_n hx hb dX8_standing_52) ?_
  refine bm_cc (s_iconst hx hb dX8_standing_53 (by decide)) ?_
  refine bm_cc (s_irem hx hb dX8_standing_54) ?_
  refine bm_cc (s_ifne hx hb dX8_standing_55 (by decide)) ?_
  refine bm_cc (s_iload_n hx hb dX8_standing_58) ?_
  refine bm_cc (s_goto hx hb dX8_standing_59 (by decide)) ?_
  refine bm_cc (s_iload hx hb dX8_standing_62) ?_
  refine bm_cc (s_iconst hx hb dX8_standing_64 (by decide)) ?_
  refine bm_cc (s_isub hx hb dX8_standing_65) ?_
  refine bm_cc (s_iload_n hx hb dX8_standing_66) ?_
  refine bm_cc (s_isub hx hb dX8_standing_67) ?_
  refine bm_cc (s_iret hx hb hr hlk dX8_standing_68) ?_
  exact bm_c9

noncomputable def z_X8_firstOn : List (Nat × bm_O) := [(0, op_const (0)), (1, op_istore 3), (2, op_const (0)), (3, op_istore 4), (5, op_iload 4), (7, op_aload 0), (8, op_getR 7 0), (11, op_const (7)), (13, op_iaload), (14, op_icge 52), (17, op_iload 3), (18, op_aload 0), (19, op_iload 4), (21, op_iload 1), (22, op_const (0)), (23, op_call 1 4 (bm_rc 7) f_X8_standing), (26, op_iload 2), (27, op_icne 43), (30, op_aload 0), (31, op_getR 7 0), (34, op_const (8)), (36, op_iload 4), (38, op_bin (fun a b => a + b)), (39, op_iaload), (40, op_goto 44), (43, op_const (0)), (44, op_bin (fun a b => a + b)), (45, op_istore 3), (46, op_iinc 4 1), (49, op_goto 5), (52, op_iload 3), (53, op_iret)]
noncomputable def f_X8_firstOn : bm_F := Classical.choose (bm_hide (bm_mt 5 z_X8_firstOn))
theorem u_X8_firstOn : f_X8_firstOn = bm_mt 5 z_X8_firstOn := Classical.choose_spec (bm_hide _)
theorem k_X8_firstOn (l : Launch) (g : bm_G) : bm_MetF l g yX8_firstOn cX8_firstOn 5 (some .int) 2 46 f_X8_firstOn := by
  rw [u_X8_firstOn]
  refine bm_met (by decide) ?_
  intro p e R s m args below meth c n0 s0 hx hb hml hown hts hK hr hlk hnm hF hL
  refine bm_cc (s_iconst hx hb dX8_firstOn_0 (by decide)) ?_
  refine bm_cc (s_istore_n hx hb dX8_firstOn_1) ?_
  refine bm_cc (s_iconst hx hb dX8_firstOn_2 (by decide)) ?_
  refine bm_cc (s_istore hx hb dX8_firstOn_3) ?_
  refine bm_cc (s_iload hx hb dX8_firstOn_5) ?_
  refine bm_cc (s_aload_n hx hb dX8_firstOn_7) ?_
  refine bm_cc (s_getR hx hb hown hts hK (C := RX8) (TT := TX8) (N := 19) (ci := 7) (j := 0) inT8 rfl (by decide) rfl (by decide) rfl tw_83 rfl dX8_firstOn_8) ?_
  refine bm_cc (s_bipush hx hb dX8_firstOn_11 (by decide)) ?_
  refine bm_cc (s_iaload hx hb hK dX8_firstOn_13) ?_
  refine bm_cc (s_icge hx hb dX8_firstOn_14 (by decide)) ?_
  refine bm_cc (s_iload_n hx hb dX8_firstOn_17) ?_
  refine bm_cc (s_aload_n hx hb dX8_firstOn_18) ?_
  refine bm_cc (s_iload hx hb dX8_firstOn_19) ?_
  refine bm_cc (s_iload_n hx hb dX8_firstOn_21) ?_
  refine bm_cc (s_iconst hx hb dX8_firstOn_22 (by decide)) ?_
  refine bm_cc (s_callV hx hb hml hown hts hK (C := RX8) (TT := TX8) (N := 19) (ci := 7) rfl (by decide) (k_X8_standing l g) tw_284 tw_285 tw_286 tw_123 tw_283 ⟨by decide, by decide, by decide +kernel⟩ ⟨by rw [hF]; decide, by rw [hL]; decide⟩ dX8_firstOn_23) ?_
  refine bm_cc (s_iload_n hx hb dX8_firstOn_26) ?_
  refine bm_cc (s_icne hx hb dX8_firstOn_27 (by decide)) ?_
  refine bm_cc (s_aload_n hx hb dX8_firstOn_30) ?_
  refine bm_cc (s_getR hx hb hown hts hK (C := RX8) (TT := TX8) (N := 19) (ci := 7) (j := 0) inT8 rfl (by decide) rfl (by decide) rfl tw_83 rfl dX8_firstOn_31) ?_
  refine bm_cc (s_bipush hx hb dX8_firstOn_34 (by decide)) ?_
  refine bm_cc (s_iload hx hb dX8_firstOn_36) ?_
  refine bm_cc (s_iadd hx hb dX8_firstOn_38) ?_
  refine bm_cc (s_iaload hx hb hK dX8_firstOn_39) ?_
  refine bm_cc (s_goto hx hb dX8_firstOn_40 (by decide)) ?_
  refine bm_cc (s_iconst hx hb dX8_firstOn_43 (by decide)) ?_
  refine bm_cc (s_iadd hx hb dX8_firstOn_44) ?_
  refine bm_cc (s_istore_n hx hb dX8_firstOn_45) ?_
  refine bm_cc (s_iinc hx hb dX8_firstOn_46 (by decide)) ?_
  refine bm_cc (s_goto hx hb dX8_firstOn_49 (by decide)) ?_
  refine bm_cc (s_iload_n hx hb dX8_firstOn_52) ?_
  refine bm_cc (s_iret hx hb hr hlk dX8_firstOn_53) ?_
  exact bm_c9

noncomputable def z_X8_seated : List (Nat × bm_O) := [(0, op_const (0)), (1, op_istore 3), (2, op_const (0)), (3, op_istore 4), (5, op_iload 4), (7, op_aload 0), (8, op_iload 1), (9, op_const (3)), (10, op_call 1 3 (bm_rc 7) f_X8_of), (13, op_icge 80), (16, op_aload 0), (17, op_iload 1), (18, op_iload 4), (20, op_call 1 3 (bm_rc 7) f_X8_votesOf), (23, op_aload 0), (24, op_iload 1), (25, op_iload 2), (26, op_call 1 3 (bm_rc 7) f_X8_votesOf), (29, op_icgt 54), (32, op_aload 0), (33, op_iload 1), (34, op_iload 4), (36, op_call 1 3 (bm_rc 7) f_X8_votesOf), (39, op_aload 0), (40, op_iload 1), (41, op_iload 2), (42, op_call 1 3 (bm_rc 7) f_X8_votesOf), (45, op_icne 58), (48, op_iload 4), (50, op_iload 2), (51, op_icge 58), (54, op_const (1)), (55, op_goto 59), (58, op_const (0)), (59, op_istore 5), (61, op_iload 3), (62, op_iload 5), (64, op_ifeq 71), (67, op_const (1)), (68, op_goto 72), (71, op_const (0)), (72, op_bin (fun a b => a + b)), (73, op_istore 3), (74, op_iinc 4 1), (77, op_goto 5), (80, op_iload 3), (81, op_aload 0), (82, op_iload 1), (83, op_const (1)), (84, op_call 1 3 (bm_rc 7) f_X8_of), (87, op_icge 94), (90, op_const (1)), (91, op_goto 95), (94, op_const (0)), (95, op_iret)]
noncomputable def f_X8_seated : bm_F := Classical.choose (bm_hide (bm_mt 6 z_X8_seated))
theorem u_X8_seated : f_X8_seated = bm_mt 6 z_X8_seated := Classical.choose_spec (bm_hide _)
theorem k_X8_seated (l : Launch) (g : bm_G) : bm_MetF l g yX8_seated cX8_seated 6 (some .int) 1 22 f_X8_seated := by
  rw [u_X8_seated]
  refine bm_met (by decide) ?_
  intro p e R s m args below meth c n0 s0 hx hb hml hown hts hK hr hlk hnm hF hL
  refine bm_cc (s_iconst hx hb dX8_seated_0 (by decide)) ?_
  refine bm_cc (s_istore_n hx hb dX8_seated_1) ?_
  refine bm_cc (s_iconst hx hb dX8_seated_2 (by decide)) ?_
  refine bm_cc (s_istore hx hb dX8_seated_3) ?_
  refine bm_cc (s_iload hx hb dX8_seated_5) ?_
  refine bm_cc (s_aload_n hx hb dX8_seated_7) ?_
  refine bm_cc (s_iload_n hx hb dX8_seated_8) ?_
  refine bm_cc (s_iconst hx hb dX8_seated_9 (by decide)) ?_
  refine bm_cc (s_callV hx hb hml hown hts hK (C := RX8) (TT := TX8) (N := 19) (ci := 7) rfl (by decide) (k_X8_of l g) tw_164 tw_165 tw_166 tw_123 tw_163 ⟨by decide, by decide, by decide +kernel⟩ ⟨by rw [hF]; decide, by rw [hL]; decide⟩ dX8_seated_10) ?_
  refine bm_cc (s_icge hx hb dX8_seated_13 (by decide)) ?_
  refine bm_cc (s_aload_n hx hb dX8_seated_16) ?_
  refine bm_cc (s_iload_n hx hb dX8_seated_17) ?_
  refine bm_cc (s_iload hx hb dX8_seated_18) ?_
  refine bm_cc (s_callV hx hb hml hown hts hK (C := RX8) (TT := TX8) (N := 19) (ci := 7) rfl (by decide) (k_X8_votesOf l g) tw_240 tw_241 tw_242 tw_123 tw_239 ⟨by decide, by decide, by decide +kernel⟩ ⟨by rw [hF]; decide, by rw [hL]; decide⟩ dX8_seated_20) ?_
  refine bm_cc (s_aload_n hx hb dX8_seated_23) ?_
  refine bm_cc (s_iload_n hx hb dX8_seated_24) ?_
  refine bm_cc (s_iload_n hx hb dX8_seated_25) ?_
  refine bm_cc (s_callV hx hb hml hown hts hK (C := RX8) (TT := TX8) (N := 19) (ci := 7) rfl (by decide) (k_X8_votesOf l g) tw_240 tw_241 tw_242 tw_123 tw_239 ⟨by decide, by decide, by decide +kernel⟩ ⟨by rw [hF]; decide, by rw [hL]; decide⟩ dX8_seated_26) ?_
  refine bm_cc (s_icgt hx hb dX8_seated_29 (by decide)) ?_
  refine bm_cc (s_aload_n hx hb dX8_seated_32) ?_
  refine bm_cc (s_iload_n hx hb dX8_seated_33) ?_
  refine bm_cc (s_iload hx hb dX8_seated_34) ?_
  refine bm_cc (s_callV hx hb hml hown hts hK (C := RX8) (TT := TX8) (N := 19) (ci := 7) rfl (by decide) (k_X8_votesOf l g) tw_240 tw_241 tw_242 tw_123 tw_239 ⟨by decide, by decide, by decide +kernel⟩ ⟨by rw [hF]; decide, by rw [hL]; decide⟩ dX8_seated_36) ?_
  refine bm_cc (s_aload_n hx hb dX8_seated_39) ?_
  refine bm_cc (s_iload_n hx hb dX8_seated_40) ?_
  refine bm_cc (s_iload_n hx hb dX8_seated_41) ?_
  refine bm_cc (s_callV hx hb hml hown hts hK (C := RX8) (TT := TX8) (N := 19) (ci := 7) rfl (by decide) (k_X8_votesOf l g) tw_240 tw_241 tw_242 tw_123 tw_239 ⟨by decide, by decide, by decide +kernel⟩ ⟨by rw [hF]; decide, by rw [hL]; decide⟩ dX8_seated_42) ?_
  refine bm_cc (s_icne hx hb dX8_seated_45 (by decide)) ?_
  refine bm_cc (s_iload hx hb dX8_seated_48) ?_
  refine bm_cc (s_iload_n hx hb dX8_seated_50) ?_
  refine bm_cc (s_icge hx hb dX8_seated_51 (by decide)) ?_
  refine bm_cc (s_iconst hx hb dX8_seated_54 (by decide)) ?_
  refine bm_cc (s_goto hx hb dX8_seated_55 (by decide)) ?_
  refine bm_cc (s_iconst hx hb dX8_seated_58 (by decide)) ?_
  refine bm_cc (s_istore hx hb dX8_seated_59) ?_
  refine bm_cc (s_iload_n hx hb dX8_seated_61) ?_
  refine bm_cc (s_iload hx hb dX8_seated_62) ?_
  refine bm_cc (s_ifeq hx hb dX8_seated_64 (by decide)) ?_
  refine bm_cc (s_iconst hx hb dX8_seated_67 (by decide)) ?_
  refine bm_cc (s_goto hx hb dX8_seated_68 (by decide)) ?_
  refine bm_cc (s_iconst hx hb dX8_seated_71 (by decide)) ?_
  refine bm_cc (s_iadd hx hb dX8_seated_72) ?_
  refine bm_cc (s_istore_n hx hb dX8_seated_73) ?_
  refine bm_cc (s_iinc hx hb dX8_seated_74 (by decide)) ?_
  refine bm_cc (s_goto hx hb dX8_seated_77 (by decide)) ?_
  refine bm_cc (s_iload_n hx hb dX8_seated_80) ?_
  refine bm_cc (s_aload_n hx hb dX8_seated_81) ?_
  refine bm_cc (s_iload_n hx hb dX8_seated_82) ?_
  refine bm_cc (s_iconst hx hb dX8_seated_83 (by decide)) ?_
  refine bm_cc (s_callV hx hb hml hown hts hK (C := RX8) (TT := TX8) (N := 19) (ci := 7) rfl (by decide) (k_X8_of l g) tw_164 tw_165 tw_166 tw_123 tw_163 ⟨by decide, by decide, by decide +kernel⟩ ⟨by rw [hF]; decide, by rw [hL]; decide⟩ dX8_seated_84) ?_
  refine bm_cc (s_icge hx hb dX8_seated_87 (by decide)) ?_
  refine bm_cc (s_iconst hx hb dX8_seated_90 (by decide)) ?_
  refine bm_cc (s_goto hx hb dX8_seated_91 (by decide)) ?_
  refine bm_cc (s_iconst hx hb dX8_seated_94 (by decide)) ?_
  refine bm_cc (s_iret hx hb hr hlk dX8_seated_95) ?_
  exact bm_c9

noncomputable def z_X8_nameOf : List (Nat × bm_O) := [(0, op_aload 0), (1, op_iload 1), (2, op_iload 2), (3, op_call 1 3 (bm_rc 7) f_X8_isName), (6, op_ifeq 18), (9, op_iload 3), (10, op_const (0)), (11, op_const (3)), (12, op_call 1 3 bm_c0 f_X8_in), (15, op_ifne 20), (18, op_const (-1)), (19, op_iret), (20, op_iload 3), (21, op_ifne 33), (24, op_aload 0), (25, op_iload 1), (26, op_iload 2), (27, op_call 1 3 (bm_rc 7) f_X8_lengthOf), (30, op_goto 67), (33, op_iload 3), (34, op_const (1)), (35, op_icne 47), (38, op_aload 0), (39, op_iload 1), (40, op_iload 2), (41, op_call 1 3 (bm_rc 7) f_X8_votesOf), (44, op_goto 67), (47, op_iload 3), (48, op_const (2)), (49, op_icne 61), (52, op_aload 0), (53, op_iload 1), (54, op_iload 2), (55, op_call 1 3 (bm_rc 7) f_X8_firstOn), (58, op_goto 67), (61, op_aload 0), (62, op_iload 1), (63, op_iload 2), (64, op_call 1 3 (bm_rc 7) f_X8_seated), (67, op_iret)]
noncomputable def f_X8_nameOf : bm_F := Classical.choose (bm_hide (bm_mt 4 z_X8_nameOf))
theorem u_X8_nameOf : f_X8_nameOf = bm_mt 4 z_X8_nameOf := Classical.choose_spec (bm_hide _)
theorem k_X8_nameOf (l : Launch) (g : bm_G) : bm_MetF l g yX8_nameOf cX8_nameOf 4 (some .int) 3 70 f_X8_nameOf := by
  rw [u_X8_nameOf]
  refine bm_met (by decide) ?_
  intro p e R s m args below meth c n0 s0 hx hb hml hown hts hK hr hlk hnm hF hL
  refine bm_cc (s_aload_n hx hb dX8_nameOf_0) ?_
  refine bm_cc (s_iload_n hx hb dX8_nameOf_1) ?_
  refine bm_cc (s_iload_n hx hb dX8_nameOf_2) ?_
  refine bm_cc (s_callV hx hb hml hown hts hK (C := RX8) (TT := TX8) (N := 19) (ci := 7) rfl (by decide) (k_X8_isName l g) tw_288 tw_289 tw_290 tw_123 tw_287 ⟨by decide, by decide, by decide +kernel⟩ ⟨by rw [hF]; decide, by rw [hL]; decide⟩ dX8_nameOf_3) ?_
  refine bm_cc (s_ifeq hx hb dX8_nameOf_6 (by decide)) ?_
  refine bm_cc (s_iload_n hx hb dX8_nameOf_9) ?_
  refine bm_cc (s_iconst hx hb dX8_nameOf_10 (by decide)) ?_
  refine bm_cc (s_iconst hx hb dX8_nameOf_11 (by decide)) ?_
  refine bm_cc (s_callS hx hb hml hown hts hK (k_X8_in l g) tw_125 tw_126 tw_123 tw_124 ⟨by decide, by decide, by decide +kernel⟩ ⟨by rw [hF]; decide, by rw [hL]; decide⟩ dX8_nameOf_12) ?_
  refine bm_cc (s_ifne hx hb dX8_nameOf_15 (by decide)) ?_
  refine bm_cc (s_iconst hx hb dX8_nameOf_18 (by decide)) ?_
  refine bm_cc (s_iret hx hb hr hlk dX8_nameOf_19) ?_
  refine bm_cc (s_iload_n hx hb dX8_nameOf_20) ?_
  refine bm_cc (s_ifne hx hb dX8_nameOf_21 (by decide)) ?_
  refine bm_cc (s_aload_n hx hb dX8_nameOf_24) ?_
  refine bm_cc (s_iload_n hx hb dX8_nameOf_25) ?_
  refine bm_cc (s_iload_n hx hb dX8_nameOf_26) ?_
  refine bm_cc (s_callV hx hb hml hown hts hK (C := RX8) (TT := TX8) (N := 19) (ci := 7) rfl (by decide) (k_X8_lengthOf l g) tw_292 tw_293 tw_294 tw_123 tw_291 ⟨by decide, by decide, by decide +kernel⟩ ⟨by rw [hF]; decide, by rw [hL]; decide⟩ dX8_nameOf_27) ?_
  refine bm_cc (s_goto hx hb dX8_nameOf_30 (by decide)) ?_
  refine bm_cc (s_iload_n hx hb dX8_nameOf_33) ?_
  refine bm_cc (s_iconst hx hb dX8_nameOf_34 (by decide)) ?_
  refine bm_cc (s_icne hx hb dX8_nameOf_35 (by decide)) ?_
  refine bm_cc (s_aload_n hx hb dX8_nameOf_38) ?_
  refine bm_cc (s_iload_n hx hb dX8_nameOf_39) ?_
  refine bm_cc (s_iload_n hx hb dX8_nameOf_40) ?_
  refine bm_cc (s_callV hx hb hml hown hts hK (C := RX8) (TT := TX8) (N := 19) (ci := 7) rfl (by decide) (k_X8_votesOf l g) tw_240 tw_241 tw_242 tw_123 tw_239 ⟨by decide, by decide, by decide +kernel⟩ ⟨by rw [hF]; decide, by rw [hL]; decide⟩ dX8_nameOf_41) ?_
  refine bm_cc (s_goto hx hb dX8_nameOf_44 (by decide)) ?_
  refine bm_cc (s_iload_n hx hb dX8_nameOf_47) ?_
  refine bm_cc (s_iconst hx hb dX8_nameOf_48 (by decide)) ?_
  refine bm_cc (s_icne hx hb dX8_nameOf_49 (by decide)) ?_
  refine bm_cc (s_aload_n hx hb dX8_nameOf_52) ?_
  refine bm_cc (s_iload_n hx hb dX8_nameOf_53) ?_
  refine bm_cc (s_iload_n hx hb dX8_nameOf_54) ?_
  refine bm_cc (s_callV hx hb hml hown hts hK (C := RX8) (TT := TX8) (N := 19) (ci := 7) rfl (by decide) (k_X8_firstOn l g) tw_296 tw_297 tw_298 tw_123 tw_295 ⟨by decide, by decide, by decide +kernel⟩ ⟨by rw [hF]; decide, by rw [hL]; decide⟩ dX8_nameOf_55) ?_
  refine bm_cc (s_goto hx hb dX8_nameOf_58 (by decide)) ?_
  refine bm_cc (s_aload_n hx hb dX8_nameOf_61) ?_
  refine bm_cc (s_iload_n hx hb dX8_nameOf_62) ?_
  refine bm_cc (s_iload_n hx hb dX8_nameOf_63) ?_
  refine bm_cc (s_callV hx hb hml hown hts hK (C := RX8) (TT := TX8) (N := 19) (ci := 7) rfl (by decide) (k_X8_seated l g) tw_300 tw_301 tw_302 tw_123 tw_299 ⟨by decide, by decide, by decide +kernel⟩ ⟨by rw [hF]; decide, by rw [hL]; decide⟩ dX8_nameOf_64) ?_
  refine bm_cc (s_iret hx hb hr hlk dX8_nameOf_67) ?_
  exact bm_c9

noncomputable def z_X8_names : List (Nat × bm_O) := [(0, op_const (0)), (1, op_istore 1), (2, op_const (0)), (3, op_istore 2), (4, op_iload 2), (5, op_aload 0), (6, op_getR 7 0), (9, op_const (0)), (10, op_iaload), (11, op_icge 29), (14, op_iload 1), (15, op_aload 0), (16, op_iload 2), (17, op_const (3)), (18, op_call 1 3 (bm_rc 7) f_X8_of), (21, op_bin (fun a b => a + b)), (22, op_istore 1), (23, op_iinc 2 1), (26, op_goto 4), (29, op_iload 1), (30, op_iret)]
noncomputable def f_X8_names : bm_F := Classical.choose (bm_hide (bm_mt 3 z_X8_names))
theorem u_X8_names : f_X8_names = bm_mt 3 z_X8_names := Classical.choose_spec (bm_hide _)
theorem k_X8_names (l : Launch) (g : bm_G) : bm_MetF l g yX8_names cX8_names 3 (some .int) 1 22 f_X8_names := by
  rw [u_X8_names]
  refine bm_met (by decide) ?_
  intro p e R s m args below meth c n0 s0 hx hb hml hown hts hK hr hlk hnm hF hL
  refine bm_cc (s_iconst hx hb dX8_names_0 (by decide)) ?_
  refine bm_cc (s_istore_n hx hb dX8_names_1) ?_
  refine bm_cc (s_iconst hx hb dX8_names_2 (by decide)) ?_
  refine bm_cc (s_istore_n hx hb dX8_names_3) ?_
  refine bm_cc (s_iload_n hx hb dX8_names_4) ?_
  refine bm_cc (s_aload_n hx hb dX8_names_5) ?_
  refine bm_cc (s_getR hx hb hown hts hK (C := RX8) (TT := TX8) (N := 19) (ci := 7) (j := 0) inT8 rfl (by decide) rfl (by decide) rfl tw_83 rfl dX8_names_6) ?_
  refine bm_cc (s_iconst hx hb dX8_names_9 (by decide)) ?_
  refine bm_cc (s_iaload hx hb hK dX8_names_10) ?_
  refine bm_cc (s_icge hx hb dX8_names_11 (by decide)) ?_
  refine bm_cc (s_iload_n hx hb dX8_names_14) ?_
  refine bm_cc (s_aload_n hx hb dX8_names_15) ?_
  refine bm_cc (s_iload_n hx hb dX8_names_16) ?_
  refine bm_cc (s_iconst hx hb dX8_names_17 (by decide)) ?_
  refine bm_cc (s_callV hx hb hml hown hts hK (C := RX8) (TT := TX8) (N := 19) (ci := 7) rfl (by decide) (k_X8_of l g) tw_164 tw_165 tw_166 tw_123 tw_163 ⟨by decide, by decide, by decide +kernel⟩ ⟨by rw [hF]; decide, by rw [hL]; decide⟩ dX8_names_18) ?_
  refine bm_cc (s_iadd hx hb dX8_names_21) ?_
  refine bm_cc (s_istore_n hx hb dX8_names_22) ?_
  refine bm_cc (s_iinc hx hb dX8_names_23 (by decide)) ?_
  refine bm_cc (s_goto hx hb dX8_names_26 (by decide)) ?_
  refine bm_cc (s_iload_n hx hb dX8_names_29) ?_
  refine bm_cc (s_iret hx hb hr hlk dX8_names_30) ?_
  exact bm_c9

noncomputable def z_X8_allPapers : List (Nat × bm_O) := [(0, op_const (0)), (1, op_istore 1), (2, op_const (0)), (3, op_istore 2), (4, op_iload 2), (5, op_aload 0), (6, op_getR 7 0), (9, op_const (7)), (11, op_iaload), (12, op_icge 33), (15, op_iload 1), (16, op_aload 0), (17, op_getR 7 0), (20, op_const (8)), (22, op_iload 2), (23, op_bin (fun a b => a + b)), (24, op_iaload), (25, op_bin (fun a b => a + b)), (26, op_istore 1), (27, op_iinc 2 1), (30, op_goto 4), (33, op_iload 1), (34, op_iret)]
noncomputable def f_X8_allPapers : bm_F := Classical.choose (bm_hide (bm_mt 3 z_X8_allPapers))
theorem u_X8_allPapers : f_X8_allPapers = bm_mt 3 z_X8_allPapers := Classical.choose_spec (bm_hide _)
theorem k_X8_allPapers (l : Launch) (g : bm_G) : bm_MetF l g yX8_allPapers cX8_allPapers 3 (some .int) 0 0 f_X8_allPapers := by
  rw [u_X8_allPapers]
  refine bm_met (by decide) ?_
  intro p e R s m args below meth c n0 s0 hx hb hml hown hts hK hr hlk hnm hF hL
  refine bm_cc (s_iconst hx hb dX8_allPapers_0 (by decide)) ?_
  refine bm_cc (s_istore_n hx hb dX8_allPapers_1) ?_
  refine bm_cc (s_iconst hx hb dX8_allPapers_2 (by decide)) ?_
  refine bm_cc (s_istore_n hx hb dX8_allPapers_3) ?_
  refine bm_cc (s_iload_n hx hb dX8_allPapers_4) ?_
  refine bm_cc (s_aload_n hx hb dX8_allPapers_5) ?_
  refine bm_cc (s_getR hx hb hown hts hK (C := RX8) (TT := TX8) (N := 19) (ci := 7) (j := 0) inT8 rfl (by decide) rfl (by decide) rfl tw_83 rfl dX8_allPapers_6) ?_
  refine bm_cc (s_bipush hx hb dX8_allPapers_9 (by decide)) ?_
  refine bm_cc (s_iaload hx hb hK dX8_allPapers_11) ?_
  refine bm_cc (s_icge hx hb dX8_allPapers_12 (by decide)) ?_
  refine bm_cc (s_iload_n hx hb dX8_allPapers_15) ?_
  refine bm_cc (s_aload_n hx hb dX8_allPapers_16) ?_
  refine bm_cc (s_getR hx hb hown hts hK (C := RX8) (TT := TX8) (N := 19) (ci := 7) (j := 0) inT8 rfl (by decide) rfl (by decide) rfl tw_83 rfl dX8_allPapers_17) ?_
  refine bm_cc (s_bipush hx hb dX8_allPapers_20 (by decide)) ?_
  refine bm_cc (s_iload_n hx hb dX8_allPapers_22) ?_
  refine bm_cc (s_iadd hx hb dX8_allPapers_23) ?_
  refine bm_cc (s_iaload hx hb hK dX8_allPapers_24) ?_
  refine bm_cc (s_iadd hx hb dX8_allPapers_25) ?_
  refine bm_cc (s_istore_n hx hb dX8_allPapers_26) ?_
  refine bm_cc (s_iinc hx hb dX8_allPapers_27 (by decide)) ?_
  refine bm_cc (s_goto hx hb dX8_allPapers_30 (by decide)) ?_
  refine bm_cc (s_iload_n hx hb dX8_allPapers_33) ?_
  refine bm_cc (s_iret hx hb hr hlk dX8_allPapers_34) ?_
  exact bm_c9

noncomputable def z_X8_count : List (Nat × bm_O) := [(0, op_iload 1), (1, op_tsw [40, 47, 52, 57, 64, 69] 74), (40, op_aload 0), (41, op_getR 7 0), (44, op_const (0)), (45, op_iaload), (46, op_iret), (47, op_aload 0), (48, op_call 1 1 (bm_rc 7) f_X8_names), (51, op_iret), (52, op_aload 0), (53, op_call 1 1 (bm_rc 7) f_X8_allPapers), (56, op_iret), (57, op_aload 0), (58, op_getR 7 0), (61, op_const (1)), (62, op_iaload), (63, op_iret), (64, op_aload 0), (65, op_getI 7 2), (68, op_iret), (69, op_aload 0), (70, op_getI 7 4), (73, op_iret), (74, op_iload 1), (75, op_const (10)), (77, op_const (15)), (79, op_call 1 3 bm_c0 f_X8_in), (82, op_ifeq 99), (85, op_aload 0), (86, op_getR 7 0), (89, op_const (2)), (90, op_iload 1), (91, op_bin (fun a b => a + b)), (92, op_const (10)), (94, op_bin (fun a b => a - b)), (95, op_iaload), (96, op_goto 100), (99, op_const (-1)), (100, op_iret)]
noncomputable def f_X8_count : bm_F := Classical.choose (bm_hide (bm_mt 2 z_X8_count))
theorem u_X8_count : f_X8_count = bm_mt 2 z_X8_count := Classical.choose_spec (bm_hide _)
theorem k_X8_count (l : Launch) (g : bm_G) : bm_MetF l g yX8_count cX8_count 2 (some .int) 2 44 f_X8_count := by
  rw [u_X8_count]
  refine bm_met (by decide) ?_
  intro p e R s m args below meth c n0 s0 hx hb hml hown hts hK hr hlk hnm hF hL
  refine bm_cc (s_iload_n hx hb dX8_count_0) ?_
  refine bm_cc (s_tsw hx hb dX8_count_1 (by decide) (by decide) (by decide) (by decide)) ?_
  refine bm_cc (s_aload_n hx hb dX8_count_40) ?_
  refine bm_cc (s_getR hx hb hown hts hK (C := RX8) (TT := TX8) (N := 19) (ci := 7) (j := 0) inT8 rfl (by decide) rfl (by decide) rfl tw_83 rfl dX8_count_41) ?_
  refine bm_cc (s_iconst hx hb dX8_count_44 (by decide)) ?_
  refine bm_cc (s_iaload hx hb hK dX8_count_45) ?_
  refine bm_cc (s_iret hx hb hr hlk dX8_count_46) ?_
  refine bm_cc (s_aload_n hx hb dX8_count_47) ?_
  refine bm_cc (s_callV hx hb hml hown hts hK (C := RX8) (TT := TX8) (N := 19) (ci := 7) rfl (by decide) (k_X8_names l g) tw_326 tw_327 tw_328 tw_123 tw_325 ⟨by decide, by decide, by decide +kernel⟩ ⟨by rw [hF]; decide, by rw [hL]; decide⟩ dX8_count_48) ?_
  refine bm_cc (s_iret hx hb hr hlk dX8_count_51) ?_
  refine bm_cc (s_aload_n hx hb dX8_count_52) ?_
  refine bm_cc (s_callV hx hb hml hown hts hK (C := RX8) (TT := TX8) (N := 19) (ci := 7) rfl (by decide) (k_X8_allPapers l g) tw_330 tw_331 tw_332 tw_123 tw_329 ⟨by decide, by decide, by decide +kernel⟩ ⟨by rw [hF]; decide, by rw [hL]; decide⟩ dX8_count_53) ?_
  refine bm_cc (s_iret hx hb hr hlk dX8_count_56) ?_
  refine bm_cc (s_aload_n hx hb dX8_count_57) ?_
  refine bm_cc (s_getR hx hb hown hts hK (C := RX8) (TT := TX8) (N := 19) (ci := 7) (j := 0) inT8 rfl (by decide) rfl (by decide) rfl tw_83 rfl dX8_count_58) ?_
  refine bm_cc (s_iconst hx hb dX8_count_61 (by decide)) ?_
  refine bm_cc (s_iaload hx hb hK dX8_count_62) ?_
  refine bm_cc (s_iret hx hb hr hlk dX8_count_63) ?_
  refine bm_cc (s_aload_n hx hb dX8_count_64) ?_
  refine bm_cc (s_getI hx hb hown hts hK (C := RX8) (TT := TX8) (N := 19) (ci := 7) (j := 2) inT8 rfl (by decide) rfl (by decide) rfl tw_122 rfl dX8_count_65) ?_
  refine bm_cc (s_iret hx hb hr hlk dX8_count_68) ?_
  refine bm_cc (s_aload_n hx hb dX8_count_69) ?_
  refine bm_cc (s_getI hx hb hown hts hK (C := RX8) (TT := TX8) (N := 19) (ci := 7) (j := 4) inT8 rfl (by decide) rfl (by decide) rfl tw_333 rfl dX8_count_70) ?_
  refine bm_cc (s_iret hx hb hr hlk dX8_count_73) ?_
  refine bm_cc (s_iload_n hx hb dX8_count_74) ?_
  refine bm_cc (s_bipush hx hb dX8_count_75 (by decide)) ?_
  refine bm_cc (s_bipush hx hb dX8_count_77 (by decide)) ?_
  refine bm_cc (s_callS hx hb hml hown hts hK (k_X8_in l g) tw_125 tw_126 tw_123 tw_124 ⟨by decide, by decide, by decide +kernel⟩ ⟨by rw [hF]; decide, by rw [hL]; decide⟩ dX8_count_79) ?_
  refine bm_cc (s_ifeq hx hb dX8_count_82 (by decide)) ?_
  refine bm_cc (s_aload_n hx hb dX8_count_85) ?_
  refine bm_cc (s_getR hx hb hown hts hK (C := RX8) (TT := TX8) (N := 19) (ci := 7) (j := 0) inT8 rfl (by decide) rfl (by decide) rfl tw_83 rfl dX8_count_86) ?_
  refine bm_cc (s_iconst hx hb dX8_count_89 (by decide)) ?_
  refine bm_cc (s_iload_n hx hb dX8_count_90) ?_
  refine bm_cc (s_iadd hx hb dX8_count_91) ?_
  refine bm_cc (s_bipush hx hb dX8_count_92 (by decide)) ?_
  refine bm_cc (s_isub hx hb dX8_count_94) ?_
  refine bm_cc (s_iaload hx hb hK dX8_count_95) ?_
  refine bm_cc (s_goto hx hb dX8_count_96 (by decide)) ?_
  refine bm_cc (s_iconst hx hb dX8_count_99 (by decide)) ?_
  refine bm_cc (s_iret hx hb hr hlk dX8_count_100) ?_
  exact bm_c9

noncomputable def z_X8_papersOf : List (Nat × bm_O) := [(0, op_aload 0), (1, op_iload 1), (2, op_call 1 2 (bm_rc 7) f_X8_isVersion), (5, op_ifeq 20), (8, op_aload 0), (9, op_getR 7 0), (12, op_const (8)), (14, op_iload 1), (15, op_bin (fun a b => a + b)), (16, op_iaload), (17, op_goto 21), (20, op_const (-1)), (21, op_iret)]
noncomputable def f_X8_papersOf : bm_F := Classical.choose (bm_hide (bm_mt 2 z_X8_papersOf))
theorem u_X8_papersOf : f_X8_papersOf = bm_mt 2 z_X8_papersOf := Classical.choose_spec (bm_hide _)
theorem k_X8_papersOf (l : Launch) (g : bm_G) : bm_MetF l g yX8_papersOf cX8_papersOf 2 (some .int) 1 21 f_X8_papersOf := by
  rw [u_X8_papersOf]
  refine bm_met (by decide) ?_
  intro p e R s m args below meth c n0 s0 hx hb hml hown hts hK hr hlk hnm hF hL
  refine bm_cc (s_aload_n hx hb dX8_papersOf_0) ?_
  refine bm_cc (s_iload_n hx hb dX8_papersOf_1) ?_
  refine bm_cc (s_callV hx hb hml hown hts hK (C := RX8) (TT := TX8) (N := 19) (ci := 7) rfl (by decide) (k_X8_isVersion l g) tw_192 tw_193 tw_194 tw_123 tw_191 ⟨by decide, by decide, by decide +kernel⟩ ⟨by rw [hF]; decide, by rw [hL]; decide⟩ dX8_papersOf_2) ?_
  refine bm_cc (s_ifeq hx hb dX8_papersOf_5 (by decide)) ?_
  refine bm_cc (s_aload_n hx hb dX8_papersOf_8) ?_
  refine bm_cc (s_getR hx hb hown hts hK (C := RX8) (TT := TX8) (N := 19) (ci := 7) (j := 0) inT8 rfl (by decide) rfl (by decide) rfl tw_83 rfl dX8_papersOf_9) ?_
  refine bm_cc (s_bipush hx hb dX8_papersOf_12 (by decide)) ?_
  refine bm_cc (s_iload_n hx hb dX8_papersOf_14) ?_
  refine bm_cc (s_iadd hx hb dX8_papersOf_15) ?_
  refine bm_cc (s_iaload hx hb hK dX8_papersOf_16) ?_
  refine bm_cc (s_goto hx hb dX8_papersOf_17 (by decide)) ?_
  refine bm_cc (s_iconst hx hb dX8_papersOf_20 (by decide)) ?_
  refine bm_cc (s_iret hx hb hr hlk dX8_papersOf_21) ?_
  exact bm_c9

noncomputable def z_X8_stands : List (Nat × bm_O) := [(0, op_aload 0), (1, op_iload 1), (2, op_call 1 2 (bm_rc 7) f_X8_isVersion), (5, op_ifeq 20), (8, op_aload 0), (9, op_iload 2), (10, op_call 1 2 (bm_rc 7) f_X8_isContest), (13, op_ifeq 20), (16, op_iload 3), (17, op_ifge 22), (20, op_const (-1)), (21, op_iret), (22, op_iload 3), (23, op_aload 0), (24, op_iload 2), (25, op_const (3)), (26, op_call 1 3 (bm_rc 7) f_X8_of), (29, op_icge 42), (32, op_aload 0), (33, op_iload 1), (34, op_iload 2), (35, op_iload 3), (36, op_call 1 4 (bm_rc 7) f_X8_standing), (39, op_goto 44), (42, op_const (-4)), (44, op_iret)]
noncomputable def f_X8_stands : bm_F := Classical.choose (bm_hide (bm_mt 4 z_X8_stands))
theorem u_X8_stands : f_X8_stands = bm_mt 4 z_X8_stands := Classical.choose_spec (bm_hide _)
theorem k_X8_stands (l : Launch) (g : bm_G) : bm_MetF l g yX8_stands cX8_stands 4 (some .int) 2 46 f_X8_stands := by
  rw [u_X8_stands]
  refine bm_met (by decide) ?_
  intro p e R s m args below meth c n0 s0 hx hb hml hown hts hK hr hlk hnm hF hL
  refine bm_cc (s_aload_n hx hb dX8_stands_0) ?_
  refine bm_cc (s_iload_n hx hb dX8_stands_1) ?_
  refine bm_cc (s_callV hx hb hml hown hts hK (C := RX8) (TT := TX8) (N := 19) (ci := 7) rfl (by decide) (k_X8_isVersion l g) tw_192 tw_193 tw_194 tw_123 tw_191 ⟨by decide, by decide, by decide +kernel⟩ ⟨by rw [hF]; decide, by rw [hL]; decide⟩ dX8_stands_2) ?_
  refine bm_cc (s_ifeq hx hb dX8_stands_5 (by decide)) ?_
  refine bm_cc (s_aload_n hx hb dX8_stands_8) ?_
  refine bm_cc (s_iload_n hx hb dX8_stands_9) ?_
  refine bm_cc (s_callV hx hb hml hown hts hK (C := RX8) (TT := TX8) (N := 19) (ci := 7) rfl (by decide) (k_X8_isContest l g) tw_160 tw_161 tw_162 tw_123 tw_159 ⟨by decide, by decide, by decide +kernel⟩ ⟨by rw [hF]; decide, by rw [hL]; decide⟩ dX8_stands_10) ?_
  refine bm_cc (s_ifeq hx hb dX8_stands_13 (by decide)) ?_
  refine bm_cc (s_iload_n hx hb dX8_stands_16) ?_
  refine bm_cc (s_ifge hx hb dX8_stands_17 (by decide)) ?_
  refine bm_cc (s_iconst hx hb dX8_stands_20 (by decide)) ?_
  refine bm_cc (s_iret hx hb hr hlk dX8_stands_21) ?_
  refine bm_cc (s_iload_n hx hb dX8_stands_22) ?_
  refine bm_cc (s_aload_n hx hb dX8_stands_23) ?_
  refine bm_cc (s_iload_n hx hb dX8_stands_24) ?_
  refine bm_cc (s_iconst hx hb dX8_stands_25 (by decide)) ?_
  refine bm_cc (s_callV hx hb hml hown hts hK (C := RX8) (TT := TX8) (N := 19) (ci := 7) rfl (by decide) (k_X8_of l g) tw_164 tw_165 tw_166 tw_123 tw_163 ⟨by decide, by decide, by decide +kernel⟩ ⟨by rw [hF]; decide, by rw [hL]; decide⟩ dX8_stands_26) ?_
  refine bm_cc (s_icge hx hb dX8_stands_29 (by decide)) ?_
  refine bm_cc (s_aload_n hx hb dX8_stands_32) ?_
  refine bm_cc (s_iload_n hx hb dX8_stands_33) ?_
  refine bm_cc (s_iload_n hx hb dX8_stands_34) ?_
  refine bm_cc (s_iload_n hx hb dX8_stands_35) ?_
  refine bm_cc (s_callV hx hb hml hown hts hK (C := RX8) (TT := TX8) (N := 19) (ci := 7) rfl (by decide) (k_X8_standing l g) tw_284 tw_285 tw_286 tw_123 tw_283 ⟨by decide, by decide, by decide +kernel⟩ ⟨by rw [hF]; decide, by rw [hL]; decide⟩ dX8_stands_36) ?_
  refine bm_cc (s_goto hx hb dX8_stands_39 (by decide)) ?_
  refine bm_cc (s_bipush hx hb dX8_stands_42 (by decide)) ?_
  refine bm_cc (s_iret hx hb hr hlk dX8_stands_44) ?_
  exact bm_c9

noncomputable def z_X8_parts : List (Nat × bm_O) := [(0, op_iload 0), (1, op_iload 1), (2, op_bin (fun a b => a + b)), (3, op_const (1)), (4, op_bin (fun a b => a - b)), (5, op_iload 1), (6, op_binz (fun a b => a / b)), (7, op_iret)]
noncomputable def f_X8_parts : bm_F := Classical.choose (bm_hide (bm_mt 2 z_X8_parts))
theorem u_X8_parts : f_X8_parts = bm_mt 2 z_X8_parts := Classical.choose_spec (bm_hide _)
theorem k_X8_parts (l : Launch) (g : bm_G) : bm_MetF l g yX8_parts cX8_parts 2 (some .int) 0 0 f_X8_parts := by
  rw [u_X8_parts]
  refine bm_met (by decide) ?_
  intro p e R s m args below meth c n0 s0 hx hb hml hown hts hK hr hlk hnm hF hL
  refine bm_cc (s_iload_n hx hb dX8_parts_0) ?_
  refine bm_cc (s_iload_n hx hb dX8_parts_1) ?_
  refine bm_cc (s_iadd hx hb dX8_parts_2) ?_
  refine bm_cc (s_iconst hx hb dX8_parts_3 (by decide)) ?_
  refine bm_cc (s_isub hx hb dX8_parts_4) ?_
  refine bm_cc (s_iload_n hx hb dX8_parts_5) ?_
  refine bm_cc (s_idiv hx hb dX8_parts_6) ?_
  refine bm_cc (s_iret hx hb hr hlk dX8_parts_7) ?_
  exact bm_c9

noncomputable def z_X8_titleLines : List (Nat × bm_O) := [(0, op_aload 0), (1, op_iload 1), (2, op_const (0)), (3, op_call 1 3 (bm_rc 7) f_X8_of), (6, op_aload 0), (7, op_getR 7 0), (10, op_const (4)), (11, op_iaload), (12, op_call 1 2 bm_c0 f_X8_parts), (15, op_aload 0), (16, op_getR 7 0), (19, op_const (5)), (20, op_iaload), (21, op_bin (fun a b => a * b)), (22, op_iret)]
noncomputable def f_X8_titleLines : bm_F := Classical.choose (bm_hide (bm_mt 2 z_X8_titleLines))
theorem u_X8_titleLines : f_X8_titleLines = bm_mt 2 z_X8_titleLines := Classical.choose_spec (bm_hide _)
theorem k_X8_titleLines (l : Launch) (g : bm_G) : bm_MetF l g yX8_titleLines cX8_titleLines 2 (some .int) 1 22 f_X8_titleLines := by
  rw [u_X8_titleLines]
  refine bm_met (by decide) ?_
  intro p e R s m args below meth c n0 s0 hx hb hml hown hts hK hr hlk hnm hF hL
  refine bm_cc (s_aload_n hx hb dX8_titleLines_0) ?_
  refine bm_cc (s_iload_n hx hb dX8_titleLines_1) ?_
  refine bm_cc (s_iconst hx hb dX8_titleLines_2 (by decide)) ?_
  refine bm_cc (s_callV hx hb hml hown hts hK (C := RX8) (TT := TX8) (N := 19) (ci := 7) rfl (by decide) (k_X8_of l g) tw_164 tw_165 tw_166 tw_123 tw_163 ⟨by decide, by decide, by decide +kernel⟩ ⟨by rw [hF]; decide, by rw [hL]; decide⟩ dX8_titleLines_3) ?_
  refine bm_cc (s_aload_n hx hb dX8_titleLines_6) ?_
  refine bm_cc (s_getR hx hb hown hts hK (C := RX8) (TT := TX8) (N := 19) (ci := 7) (j := 0) inT8 rfl (by decide) rfl (by decide) rfl tw_83 rfl dX8_titleLines_7) ?_
  refine bm_cc (s_iconst hx hb dX8_titleLines_10 (by decide)) ?_
  refine bm_cc (s_iaload hx hb hK dX8_titleLines_11) ?_
  refine bm_cc (s_callS hx hb hml hown hts hK (k_X8_parts l g) tw_406 tw_407 tw_123 tw_405 ⟨by decide, by decide, by decide +kernel⟩ ⟨by rw [hF]; decide, by rw [hL]; decide⟩ dX8_titleLines_12) ?_
  refine bm_cc (s_aload_n hx hb dX8_titleLines_15) ?_
  refine bm_cc (s_getR hx hb hown hts hK (C := RX8) (TT := TX8) (N := 19) (ci := 7) (j := 0) inT8 rfl (by decide) rfl (by decide) rfl tw_83 rfl dX8_titleLines_16) ?_
  refine bm_cc (s_iconst hx hb dX8_titleLines_19 (by decide)) ?_
  refine bm_cc (s_iaload hx hb hK dX8_titleLines_20) ?_
  refine bm_cc (s_imul hx hb dX8_titleLines_21) ?_
  refine bm_cc (s_iret hx hb hr hlk dX8_titleLines_22) ?_
  exact bm_c9

noncomputable def z_X8_isFold : List (Nat × bm_O) := [(0, op_aload 0), (1, op_getR 7 0), (4, op_const (6)), (6, op_iaload), (7, op_ifle 28), (10, op_iload 1), (11, op_const (1)), (12, op_bin (fun a b => a + b)), (13, op_aload 0), (14, op_getR 7 0), (17, op_const (6)), (19, op_iaload), (20, op_binz (fun a b => a - a / b * b)), (21, op_ifne 28), (24, op_const (1)), (25, op_goto 29), (28, op_const (0)), (29, op_zret)]
noncomputable def f_X8_isFold : bm_F := Classical.choose (bm_hide (bm_mt 2 z_X8_isFold))
theorem u_X8_isFold : f_X8_isFold = bm_mt 2 z_X8_isFold := Classical.choose_spec (bm_hide _)
theorem k_X8_isFold (l : Launch) (g : bm_G) : bm_MetF l g yX8_isFold cX8_isFold 2 (some .boolean) 0 0 f_X8_isFold := by
  rw [u_X8_isFold]
  refine bm_met (by decide) ?_
  intro p e R s m args below meth c n0 s0 hx hb hml hown hts hK hr hlk hnm hF hL
  refine bm_cc (s_aload_n hx hb dX8_isFold_0) ?_
  refine bm_cc (s_getR hx hb hown hts hK (C := RX8) (TT := TX8) (N := 19) (ci := 7) (j := 0) inT8 rfl (by decide) rfl (by decide) rfl tw_83 rfl dX8_isFold_1) ?_
  refine bm_cc (s_bipush hx hb dX8_isFold_4 (by decide)) ?_
  refine bm_cc (s_iaload hx hb hK dX8_isFold_6) ?_
  refine bm_cc (s_ifle hx hb dX8_isFold_7 (by decide)) ?_
  refine bm_cc (s_iload_n hx hb dX8_isFold_10) ?_
  refine bm_cc (s_iconst hx hb dX8_isFold_11 (by decide)) ?_
  refine bm_cc (s_iadd hx hb dX8_isFold_12) ?_
  refine bm_cc (s_aload_n hx hb dX8_isFold_13) ?_
  refine bm_cc (s_getR hx hb hown hts hK (C := RX8) (TT := TX8) (N := 19) (ci := 7) (j := 0) inT8 rfl (by decide) rfl (by decide) rfl tw_83 rfl dX8_isFold_14) ?_
  refine bm_cc (s_bipush hx hb dX8_isFold_17 (by decide)) ?_
  refine bm_cc (s_iaload hx hb hK dX8_isFold_19) ?_
  refine bm_cc (s_irem hx hb dX8_isFold_20) ?_
  refine bm_cc (s_ifne hx hb dX8_isFold_21 (by decide)) ?_
  refine bm_cc (s_iconst hx hb dX8_isFold_24 (by decide)) ?_
  refine bm_cc (s_goto hx hb dX8_isFold_25 (by decide)) ?_
  refine bm_cc (s_iconst hx hb dX8_isFold_28 (by decide)) ?_
  refine bm_cc (s_zret hx hb hr hlk dX8_isFold_29) ?_
  exact bm_c9

noncomputable def z_X8_pushed : List (Nat × bm_O) := [(0, op_aload 0), (1, op_iload 1), (2, op_call 1 2 (bm_rc 7) f_X8_isFold), (5, op_ifeq 14), (8, op_iload 1), (9, op_const (1)), (10, op_bin (fun a b => a + b)), (11, op_goto 15), (14, op_iload 1), (15, op_iret)]
noncomputable def f_X8_pushed : bm_F := Classical.choose (bm_hide (bm_mt 2 z_X8_pushed))
theorem u_X8_pushed : f_X8_pushed = bm_mt 2 z_X8_pushed := Classical.choose_spec (bm_hide _)
theorem k_X8_pushed (l : Launch) (g : bm_G) : bm_MetF l g yX8_pushed cX8_pushed 2 (some .int) 1 21 f_X8_pushed := by
  rw [u_X8_pushed]
  refine bm_met (by decide) ?_
  intro p e R s m args below meth c n0 s0 hx hb hml hown hts hK hr hlk hnm hF hL
  refine bm_cc (s_aload_n hx hb dX8_pushed_0) ?_
  refine bm_cc (s_iload_n hx hb dX8_pushed_1) ?_
  refine bm_cc (s_callV hx hb hml hown hts hK (C := RX8) (TT := TX8) (N := 19) (ci := 7) rfl (by decide) (k_X8_isFold l g) tw_409 tw_410 tw_411 tw_123 tw_408 ⟨by decide, by decide, by decide +kernel⟩ ⟨by rw [hF]; decide, by rw [hL]; decide⟩ dX8_pushed_2) ?_
  refine bm_cc (s_ifeq hx hb dX8_pushed_5 (by decide)) ?_
  refine bm_cc (s_iload_n hx hb dX8_pushed_8) ?_
  refine bm_cc (s_iconst hx hb dX8_pushed_9 (by decide)) ?_
  refine bm_cc (s_iadd hx hb dX8_pushed_10) ?_
  refine bm_cc (s_goto hx hb dX8_pushed_11 (by decide)) ?_
  refine bm_cc (s_iload_n hx hb dX8_pushed_14) ?_
  refine bm_cc (s_iret hx hb hr hlk dX8_pushed_15) ?_
  exact bm_c9

noncomputable def z_X8_nameLines : List (Nat × bm_O) := [(0, op_aload 0), (1, op_iload 1), (2, op_iload 2), (3, op_call 1 3 (bm_rc 7) f_X8_lengthOf), (6, op_aload 0), (7, op_getR 7 0), (10, op_const (4)), (11, op_iaload), (12, op_const (3)), (13, op_bin (fun a b => a - b)), (14, op_call 1 2 bm_c0 f_X8_parts), (17, op_iret)]
noncomputable def f_X8_nameLines : bm_F := Classical.choose (bm_hide (bm_mt 3 z_X8_nameLines))
theorem u_X8_nameLines : f_X8_nameLines = bm_mt 3 z_X8_nameLines := Classical.choose_spec (bm_hide _)
theorem k_X8_nameLines (l : Launch) (g : bm_G) : bm_MetF l g yX8_nameLines cX8_nameLines 3 (some .int) 1 22 f_X8_nameLines := by
  rw [u_X8_nameLines]
  refine bm_met (by decide) ?_
  intro p e R s m args below meth c n0 s0 hx hb hml hown hts hK hr hlk hnm hF hL
  refine bm_cc (s_aload_n hx hb dX8_nameLines_0) ?_
  refine bm_cc (s_iload_n hx hb dX8_nameLines_1) ?_
  refine bm_cc (s_iload_n hx hb dX8_nameLines_2) ?_
  refine bm_cc (s_callV hx hb hml hown hts hK (C := RX8) (TT := TX8) (N := 19) (ci := 7) rfl (by decide) (k_X8_lengthOf l g) tw_292 tw_293 tw_294 tw_123 tw_291 ⟨by decide, by decide, by decide +kernel⟩ ⟨by rw [hF]; decide, by rw [hL]; decide⟩ dX8_nameLines_3) ?_
  refine bm_cc (s_aload_n hx hb dX8_nameLines_6) ?_
  refine bm_cc (s_getR hx hb hown hts hK (C := RX8) (TT := TX8) (N := 19) (ci := 7) (j := 0) inT8 rfl (by decide) rfl (by decide) rfl tw_83 rfl dX8_nameLines_7) ?_
  refine bm_cc (s_iconst hx hb dX8_nameLines_10 (by decide)) ?_
  refine bm_cc (s_iaload hx hb hK dX8_nameLines_11) ?_
  refine bm_cc (s_iconst hx hb dX8_nameLines_12 (by decide)) ?_
  refine bm_cc (s_isub hx hb dX8_nameLines_13) ?_
  refine bm_cc (s_callS hx hb hml hown hts hK (k_X8_parts l g) tw_406 tw_407 tw_123 tw_405 ⟨by decide, by decide, by decide +kernel⟩ ⟨by rw [hF]; decide, by rw [hL]; decide⟩ dX8_nameLines_14) ?_
  refine bm_cc (s_iret hx hb hr hlk dX8_nameLines_17) ?_
  exact bm_c9

noncomputable def z_X8_laysName : List (Nat × bm_O) := [(0, op_aload 0), (1, op_iload 1), (2, op_iload 2), (3, op_call 1 3 (bm_rc 7) f_X8_nameLines), (6, op_istore 3), (7, op_aload 0), (8, op_aload 0), (9, op_getI 7 8), (12, op_call 1 2 (bm_rc 7) f_X8_pushed), (15, op_istore 4), (17, op_iload 4), (19, op_iload 3), (20, op_bin (fun a b => a + b)), (21, op_aload 0), (22, op_getR 7 0), (25, op_const (3)), (26, op_iaload), (27, op_icle 56), (30, op_aload 0), (31, op_dup), (32, op_getI 7 7), (35, op_const (1)), (36, op_bin (fun a b => a + b)), (37, op_putI 7 7), (40, op_const (0)), (41, op_istore 4), (43, op_aload 0), (44, op_dup), (45, op_getI 7 11), (48, op_const (1)), (49, op_bin (fun a b => a + b)), (50, op_putI 7 11), (53, op_goto 79), (56, op_aload 0), (57, op_dup), (58, op_getI 7 10), (61, op_iload 4), (63, op_aload 0), (64, op_getI 7 8), (67, op_icle 74), (70, op_const (1)), (71, op_goto 75), (74, op_const (0)), (75, op_bin (fun a b => a + b)), (76, op_putI 7 10), (79, op_aload 0), (80, op_getR 7 5), (83, op_const (8)), (85, op_iload 1), (86, op_bin (fun a b => a * b)), (87, op_iload 2), (88, op_bin (fun a b => a + b)), (89, op_aload 0), (90, op_getI 7 7), (93, op_iastore), (94, op_aload 0), (95, op_getR 7 6), (98, op_const (8)), (100, op_iload 1), (101, op_bin (fun a b => a * b)), (102, op_iload 2), (103, op_bin (fun a b => a + b)), (104, op_iload 4), (106, op_iastore), (107, op_aload 0), (108, op_iload 4), (110, op_iload 3), (111, op_bin (fun a b => a + b)), (112, op_putI 7 8), (115, op_aload 0), (116, op_dup), (117, op_getI 7 9), (120, op_iload 3), (121, op_bin (fun a b => a + b)), (122, op_putI 7 9), (125, op_ret)]
noncomputable def f_X8_laysName : bm_F := Classical.choose (bm_hide (bm_mt 5 z_X8_laysName))
theorem u_X8_laysName : f_X8_laysName = bm_mt 5 z_X8_laysName := Classical.choose_spec (bm_hide _)
theorem k_X8_laysName (l : Launch) (g : bm_G) : bm_MetF l g yX8_laysName cX8_laysName 5 none 2 44 f_X8_laysName := by
  rw [u_X8_laysName]
  refine bm_met (by decide) ?_
  intro p e R s m args below meth c n0 s0 hx hb hml hown hts hK hr hlk hnm hF hL
  refine bm_cc (s_aload_n hx hb dX8_laysName_0) ?_
  refine bm_cc (s_iload_n hx hb dX8_laysName_1) ?_
  refine bm_cc (s_iload_n hx hb dX8_laysName_2) ?_
  refine bm_cc (s_callV hx hb hml hown hts hK (C := RX8) (TT := TX8) (N := 19) (ci := 7) rfl (by decide) (k_X8_nameLines l g) tw_413 tw_414 tw_415 tw_123 tw_412 ⟨by decide, by decide, by decide +kernel⟩ ⟨by rw [hF]; decide, by rw [hL]; decide⟩ dX8_laysName_3) ?_
  refine bm_cc (s_istore_n hx hb dX8_laysName_6) ?_
  refine bm_cc (s_aload_n hx hb dX8_laysName_7) ?_
  refine bm_cc (s_aload_n hx hb dX8_laysName_8) ?_
  refine bm_cc (s_getI hx hb hown hts hK (C := RX8) (TT := TX8) (N := 19) (ci := 7) (j := 8) inT8 rfl (by decide) rfl (by decide) rfl tw_416 rfl dX8_laysName_9) ?_
  refine bm_cc (s_callV hx hb hml hown hts hK (C := RX8) (TT := TX8) (N := 19) (ci := 7) rfl (by decide) (k_X8_pushed l g) tw_418 tw_419 tw_420 tw_123 tw_417 ⟨by decide, by decide, by decide +kernel⟩ ⟨by rw [hF]; decide, by rw [hL]; decide⟩ dX8_laysName_12) ?_
  refine bm_cc (s_istore hx hb dX8_laysName_15) ?_
  refine bm_cc (s_iload hx hb dX8_laysName_17) ?_
  refine bm_cc (s_iload_n hx hb dX8_laysName_19) ?_
  refine bm_cc (s_iadd hx hb dX8_laysName_20) ?_
  refine bm_cc (s_aload_n hx hb dX8_laysName_21) ?_
  refine bm_cc (s_getR hx hb hown hts hK (C := RX8) (TT := TX8) (N := 19) (ci := 7) (j := 0) inT8 rfl (by decide) rfl (by decide) rfl tw_83 rfl dX8_laysName_22) ?_
  refine bm_cc (s_iconst hx hb dX8_laysName_25 (by decide)) ?_
  refine bm_cc (s_iaload hx hb hK dX8_laysName_26) ?_
  refine bm_cc (s_icle hx hb dX8_laysName_27 (by decide)) ?_
  refine bm_cc (s_aload_n hx hb dX8_laysName_30) ?_
  refine bm_cc (s_dup hx hb dX8_laysName_31) ?_
  refine bm_cc (s_getI hx hb hown hts hK (C := RX8) (TT := TX8) (N := 19) (ci := 7) (j := 7) inT8 rfl (by decide) rfl (by decide) rfl tw_421 rfl dX8_laysName_32) ?_
  refine bm_cc (s_iconst hx hb dX8_laysName_35 (by decide)) ?_
  refine bm_cc (s_iadd hx hb dX8_laysName_36) ?_
  refine bm_cc (s_putI hx hb hown hts hK (C := RX8) (TT := TX8) (N := 19) (ci := 7) (j := 7) inT8 rfl (by decide) rfl (by decide) tyX8 tyX8_ok nmX8 rfl tw_421 rfl rfl (by decide +kernel) dX8_laysName_37) ?_
  refine bm_cc (s_iconst hx hb dX8_laysName_40 (by decide)) ?_
  refine bm_cc (s_istore hx hb dX8_laysName_41) ?_
  refine bm_cc (s_aload_n hx hb dX8_laysName_43) ?_
  refine bm_cc (s_dup hx hb dX8_laysName_44) ?_
  refine bm_cc (s_getI hx hb hown hts hK (C := RX8) (TT := TX8) (N := 19) (ci := 7) (j := 11) inT8 rfl (by decide) rfl (by decide) rfl tw_422 rfl dX8_laysName_45) ?_
  refine bm_cc (s_iconst hx hb dX8_laysName_48 (by decide)) ?_
  refine bm_cc (s_iadd hx hb dX8_laysName_49) ?_
  refine bm_cc (s_putI hx hb hown hts hK (C := RX8) (TT := TX8) (N := 19) (ci := 7) (j := 11) inT8 rfl (by decide) rfl (by decide) tyX8 tyX8_ok nmX8 rfl tw_422 rfl rfl (by decide +kernel) dX8_laysName_50) ?_
  refine bm_cc (s_goto hx hb dX8_laysName_53 (by decide)) ?_
  refine bm_cc (s_aload_n hx hb dX8_laysName_56) ?_
  refine bm_cc (s_dup hx hb dX8_laysName_57) ?_
  refine bm_cc (s_getI hx hb hown hts hK (C := RX8) (TT := TX8) (N := 19) (ci := 7) (j := 10) inT8 rfl (by decide) rfl (by decide) rfl tw_423 rfl dX8_laysName_58) ?_
  refine bm_cc (s_iload hx hb dX8_laysName_61) ?_
  refine bm_cc (s_aload_n hx hb dX8_laysName_63) ?_
  refine bm_cc (s_getI hx hb hown hts hK (C := RX8) (TT := TX8) (N := 19) (ci := 7) (j := 8) inT8 rfl (by decide) rfl (by decide) rfl tw_416 rfl dX8_laysName_64) ?_
  refine bm_cc (s_icle hx hb dX8_laysName_67 (by decide)) ?_
  refine bm_cc (s_iconst hx hb dX8_laysName_70 (by decide)) ?_
  refine bm_cc (s_goto hx hb dX8_laysName_71 (by decide)) ?_
  refine bm_cc (s_iconst hx hb dX8_laysName_74 (by decide)) ?_
  refine bm_cc (s_iadd hx hb dX8_laysName_75) ?_
  refine bm_cc (s_putI hx hb hown hts hK (C := RX8) (TT := TX8) (N := 19) (ci := 7) (j := 10) inT8 rfl (by decide) rfl (by decide) tyX8 tyX8_ok nmX8 rfl tw_423 rfl rfl (by decide +kernel) dX8_laysName_76) ?_
  refine bm_cc (s_aload_n hx hb dX8_laysName_79) ?_
  refine bm_cc (s_getR hx hb hown hts hK (C := RX8) (TT := TX8) (N := 19) (ci := 7) (j := 5) inT8 rfl (by decide) rfl (by decide) rfl tw_86 rfl dX8_laysName_80) ?_
  refine bm_cc (s_bipush hx hb dX8_laysName_83 (by decide)) ?_
  refine bm_cc (s_iload_n hx hb dX8_laysName_85) ?_
  refine bm_cc (s_imul hx hb dX8_laysName_86) ?_
  refine bm_cc (s_iload_n hx hb dX8_laysName_87) ?_
  refine bm_cc (s_iadd hx hb dX8_laysName_88) ?_
  refine bm_cc (s_aload_n hx hb dX8_laysName_89) ?_
  refine bm_cc (s_getI hx hb hown hts hK (C := RX8) (TT := TX8) (N := 19) (ci := 7) (j := 7) inT8 rfl (by decide) rfl (by decide) rfl tw_421 rfl dX8_laysName_90) ?_
  refine bm_cc (s_iastore hx hb hK dX8_laysName_93) ?_
  refine bm_cc (s_aload_n hx hb dX8_laysName_94) ?_
  refine bm_cc (s_getR hx hb hown hts hK (C := RX8) (TT := TX8) (N := 19) (ci := 7) (j := 6) inT8 rfl (by decide) rfl (by decide) rfl tw_87 rfl dX8_laysName_95) ?_
  refine bm_cc (s_bipush hx hb dX8_laysName_98 (by decide)) ?_
  refine bm_cc (s_iload_n hx hb dX8_laysName_100) ?_
  refine bm_cc (s_imul hx hb dX8_laysName_101) ?_
  refine bm_cc (s_iload_n hx hb dX8_laysName_102) ?_
  refine bm_cc (s_iadd hx hb dX8_laysName_103) ?_
  refine bm_cc (s_iload hx hb dX8_laysName_104) ?_
  refine bm_cc (s_iastore hx hb hK dX8_laysName_106) ?_
  refine bm_cc (s_aload_n hx hb dX8_laysName_107) ?_
  refine bm_cc (s_iload hx hb dX8_laysName_108) ?_
  refine bm_cc (s_iload_n hx hb dX8_laysName_110) ?_
  refine bm_cc (s_iadd hx hb dX8_laysName_111) ?_
  refine bm_cc (s_putI hx hb hown hts hK (C := RX8) (TT := TX8) (N := 19) (ci := 7) (j := 8) inT8 rfl (by decide) rfl (by decide) tyX8 tyX8_ok nmX8 rfl tw_416 rfl rfl (by decide +kernel) dX8_laysName_112) ?_
  refine bm_cc (s_aload_n hx hb dX8_laysName_115) ?_
  refine bm_cc (s_dup hx hb dX8_laysName_116) ?_
  refine bm_cc (s_getI hx hb hown hts hK (C := RX8) (TT := TX8) (N := 19) (ci := 7) (j := 9) inT8 rfl (by decide) rfl (by decide) rfl tw_424 rfl dX8_laysName_117) ?_
  refine bm_cc (s_iload_n hx hb dX8_laysName_120) ?_
  refine bm_cc (s_iadd hx hb dX8_laysName_121) ?_
  refine bm_cc (s_putI hx hb hown hts hK (C := RX8) (TT := TX8) (N := 19) (ci := 7) (j := 9) inT8 rfl (by decide) rfl (by decide) tyX8 tyX8_ok nmX8 rfl tw_424 rfl rfl (by decide +kernel) dX8_laysName_122) ?_
  refine bm_cc (s_ret hx hb hr hlk dX8_laysName_125) ?_
  exact bm_c9

noncomputable def z_X8_laysContest : List (Nat × bm_O) := [(0, op_aload 0), (1, op_iload 2), (2, op_call 1 2 (bm_rc 7) f_X8_titleLines), (5, op_istore 4), (7, op_iload 3), (8, op_ifeq 15), (11, op_const (0)), (12, op_goto 21), (15, op_aload 0), (16, op_getI 7 8), (19, op_const (1)), (20, op_bin (fun a b => a + b)), (21, op_istore 5), (23, op_aload 0), (24, op_iload 5), (26, op_iload 4), (28, op_bin (fun a b => a + b)), (29, op_call 1 2 (bm_rc 7) f_X8_pushed), (32, op_aload 0), (33, op_iload 2), (34, op_aload 0), (35, op_iload 1), (36, op_iload 2), (37, op_const (0)), (38, op_call 1 4 (bm_rc 7) f_X8_standing), (41, op_call 1 3 (bm_rc 7) f_X8_nameLines), (44, op_bin (fun a b => a + b)), (45, op_aload 0), (46, op_getR 7 0), (49, op_const (3)), (50, op_iaload), (51, op_icle 67), (54, op_aload 0), (55, op_dup), (56, op_getI 7 7), (59, op_const (1)), (60, op_bin (fun a b => a + b)), (61, op_putI 7 7), (64, op_const (0)), (65, op_istore 5), (67, op_aload 0), (68, op_iload 5), (70, op_iload 4), (72, op_bin (fun a b => a + b)), (73, op_putI 7 8), (76, op_aload 0), (77, op_dup), (78, op_getI 7 9), (81, op_iload 4), (83, op_bin (fun a b => a + b)), (84, op_putI 7 9), (87, op_const (0)), (88, op_istore 6), (90, op_iload 6), (92, op_aload 0), (93, op_iload 2), (94, op_const (3)), (95, op_call 1 3 (bm_rc 7) f_X8_of), (98, op_icge 120), (101, op_aload 0), (102, op_iload 2), (103, op_aload 0), (104, op_iload 1), (105, op_iload 2), (106, op_iload 6), (108, op_call 1 4 (bm_rc 7) f_X8_standing), (111, op_call 0 3 (bm_rc 7) f_X8_laysName), (114, op_iinc 6 1), (117, op_goto 90), (120, op_ret)]
noncomputable def f_X8_laysContest : bm_F := Classical.choose (bm_hide (bm_mt 7 z_X8_laysContest))
theorem u_X8_laysContest : f_X8_laysContest = bm_mt 7 z_X8_laysContest := Classical.choose_spec (bm_hide _)
theorem k_X8_laysContest (l : Launch) (g : bm_G) : bm_MetF l g yX8_laysContest cX8_laysContest 7 none 3 68 f_X8_laysContest := by
  rw [u_X8_laysContest]
  refine bm_met (by decide) ?_
  intro p e R s m args below meth c n0 s0 hx hb hml hown hts hK hr hlk hnm hF hL
  refine bm_cc (s_aload_n hx hb dX8_laysContest_0) ?_
  refine bm_cc (s_iload_n hx hb dX8_laysContest_1) ?_
  refine bm_cc (s_callV hx hb hml hown hts hK (C := RX8) (TT := TX8) (N := 19) (ci := 7) rfl (by decide) (k_X8_titleLines l g) tw_426 tw_427 tw_428 tw_123 tw_425 ⟨by decide, by decide, by decide +kernel⟩ ⟨by rw [hF]; decide, by rw [hL]; decide⟩ dX8_laysContest_2) ?_
  refine bm_cc (s_istore hx hb dX8_laysContest_5) ?_
  refine bm_cc (s_iload_n hx hb dX8_laysContest_7) ?_
  refine bm_cc (s_ifeq hx hb dX8_laysContest_8 (by decide)) ?_
  refine bm_cc (s_iconst hx hb dX8_laysContest_11 (by decide)) ?_
  refine bm_cc (s_goto hx hb dX8_laysContest_12 (by decide)) ?_
  refine bm_cc (s_aload_n hx hb dX8_laysContest_15) ?_
  refine bm_cc (s_getI hx hb hown hts hK (C := RX8) (TT := TX8) (N := 19) (ci := 7) (j := 8) inT8 rfl (by decide) rfl (by decide) rfl tw_416 rfl dX8_laysContest_16) ?_
  refine bm_cc (s_iconst hx hb dX8_laysContest_19 (by decide)) ?_
  refine bm_cc (s_iadd hx hb dX8_laysContest_20) ?_
  refine bm_cc (s_istore hx hb dX8_laysContest_21) ?_
  refine bm_cc (s_aload_n hx hb dX8_laysContest_23) ?_
  refine bm_cc (s_iload hx hb dX8_laysContest_24) ?_
  refine bm_cc (s_iload hx hb dX8_laysContest_26) ?_
  refine bm_cc (s_iadd hx hb dX8_laysContest_28) ?_
  refine bm_cc (s_callV hx hb hml hown hts hK (C := RX8) (TT := TX8) (N := 19) (ci := 7) rfl (by decide) (k_X8_pushed l g) tw_418 tw_419 tw_420 tw_123 tw_417 ⟨by decide, by decide, by decide +kernel⟩ ⟨by rw [hF]; decide, by rw [hL]; decide⟩ dX8_laysContest_29) ?_
  refine bm_cc (s_aload_n hx hb dX8_laysContest_32) ?_
  refine bm_cc (s_iload_n hx hb dX8_laysContest_33) ?_
  refine bm_cc (s_aload_n hx hb dX8_laysContest_34) ?_
  refine bm_cc (s_iload_n hx hb dX8_laysContest_35) ?_
  refine bm_cc (s_iload_n hx hb dX8_laysContest_36) ?_
  refine bm_cc (s_iconst hx hb dX8_laysContest_37 (by decide)) ?_
  refine bm_cc (s_callV hx hb hml hown hts hK (C := RX8) (TT := TX8) (N := 19) (ci := 7) rfl (by decide) (k_X8_standing l g) tw_284 tw_285 tw_286 tw_123 tw_283 ⟨by decide, by decide, by decide +kernel⟩ ⟨by rw [hF]; decide, by rw [hL]; decide⟩ dX8_laysContest_38) ?_
  refine bm_cc (s_callV hx hb hml hown hts hK (C := RX8) (TT := TX8) (N := 19) (ci := 7) rfl (by decide) (k_X8_nameLines l g) tw_413 tw_414 tw_415 tw_123 tw_412 ⟨by decide, by decide, by decide +kernel⟩ ⟨by rw [hF]; decide, by rw [hL]; decide⟩ dX8_laysContest_41) ?_
  refine bm_cc (s_iadd hx hb dX8_laysContest_44) ?_
  refine bm_cc (s_aload_n hx hb dX8_laysContest_45) ?_
  refine bm_cc (s_getR hx hb hown hts hK (C := RX8) (TT := TX8) (N := 19) (ci := 7) (j := 0) inT8 rfl (by decide) rfl (by decide) rfl tw_83 rfl dX8_laysContest_46) ?_
  refine bm_cc (s_iconst hx hb dX8_laysContest_49 (by decide)) ?_
  refine bm_cc (s_iaload hx hb hK dX8_laysContest_50) ?_
  refine bm_cc (s_icle hx hb dX8_laysContest_51 (by decide)) ?_
  refine bm_cc (s_aload_n hx hb dX8_laysContest_54) ?_
  refine bm_cc (s_dup hx hb dX8_laysContest_55) ?_
  refine bm_cc (s_getI hx hb hown hts hK (C := RX8) (TT := TX8) (N := 19) (ci := 7) (j := 7) inT8 rfl (by decide) rfl (by decide) rfl tw_421 rfl dX8_laysContest_56) ?_
  refine bm_cc (s_iconst hx hb dX8_laysContest_59 (by decide)) ?_
  refine bm_cc (s_iadd hx hb dX8_laysContest_60) ?_
  refine bm_cc (s_putI hx hb hown hts hK (C := RX8) (TT := TX8) (N := 19) (ci := 7) (j := 7) inT8 rfl (by decide) rfl (by decide) tyX8 tyX8_ok nmX8 rfl tw_421 rfl rfl (by decide +kernel) dX8_laysContest_61) ?_
  refine bm_cc (s_iconst hx hb dX8_laysContest_64 (by decide)) ?_
  refine bm_cc (s_istore hx hb dX8_laysContest_65) ?_
  refine bm_cc (s_aload_n hx hb dX8_laysContest_67) ?_
  refine bm_cc (s_iload hx hb dX8_laysContest_68) ?_
  refine bm_cc (s_iload hx hb dX8_laysContest_70) ?_
  refine bm_cc (s_iadd hx hb dX8_laysContest_72) ?_
  refine bm_cc (s_putI hx hb hown hts hK (C := RX8) (TT := TX8) (N := 19) (ci := 7) (j := 8) inT8 rfl (by decide) rfl (by decide) tyX8 tyX8_ok nmX8 rfl tw_416 rfl rfl (by decide +kernel) dX8_laysContest_73) ?_
  refine bm_cc (s_aload_n hx hb dX8_laysContest_76) ?_
  refine bm_cc (s_dup hx hb dX8_laysContest_77) ?_
  refine bm_cc (s_getI hx hb hown hts hK (C := RX8) (TT := TX8) (N := 19) (ci := 7) (j := 9) inT8 rfl (by decide) rfl (by decide) rfl tw_424 rfl dX8_laysContest_78) ?_
  refine bm_cc (s_iload hx hb dX8_laysContest_81) ?_
  refine bm_cc (s_iadd hx hb dX8_laysContest_83) ?_
  refine bm_cc (s_putI hx hb hown hts hK (C := RX8) (TT := TX8) (N := 19) (ci := 7) (j := 9) inT8 rfl (by decide) rfl (by decide) tyX8 tyX8_ok nmX8 rfl tw_424 rfl rfl (by decide +kernel) dX8_laysContest_84) ?_
  refine bm_cc (s_iconst hx hb dX8_laysContest_87 (by decide)) ?_
  refine bm_cc (s_istore hx hb dX8_laysContest_88) ?_
  refine bm_cc (s_iload hx hb dX8_laysContest_90) ?_
  refine bm_cc (s_aload_n hx hb dX8_laysContest_92) ?_
  refine bm_cc (s_iload_n hx hb dX8_laysContest_93) ?_
  refine bm_cc (s_iconst hx hb dX8_laysContest_94 (by decide)) ?_
  refine bm_cc (s_callV hx hb hml hown hts hK (C := RX8) (TT := TX8) (N := 19) (ci := 7) rfl (by decide) (k_X8_of l g) tw_164 tw_165 tw_166 tw_123 tw_163 ⟨by decide, by decide, by decide +kernel⟩ ⟨by rw [hF]; decide, by rw [hL]; decide⟩ dX8_laysContest_95) ?_
  refine bm_cc (s_icge hx hb dX8_laysContest_98 (by decide)) ?_
  refine bm_cc (s_aload_n hx hb dX8_laysContest_101) ?_
  refine bm_cc (s_iload_n hx hb dX8_laysContest_102) ?_
  refine bm_cc (s_aload_n hx hb dX8_laysContest_103) ?_
  refine bm_cc (s_iload_n hx hb dX8_laysContest_104) ?_
  refine bm_cc (s_iload_n hx hb dX8_laysContest_105) ?_
  refine bm_cc (s_iload hx hb dX8_laysContest_106) ?_
  refine bm_cc (s_callV hx hb hml hown hts hK (C := RX8) (TT := TX8) (N := 19) (ci := 7) rfl (by decide) (k_X8_standing l g) tw_284 tw_285 tw_286 tw_123 tw_283 ⟨by decide, by decide, by decide +kernel⟩ ⟨by rw [hF]; decide, by rw [hL]; decide⟩ dX8_laysContest_108) ?_
  refine bm_cc (s_callV hx hb hml hown hts hK (C := RX8) (TT := TX8) (N := 19) (ci := 7) rfl (by decide) (k_X8_laysName l g) tw_430 tw_431 tw_432 tw_123 tw_429 ⟨by decide, by decide, by decide +kernel⟩ ⟨by rw [hF]; decide, by rw [hL]; decide⟩ dX8_laysContest_111) ?_
  refine bm_cc (s_iinc hx hb dX8_laysContest_114 (by decide)) ?_
  refine bm_cc (s_goto hx hb dX8_laysContest_117 (by decide)) ?_
  refine bm_cc (s_ret hx hb hr hlk dX8_laysContest_120) ?_
  exact bm_c9

noncomputable def z_X8_lays : List (Nat × bm_O) := [(0, op_aload 0), (1, op_const (0)), (2, op_putI 7 7), (5, op_aload 0), (6, op_const (0)), (7, op_putI 7 8), (10, op_aload 0), (11, op_const (0)), (12, op_putI 7 9), (15, op_aload 0), (16, op_const (0)), (17, op_putI 7 10), (20, op_aload 0), (21, op_const (0)), (22, op_putI 7 11), (25, op_const (1)), (26, op_istore 2), (27, op_const (0)), (28, op_istore 3), (29, op_iload 3), (30, op_aload 0), (31, op_getR 7 0), (34, op_const (0)), (35, op_iaload), (36, op_icge 63), (39, op_aload 0), (40, op_iload 3), (41, op_const (3)), (42, op_call 1 3 (bm_rc 7) f_X8_of), (45, op_ifle 57), (48, op_aload 0), (49, op_iload 1), (50, op_iload 3), (51, op_iload 2), (52, op_call 0 4 (bm_rc 7) f_X8_laysContest), (55, op_const (0)), (56, op_istore 2), (57, op_iinc 3 1), (60, op_goto 29), (63, op_iload 2), (64, op_ifeq 71), (67, op_const (0)), (68, op_goto 77), (71, op_aload 0), (72, op_getI 7 7), (75, op_const (1)), (76, op_bin (fun a b => a + b)), (77, op_iret)]
noncomputable def f_X8_lays : bm_F := Classical.choose (bm_hide (bm_mt 4 z_X8_lays))
theorem u_X8_lays : f_X8_lays = bm_mt 4 z_X8_lays := Classical.choose_spec (bm_hide _)
theorem k_X8_lays (l : Launch) (g : bm_G) : bm_MetF l g yX8_lays cX8_lays 4 (some .int) 4 94 f_X8_lays := by
  rw [u_X8_lays]
  refine bm_met (by decide) ?_
  intro p e R s m args below meth c n0 s0 hx hb hml hown hts hK hr hlk hnm hF hL
  refine bm_cc (s_aload_n hx hb dX8_lays_0) ?_
  refine bm_cc (s_iconst hx hb dX8_lays_1 (by decide)) ?_
  refine bm_cc (s_putI hx hb hown hts hK (C := RX8) (TT := TX8) (N := 19) (ci := 7) (j := 7) inT8 rfl (by decide) rfl (by decide) tyX8 tyX8_ok nmX8 rfl tw_421 rfl rfl (by decide +kernel) dX8_lays_2) ?_
  refine bm_cc (s_aload_n hx hb dX8_lays_5) ?_
  refine bm_cc (s_iconst hx hb dX8_lays_6 (by decide)) ?_
  refine bm_cc (s_putI hx hb hown hts hK (C := RX8) (TT := TX8) (N := 19) (ci := 7) (j := 8) inT8 rfl (by decide) rfl (by decide) tyX8 tyX8_ok nmX8 rfl tw_416 rfl rfl (by decide +kernel) dX8_lays_7) ?_
  refine bm_cc (s_aload_n hx hb dX8_lays_10) ?_
  refine bm_cc (s_iconst hx hb dX8_lays_11 (by decide)) ?_
  refine bm_cc (s_putI hx hb hown hts hK (C := RX8) (TT := TX8) (N := 19) (ci := 7) (j := 9) inT8 rfl (by decide) rfl (by decide) tyX8 tyX8_ok nmX8 rfl tw_424 rfl rfl (by decide +kernel) dX8_lays_12) ?_
  refine bm_cc (s_aload_n hx hb dX8_lays_15) ?_
  refine bm_cc (s_iconst hx hb dX8_lays_16 (by decide)) ?_
  refine bm_cc (s_putI hx hb hown hts hK (C := RX8) (TT := TX8) (N := 19) (ci := 7) (j := 10) inT8 rfl (by decide) rfl (by decide) tyX8 tyX8_ok nmX8 rfl tw_423 rfl rfl (by decide +kernel) dX8_lays_17) ?_
  refine bm_cc (s_aload_n hx hb dX8_lays_20) ?_
  refine bm_cc (s_iconst hx hb dX8_lays_21 (by decide)) ?_
  refine bm_cc (s_putI hx hb hown hts hK (C := RX8) (TT := TX8) (N := 19) (ci := 7) (j := 11) inT8 rfl (by decide) rfl (by decide) tyX8 tyX8_ok nmX8 rfl tw_422 rfl rfl (by decide +kernel) dX8_lays_22) ?_
  refine bm_cc (s_iconst hx hb dX8_lays_25 (by decide)) ?_
  refine bm_cc (s_istore_n hx hb dX8_lays_26) ?_
  refine bm_cc (s_iconst hx hb dX8_lays_27 (by decide)) ?_
  refine bm_cc (s_istore_n hx hb dX8_lays_28) ?_
  refine bm_cc (s_iload_n hx hb dX8_lays_29) ?_
  refine bm_cc (s_aload_n hx hb dX8_lays_30) ?_
  refine bm_cc (s_getR hx hb hown hts hK (C := RX8) (TT := TX8) (N := 19) (ci := 7) (j := 0) inT8 rfl (by decide) rfl (by decide) rfl tw_83 rfl dX8_lays_31) ?_
  refine bm_cc (s_iconst hx hb dX8_lays_34 (by decide)) ?_
  refine bm_cc (s_iaload hx hb hK dX8_lays_35) ?_
  refine bm_cc (s_icge hx hb dX8_lays_36 (by decide)) ?_
  refine bm_cc (s_aload_n hx hb dX8_lays_39) ?_
  refine bm_cc (s_iload_n hx hb dX8_lays_40) ?_
  refine bm_cc (s_iconst hx hb dX8_lays_41 (by decide)) ?_
  refine bm_cc (s_callV hx hb hml hown hts hK (C := RX8) (TT := TX8) (N := 19) (ci := 7) rfl (by decide) (k_X8_of l g) tw_164 tw_165 tw_166 tw_123 tw_163 ⟨by decide, by decide, by decide +kernel⟩ ⟨by rw [hF]; decide, by rw [hL]; decide⟩ dX8_lays_42) ?_
  refine bm_cc (s_ifle hx hb dX8_lays_45 (by decide)) ?_
  refine bm_cc (s_aload_n hx hb dX8_lays_48) ?_
  refine bm_cc (s_iload_n hx hb dX8_lays_49) ?_
  refine bm_cc (s_iload_n hx hb dX8_lays_50) ?_
  refine bm_cc (s_iload_n hx hb dX8_lays_51) ?_
  refine bm_cc (s_callV hx hb hml hown hts hK (C := RX8) (TT := TX8) (N := 19) (ci := 7) rfl (by decide) (k_X8_laysContest l g) tw_434 tw_435 tw_436 tw_123 tw_433 ⟨by decide, by decide, by decide +kernel⟩ ⟨by rw [hF]; decide, by rw [hL]; decide⟩ dX8_lays_52) ?_
  refine bm_cc (s_iconst hx hb dX8_lays_55 (by decide)) ?_
  refine bm_cc (s_istore_n hx hb dX8_lays_56) ?_
  refine bm_cc (s_iinc hx hb dX8_lays_57 (by decide)) ?_
  refine bm_cc (s_goto hx hb dX8_lays_60 (by decide)) ?_
  refine bm_cc (s_iload_n hx hb dX8_lays_63) ?_
  refine bm_cc (s_ifeq hx hb dX8_lays_64 (by decide)) ?_
  refine bm_cc (s_iconst hx hb dX8_lays_67 (by decide)) ?_
  refine bm_cc (s_goto hx hb dX8_lays_68 (by decide)) ?_
  refine bm_cc (s_aload_n hx hb dX8_lays_71) ?_
  refine bm_cc (s_getI hx hb hown hts hK (C := RX8) (TT := TX8) (N := 19) (ci := 7) (j := 7) inT8 rfl (by decide) rfl (by decide) rfl tw_421 rfl dX8_lays_72) ?_
  refine bm_cc (s_iconst hx hb dX8_lays_75 (by decide)) ?_
  refine bm_cc (s_iadd hx hb dX8_lays_76) ?_
  refine bm_cc (s_iret hx hb hr hlk dX8_lays_77) ?_
  exact bm_c9

noncomputable def z_X8_placeOf : List (Nat × bm_O) := [(0, op_const (0)), (1, op_istore 4), (3, op_aload 0), (4, op_iload 1), (5, op_iload 2), (6, op_iload 4), (8, op_call 1 4 (bm_rc 7) f_X8_standing), (11, op_iload 3), (12, op_iceq 21), (15, op_iinc 4 1), (18, op_goto 3), (21, op_iload 4), (23, op_iret)]
noncomputable def f_X8_placeOf : bm_F := Classical.choose (bm_hide (bm_mt 5 z_X8_placeOf))
theorem u_X8_placeOf : f_X8_placeOf = bm_mt 5 z_X8_placeOf := Classical.choose_spec (bm_hide _)
theorem k_X8_placeOf (l : Launch) (g : bm_G) : bm_MetF l g yX8_placeOf cX8_placeOf 5 (some .int) 2 46 f_X8_placeOf := by
  rw [u_X8_placeOf]
  refine bm_met (by decide) ?_
  intro p e R s m args below meth c n0 s0 hx hb hml hown hts hK hr hlk hnm hF hL
  refine bm_cc (s_iconst hx hb dX8_placeOf_0 (by decide)) ?_
  refine bm_cc (s_istore hx hb dX8_placeOf_1) ?_
  refine bm_cc (s_aload_n hx hb dX8_placeOf_3) ?_
  refine bm_cc (s_iload_n hx hb dX8_placeOf_4) ?_
  refine bm_cc (s_iload_n hx hb dX8_placeOf_5) ?_
  refine bm_cc (s_iload hx hb dX8_placeOf_6) ?_
  refine bm_cc (s_callV hx hb hml hown hts hK (C := RX8) (TT := TX8) (N := 19) (ci := 7) rfl (by decide) (k_X8_standing l g) tw_284 tw_285 tw_286 tw_123 tw_283 ⟨by decide, by decide, by decide +kernel⟩ ⟨by rw [hF]; decide, by rw [hL]; decide⟩ dX8_placeOf_8) ?_
  refine bm_cc (s_iload_n hx hb dX8_placeOf_11) ?_
  refine bm_cc (s_iceq hx hb dX8_placeOf_12 (by decide)) ?_
  refine bm_cc (s_iinc hx hb dX8_placeOf_15 (by decide)) ?_
  refine bm_cc (s_goto hx hb dX8_placeOf_18 (by decide)) ?_
  refine bm_cc (s_iload hx hb dX8_placeOf_21) ?_
  refine bm_cc (s_iret hx hb hr hlk dX8_placeOf_23) ?_
  exact bm_c9

noncomputable def z_X8_lies : List (Nat × bm_O) := [(0, op_aload 0), (1, op_iload 1), (2, op_call 1 2 (bm_rc 7) f_X8_isVersion), (5, op_ifeq 27), (8, op_aload 0), (9, op_iload 2), (10, op_iload 3), (11, op_call 1 3 (bm_rc 7) f_X8_isName), (14, op_ifeq 27), (17, op_iload 4), (19, op_const (0)), (20, op_const (4)), (21, op_call 1 3 bm_c0 f_X8_in), (24, op_ifne 29), (27, op_const (-1)), (28, op_iret), (29, op_aload 0), (30, op_iload 1), (31, op_call 1 2 (bm_rc 7) f_X8_lays), (34, op_istore 5), (36, op_const (8)), (38, op_iload 2), (39, op_bin (fun a b => a * b)), (40, op_iload 3), (41, op_bin (fun a b => a + b)), (42, op_istore 6), (44, op_iload 4), (46, op_tsw [76, 91, 106, 114] 122), (76, op_aload 0), (77, op_getR 7 5), (80, op_iload 6), (82, op_iaload), (83, op_aload 0), (84, op_getR 7 0), (87, op_const (2)), (88, op_iaload), (89, op_binz (fun a b => a / b)), (90, op_iret), (91, op_aload 0), (92, op_getR 7 5), (95, op_iload 6), (97, op_iaload), (98, op_aload 0), (99, op_getR 7 0), (102, op_const (2)), (103, op_iaload), (104, op_binz (fun a b => a - a / b * b)), (105, op_iret), (106, op_aload 0), (107, op_getR 7 6), (110, op_iload 6), (112, op_iaload), (113, op_iret), (114, op_aload 0), (115, op_iload 1), (116, op_iload 2), (117, op_iload 3), (118, op_call 1 4 (bm_rc 7) f_X8_placeOf), (121, op_iret), (122, op_iload 5), (124, op_ifge 132), (127, op_const (-4)), (129, op_goto 138), (132, op_aload 0), (133, op_iload 2), (134, op_iload 3), (135, op_call 1 3 (bm_rc 7) f_X8_nameLines), (138, op_iret)]
noncomputable def f_X8_lies : bm_F := Classical.choose (bm_hide (bm_mt 7 z_X8_lies))
theorem u_X8_lies : f_X8_lies = bm_mt 7 z_X8_lies := Classical.choose_spec (bm_hide _)
theorem k_X8_lies (l : Launch) (g : bm_G) : bm_MetF l g yX8_lies cX8_lies 7 (some .int) 5 117 f_X8_lies := by
  rw [u_X8_lies]
  refine bm_met (by decide) ?_
  intro p e R s m args below meth c n0 s0 hx hb hml hown hts hK hr hlk hnm hF hL
  refine bm_cc (s_aload_n hx hb dX8_lies_0) ?_
  refine bm_cc (s_iload_n hx hb dX8_lies_1) ?_
  refine bm_cc (s_callV hx hb hml hown hts hK (C := RX8) (TT := TX8) (N := 19) (ci := 7) rfl (by decide) (k_X8_isVersion l g) tw_192 tw_193 tw_194 tw_123 tw_191 ⟨by decide, by decide, by decide +kernel⟩ ⟨by rw [hF]; decide, by rw [hL]; decide⟩ dX8_lies_2) ?_
  refine bm_cc (s_ifeq hx hb dX8_lies_5 (by decide)) ?_
  refine bm_cc (s_aload_n hx hb dX8_lies_8) ?_
  refine bm_cc (s_iload_n hx hb dX8_lies_9) ?_
  refine bm_cc (s_iload_n hx hb dX8_lies_10) ?_
  refine bm_cc (s_callV hx hb hml hown hts hK (C := RX8) (TT := TX8) (N := 19) (ci := 7) rfl (by decide) (k_X8_isName l g) tw_288 tw_289 tw_290 tw_123 tw_287 ⟨by decide, by decide, by decide +kernel⟩ ⟨by rw [hF]; decide, by rw [hL]; decide⟩ dX8_lies_11) ?_
  refine bm_cc (s_ifeq hx hb dX8_lies_14 (by decide)) ?_
  refine bm_cc (s_iload hx hb dX8_lies_17) ?_
  refine bm_cc (s_iconst hx hb dX8_lies_19 (by decide)) ?_
  refine bm_cc (s_iconst hx hb dX8_lies_20 (by decide)) ?_
  refine bm_cc (s_callS hx hb hml hown hts hK (k_X8_in l g) tw_125 tw_126 tw_123 tw_124 ⟨by decide, by decide, by decide +kernel⟩ ⟨by rw [hF]; decide, by rw [hL]; decide⟩ dX8_lies_21) ?_
  refine bm_cc (s_ifne hx hb dX8_lies_24 (by decide)) ?_
  refine bm_cc (s_iconst hx hb dX8_lies_27 (by decide)) ?_
  refine bm_cc (s_iret hx hb hr hlk dX8_lies_28) ?_
  refine bm_cc (s_aload_n hx hb dX8_lies_29) ?_
  refine bm_cc (s_iload_n hx hb dX8_lies_30) ?_
  refine bm_cc (s_callV hx hb hml hown hts hK (C := RX8) (TT := TX8) (N := 19) (ci := 7) rfl (by decide) (k_X8_lays l g) tw_438 tw_439 tw_440 tw_123 tw_437 ⟨by decide, by decide, by decide +kernel⟩ ⟨by rw [hF]; decide, by rw [hL]; decide⟩ dX8_lies_31) ?_
  refine bm_cc (s_istore hx hb dX8_lies_34) ?_
  refine bm_cc (s_bipush hx hb dX8_lies_36 (by decide)) ?_
  refine bm_cc (s_iload_n hx hb dX8_lies_38) ?_
  refine bm_cc (s_imul hx hb dX8_lies_39) ?_
  refine bm_cc (s_iload_n hx hb dX8_lies_40) ?_
  refine bm_cc (s_iadd hx hb dX8_lies_41) ?_
  refine bm_cc (s_istore hx hb dX8_lies_42) ?_
  refine bm_cc (s_iload hx hb dX8_lies_44) ?_
  refine bm_cc (s_tsw hx hb dX8_lies_46 (by decide) (by decide) (by decide) (by decide)) ?_
  refine bm_cc (s_aload_n hx hb dX8_lies_76) ?_
  refine bm_cc (s_getR hx hb hown hts hK (C := RX8) (TT := TX8) (N := 19) (ci := 7) (j := 5) inT8 rfl (by decide) rfl (by decide) rfl tw_86 rfl dX8_lies_77) ?_
  refine bm_cc (s_iload hx hb dX8_lies_80) ?_
  refine bm_cc (s_iaload hx hb hK dX8_lies_82) ?_
  refine bm_cc (s_aload_n hx hb dX8_lies_83) ?_
  refine bm_cc (s_getR hx hb hown hts hK (C := RX8) (TT := TX8) (N := 19) (ci := 7) (j := 0) inT8 rfl (by decide) rfl (by decide) rfl tw_83 rfl dX8_lies_84) ?_
  refine bm_cc (s_iconst hx hb dX8_lies_87 (by decide)) ?_
  refine bm_cc (s_iaload hx hb hK dX8_lies_88) ?_
  refine bm_cc (s_idiv hx hb dX8_lies_89) ?_
  refine bm_cc (s_iret hx hb hr hlk dX8_lies_90) ?_
  refine bm_cc (s_aload_n hx hb dX8_lies_91) ?_
  refine bm_cc (s_getR hx hb hown hts hK (C := RX8) (TT := TX8) (N := 19) (ci := 7) (j := 5) inT8 rfl (by decide) rfl (by decide) rfl tw_86 rfl dX8_lies_92) ?_
  refine bm_cc (s_iload hx hb dX8_lies_95) ?_
  refine bm_cc (s_iaload hx hb hK dX8_lies_97) ?_
  refine bm_cc (s_aload_n hx hb dX8_lies_98) ?_
  refine bm_cc (s_getR hx hb hown hts hK (C := RX8) (TT := TX8) (N := 19) (ci := 7) (j := 0) inT8 rfl (by decide) rfl (by decide) rfl tw_83 rfl dX8_lies_99) ?_
  refine bm_cc (s_iconst hx hb dX8_lies_102 (by decide)) ?_
  refine bm_cc (s_iaload hx hb hK dX8_lies_103) ?_
  refine bm_cc (s_irem hx hb dX8_lies_104) ?_
  refine bm_cc (s_iret hx hb hr hlk dX8_lies_105) ?_
  refine bm_cc (s_aload_n hx hb dX8_lies_106) ?_
  refine bm_cc (s_getR hx hb hown hts hK (C := RX8) (TT := TX8) (N := 19) (ci := 7) (j := 6) inT8 rfl (by decide) rfl (by decide) rfl tw_87 rfl dX8_lies_107) ?_
  refine bm_cc (s_iload hx hb dX8_lies_110) ?_
  refine bm_cc (s_iaload hx hb hK dX8_lies_112) ?_
  refine bm_cc (s_iret hx hb hr hlk dX8_lies_113) ?_
  refine bm_cc (s_aload_n hx hb dX8_lies_114) ?_
  refine bm_cc (s_iload_n hx hb dX8_lies_115) ?_
  refine bm_cc (s_iload_n hx hb dX8_lies_116) ?_
  refine bm_cc (s_iload_n hx hb dX8_lies_117) ?_
  refine bm_cc (s_callV hx hb hml hown hts hK (C := RX8) (TT := TX8) (N := 19) (ci := 7) rfl (by decide) (k_X8_placeOf l g) tw_442 tw_443 tw_444 tw_123 tw_441 ⟨by decide, by decide, by decide +kernel⟩ ⟨by rw [hF]; decide, by rw [hL]; decide⟩ dX8_lies_118) ?_
  refine bm_cc (s_iret hx hb hr hlk dX8_lies_121) ?_
  refine bm_cc (s_iload hx hb dX8_lies_122) ?_
  refine bm_cc (s_ifge hx hb dX8_lies_124 (by decide)) ?_
  refine bm_cc (s_bipush hx hb dX8_lies_127 (by decide)) ?_
  refine bm_cc (s_goto hx hb dX8_lies_129 (by decide)) ?_
  refine bm_cc (s_aload_n hx hb dX8_lies_132) ?_
  refine bm_cc (s_iload_n hx hb dX8_lies_133) ?_
  refine bm_cc (s_iload_n hx hb dX8_lies_134) ?_
  refine bm_cc (s_callV hx hb hml hown hts hK (C := RX8) (TT := TX8) (N := 19) (ci := 7) rfl (by decide) (k_X8_nameLines l g) tw_413 tw_414 tw_415 tw_123 tw_412 ⟨by decide, by decide, by decide +kernel⟩ ⟨by rw [hF]; decide, by rw [hL]; decide⟩ dX8_lies_135) ?_
  refine bm_cc (s_iret hx hb hr hlk dX8_lies_138) ?_
  exact bm_c9

noncomputable def z_X8_markAt : List (Nat × bm_O) := [(0, op_aload 0), (1, op_iload 1), (2, op_call 1 2 (bm_rc 7) f_X8_isVersion), (5, op_ifeq 55), (8, op_iload 2), (9, op_iflt 55), (12, op_iload 3), (13, op_const (0)), (14, op_aload 0), (15, op_getR 7 0), (18, op_const (2)), (19, op_iaload), (20, op_const (1)), (21, op_bin (fun a b => a - b)), (22, op_call 1 3 bm_c0 f_X8_in), (25, op_ifeq 55), (28, op_iload 4), (30, op_const (0)), (31, op_aload 0), (32, op_getR 7 0), (35, op_const (3)), (36, op_iaload), (37, op_const (1)), (38, op_bin (fun a b => a - b)), (39, op_call 1 3 bm_c0 f_X8_in), (42, op_ifeq 55), (45, op_iload 5), (47, op_const (0)), (48, op_const (1)), (49, op_call 1 3 bm_c0 f_X8_in), (52, op_ifne 57), (55, op_const (-1)), (56, op_iret), (57, op_aload 0), (58, op_iload 1), (59, op_call 1 2 (bm_rc 7) f_X8_lays), (62, op_istore 6), (64, op_const (0)), (65, op_istore 7), (67, op_iload 7), (69, op_aload 0), (70, op_getR 7 0), (73, op_const (0)), (74, op_iaload), (75, op_icge 166), (78, op_iload 2), (79, op_iload 6), (81, op_icge 166), (84, op_const (0)), (85, op_istore 8), (87, op_iload 8), (89, op_aload 0), (90, op_iload 7), (92, op_const (3)), (93, op_call 1 3 (bm_rc 7) f_X8_of), (96, op_icge 160), (99, op_const (8)), (101, op_iload 7), (103, op_bin (fun a b => a * b)), (104, op_iload 8), (106, op_bin (fun a b => a + b)), (107, op_istore 9), (109, op_aload 0), (110, op_getR 7 5), (113, op_iload 9), (115, op_iaload), (116, op_iload 2), (117, op_aload 0), (118, op_getR 7 0), (121, op_const (2)), (122, op_iaload), (123, op_bin (fun a b => a * b)), (124, op_iload 3), (125, op_bin (fun a b => a + b)), (126, op_icne 154), (129, op_aload 0), (130, op_getR 7 6), (133, op_iload 9), (135, op_iaload), (136, op_iload 4), (138, op_icne 154), (141, op_iload 5), (143, op_ifne 151), (146, op_iload 7), (148, op_goto 153), (151, op_iload 8), (153, op_iret), (154, op_iinc 8 1), (157, op_goto 87), (160, op_iinc 7 1), (163, op_goto 67), (166, op_const (-4)), (168, op_iret)]
noncomputable def f_X8_markAt : bm_F := Classical.choose (bm_hide (bm_mt 10 z_X8_markAt))
theorem u_X8_markAt : f_X8_markAt = bm_mt 10 z_X8_markAt := Classical.choose_spec (bm_hide _)
theorem k_X8_markAt (l : Launch) (g : bm_G) : bm_MetF l g yX8_markAt cX8_markAt 10 (some .int) 5 117 f_X8_markAt := by
  rw [u_X8_markAt]
  refine bm_met (by decide) ?_
  intro p e R s m args below meth c n0 s0 hx hb hml hown hts hK hr hlk hnm hF hL
  refine bm_cc (s_aload_n hx hb dX8_markAt_0) ?_
  refine bm_cc (s_iload_n hx hb dX8_markAt_1) ?_
  refine bm_cc (s_callV hx hb hml hown hts hK (C := RX8) (TT := TX8) (N := 19) (ci := 7) rfl (by decide) (k_X8_isVersion l g) tw_192 tw_193 tw_194 tw_123 tw_191 ⟨by decide, by decide, by decide +kernel⟩ ⟨by rw [hF]; decide, by rw [hL]; decide⟩ dX8_markAt_2) ?_
  refine bm_cc (s_ifeq hx hb dX8_markAt_5 (by decide)) ?_
  refine bm_cc (s_iload_n hx hb dX8_markAt_8) ?_
  refine bm_cc (s_iflt hx hb dX8_markAt_9 (by decide)) ?_
  refine bm_cc (s_iload_n hx hb dX8_markAt_12) ?_
  refine bm_cc (s_iconst hx hb dX8_markAt_13 (by decide)) ?_
  refine bm_cc (s_aload_n hx hb dX8_markAt_14) ?_
  refine bm_cc (s_getR hx hb hown hts hK (C := RX8) (TT := TX8) (N := 19) (ci := 7) (j := 0) inT8 rfl (by decide) rfl (by decide) rfl tw_83 rfl dX8_markAt_15) ?_
  refine bm_cc (s_iconst hx hb dX8_markAt_18 (by decide)) ?_
  refine bm_cc (s_iaload hx hb hK dX8_markAt_19) ?_
  refine bm_cc (s_iconst hx hb dX8_markAt_20 (by decide)) ?_
  refine bm_cc (s_isub hx hb dX8_markAt_21) ?_
  refine bm_cc (s_callS hx hb hml hown hts hK (k_X8_in l g) tw_125 tw_126 tw_123 tw_124 ⟨by decide, by decide, by decide +kernel⟩ ⟨by rw [hF]; decide, by rw [hL]; decide⟩ dX8_markAt_22) ?_
  refine bm_cc (s_ifeq hx hb dX8_markAt_25 (by decide)) ?_
  refine bm_cc (s_iload hx hb dX8_markAt_28) ?_
  refine bm_cc (s_iconst hx hb dX8_markAt_30 (by decide)) ?_
  refine bm_cc (s_aload_n hx hb dX8_markAt_31) ?_
  refine bm_cc (s_getR hx hb hown hts hK (C := RX8) (TT := TX8) (N := 19) (ci := 7) (j := 0) inT8 rfl (by decide) rfl (by decide) rfl tw_83 rfl dX8_markAt_32) ?_
  refine bm_cc (s_iconst hx hb dX8_markAt_35 (by decide)) ?_
  refine bm_cc (s_iaload hx hb hK dX8_markAt_36) ?_
  refine bm_cc (s_iconst hx hb dX8_markAt_37 (by decide)) ?_
  refine bm_cc (s_isub hx hb dX8_markAt_38) ?_
  refine bm_cc (s_callS hx hb hml hown hts hK (k_X8_in l g) tw_125 tw_126 tw_123 tw_124 ⟨by decide, by decide, by decide +kernel⟩ ⟨by rw [hF]; decide, by rw [hL]; decide⟩ dX8_markAt_39) ?_
  refine bm_cc (s_ifeq hx hb dX8_markAt_42 (by decide)) ?_
  refine bm_cc (s_iload hx hb dX8_markAt_45) ?_
  refine bm_cc (s_iconst hx hb dX8_markAt_47 (by decide)) ?_
  refine bm_cc (s_iconst hx hb dX8_markAt_48 (by decide)) ?_
  refine bm_cc (s_callS hx hb hml hown hts hK (k_X8_in l g) tw_125 tw_126 tw_123 tw_124 ⟨by decide, by decide, by decide +kernel⟩ ⟨by rw [hF]; decide, by rw [hL]; decide⟩ dX8_markAt_49) ?_
  refine bm_cc (s_ifne hx hb dX8_markAt_52 (by decide)) ?_
  refine bm_cc (s_iconst hx hb dX8_markAt_55 (by decide)) ?_
  refine bm_cc (s_iret hx hb hr hlk dX8_markAt_56) ?_
  refine bm_cc (s_aload_n hx hb dX8_markAt_57) ?_
  refine bm_cc (s_iload_n hx hb dX8_markAt_58) ?_
  refine bm_cc (s_callV hx hb hml hown hts hK (C := RX8) (TT := TX8) (N := 19) (ci := 7) rfl (by decide) (k_X8_lays l g) tw_438 tw_439 tw_440 tw_123 tw_437 ⟨by decide, by decide, by decide +kernel⟩ ⟨by rw [hF]; decide, by rw [hL]; decide⟩ dX8_markAt_59) ?_
  refine bm_cc (s_istore hx hb dX8_markAt_62) ?_
  refine bm_cc (s_iconst hx hb dX8_markAt_64 (by decide)) ?_
  refine bm_cc (s_istore hx hb dX8_markAt_65) ?_
  refine bm_cc (s_iload hx hb dX8_markAt_67) ?_
  refine bm_cc (s_aload_n hx hb dX8_markAt_69) ?_
  refine bm_cc (s_getR hx hb hown hts hK (C := RX8) (TT := TX8) (N := 19) (ci := 7) (j := 0) inT8 rfl (by decide) rfl (by decide) rfl tw_83 rfl dX8_markAt_70) ?_
  refine bm_cc (s_iconst hx hb dX8_markAt_73 (by decide)) ?_
  refine bm_cc (s_iaload hx hb hK dX8_markAt_74) ?_
  refine bm_cc (s_icge hx hb dX8_markAt_75 (by decide)) ?_
  refine bm_cc (s_iload_n hx hb dX8_markAt_78) ?_
  refine bm_cc (s_iload hx hb dX8_markAt_79) ?_
  refine bm_cc (s_icge hx hb dX8_markAt_81 (by decide)) ?_
  refine bm_cc (s_iconst hx hb dX8_markAt_84 (by decide)) ?_
  refine bm_cc (s_istore hx hb dX8_markAt_85) ?_
  refine bm_cc (s_iload hx hb dX8_markAt_87) ?_
  refine bm_cc (s_aload_n hx hb dX8_markAt_89) ?_
  refine bm_cc (s_iload hx hb dX8_markAt_90) ?_
  refine bm_cc (s_iconst hx hb dX8_markAt_92 (by decide)) ?_
  refine bm_cc (s_callV hx hb hml hown hts hK (C := RX8) (TT := TX8) (N := 19) (ci := 7) rfl (by decide) (k_X8_of l g) tw_164 tw_165 tw_166 tw_123 tw_163 ⟨by decide, by decide, by decide +kernel⟩ ⟨by rw [hF]; decide, by rw [hL]; decide⟩ dX8_markAt_93) ?_
  refine bm_cc (s_icge hx hb dX8_markAt_96 (by decide)) ?_
  refine bm_cc (s_bipush hx hb dX8_markAt_99 (by decide)) ?_
  refine bm_cc (s_iload hx hb dX8_markAt_101) ?_
  refine bm_cc (s_imul hx hb dX8_markAt_103) ?_
  refine bm_cc (s_iload hx hb dX8_markAt_104) ?_
  refine bm_cc (s_iadd hx hb dX8_markAt_106) ?_
  refine bm_cc (s_istore hx hb dX8_markAt_107) ?_
  refine bm_cc (s_aload_n hx hb dX8_markAt_109) ?_
  refine bm_cc (s_getR hx hb hown hts hK (C := RX8) (TT := TX8) (N := 19) (ci := 7) (j := 5) inT8 rfl (by decide) rfl (by decide) rfl tw_86 rfl dX8_markAt_110) ?_
  refine bm_cc (s_iload hx hb dX8_markAt_113) ?_
  refine bm_cc (s_iaload hx hb hK dX8_markAt_115) ?_
  refine bm_cc (s_iload_n hx hb dX8_markAt_116) ?_
  refine bm_cc (s_aload_n hx hb dX8_markAt_117) ?_
  refine bm_cc (s_getR hx hb hown hts hK (C := RX8) (TT := TX8) (N := 19) (ci := 7) (j := 0) inT8 rfl (by decide) rfl (by decide) rfl tw_83 rfl dX8_markAt_118) ?_
  refine bm_cc (s_iconst hx hb dX8_markAt_121 (by decide)) ?_
  refine bm_cc (s_iaload hx hb hK dX8_markAt_122) ?_
  refine bm_cc (s_imul hx hb dX8_markAt_123) ?_
  refine bm_cc (s_iload_n hx hb dX8_markAt_124) ?_
  refine bm_cc (s_iadd hx hb dX8_markAt_125) ?_
  refine bm_cc (s_icne hx hb dX8_markAt_126 (by decide)) ?_
  refine bm_cc (s_aload_n hx hb dX8_markAt_129) ?_
  refine bm_cc (s_getR hx hb hown hts hK (C := RX8) (TT := TX8) (N := 19) (ci := 7) (j := 6) inT8 rfl (by decide) rfl (by decide) rfl tw_87 rfl dX8_markAt_130) ?_
  refine bm_cc (s_iload hx hb dX8_markAt_133) ?_
  refine bm_cc (s_iaload hx hb hK dX8_markAt_135) ?_
  refine bm_cc (s_iload hx hb dX8_markAt_136) ?_
  refine bm_cc (s_icne hx hb dX8_markAt_138 (by decide)) ?_
  refine bm_cc (s_iload hx hb dX8_markAt_141) ?_
  refine bm_cc (s_ifne hx hb dX8_markAt_143 (by decide)) ?_
  refine bm_cc (s_iload hx hb dX8_markAt_146) ?_
  refine bm_cc (s_goto hx hb dX8_markAt_148 (by decide)) ?_
  refine bm_cc (s_iload hx hb dX8_markAt_151) ?_
  refine bm_cc (s_iret hx hb hr hlk dX8_markAt_153) ?_
  refine bm_cc (s_iinc hx hb dX8_markAt_154 (by decide)) ?_
  refine bm_cc (s_goto hx hb dX8_markAt_157 (by decide)) ?_
  refine bm_cc (s_iinc hx hb dX8_markAt_160 (by decide)) ?_
  refine bm_cc (s_goto hx hb dX8_markAt_163 (by decide)) ?_
  refine bm_cc (s_bipush hx hb dX8_markAt_166 (by decide)) ?_
  refine bm_cc (s_iret hx hb hr hlk dX8_markAt_168) ?_
  exact bm_c9

noncomputable def z_X8_paper : List (Nat × bm_O) := [(0, op_aload 0), (1, op_iload 1), (2, op_call 1 2 (bm_rc 7) f_X8_isVersion), (5, op_ifeq 17), (8, op_iload 2), (9, op_const (0)), (10, op_const (4)), (11, op_call 1 3 bm_c0 f_X8_in), (14, op_ifne 19), (17, op_const (-1)), (18, op_iret), (19, op_aload 0), (20, op_iload 1), (21, op_call 1 2 (bm_rc 7) f_X8_lays), (24, op_istore 3), (25, op_iload 2), (26, op_ifne 42), (29, op_iload 3), (30, op_aload 0), (31, op_getR 7 0), (34, op_const (2)), (35, op_iaload), (36, op_call 1 2 bm_c0 f_X8_parts), (39, op_goto 79), (42, op_iload 2), (43, op_const (1)), (44, op_icne 51), (47, op_iload 3), (48, op_goto 79), (51, op_iload 2), (52, op_const (2)), (53, op_icne 63), (56, op_aload 0), (57, op_getI 7 9), (60, op_goto 79), (63, op_iload 2), (64, op_const (3)), (65, op_icne 75), (68, op_aload 0), (69, op_getI 7 10), (72, op_goto 79), (75, op_aload 0), (76, op_getI 7 11), (79, op_iret)]
noncomputable def f_X8_paper : bm_F := Classical.choose (bm_hide (bm_mt 4 z_X8_paper))
theorem u_X8_paper : f_X8_paper = bm_mt 4 z_X8_paper := Classical.choose_spec (bm_hide _)
theorem k_X8_paper (l : Launch) (g : bm_G) : bm_MetF l g yX8_paper cX8_paper 4 (some .int) 5 117 f_X8_paper := by
  rw [u_X8_paper]
  refine bm_met (by decide) ?_
  intro p e R s m args below meth c n0 s0 hx hb hml hown hts hK hr hlk hnm hF hL
  refine bm_cc (s_aload_n hx hb dX8_paper_0) ?_
  refine bm_cc (s_iload_n hx hb dX8_paper_1) ?_
  refine bm_cc (s_callV hx hb hml hown hts hK (C := RX8) (TT := TX8) (N := 19) (ci := 7) rfl (by decide) (k_X8_isVersion l g) tw_192 tw_193 tw_194 tw_123 tw_191 ⟨by decide, by decide, by decide +kernel⟩ ⟨by rw [hF]; decide, by rw [hL]; decide⟩ dX8_paper_2) ?_
  refine bm_cc (s_ifeq hx hb dX8_paper_5 (by decide)) ?_
  refine bm_cc (s_iload_n hx hb dX8_paper_8) ?_
  refine bm_cc (s_iconst hx hb dX8_paper_9 (by decide)) ?_
  refine bm_cc (s_iconst hx hb dX8_paper_10 (by decide)) ?_
  refine bm_cc (s_callS hx hb hml hown hts hK (k_X8_in l g) tw_125 tw_126 tw_123 tw_124 ⟨by decide, by decide, by decide +kernel⟩ ⟨by rw [hF]; decide, by rw [hL]; decide⟩ dX8_paper_11) ?_
  refine bm_cc (s_ifne hx hb dX8_paper_14 (by decide)) ?_
  refine bm_cc (s_iconst hx hb dX8_paper_17 (by decide)) ?_
  refine bm_cc (s_iret hx hb hr hlk dX8_paper_18) ?_
  refine bm_cc (s_aload_n hx hb dX8_paper_19) ?_
  refine bm_cc (s_iload_n hx hb dX8_paper_20) ?_
  refine bm_cc (s_callV hx hb hml hown hts hK (C := RX8) (TT := TX8) (N := 19) (ci := 7) rfl (by decide) (k_X8_lays l g) tw_438 tw_439 tw_440 tw_123 tw_437 ⟨by decide, by decide, by decide +kernel⟩ ⟨by rw [hF]; decide, by rw [hL]; decide⟩ dX8_paper_21) ?_
  refine bm_cc (s_istore_n hx hb dX8_paper_24) ?_
  refine bm_cc (s_iload_n hx hb dX8_paper_25) ?_
  refine bm_cc (s_ifne hx hb dX8_paper_26 (by decide)) ?_
  refine bm_cc (s_iload_n hx hb dX8_paper_29) ?_
  refine bm_cc (s_aload_n hx hb dX8_paper_30) ?_
  refine bm_cc (s_getR hx hb hown hts hK (C := RX8) (TT := TX8) (N := 19) (ci := 7) (j := 0) inT8 rfl (by decide) rfl (by decide) rfl tw_83 rfl dX8_paper_31) ?_
  refine bm_cc (s_iconst hx hb dX8_paper_34 (by decide)) ?_
  refine bm_cc (s_iaload hx hb hK dX8_paper_35) ?_
  refine bm_cc (s_callS hx hb hml hown hts hK (k_X8_parts l g) tw_406 tw_407 tw_123 tw_405 ⟨by decide, by decide, by decide +kernel⟩ ⟨by rw [hF]; decide, by rw [hL]; decide⟩ dX8_paper_36) ?_
  refine bm_cc (s_goto hx hb dX8_paper_39 (by decide)) ?_
  refine bm_cc (s_iload_n hx hb dX8_paper_42) ?_
  refine bm_cc (s_iconst hx hb dX8_paper_43 (by decide)) ?_
  refine bm_cc (s_icne hx hb dX8_paper_44 (by decide)) ?_
  refine bm_cc (s_iload_n hx hb dX8_paper_47) ?_
  refine bm_cc (s_goto hx hb dX8_paper_48 (by decide)) ?_
  refine bm_cc (s_iload_n hx hb dX8_paper_51) ?_
  refine bm_cc (s_iconst hx hb dX8_paper_52 (by decide)) ?_
  refine bm_cc (s_icne hx hb dX8_paper_53 (by decide)) ?_
  refine bm_cc (s_aload_n hx hb dX8_paper_56) ?_
  refine bm_cc (s_getI hx hb hown hts hK (C := RX8) (TT := TX8) (N := 19) (ci := 7) (j := 9) inT8 rfl (by decide) rfl (by decide) rfl tw_424 rfl dX8_paper_57) ?_
  refine bm_cc (s_goto hx hb dX8_paper_60 (by decide)) ?_
  refine bm_cc (s_iload_n hx hb dX8_paper_63) ?_
  refine bm_cc (s_iconst hx hb dX8_paper_64 (by decide)) ?_
  refine bm_cc (s_icne hx hb dX8_paper_65 (by decide)) ?_
  refine bm_cc (s_aload_n hx hb dX8_paper_68) ?_
  refine bm_cc (s_getI hx hb hown hts hK (C := RX8) (TT := TX8) (N := 19) (ci := 7) (j := 10) inT8 rfl (by decide) rfl (by decide) rfl tw_423 rfl dX8_paper_69) ?_
  refine bm_cc (s_goto hx hb dX8_paper_72 (by decide)) ?_
  refine bm_cc (s_aload_n hx hb dX8_paper_75) ?_
  refine bm_cc (s_getI hx hb hown hts hK (C := RX8) (TT := TX8) (N := 19) (ci := 7) (j := 11) inT8 rfl (by decide) rfl (by decide) rfl tw_422 rfl dX8_paper_76) ?_
  refine bm_cc (s_iret hx hb hr hlk dX8_paper_79) ?_
  exact bm_c9

noncomputable def z_X8_spread : List (Nat × bm_O) := [(0, op_aload 0), (1, op_iload 1), (2, op_call 1 2 (bm_rc 7) f_X8_isContest), (5, op_ifne 10), (8, op_const (-1)), (9, op_iret), (10, op_const (-4)), (12, op_istore 2), (13, op_const (-4)), (15, op_istore 3), (16, op_const (0)), (17, op_istore 4), (19, op_iload 4), (21, op_aload 0), (22, op_iload 1), (23, op_const (3)), (24, op_call 1 3 (bm_rc 7) f_X8_of), (27, op_icge 75), (30, op_aload 0), (31, op_iload 1), (32, op_iload 4), (34, op_call 1 3 (bm_rc 7) f_X8_firstOn), (37, op_istore 5), (39, op_iload 5), (41, op_iload 2), (42, op_icle 50), (45, op_iload 5), (47, op_goto 51), (50, op_iload 2), (51, op_istore 2), (52, op_iload 3), (53, op_iflt 62), (56, op_iload 5), (58, op_iload 3), (59, op_icge 67), (62, op_iload 5), (64, op_goto 68), (67, op_iload 3), (68, op_istore 3), (69, op_iinc 4 1), (72, op_goto 19), (75, op_iload 2), (76, op_ifge 84), (79, op_const (-4)), (81, op_goto 87), (84, op_iload 2), (85, op_iload 3), (86, op_bin (fun a b => a - b)), (87, op_iret)]
noncomputable def f_X8_spread : bm_F := Classical.choose (bm_hide (bm_mt 6 z_X8_spread))
theorem u_X8_spread : f_X8_spread = bm_mt 6 z_X8_spread := Classical.choose_spec (bm_hide _)
theorem k_X8_spread (l : Launch) (g : bm_G) : bm_MetF l g yX8_spread cX8_spread 6 (some .int) 3 70 f_X8_spread := by
  rw [u_X8_spread]
  refine bm_met (by decide) ?_
  intro p e R s m args below meth c n0 s0 hx hb hml hown hts hK hr hlk hnm hF hL
  refine bm_cc (s_aload_n hx hb dX8_spread_0) ?_
  refine bm_cc (s_iload_n hx hb dX8_spread_1) ?_
  refine bm_cc (s_callV hx hb hml hown hts hK (C := RX8) (TT := TX8) (N := 19) (ci := 7) rfl (by decide) (k_X8_isContest l g) tw_160 tw_161 tw_162 tw_123 tw_159 ⟨by decide, by decide, by decide +kernel⟩ ⟨by rw [hF]; decide, by rw [hL]; decide⟩ dX8_spread_2) ?_
  refine bm_cc (s_ifne hx hb dX8_spread_5 (by decide)) ?_
  refine bm_cc (s_iconst hx hb dX8_spread_8 (by decide)) ?_
  refine bm_cc (s_iret hx hb hr hlk dX8_spread_9) ?_
  refine bm_cc (s_bipush hx hb dX8_spread_10 (by decide)) ?_
  refine bm_cc (s_istore_n hx hb dX8_spread_12) ?_
  refine bm_cc (s_bipush hx hb dX8_spread_13 (by decide)) ?_
  refine bm_cc (s_istore_n hx hb dX8_spread_15) ?_
  refine bm_cc (s_iconst hx hb dX8_spread_16 (by decide)) ?_
  refine bm_cc (s_istore hx hb dX8_spread_17) ?_
  refine bm_cc (s_iload hx hb dX8_spread_19) ?_
  refine bm_cc (s_aload_n hx hb dX8_spread_21) ?_
  refine bm_cc (s_iload_n hx hb dX8_spread_22) ?_
  refine bm_cc (s_iconst hx hb dX8_spread_23 (by decide)) ?_
  refine bm_cc (s_callV hx hb hml hown hts hK (C := RX8) (TT := TX8) (N := 19) (ci := 7) rfl (by decide) (k_X8_of l g) tw_164 tw_165 tw_166 tw_123 tw_163 ⟨by decide, by decide, by decide +kernel⟩ ⟨by rw [hF]; decide, by rw [hL]; decide⟩ dX8_spread_24) ?_
  refine bm_cc (s_icge hx hb dX8_spread_27 (by decide)) ?_
  refine bm_cc (s_aload_n hx hb dX8_spread_30) ?_
  refine bm_cc (s_iload_n hx hb dX8_spread_31) ?_
  refine bm_cc (s_iload hx hb dX8_spread_32) ?_
  refine bm_cc (s_callV hx hb hml hown hts hK (C := RX8) (TT := TX8) (N := 19) (ci := 7) rfl (by decide) (k_X8_firstOn l g) tw_296 tw_297 tw_298 tw_123 tw_295 ⟨by decide, by decide, by decide +kernel⟩ ⟨by rw [hF]; decide, by rw [hL]; decide⟩ dX8_spread_34) ?_
  refine bm_cc (s_istore hx hb dX8_spread_37) ?_
  refine bm_cc (s_iload hx hb dX8_spread_39) ?_
  refine bm_cc (s_iload_n hx hb dX8_spread_41) ?_
  refine bm_cc (s_icle hx hb dX8_spread_42 (by decide)) ?_
  refine bm_cc (s_iload hx hb dX8_spread_45) ?_
  refine bm_cc (s_goto hx hb dX8_spread_47 (by decide)) ?_
  refine bm_cc (s_iload_n hx hb dX8_spread_50) ?_
  refine bm_cc (s_istore_n hx hb dX8_spread_51) ?_
  refine bm_cc (s_iload_n hx hb dX8_spread_52) ?_
  refine bm_cc (s_iflt hx hb dX8_spread_53 (by decide)) ?_
  refine bm_cc (s_iload hx hb dX8_spread_56) ?_
  refine bm_cc (s_iload_n hx hb dX8_spread_58) ?_
  refine bm_cc (s_icge hx hb dX8_spread_59 (by decide)) ?_
  refine bm_cc (s_iload hx hb dX8_spread_62) ?_
  refine bm_cc (s_goto hx hb dX8_spread_64 (by decide)) ?_
  refine bm_cc (s_iload_n hx hb dX8_spread_67) ?_
  refine bm_cc (s_istore_n hx hb dX8_spread_68) ?_
  refine bm_cc (s_iinc hx hb dX8_spread_69 (by decide)) ?_
  refine bm_cc (s_goto hx hb dX8_spread_72 (by decide)) ?_
  refine bm_cc (s_iload_n hx hb dX8_spread_75) ?_
  refine bm_cc (s_ifge hx hb dX8_spread_76 (by decide)) ?_
  refine bm_cc (s_bipush hx hb dX8_spread_79 (by decide)) ?_
  refine bm_cc (s_goto hx hb dX8_spread_81 (by decide)) ?_
  refine bm_cc (s_iload_n hx hb dX8_spread_84) ?_
  refine bm_cc (s_iload_n hx hb dX8_spread_85) ?_
  refine bm_cc (s_isub hx hb dX8_spread_86) ?_
  refine bm_cc (s_iret hx hb hr hlk dX8_spread_87) ?_
  exact bm_c9

noncomputable def z_X8_isEven : List (Nat × bm_O) := [(0, op_const (1)), (1, op_istore 3), (2, op_const (0)), (3, op_istore 4), (5, op_iload 4), (7, op_aload 0), (8, op_iload 1), (9, op_const (3)), (10, op_call 1 3 (bm_rc 7) f_X8_of), (13, op_icge 86), (16, op_const (0)), (17, op_istore 5), (19, op_const (0)), (20, op_istore 6), (22, op_iload 6), (24, op_iload 2), (25, op_icge 57), (28, op_iload 5), (30, op_aload 0), (31, op_iload 6), (33, op_iload 1), (34, op_const (0)), (35, op_call 1 4 (bm_rc 7) f_X8_standing), (38, op_iload 4), (40, op_icne 47), (43, op_const (1)), (44, op_goto 48), (47, op_const (0)), (48, op_bin (fun a b => a + b)), (49, op_istore 5), (51, op_iinc 6 1), (54, op_goto 22), (57, op_iload 3), (58, op_ifeq 78), (61, op_iload 5), (63, op_aload 0), (64, op_iload 1), (65, op_const (3)), (66, op_call 1 3 (bm_rc 7) f_X8_of), (69, op_bin (fun a b => a * b)), (70, op_iload 2), (71, op_icne 78), (74, op_const (1)), (75, op_goto 79), (78, op_const (0)), (79, op_istore 3), (80, op_iinc 4 1), (83, op_goto 5), (86, op_iload 3), (87, op_zret)]
noncomputable def f_X8_isEven : bm_F := Classical.choose (bm_hide (bm_mt 7 z_X8_isEven))
theorem u_X8_isEven : f_X8_isEven = bm_mt 7 z_X8_isEven := Classical.choose_spec (bm_hide _)
theorem k_X8_isEven (l : Launch) (g : bm_G) : bm_MetF l g yX8_isEven cX8_isEven 7 (some .boolean) 2 46 f_X8_isEven := by
  rw [u_X8_isEven]
  refine bm_met (by decide) ?_
  intro p e R s m args below meth c n0 s0 hx hb hml hown hts hK hr hlk hnm hF hL
  refine bm_cc (s_iconst hx hb dX8_isEven_0 (by decide)) ?_
  refine bm_cc (s_istore_n hx hb dX8_isEven_1) ?_
  refine bm_cc (s_iconst hx hb dX8_isEven_2 (by decide)) ?_
  refine bm_cc (s_istore hx hb dX8_isEven_3) ?_
  refine bm_cc (s_iload hx hb dX8_isEven_5) ?_
  refine bm_cc (s_aload_n hx hb dX8_isEven_7) ?_
  refine bm_cc (s_iload_n hx hb dX8_isEven_8) ?_
  refine bm_cc (s_iconst hx hb dX8_isEven_9 (by decide)) ?_
  refine bm_cc (s_callV hx hb hml hown hts hK (C := RX8) (TT := TX8) (N := 19) (ci := 7) rfl (by decide) (k_X8_of l g) tw_164 tw_165 tw_166 tw_123 tw_163 ⟨by decide, by decide, by decide +kernel⟩ ⟨by rw [hF]; decide, by rw [hL]; decide⟩ dX8_isEven_10) ?_
  refine bm_cc (s_icge hx hb dX8_isEven_13 (by decide)) ?_
  refine bm_cc (s_iconst hx hb dX8_isEven_16 (by decide)) ?_
  refine bm_cc (s_istore hx hb dX8_isEven_17) ?_
  refine bm_cc (s_iconst hx hb dX8_isEven_19 (by decide)) ?_
  refine bm_cc (s_istore hx hb dX8_isEven_20) ?_
  refine bm_cc (s_iload hx hb dX8_isEven_22) ?_
  refine bm_cc (s_iload_n hx hb dX8_isEven_24) ?_
  refine bm_cc (s_icge hx hb dX8_isEven_25 (by decide)) ?_
  refine bm_cc (s_iload hx hb dX8_isEven_28) ?_
  refine bm_cc (s_aload_n hx hb dX8_isEven_30) ?_
  refine bm_cc (s_iload hx hb dX8_isEven_31) ?_
  refine bm_cc (s_iload_n hx hb dX8_isEven_33) ?_
  refine bm_cc (s_iconst hx hb dX8_isEven_34 (by decide)) ?_
  refine bm_cc (s_callV hx hb hml hown hts hK (C := RX8) (TT := TX8) (N := 19) (ci := 7) rfl (by decide) (k_X8_standing l g) tw_284 tw_285 tw_286 tw_123 tw_283 ⟨by decide, by decide, by decide +kernel⟩ ⟨by rw [hF]; decide, by rw [hL]; decide⟩ dX8_isEven_35) ?_
  refine bm_cc (s_iload hx hb dX8_isEven_38) ?_
  refine bm_cc (s_icne hx hb dX8_isEven_40 (by decide)) ?_
  refine bm_cc (s_iconst hx hb dX8_isEven_43 (by decide)) ?_
  refine bm_cc (s_goto hx hb dX8_isEven_44 (by decide)) ?_
  refine bm_cc (s_iconst hx hb dX8_isEven_47 (by decide)) ?_
  refine bm_cc (s_iadd hx hb dX8_isEven_48) ?_
  refine bm_cc (s_istore hx hb dX8_isEven_49) ?_
  refine bm_cc (s_iinc hx hb dX8_isEven_51 (by decide)) ?_
  refine bm_cc (s_goto hx hb dX8_isEven_54 (by decide)) ?_
  refine bm_cc (s_iload_n hx hb dX8_isEven_57) ?_
  refine bm_cc (s_ifeq hx hb dX8_isEven_58 (by decide)) ?_
  refine bm_cc (s_iload hx hb dX8_isEven_61) ?_
  refine bm_cc (s_aload_n hx hb dX8_isEven_63) ?_
  refine bm_cc (s_iload_n hx hb dX8_isEven_64) ?_
  refine bm_cc (s_iconst hx hb dX8_isEven_65 (by decide)) ?_
  refine bm_cc (s_callV hx hb hml hown hts hK (C := RX8) (TT := TX8) (N := 19) (ci := 7) rfl (by decide) (k_X8_of l g) tw_164 tw_165 tw_166 tw_123 tw_163 ⟨by decide, by decide, by decide +kernel⟩ ⟨by rw [hF]; decide, by rw [hL]; decide⟩ dX8_isEven_66) ?_
  refine bm_cc (s_imul hx hb dX8_isEven_69) ?_
  refine bm_cc (s_iload_n hx hb dX8_isEven_70) ?_
  refine bm_cc (s_icne hx hb dX8_isEven_71 (by decide)) ?_
  refine bm_cc (s_iconst hx hb dX8_isEven_74 (by decide)) ?_
  refine bm_cc (s_goto hx hb dX8_isEven_75 (by decide)) ?_
  refine bm_cc (s_iconst hx hb dX8_isEven_78 (by decide)) ?_
  refine bm_cc (s_istore_n hx hb dX8_isEven_79) ?_
  refine bm_cc (s_iinc hx hb dX8_isEven_80 (by decide)) ?_
  refine bm_cc (s_goto hx hb dX8_isEven_83 (by decide)) ?_
  refine bm_cc (s_iload_n hx hb dX8_isEven_86) ?_
  refine bm_cc (s_zret hx hb hr hlk dX8_isEven_87) ?_
  exact bm_c9

noncomputable def z_X8_evenVersions : List (Nat × bm_O) := [(0, op_const (1)), (1, op_istore 1), (2, op_iload 1), (3, op_const (24)), (5, op_icgt 59), (8, op_const (1)), (9, op_istore 2), (10, op_const (0)), (11, op_istore 3), (12, op_iload 3), (13, op_aload 0), (14, op_getR 7 0), (17, op_const (0)), (18, op_iaload), (19, op_icge 47), (22, op_iload 2), (23, op_ifeq 39), (26, op_aload 0), (27, op_iload 3), (28, op_iload 1), (29, op_call 1 3 (bm_rc 7) f_X8_isEven), (32, op_ifeq 39), (35, op_const (1)), (36, op_goto 40), (39, op_const (0)), (40, op_istore 2), (41, op_iinc 3 1), (44, op_goto 12), (47, op_iload 2), (48, op_ifeq 53), (51, op_iload 1), (52, op_iret), (53, op_iinc 1 1), (56, op_goto 2), (59, op_const (-4)), (61, op_iret)]
noncomputable def f_X8_evenVersions : bm_F := Classical.choose (bm_hide (bm_mt 4 z_X8_evenVersions))
theorem u_X8_evenVersions : f_X8_evenVersions = bm_mt 4 z_X8_evenVersions := Classical.choose_spec (bm_hide _)
theorem k_X8_evenVersions (l : Launch) (g : bm_G) : bm_MetF l g yX8_evenVersions cX8_evenVersions 4 (some .int) 3 72 f_X8_evenVersions := by
  rw [u_X8_evenVersions]
  refine bm_met (by decide) ?_
  intro p e R s m args below meth c n0 s0 hx hb hml hown hts hK hr hlk hnm hF hL
  refine bm_cc (s_iconst hx hb dX8_evenVersions_0 (by decide)) ?_
  refine bm_cc (s_istore_n hx hb dX8_evenVersions_1) ?_
  refine bm_cc (s_iload_n hx hb dX8_evenVersions_2) ?_
  refine bm_cc (s_bipush hx hb dX8_evenVersions_3 (by decide)) ?_
  refine bm_cc (s_icgt hx hb dX8_evenVersions_5 (by decide)) ?_
  refine bm_cc (s_iconst hx hb dX8_evenVersions_8 (by decide)) ?_
  refine bm_cc (s_istore_n hx hb dX8_evenVersions_9) ?_
  refine bm_cc (s_iconst hx hb dX8_evenVersions_10 (by decide)) ?_
  refine bm_cc (s_istore_n hx hb dX8_evenVersions_11) ?_
  refine bm_cc (s_iload_n hx hb dX8_evenVersions_12) ?_
  refine bm_cc (s_aload_n hx hb dX8_evenVersions_13) ?_
  refine bm_cc (s_getR hx hb hown hts hK (C := RX8) (TT := TX8) (N := 19) (ci := 7) (j := 0) inT8 rfl (by decide) rfl (by decide) rfl tw_83 rfl dX8_evenVersions_14) ?_
  refine bm_cc (s_iconst hx hb dX8_evenVersions_17 (by decide)) ?_
  refine bm_cc (s_iaload hx hb hK dX8_evenVersions_18) ?_
  refine bm_cc (s_icge hx hb dX8_evenVersions_19 (by decide)) ?_
  refine bm_cc (s_iload_n hx hb dX8_evenVersions_22) ?_
  refine bm_cc (s_ifeq hx hb dX8_evenVersions_23 (by decide)) ?_
  refine bm_cc (s_aload_n hx hb dX8_evenVersions_26) ?_
  refine bm_cc (s_iload_n hx hb dX8_evenVersions_27) ?_
  refine bm_cc (s_iload_n hx hb dX8_evenVersions_28) ?_
  refine bm_cc (s_callV hx hb hml hown hts hK (C := RX8) (TT := TX8) (N := 19) (ci := 7) rfl (by decide) (k_X8_isEven l g) tw_493 tw_494 tw_495 tw_123 tw_492 ⟨by decide, by decide, by decide +kernel⟩ ⟨by rw [hF]; decide, by rw [hL]; decide⟩ dX8_evenVersions_29) ?_
  refine bm_cc (s_ifeq hx hb dX8_evenVersions_32 (by decide)) ?_
  refine bm_cc (s_iconst hx hb dX8_evenVersions_35 (by decide)) ?_
  refine bm_cc (s_goto hx hb dX8_evenVersions_36 (by decide)) ?_
  refine bm_cc (s_iconst hx hb dX8_evenVersions_39 (by decide)) ?_
  refine bm_cc (s_istore_n hx hb dX8_evenVersions_40) ?_
  refine bm_cc (s_iinc hx hb dX8_evenVersions_41 (by decide)) ?_
  refine bm_cc (s_goto hx hb dX8_evenVersions_44 (by decide)) ?_
  refine bm_cc (s_iload_n hx hb dX8_evenVersions_47) ?_
  refine bm_cc (s_ifeq hx hb dX8_evenVersions_48 (by decide)) ?_
  refine bm_cc (s_iload_n hx hb dX8_evenVersions_51) ?_
  refine bm_cc (s_iret hx hb hr hlk dX8_evenVersions_52) ?_
  refine bm_cc (s_iinc hx hb dX8_evenVersions_53 (by decide)) ?_
  refine bm_cc (s_goto hx hb dX8_evenVersions_56 (by decide)) ?_
  refine bm_cc (s_bipush hx hb dX8_evenVersions_59 (by decide)) ?_
  refine bm_cc (s_iret hx hb hr hlk dX8_evenVersions_61) ?_
  exact bm_c9

noncomputable def z_X8_pages : List (Nat × bm_O) := [(0, op_aload 0), (1, op_iload 1), (2, op_call 1 2 (bm_rc 7) f_X8_lays), (5, op_aload 0), (6, op_getR 7 0), (9, op_const (2)), (10, op_iaload), (11, op_call 1 2 bm_c0 f_X8_parts), (14, op_iret)]
noncomputable def f_X8_pages : bm_F := Classical.choose (bm_hide (bm_mt 2 z_X8_pages))
theorem u_X8_pages : f_X8_pages = bm_mt 2 z_X8_pages := Classical.choose_spec (bm_hide _)
theorem k_X8_pages (l : Launch) (g : bm_G) : bm_MetF l g yX8_pages cX8_pages 2 (some .int) 5 117 f_X8_pages := by
  rw [u_X8_pages]
  refine bm_met (by decide) ?_
  intro p e R s m args below meth c n0 s0 hx hb hml hown hts hK hr hlk hnm hF hL
  refine bm_cc (s_aload_n hx hb dX8_pages_0) ?_
  refine bm_cc (s_iload_n hx hb dX8_pages_1) ?_
  refine bm_cc (s_callV hx hb hml hown hts hK (C := RX8) (TT := TX8) (N := 19) (ci := 7) rfl (by decide) (k_X8_lays l g) tw_438 tw_439 tw_440 tw_123 tw_437 ⟨by decide, by decide, by decide +kernel⟩ ⟨by rw [hF]; decide, by rw [hL]; decide⟩ dX8_pages_2) ?_
  refine bm_cc (s_aload_n hx hb dX8_pages_5) ?_
  refine bm_cc (s_getR hx hb hown hts hK (C := RX8) (TT := TX8) (N := 19) (ci := 7) (j := 0) inT8 rfl (by decide) rfl (by decide) rfl tw_83 rfl dX8_pages_6) ?_
  refine bm_cc (s_iconst hx hb dX8_pages_9 (by decide)) ?_
  refine bm_cc (s_iaload hx hb hK dX8_pages_10) ?_
  refine bm_cc (s_callS hx hb hml hown hts hK (k_X8_parts l g) tw_406 tw_407 tw_123 tw_405 ⟨by decide, by decide, by decide +kernel⟩ ⟨by rw [hF]; decide, by rw [hL]; decide⟩ dX8_pages_11) ?_
  refine bm_cc (s_iret hx hb hr hlk dX8_pages_14) ?_
  exact bm_c9

noncomputable def z_X8_bestWidth : List (Nat × bm_O) := [(0, op_iload 1), (1, op_const (0)), (2, op_const (1)), (3, op_call 1 3 bm_c0 f_X8_in), (6, op_ifne 11), (9, op_const (-1)), (10, op_iret), (11, op_aload 0), (12, op_getR 7 0), (15, op_const (4)), (16, op_iaload), (17, op_istore 2), (18, op_const (-4)), (20, op_istore 3), (21, op_const (0)), (22, op_istore 4), (24, op_const (8)), (26, op_istore 5), (28, op_iload 5), (30, op_const (40)), (32, op_icgt 74), (35, op_aload 0), (36, op_getR 7 0), (39, op_const (4)), (40, op_iload 5), (42, op_iastore), (43, op_aload 0), (44, op_const (0)), (45, op_call 1 2 (bm_rc 7) f_X8_pages), (48, op_istore 6), (50, op_iload 3), (51, op_iflt 61), (54, op_iload 6), (56, op_iload 4), (58, op_icge 68), (61, op_iload 5), (63, op_istore 3), (64, op_iload 6), (66, op_istore 4), (68, op_iinc 5 1), (71, op_goto 28), (74, op_aload 0), (75, op_getR 7 0), (78, op_const (4)), (79, op_iload 2), (80, op_iastore), (81, op_iload 1), (82, op_ifne 89), (85, op_iload 3), (86, op_goto 91), (89, op_iload 4), (91, op_iret)]
noncomputable def f_X8_bestWidth : bm_F := Classical.choose (bm_hide (bm_mt 7 z_X8_bestWidth))
theorem u_X8_bestWidth : f_X8_bestWidth = bm_mt 7 z_X8_bestWidth := Classical.choose_spec (bm_hide _)
theorem k_X8_bestWidth (l : Launch) (g : bm_G) : bm_MetF l g yX8_bestWidth cX8_bestWidth 7 (some .int) 6 138 f_X8_bestWidth := by
  rw [u_X8_bestWidth]
  refine bm_met (by decide) ?_
  intro p e R s m args below meth c n0 s0 hx hb hml hown hts hK hr hlk hnm hF hL
  refine bm_cc (s_iload_n hx hb dX8_bestWidth_0) ?_
  refine bm_cc (s_iconst hx hb dX8_bestWidth_1 (by decide)) ?_
  refine bm_cc (s_iconst hx hb dX8_bestWidth_2 (by decide)) ?_
  refine bm_cc (s_callS hx hb hml hown hts hK (k_X8_in l g) tw_125 tw_126 tw_123 tw_124 ⟨by decide, by decide, by decide +kernel⟩ ⟨by rw [hF]; decide, by rw [hL]; decide⟩ dX8_bestWidth_3) ?_
  refine bm_cc (s_ifne hx hb dX8_bestWidth_6 (by decide)) ?_
  refine bm_cc (s_iconst hx hb dX8_bestWidth_9 (by decide)) ?_
  refine bm_cc (s_iret hx hb hr hlk dX8_bestWidth_10) ?_
  refine bm_cc (s_aload_n hx hb dX8_bestWidth_11) ?_
  refine bm_cc (s_getR hx hb hown hts hK (C := RX8) (TT := TX8) (N := 19) (ci := 7) (j := 0) inT8 rfl (by decide) rfl (by decide) rfl tw_83 rfl dX8_bestWidth_12) ?_
  refine bm_cc (s_iconst hx hb dX8_bestWidth_15 (by decide)) ?_
  refine bm_cc (s_iaload hx hb hK dX8_bestWidth_16) ?_
  refine bm_cc (s_istore_n hx hb dX8_bestWidth_17) ?_
  refine bm_cc (s_bipush hx hb dX8_bestWidth_18 (by decide)) ?_
  refine bm_cc (s_istore_n hx hb dX8_bestWidth_20) ?_
  refine bm_cc (s_iconst hx hb dX8_bestWidth_21 (by decide)) ?_
  refine bm_cc (s_istore hx hb dX8_bestWidth_22) ?_
  refine bm_cc (s_bipush hx hb dX8_bestWidth_24 (by decide)) ?_
  refine bm_cc (s_istore hx hb dX8_bestWidth_26) ?_
  refine bm_cc (s_iload hx hb dX8_bestWidth_28) ?_
  refine bm_cc (s_bipush hx hb dX8_bestWidth_30 (by decide)) ?_
  refine bm_cc (s_icgt hx hb dX8_bestWidth_32 (by decide)) ?_
  refine bm_cc (s_aload_n hx hb dX8_bestWidth_35) ?_
  refine bm_cc (s_getR hx hb hown hts hK (C := RX8) (TT := TX8) (N := 19) (ci := 7) (j := 0) inT8 rfl (by decide) rfl (by decide) rfl tw_83 rfl dX8_bestWidth_36) ?_
  refine bm_cc (s_iconst hx hb dX8_bestWidth_39 (by decide)) ?_
  refine bm_cc (s_iload hx hb dX8_bestWidth_40) ?_
  refine bm_cc (s_iastore hx hb hK dX8_bestWidth_42) ?_
  refine bm_cc (s_aload_n hx hb dX8_bestWidth_43) ?_
  refine bm_cc (s_iconst hx hb dX8_bestWidth_44 (by decide)) ?_
  refine bm_cc (s_callV hx hb hml hown hts hK (C := RX8) (TT := TX8) (N := 19) (ci := 7) rfl (by decide) (k_X8_pages l g) tw_501 tw_502 tw_503 tw_123 tw_500 ⟨by decide, by decide, by decide +kernel⟩ ⟨by rw [hF]; decide, by rw [hL]; decide⟩ dX8_bestWidth_45) ?_
  refine bm_cc (s_istore hx hb dX8_bestWidth_48) ?_
  refine bm_cc (s_iload_n hx hb dX8_bestWidth_50) ?_
  refine bm_cc (s_iflt hx hb dX8_bestWidth_51 (by decide)) ?_
  refine bm_cc (s_iload hx hb dX8_bestWidth_54) ?_
  refine bm_cc (s_iload hx hb dX8_bestWidth_56) ?_
  refine bm_cc (s_icge hx hb dX8_bestWidth_58 (by decide)) ?_
  refine bm_cc (s_iload hx hb dX8_bestWidth_61) ?_
  refine bm_cc (s_istore_n hx hb dX8_bestWidth_63) ?_
  refine bm_cc (s_iload hx hb dX8_bestWidth_64) ?_
  refine bm_cc (s_istore hx hb dX8_bestWidth_66) ?_
  refine bm_cc (s_iinc hx hb dX8_bestWidth_68 (by decide)) ?_
  refine bm_cc (s_goto hx hb dX8_bestWidth_71 (by decide)) ?_
  refine bm_cc (s_aload_n hx hb dX8_bestWidth_74) ?_
  refine bm_cc (s_getR hx hb hown hts hK (C := RX8) (TT := TX8) (N := 19) (ci := 7) (j := 0) inT8 rfl (by decide) rfl (by decide) rfl tw_83 rfl dX8_bestWidth_75) ?_
  refine bm_cc (s_iconst hx hb dX8_bestWidth_78 (by decide)) ?_
  refine bm_cc (s_iload_n hx hb dX8_bestWidth_79) ?_
  refine bm_cc (s_iastore hx hb hK dX8_bestWidth_80) ?_
  refine bm_cc (s_iload_n hx hb dX8_bestWidth_81) ?_
  refine bm_cc (s_ifne hx hb dX8_bestWidth_82 (by decide)) ?_
  refine bm_cc (s_iload_n hx hb dX8_bestWidth_85) ?_
  refine bm_cc (s_goto hx hb dX8_bestWidth_86 (by decide)) ?_
  refine bm_cc (s_iload hx hb dX8_bestWidth_89) ?_
  refine bm_cc (s_iret hx hb hr hlk dX8_bestWidth_91) ?_
  exact bm_c9

noncomputable def z_X8_undo : List (Nat × bm_O) := [(0, op_aload 0), (1, op_getI 7 2), (4, op_ifne 10), (7, op_const (-2)), (9, op_iret), (10, op_aload 0), (11, op_dup), (12, op_getI 7 2), (15, op_const (1)), (16, op_bin (fun a b => a - b)), (17, op_putI 7 2), (20, op_const (0)), (21, op_istore 1), (22, op_iload 1), (23, op_const (164)), (26, op_icge 56), (29, op_aload 0), (30, op_getR 7 0), (33, op_iload 1), (34, op_aload 0), (35, op_getR 7 1), (38, op_const (164)), (41, op_aload 0), (42, op_getI 7 2), (45, op_bin (fun a b => a * b)), (46, op_iload 1), (47, op_bin (fun a b => a + b)), (48, op_iaload), (49, op_iastore), (50, op_iinc 1 1), (53, op_goto 22), (56, op_aload 0), (57, op_getI 7 2), (60, op_iret)]
noncomputable def f_X8_undo : bm_F := Classical.choose (bm_hide (bm_mt 2 z_X8_undo))
theorem u_X8_undo : f_X8_undo = bm_mt 2 z_X8_undo := Classical.choose_spec (bm_hide _)
theorem k_X8_undo (l : Launch) (g : bm_G) : bm_MetF l g yX8_undo cX8_undo 2 (some .int) 0 0 f_X8_undo := by
  rw [u_X8_undo]
  refine bm_met (by decide) ?_
  intro p e R s m args below meth c n0 s0 hx hb hml hown hts hK hr hlk hnm hF hL
  refine bm_cc (s_aload_n hx hb dX8_undo_0) ?_
  refine bm_cc (s_getI hx hb hown hts hK (C := RX8) (TT := TX8) (N := 19) (ci := 7) (j := 2) inT8 rfl (by decide) rfl (by decide) rfl tw_122 rfl dX8_undo_1) ?_
  refine bm_cc (s_ifne hx hb dX8_undo_4 (by decide)) ?_
  refine bm_cc (s_bipush hx hb dX8_undo_7 (by decide)) ?_
  refine bm_cc (s_iret hx hb hr hlk dX8_undo_9) ?_
  refine bm_cc (s_aload_n hx hb dX8_undo_10) ?_
  refine bm_cc (s_dup hx hb dX8_undo_11) ?_
  refine bm_cc (s_getI hx hb hown hts hK (C := RX8) (TT := TX8) (N := 19) (ci := 7) (j := 2) inT8 rfl (by decide) rfl (by decide) rfl tw_122 rfl dX8_undo_12) ?_
  refine bm_cc (s_iconst hx hb dX8_undo_15 (by decide)) ?_
  refine bm_cc (s_isub hx hb dX8_undo_16) ?_
  refine bm_cc (s_putI hx hb hown hts hK (C := RX8) (TT := TX8) (N := 19) (ci := 7) (j := 2) inT8 rfl (by decide) rfl (by decide) tyX8 tyX8_ok nmX8 rfl tw_122 rfl rfl (by decide +kernel) dX8_undo_17) ?_
  refine bm_cc (s_iconst hx hb dX8_undo_20 (by decide)) ?_
  refine bm_cc (s_istore_n hx hb dX8_undo_21) ?_
  refine bm_cc (s_iload_n hx hb dX8_undo_22) ?_
  refine bm_cc (s_sipush hx hb dX8_undo_23 (by decide)) ?_
  refine bm_cc (s_icge hx hb dX8_undo_26 (by decide)) ?_
  refine bm_cc (s_aload_n hx hb dX8_undo_29) ?_
  refine bm_cc (s_getR hx hb hown hts hK (C := RX8) (TT := TX8) (N := 19) (ci := 7) (j := 0) inT8 rfl (by decide) rfl (by decide) rfl tw_83 rfl dX8_undo_30) ?_
  refine bm_cc (s_iload_n hx hb dX8_undo_33) ?_
  refine bm_cc (s_aload_n hx hb dX8_undo_34) ?_
  refine bm_cc (s_getR hx hb hown hts hK (C := RX8) (TT := TX8) (N := 19) (ci := 7) (j := 1) inT8 rfl (by decide) rfl (by decide) rfl tw_84 rfl dX8_undo_35) ?_
  refine bm_cc (s_sipush hx hb dX8_undo_38 (by decide)) ?_
  refine bm_cc (s_aload_n hx hb dX8_undo_41) ?_
  refine bm_cc (s_getI hx hb hown hts hK (C := RX8) (TT := TX8) (N := 19) (ci := 7) (j := 2) inT8 rfl (by decide) rfl (by decide) rfl tw_122 rfl dX8_undo_42) ?_
  refine bm_cc (s_imul hx hb dX8_undo_45) ?_
  refine bm_cc (s_iload_n hx hb dX8_undo_46) ?_
  refine bm_cc (s_iadd hx hb dX8_undo_47) ?_
  refine bm_cc (s_iaload hx hb hK dX8_undo_48) ?_
  refine bm_cc (s_iastore hx hb hK dX8_undo_49) ?_
  refine bm_cc (s_iinc hx hb dX8_undo_50 (by decide)) ?_
  refine bm_cc (s_goto hx hb dX8_undo_53 (by decide)) ?_
  refine bm_cc (s_aload_n hx hb dX8_undo_56) ?_
  refine bm_cc (s_getI hx hb hown hts hK (C := RX8) (TT := TX8) (N := 19) (ci := 7) (j := 2) inT8 rfl (by decide) rfl (by decide) rfl tw_122 rfl dX8_undo_57) ?_
  refine bm_cc (s_iret hx hb hr hlk dX8_undo_60) ?_
  exact bm_c9

noncomputable def z_X8_type : List (Nat × bm_O) := [(0, op_iload 1), (1, op_const (32)), (3, op_const (126)), (5, op_call 1 3 bm_c0 f_X8_in), (8, op_ifne 13), (11, op_const (-1)), (12, op_iret), (13, op_aload 0), (14, op_getI 7 4), (17, op_const (40)), (19, op_icne 25), (22, op_const (-3)), (24, op_iret), (25, op_aload 0), (26, op_getR 7 3), (29, op_aload 0), (30, op_getI 7 4), (33, op_iload 1), (34, op_iastore), (35, op_aload 0), (36, op_dup), (37, op_getI 7 4), (40, op_const (1)), (41, op_bin (fun a b => a + b)), (42, op_putI 7 4), (45, op_aload 0), (46, op_getI 7 4), (49, op_iret)]
noncomputable def f_X8_type : bm_F := Classical.choose (bm_hide (bm_mt 2 z_X8_type))
theorem u_X8_type : f_X8_type = bm_mt 2 z_X8_type := Classical.choose_spec (bm_hide _)
theorem k_X8_type (l : Launch) (g : bm_G) : bm_MetF l g yX8_type cX8_type 2 (some .int) 1 22 f_X8_type := by
  rw [u_X8_type]
  refine bm_met (by decide) ?_
  intro p e R s m args below meth c n0 s0 hx hb hml hown hts hK hr hlk hnm hF hL
  refine bm_cc (s_iload_n hx hb dX8_type_0) ?_
  refine bm_cc (s_bipush hx hb dX8_type_1 (by decide)) ?_
  refine bm_cc (s_bipush hx hb dX8_type_3 (by decide)) ?_
  refine bm_cc (s_callS hx hb hml hown hts hK (k_X8_in l g) tw_125 tw_126 tw_123 tw_124 ⟨by decide, by decide, by decide +kernel⟩ ⟨by rw [hF]; decide, by rw [hL]; decide⟩ dX8_type_5) ?_
  refine bm_cc (s_ifne hx hb dX8_type_8 (by decide)) ?_
  refine bm_cc (s_iconst hx hb dX8_type_11 (by decide)) ?_
  refine bm_cc (s_iret hx hb hr hlk dX8_type_12) ?_
  refine bm_cc (s_aload_n hx hb dX8_type_13) ?_
  refine bm_cc (s_getI hx hb hown hts hK (C := RX8) (TT := TX8) (N := 19) (ci := 7) (j := 4) inT8 rfl (by decide) rfl (by decide) rfl tw_333 rfl dX8_type_14) ?_
  refine bm_cc (s_bipush hx hb dX8_type_17 (by decide)) ?_
  refine bm_cc (s_icne hx hb dX8_type_19 (by decide)) ?_
  refine bm_cc (s_bipush hx hb dX8_type_22 (by decide)) ?_
  refine bm_cc (s_iret hx hb hr hlk dX8_type_24) ?_
  refine bm_cc (s_aload_n hx hb dX8_type_25) ?_
  refine bm_cc (s_getR hx hb hown hts hK (C := RX8) (TT := TX8) (N := 19) (ci := 7) (j := 3) inT8 rfl (by decide) rfl (by decide) rfl tw_85 rfl dX8_type_26) ?_
  refine bm_cc (s_aload_n hx hb dX8_type_29) ?_
  refine bm_cc (s_getI hx hb hown hts hK (C := RX8) (TT := TX8) (N := 19) (ci := 7) (j := 4) inT8 rfl (by decide) rfl (by decide) rfl tw_333 rfl dX8_type_30) ?_
  refine bm_cc (s_iload_n hx hb dX8_type_33) ?_
  refine bm_cc (s_iastore hx hb hK dX8_type_34) ?_
  refine bm_cc (s_aload_n hx hb dX8_type_35) ?_
  refine bm_cc (s_dup hx hb dX8_type_36) ?_
  refine bm_cc (s_getI hx hb hown hts hK (C := RX8) (TT := TX8) (N := 19) (ci := 7) (j := 4) inT8 rfl (by decide) rfl (by decide) rfl tw_333 rfl dX8_type_37) ?_
  refine bm_cc (s_iconst hx hb dX8_type_40 (by decide)) ?_
  refine bm_cc (s_iadd hx hb dX8_type_41) ?_
  refine bm_cc (s_putI hx hb hown hts hK (C := RX8) (TT := TX8) (N := 19) (ci := 7) (j := 4) inT8 rfl (by decide) rfl (by decide) tyX8 tyX8_ok nmX8 rfl tw_333 rfl rfl (by decide +kernel) dX8_type_42) ?_
  refine bm_cc (s_aload_n hx hb dX8_type_45) ?_
  refine bm_cc (s_getI hx hb hown hts hK (C := RX8) (TT := TX8) (N := 19) (ci := 7) (j := 4) inT8 rfl (by decide) rfl (by decide) rfl tw_333 rfl dX8_type_46) ?_
  refine bm_cc (s_iret hx hb hr hlk dX8_type_49) ?_
  exact bm_c9

noncomputable def z_X8_clearText : List (Nat × bm_O) := [(0, op_aload 0), (1, op_getI 7 4), (4, op_istore 1), (5, op_aload 0), (6, op_const (0)), (7, op_putI 7 4), (10, op_iload 1), (11, op_iret)]
noncomputable def f_X8_clearText : bm_F := Classical.choose (bm_hide (bm_mt 2 z_X8_clearText))
theorem u_X8_clearText : f_X8_clearText = bm_mt 2 z_X8_clearText := Classical.choose_spec (bm_hide _)
theorem k_X8_clearText (l : Launch) (g : bm_G) : bm_MetF l g yX8_clearText cX8_clearText 2 (some .int) 0 0 f_X8_clearText := by
  rw [u_X8_clearText]
  refine bm_met (by decide) ?_
  intro p e R s m args below meth c n0 s0 hx hb hml hown hts hK hr hlk hnm hF hL
  refine bm_cc (s_aload_n hx hb dX8_clearText_0) ?_
  refine bm_cc (s_getI hx hb hown hts hK (C := RX8) (TT := TX8) (N := 19) (ci := 7) (j := 4) inT8 rfl (by decide) rfl (by decide) rfl tw_333 rfl dX8_clearText_1) ?_
  refine bm_cc (s_istore_n hx hb dX8_clearText_4) ?_
  refine bm_cc (s_aload_n hx hb dX8_clearText_5) ?_
  refine bm_cc (s_iconst hx hb dX8_clearText_6 (by decide)) ?_
  refine bm_cc (s_putI hx hb hown hts hK (C := RX8) (TT := TX8) (N := 19) (ci := 7) (j := 4) inT8 rfl (by decide) rfl (by decide) tyX8 tyX8_ok nmX8 rfl tw_333 rfl rfl (by decide +kernel) dX8_clearText_7) ?_
  refine bm_cc (s_iload_n hx hb dX8_clearText_10) ?_
  refine bm_cc (s_iret hx hb hr hlk dX8_clearText_11) ?_
  exact bm_c9

noncomputable def z_X8_isAt : List (Nat × bm_O) := [(0, op_aload 0), (1, op_getI 7 12), (4, op_aload 0), (5, op_getI 7 4), (8, op_icge 32), (11, op_aload 0), (12, op_getR 7 3), (15, op_aload 0), (16, op_getI 7 12), (19, op_iaload), (20, op_iload 1), (21, op_iload 2), (22, op_call 1 3 bm_c0 f_X8_in), (25, op_ifeq 32), (28, op_const (1)), (29, op_goto 33), (32, op_const (0)), (33, op_zret)]
noncomputable def f_X8_isAt : bm_F := Classical.choose (bm_hide (bm_mt 3 z_X8_isAt))
theorem u_X8_isAt : f_X8_isAt = bm_mt 3 z_X8_isAt := Classical.choose_spec (bm_hide _)
theorem k_X8_isAt (l : Launch) (g : bm_G) : bm_MetF l g yX8_isAt cX8_isAt 3 (some .boolean) 1 22 f_X8_isAt := by
  rw [u_X8_isAt]
  refine bm_met (by decide) ?_
  intro p e R s m args below meth c n0 s0 hx hb hml hown hts hK hr hlk hnm hF hL
  refine bm_cc (s_aload_n hx hb dX8_isAt_0) ?_
  refine bm_cc (s_getI hx hb hown hts hK (C := RX8) (TT := TX8) (N := 19) (ci := 7) (j := 12) inT8 rfl (by decide) rfl (by decide) rfl tw_580 rfl dX8_isAt_1) ?_
  refine bm_cc (s_aload_n hx hb dX8_isAt_4) ?_
  refine bm_cc (s_getI hx hb hown hts hK (C := RX8) (TT := TX8) (N := 19) (ci := 7) (j := 4) inT8 rfl (by decide) rfl (by decide) rfl tw_333 rfl dX8_isAt_5) ?_
  refine bm_cc (s_icge hx hb dX8_isAt_8 (by decide)) ?_
  refine bm_cc (s_aload_n hx hb dX8_isAt_11) ?_
  refine bm_cc (s_getR hx hb hown hts hK (C := RX8) (TT := TX8) (N := 19) (ci := 7) (j := 3) inT8 rfl (by decide) rfl (by decide) rfl tw_85 rfl dX8_isAt_12) ?_
  refine bm_cc (s_aload_n hx hb dX8_isAt_15) ?_
  refine bm_cc (s_getI hx hb hown hts hK (C := RX8) (TT := TX8) (N := 19) (ci := 7) (j := 12) inT8 rfl (by decide) rfl (by decide) rfl tw_580 rfl dX8_isAt_16) ?_
  refine bm_cc (s_iaload hx hb hK dX8_isAt_19) ?_
  refine bm_cc (s_iload_n hx hb dX8_isAt_20) ?_
  refine bm_cc (s_iload_n hx hb dX8_isAt_21) ?_
  refine bm_cc (s_callS hx hb hml hown hts hK (k_X8_in l g) tw_125 tw_126 tw_123 tw_124 ⟨by decide, by decide, by decide +kernel⟩ ⟨by rw [hF]; decide, by rw [hL]; decide⟩ dX8_isAt_22) ?_
  refine bm_cc (s_ifeq hx hb dX8_isAt_25 (by decide)) ?_
  refine bm_cc (s_iconst hx hb dX8_isAt_28 (by decide)) ?_
  refine bm_cc (s_goto hx hb dX8_isAt_29 (by decide)) ?_
  refine bm_cc (s_iconst hx hb dX8_isAt_32 (by decide)) ?_
  refine bm_cc (s_zret hx hb hr hlk dX8_isAt_33) ?_
  exact bm_c9

noncomputable def z_X8_readsVersion : List (Nat × bm_O) := [(0, op_aload 0), (1, op_const (48)), (3, op_const (57)), (5, op_call 1 3 (bm_rc 7) f_X8_isAt), (8, op_ifne 13), (11, op_const (0)), (12, op_zret), (13, op_aload 0), (14, op_aload 0), (15, op_getR 7 3), (18, op_aload 0), (19, op_getI 7 12), (22, op_iaload), (23, op_const (48)), (25, op_bin (fun a b => a - b)), (26, op_putI 7 14), (29, op_aload 0), (30, op_dup), (31, op_getI 7 12), (34, op_const (1)), (35, op_bin (fun a b => a + b)), (36, op_putI 7 12), (39, op_aload 0), (40, op_getI 7 14), (43, op_ifle 91), (46, op_aload 0), (47, op_const (48)), (49, op_const (57)), (51, op_call 1 3 (bm_rc 7) f_X8_isAt), (54, op_ifeq 91), (57, op_aload 0), (58, op_const (10)), (60, op_aload 0), (61, op_getI 7 14), (64, op_bin (fun a b => a * b)), (65, op_aload 0), (66, op_getR 7 3), (69, op_aload 0), (70, op_getI 7 12), (73, op_iaload), (74, op_bin (fun a b => a + b)), (75, op_const (48)), (77, op_bin (fun a b => a - b)), (78, op_putI 7 14), (81, op_aload 0), (82, op_dup), (83, op_getI 7 12), (86, op_const (1)), (87, op_bin (fun a b => a + b)), (88, op_putI 7 12), (91, op_aload 0), (92, op_const (58)), (94, op_const (58)), (96, op_call 1 3 (bm_rc 7) f_X8_isAt), (99, op_istore 1), (100, op_aload 0), (101, op_dup), (102, op_getI 7 12), (105, op_iload 1), (106, op_ifeq 113), (109, op_const (1)), (110, op_goto 114), (113, op_const (0)), (114, op_bin (fun a b => a + b)), (115, op_putI 7 12), (118, op_iload 1), (119, op_zret)]
noncomputable def f_X8_readsVersion : bm_F := Classical.choose (bm_hide (bm_mt 2 z_X8_readsVersion))
theorem u_X8_readsVersion : f_X8_readsVersion = bm_mt 2 z_X8_readsVersion := Classical.choose_spec (bm_hide _)
theorem k_X8_readsVersion (l : Launch) (g : bm_G) : bm_MetF l g yX8_readsVersion cX8_readsVersion 2 (some .boolean) 2 44 f_X8_readsVersion := by
  rw [u_X8_readsVersion]
  refine bm_met (by decide) ?_
  intro p e R s m args below meth c n0 s0 hx hb hml hown hts hK hr hlk hnm hF hL
  refine bm_cc (s_aload_n hx hb dX8_readsVersion_0) ?_
  refine bm_cc (s_bipush hx hb dX8_readsVersion_1 (by decide)) ?_
  refine bm_cc (s_bipush hx hb dX8_readsVersion_3 (by decide)) ?_
  refine bm_cc (s_callV hx hb hml hown hts hK (C := RX8) (TT := TX8) (N := 19) (ci := 7) rfl (by decide) (k_X8_isAt l g) tw_582 tw_583 tw_584 tw_123 tw_581 ⟨by decide, by decide, by decide +kernel⟩ ⟨by rw [hF]; decide, by rw [hL]; decide⟩ dX8_readsVersion_5) ?_
  refine bm_cc (s_ifne hx hb dX8_readsVersion_8 (by decide)) ?_
  refine bm_cc (s_iconst hx hb dX8_readsVersion_11 (by decide)) ?_
  refine bm_cc (s_zret hx hb hr hlk dX8_readsVersion_12) ?_
  refine bm_cc (s_aload_n hx hb dX8_readsVersion_13) ?_
  refine bm_cc (s_aload_n hx hb dX8_readsVersion_14) ?_
  refine bm_cc (s_getR hx hb hown hts hK (C := RX8) (TT := TX8) (N := 19) (ci := 7) (j := 3) inT8 rfl (by decide) rfl (by decide) rfl tw_85 rfl dX8_readsVersion_15) ?_
  refine bm_cc (s_aload_n hx hb dX8_readsVersion_18) ?_
  refine bm_cc (s_getI hx hb hown hts hK (C := RX8) (TT := TX8) (N := 19) (ci := 7) (j := 12) inT8 rfl (by decide) rfl (by decide) rfl tw_580 rfl dX8_readsVersion_19) ?_
  refine bm_cc (s_iaload hx hb hK dX8_readsVersion_22) ?_
  refine bm_cc (s_bipush hx hb dX8_readsVersion_23 (by decide)) ?_
  refine bm_cc (s_isub hx hb dX8_readsVersion_25) ?_
  refine bm_cc (s_putI hx hb hown hts hK (C := RX8) (TT := TX8) (N := 19) (ci := 7) (j := 14) inT8 rfl (by decide) rfl (by decide) tyX8 tyX8_ok nmX8 rfl tw_585 rfl rfl (by decide +kernel) dX8_readsVersion_26) ?_
  refine bm_cc (s_aload_n hx hb dX8_readsVersion_29) ?_
  refine bm_cc (s_dup hx hb dX8_readsVersion_30) ?_
  refine bm_cc (s_getI hx hb hown hts hK (C := RX8) (TT := TX8) (N := 19) (ci := 7) (j := 12) inT8 rfl (by decide) rfl (by decide) rfl tw_580 rfl dX8_readsVersion_31) ?_
  refine bm_cc (s_iconst hx hb dX8_readsVersion_34 (by decide)) ?_
  refine bm_cc (s_iadd hx hb dX8_readsVersion_35) ?_
  refine bm_cc (s_putI hx hb hown hts hK (C := RX8) (TT := TX8) (N := 19) (ci := 7) (j := 12) inT8 rfl (by decide) rfl (by decide) tyX8 tyX8_ok nmX8 rfl tw_580 rfl rfl (by decide +kernel) dX8_readsVersion_36) ?_
  refine bm_cc (s_aload_n hx hb dX8_readsVersion_39) ?_
  refine bm_cc (s_getI hx hb hown hts hK (C := RX8) (TT := TX8) (N := 19) (ci := 7) (j := 14) inT8 rfl (by decide) rfl (by decide) rfl tw_585 rfl dX8_readsVersion_40) ?_
  refine bm_cc (s_ifle hx hb dX8_readsVersion_43 (by decide)) ?_
  refine bm_cc (s_aload_n hx hb dX8_readsVersion_46) ?_
  refine bm_cc (s_bipush hx hb dX8_readsVersion_47 (by decide)) ?_
  refine bm_cc (s_bipush hx hb dX8_readsVersion_49 (by decide)) ?_
  refine bm_cc (s_callV hx hb hml hown hts hK (C := RX8) (TT := TX8) (N := 19) (ci := 7) rfl (by decide) (k_X8_isAt l g) tw_582 tw_583 tw_584 tw_123 tw_581 ⟨by decide, by decide, by decide +kernel⟩ ⟨by rw [hF]; decide, by rw [hL]; decide⟩ dX8_readsVersion_51) ?_
  refine bm_cc (s_ifeq hx hb dX8_readsVersion_54 (by decide)) ?_
  refine bm_cc (s_aload_n hx hb dX8_readsVersion_57) ?_
  refine bm_cc (s_bipush hx hb dX8_readsVersion_58 (by decide)) ?_
  refine bm_cc (s_aload_n hx hb dX8_readsVersion_60) ?_
  refine bm_cc (s_getI hx hb hown hts hK (C := RX8) (TT := TX8) (N := 19) (ci := 7) (j := 14) inT8 rfl (by decide) rfl (by decide) rfl tw_585 rfl dX8_readsVersion_61) ?_
  refine bm_cc (s_imul hx hb dX8_readsVersion_64) ?_
  refine bm_cc (s_aload_n hx hb dX8_readsVersion_65) ?_
  refine bm_cc (s_getR hx hb hown hts hK (C := RX8) (TT := TX8) (N := 19) (ci := 7) (j := 3) inT8 rfl (by decide) rfl (by decide) rfl tw_85 rfl dX8_readsVersion_66) ?_
  refine bm_cc (s_aload_n hx hb dX8_readsVersion_69) ?_
  refine bm_cc (s_getI hx hb hown hts hK (C := RX8) (TT := TX8) (N := 19) (ci := 7) (j := 12) inT8 rfl (by decide) rfl (by decide) rfl tw_580 rfl dX8_readsVersion_70) ?_
  refine bm_cc (s_iaload hx hb hK dX8_readsVersion_73) ?_
  refine bm_cc (s_iadd hx hb dX8_readsVersion_74) ?_
  refine bm_cc (s_bipush hx hb dX8_readsVersion_75 (by decide)) ?_
  refine bm_cc (s_isub hx hb dX8_readsVersion_77) ?_
  refine bm_cc (s_putI hx hb hown hts hK (C := RX8) (TT := TX8) (N := 19) (ci := 7) (j := 14) inT8 rfl (by decide) rfl (by decide) tyX8 tyX8_ok nmX8 rfl tw_585 rfl rfl (by decide +kernel) dX8_readsVersion_78) ?_
  refine bm_cc (s_aload_n hx hb dX8_readsVersion_81) ?_
  refine bm_cc (s_dup hx hb dX8_readsVersion_82) ?_
  refine bm_cc (s_getI hx hb hown hts hK (C := RX8) (TT := TX8) (N := 19) (ci := 7) (j := 12) inT8 rfl (by decide) rfl (by decide) rfl tw_580 rfl dX8_readsVersion_83) ?_
  refine bm_cc (s_iconst hx hb dX8_readsVersion_86 (by decide)) ?_
  refine bm_cc (s_iadd hx hb dX8_readsVersion_87) ?_
  refine bm_cc (s_putI hx hb hown hts hK (C := RX8) (TT := TX8) (N := 19) (ci := 7) (j := 12) inT8 rfl (by decide) rfl (by decide) tyX8 tyX8_ok nmX8 rfl tw_580 rfl rfl (by decide +kernel) dX8_readsVersion_88) ?_
  refine bm_cc (s_aload_n hx hb dX8_readsVersion_91) ?_
  refine bm_cc (s_bipush hx hb dX8_readsVersion_92 (by decide)) ?_
  refine bm_cc (s_bipush hx hb dX8_readsVersion_94 (by decide)) ?_
  refine bm_cc (s_callV hx hb hml hown hts hK (C := RX8) (TT := TX8) (N := 19) (ci := 7) rfl (by decide) (k_X8_isAt l g) tw_582 tw_583 tw_584 tw_123 tw_581 ⟨by decide, by decide, by decide +kernel⟩ ⟨by rw [hF]; decide, by rw [hL]; decide⟩ dX8_readsVersion_96) ?_
  refine bm_cc (s_istore_n hx hb dX8_readsVersion_99) ?_
  refine bm_cc (s_aload_n hx hb dX8_readsVersion_100) ?_
  refine bm_cc (s_dup hx hb dX8_readsVersion_101) ?_
  refine bm_cc (s_getI hx hb hown hts hK (C := RX8) (TT := TX8) (N := 19) (ci := 7) (j := 12) inT8 rfl (by decide) rfl (by decide) rfl tw_580 rfl dX8_readsVersion_102) ?_
  refine bm_cc (s_iload_n hx hb dX8_readsVersion_105) ?_
  refine bm_cc (s_ifeq hx hb dX8_readsVersion_106 (by decide)) ?_
  refine bm_cc (s_iconst hx hb dX8_readsVersion_109 (by decide)) ?_
  refine bm_cc (s_goto hx hb dX8_readsVersion_110 (by decide)) ?_
  refine bm_cc (s_iconst hx hb dX8_readsVersion_113 (by decide)) ?_
  refine bm_cc (s_iadd hx hb dX8_readsVersion_114) ?_
  refine bm_cc (s_putI hx hb hown hts hK (C := RX8) (TT := TX8) (N := 19) (ci := 7) (j := 12) inT8 rfl (by decide) rfl (by decide) tyX8 tyX8_ok nmX8 rfl tw_580 rfl rfl (by decide +kernel) dX8_readsVersion_115) ?_
  refine bm_cc (s_iload_n hx hb dX8_readsVersion_118) ?_
  refine bm_cc (s_zret hx hb hr hlk dX8_readsVersion_119) ?_
  exact bm_c9

noncomputable def z_X8_readsMark : List (Nat × bm_O) := [(0, op_aload 0), (1, op_getI 7 12), (4, op_istore 1), (5, op_aload 0), (6, op_const (97)), (8, op_const (102)), (10, op_call 1 3 (bm_rc 7) f_X8_isAt), (13, op_ifne 18), (16, op_const (0)), (17, op_zret), (18, op_aload 0), (19, op_dup), (20, op_getI 7 12), (23, op_const (1)), (24, op_bin (fun a b => a + b)), (25, op_putI 7 12), (28, op_aload 0), (29, op_const (48)), (31, op_const (57)), (33, op_call 1 3 (bm_rc 7) f_X8_isAt), (36, op_ifne 41), (39, op_const (0)), (40, op_zret), (41, op_aload 0), (42, op_getR 7 16), (45, op_aload 0), (46, op_getI 7 15), (49, op_iload 1), (50, op_iastore), (51, op_aload 0), (52, op_getR 7 17), (55, op_aload 0), (56, op_getI 7 15), (59, op_aload 0), (60, op_getR 7 3), (63, op_iload 1), (64, op_iaload), (65, op_const (97)), (67, op_bin (fun a b => a - b)), (68, op_iastore), (69, op_aload 0), (70, op_getR 7 18), (73, op_aload 0), (74, op_getI 7 15), (77, op_aload 0), (78, op_getR 7 3), (81, op_aload 0), (82, op_getI 7 12), (85, op_iaload), (86, op_const (48)), (88, op_bin (fun a b => a - b)), (89, op_iastore), (90, op_aload 0), (91, op_dup), (92, op_getI 7 15), (95, op_const (1)), (96, op_bin (fun a b => a + b)), (97, op_putI 7 15), (100, op_aload 0), (101, op_dup), (102, op_getI 7 12), (105, op_const (1)), (106, op_bin (fun a b => a + b)), (107, op_putI 7 12), (110, op_const (1)), (111, op_zret)]
noncomputable def f_X8_readsMark : bm_F := Classical.choose (bm_hide (bm_mt 2 z_X8_readsMark))
theorem u_X8_readsMark : f_X8_readsMark = bm_mt 2 z_X8_readsMark := Classical.choose_spec (bm_hide _)
theorem k_X8_readsMark (l : Launch) (g : bm_G) : bm_MetF l g yX8_readsMark cX8_readsMark 2 (some .boolean) 2 44 f_X8_readsMark := by
  rw [u_X8_readsMark]
  refine bm_met (by decide) ?_
  intro p e R s m args below meth c n0 s0 hx hb hml hown hts hK hr hlk hnm hF hL
  refine bm_cc (s_aload_n hx hb dX8_readsMark_0) ?_
  refine bm_cc (s_getI hx hb hown hts hK (C := RX8) (TT := TX8) (N := 19) (ci := 7) (j := 12) inT8 rfl (by decide) rfl (by decide) rfl tw_580 rfl dX8_readsMark_1) ?_
  refine bm_cc (s_istore_n hx hb dX8_readsMark_4) ?_
  refine bm_cc (s_aload_n hx hb dX8_readsMark_5) ?_
  refine bm_cc (s_bipush hx hb dX8_readsMark_6 (by decide)) ?_
  refine bm_cc (s_bipush hx hb dX8_readsMark_8 (by decide)) ?_
  refine bm_cc (s_callV hx hb hml hown hts hK (C := RX8) (TT := TX8) (N := 19) (ci := 7) rfl (by decide) (k_X8_isAt l g) tw_582 tw_583 tw_584 tw_123 tw_581 ⟨by decide, by decide, by decide +kernel⟩ ⟨by rw [hF]; decide, by rw [hL]; decide⟩ dX8_readsMark_10) ?_
  refine bm_cc (s_ifne hx hb dX8_readsMark_13 (by decide)) ?_
  refine bm_cc (s_iconst hx hb dX8_readsMark_16 (by decide)) ?_
  refine bm_cc (s_zret hx hb hr hlk dX8_readsMark_17) ?_
  refine bm_cc (s_aload_n hx hb dX8_readsMark_18) ?_
  refine bm_cc (s_dup hx hb dX8_readsMark_19) ?_
  refine bm_cc (s_getI hx hb hown hts hK (C := RX8) (TT := TX8) (N := 19) (ci := 7) (j := 12) inT8 rfl (by decide) rfl (by decide) rfl tw_580 rfl dX8_readsMark_20) ?_
  refine bm_cc (s_iconst hx hb dX8_readsMark_23 (by decide)) ?_
  refine bm_cc (s_iadd hx hb dX8_readsMark_24) ?_
  refine bm_cc (s_putI hx hb hown hts hK (C := RX8) (TT := TX8) (N := 19) (ci := 7) (j := 12) inT8 rfl (by decide) rfl (by decide) tyX8 tyX8_ok nmX8 rfl tw_580 rfl rfl (by decide +kernel) dX8_readsMark_25) ?_
  refine bm_cc (s_aload_n hx hb dX8_readsMark_28) ?_
  refine bm_cc (s_bipush hx hb dX8_readsMark_29 (by decide)) ?_
  refine bm_cc (s_bipush hx hb dX8_readsMark_31 (by decide)) ?_
  refine bm_cc (s_callV hx hb hml hown hts hK (C := RX8) (TT := TX8) (N := 19) (ci := 7) rfl (by decide) (k_X8_isAt l g) tw_582 tw_583 tw_584 tw_123 tw_581 ⟨by decide, by decide, by decide +kernel⟩ ⟨by rw [hF]; decide, by rw [hL]; decide⟩ dX8_readsMark_33) ?_
  refine bm_cc (s_ifne hx hb dX8_readsMark_36 (by decide)) ?_
  refine bm_cc (s_iconst hx hb dX8_readsMark_39 (by decide)) ?_
  refine bm_cc (s_zret hx hb hr hlk dX8_readsMark_40) ?_
  refine bm_cc (s_aload_n hx hb dX8_readsMark_41) ?_
  refine bm_cc (s_getR hx hb hown hts hK (C := RX8) (TT := TX8) (N := 19) (ci := 7) (j := 16) inT8 rfl (by decide) rfl (by decide) rfl tw_88 rfl dX8_readsMark_42) ?_
  refine bm_cc (s_aload_n hx hb dX8_readsMark_45) ?_
  refine bm_cc (s_getI hx hb hown hts hK (C := RX8) (TT := TX8) (N := 19) (ci := 7) (j := 15) inT8 rfl (by decide) rfl (by decide) rfl tw_586 rfl dX8_readsMark_46) ?_
  refine bm_cc (s_iload_n hx hb dX8_readsMark_49) ?_
  refine bm_cc (s_iastore hx hb hK dX8_readsMark_50) ?_
  refine bm_cc (s_aload_n hx hb dX8_readsMark_51) ?_
  refine bm_cc (s_getR hx hb hown hts hK (C := RX8) (TT := TX8) (N := 19) (ci := 7) (j := 17) inT8 rfl (by decide) rfl (by decide) rfl tw_89 rfl dX8_readsMark_52) ?_
  refine bm_cc (s_aload_n hx hb dX8_readsMark_55) ?_
  refine bm_cc (s_getI hx hb hown hts hK (C := RX8) (TT := TX8) (N := 19) (ci := 7) (j := 15) inT8 rfl (by decide) rfl (by decide) rfl tw_586 rfl dX8_readsMark_56) ?_
  refine bm_cc (s_aload_n hx hb dX8_readsMark_59) ?_
  refine bm_cc (s_getR hx hb hown hts hK (C := RX8) (TT := TX8) (N := 19) (ci := 7) (j := 3) inT8 rfl (by decide) rfl (by decide) rfl tw_85 rfl dX8_readsMark_60) ?_
  refine bm_cc (s_iload_n hx hb dX8_readsMark_63) ?_
  refine bm_cc (s_iaload hx hb hK dX8_readsMark_64) ?_
  refine bm_cc (s_bipush hx hb dX8_readsMark_65 (by decide)) ?_
  refine bm_cc (s_isub hx hb dX8_readsMark_67) ?_
  refine bm_cc (s_iastore hx hb hK dX8_readsMark_68) ?_
  refine bm_cc (s_aload_n hx hb dX8_readsMark_69) ?_
  refine bm_cc (s_getR hx hb hown hts hK (C := RX8) (TT := TX8) (N := 19) (ci := 7) (j := 18) inT8 rfl (by decide) rfl (by decide) rfl tw_90 rfl dX8_readsMark_70) ?_
  refine bm_cc (s_aload_n hx hb dX8_readsMark_73) ?_
  refine bm_cc (s_getI hx hb hown hts hK (C := RX8) (TT := TX8) (N := 19) (ci := 7) (j := 15) inT8 rfl (by decide) rfl (by decide) rfl tw_586 rfl dX8_readsMark_74) ?_
  refine bm_cc (s_aload_n hx hb dX8_readsMark_77) ?_
  refine bm_cc (s_getR hx hb hown hts hK (C := RX8) (TT := TX8) (N := 19) (ci := 7) (j := 3) inT8 rfl (by decide) rfl (by decide) rfl tw_85 rfl dX8_readsMark_78) ?_
  refine bm_cc (s_aload_n hx hb dX8_readsMark_81) ?_
  refine bm_cc (s_getI hx hb hown hts hK (C := RX8) (TT := TX8) (N := 19) (ci := 7) (j := 12) inT8 rfl (by decide) rfl (by decide) rfl tw_580 rfl dX8_readsMark_82) ?_
  refine bm_cc (s_iaload hx hb hK dX8_readsMark_85) ?_
  refine bm_cc (s_bipush hx hb dX8_readsMark_86 (by decide)) ?_
  refine bm_cc (s_isub hx hb dX8_readsMark_88) ?_
  refine bm_cc (s_iastore hx hb hK dX8_readsMark_89) ?_
  refine bm_cc (s_aload_n hx hb dX8_readsMark_90) ?_
  refine bm_cc (s_dup hx hb dX8_readsMark_91) ?_
  refine bm_cc (s_getI hx hb hown hts hK (C := RX8) (TT := TX8) (N := 19) (ci := 7) (j := 15) inT8 rfl (by decide) rfl (by decide) rfl tw_586 rfl dX8_readsMark_92) ?_
  refine bm_cc (s_iconst hx hb dX8_readsMark_95 (by decide)) ?_
  refine bm_cc (s_iadd hx hb dX8_readsMark_96) ?_
  refine bm_cc (s_putI hx hb hown hts hK (C := RX8) (TT := TX8) (N := 19) (ci := 7) (j := 15) inT8 rfl (by decide) rfl (by decide) tyX8 tyX8_ok nmX8 rfl tw_586 rfl rfl (by decide +kernel) dX8_readsMark_97) ?_
  refine bm_cc (s_aload_n hx hb dX8_readsMark_100) ?_
  refine bm_cc (s_dup hx hb dX8_readsMark_101) ?_
  refine bm_cc (s_getI hx hb hown hts hK (C := RX8) (TT := TX8) (N := 19) (ci := 7) (j := 12) inT8 rfl (by decide) rfl (by decide) rfl tw_580 rfl dX8_readsMark_102) ?_
  refine bm_cc (s_iconst hx hb dX8_readsMark_105 (by decide)) ?_
  refine bm_cc (s_iadd hx hb dX8_readsMark_106) ?_
  refine bm_cc (s_putI hx hb hown hts hK (C := RX8) (TT := TX8) (N := 19) (ci := 7) (j := 12) inT8 rfl (by decide) rfl (by decide) tyX8 tyX8_ok nmX8 rfl tw_580 rfl rfl (by decide +kernel) dX8_readsMark_107) ?_
  refine bm_cc (s_iconst hx hb dX8_readsMark_110 (by decide)) ?_
  refine bm_cc (s_zret hx hb hr hlk dX8_readsMark_111) ?_
  exact bm_c9

noncomputable def z_X8_isFormed : List (Nat × bm_O) := [(0, op_aload 0), (1, op_const (0)), (2, op_putI 7 12), (5, op_aload 0), (6, op_const (0)), (7, op_putI 7 15), (10, op_aload 0), (11, op_call 1 1 (bm_rc 7) f_X8_readsVersion), (14, op_istore 1), (15, op_iload 1), (16, op_ifeq 68), (19, op_aload 0), (20, op_getI 7 12), (23, op_aload 0), (24, op_getI 7 4), (27, op_icge 68), (30, op_aload 0), (31, op_call 1 1 (bm_rc 7) f_X8_readsMark), (34, op_istore 1), (35, op_iload 1), (36, op_ifeq 68), (39, op_aload 0), (40, op_const (44)), (42, op_const (44)), (44, op_call 1 3 (bm_rc 7) f_X8_isAt), (47, op_ifeq 68), (50, op_aload 0), (51, op_dup), (52, op_getI 7 12), (55, op_const (1)), (56, op_bin (fun a b => a + b)), (57, op_putI 7 12), (60, op_aload 0), (61, op_call 1 1 (bm_rc 7) f_X8_readsMark), (64, op_istore 1), (65, op_goto 35), (68, op_iload 1), (69, op_ifeq 87), (72, op_aload 0), (73, op_getI 7 12), (76, op_aload 0), (77, op_getI 7 4), (80, op_icne 87), (83, op_const (1)), (84, op_goto 88), (87, op_const (0)), (88, op_zret)]
noncomputable def f_X8_isFormed : bm_F := Classical.choose (bm_hide (bm_mt 2 z_X8_isFormed))
theorem u_X8_isFormed : f_X8_isFormed = bm_mt 2 z_X8_isFormed := Classical.choose_spec (bm_hide _)
theorem k_X8_isFormed (l : Launch) (g : bm_G) : bm_MetF l g yX8_isFormed cX8_isFormed 2 (some .boolean) 3 65 f_X8_isFormed := by
  rw [u_X8_isFormed]
  refine bm_met (by decide) ?_
  intro p e R s m args below meth c n0 s0 hx hb hml hown hts hK hr hlk hnm hF hL
  refine bm_cc (s_aload_n hx hb dX8_isFormed_0) ?_
  refine bm_cc (s_iconst hx hb dX8_isFormed_1 (by decide)) ?_
  refine bm_cc (s_putI hx hb hown hts hK (C := RX8) (TT := TX8) (N := 19) (ci := 7) (j := 12) inT8 rfl (by decide) rfl (by decide) tyX8 tyX8_ok nmX8 rfl tw_580 rfl rfl (by decide +kernel) dX8_isFormed_2) ?_
  refine bm_cc (s_aload_n hx hb dX8_isFormed_5) ?_
  refine bm_cc (s_iconst hx hb dX8_isFormed_6 (by decide)) ?_
  refine bm_cc (s_putI hx hb hown hts hK (C := RX8) (TT := TX8) (N := 19) (ci := 7) (j := 15) inT8 rfl (by decide) rfl (by decide) tyX8 tyX8_ok nmX8 rfl tw_586 rfl rfl (by decide +kernel) dX8_isFormed_7) ?_
  refine bm_cc (s_aload_n hx hb dX8_isFormed_10) ?_
  refine bm_cc (s_callV hx hb hml hown hts hK (C := RX8) (TT := TX8) (N := 19) (ci := 7) rfl (by decide) (k_X8_readsVersion l g) tw_588 tw_589 tw_590 tw_123 tw_587 ⟨by decide, by decide, by decide +kernel⟩ ⟨by rw [hF]; decide, by rw [hL]; decide⟩ dX8_isFormed_11) ?_
  refine bm_cc (s_istore_n hx hb dX8_isFormed_14) ?_
  refine bm_cc (s_iload_n hx hb dX8_isFormed_15) ?_
  refine bm_cc (s_ifeq hx hb dX8_isFormed_16 (by decide)) ?_
  refine bm_cc (s_aload_n hx hb dX8_isFormed_19) ?_
  refine bm_cc (s_getI hx hb hown hts hK (C := RX8) (TT := TX8) (N := 19) (ci := 7) (j := 12) inT8 rfl (by decide) rfl (by decide) rfl tw_580 rfl dX8_isFormed_20) ?_
  refine bm_cc (s_aload_n hx hb dX8_isFormed_23) ?_
  refine bm_cc (s_getI hx hb hown hts hK (C := RX8) (TT := TX8) (N := 19) (ci := 7) (j := 4) inT8 rfl (by decide) rfl (by decide) rfl tw_333 rfl dX8_isFormed_24) ?_
  refine bm_cc (s_icge hx hb dX8_isFormed_27 (by decide)) ?_
  refine bm_cc (s_aload_n hx hb dX8_isFormed_30) ?_
  refine bm_cc (s_callV hx hb hml hown hts hK (C := RX8) (TT := TX8) (N := 19) (ci := 7) rfl (by decide) (k_X8_readsMark l g) tw_592 tw_593 tw_594 tw_123 tw_591 ⟨by decide, by decide, by decide +kernel⟩ ⟨by rw [hF]; decide, by rw [hL]; decide⟩ dX8_isFormed_31) ?_
  refine bm_cc (s_istore_n hx hb dX8_isFormed_34) ?_
  refine bm_cc (s_iload_n hx hb dX8_isFormed_35) ?_
  refine bm_cc (s_ifeq hx hb dX8_isFormed_36 (by decide)) ?_
  refine bm_cc (s_aload_n hx hb dX8_isFormed_39) ?_
  refine bm_cc (s_bipush hx hb dX8_isFormed_40 (by decide)) ?_
  refine bm_cc (s_bipush hx hb dX8_isFormed_42 (by decide)) ?_
  refine bm_cc (s_callV hx hb hml hown hts hK (C := RX8) (TT := TX8) (N := 19) (ci := 7) rfl (by decide) (k_X8_isAt l g) tw_582 tw_583 tw_584 tw_123 tw_581 ⟨by decide, by decide, by decide +kernel⟩ ⟨by rw [hF]; decide, by rw [hL]; decide⟩ dX8_isFormed_44) ?_
  refine bm_cc (s_ifeq hx hb dX8_isFormed_47 (by decide)) ?_
  refine bm_cc (s_aload_n hx hb dX8_isFormed_50) ?_
  refine bm_cc (s_dup hx hb dX8_isFormed_51) ?_
  refine bm_cc (s_getI hx hb hown hts hK (C := RX8) (TT := TX8) (N := 19) (ci := 7) (j := 12) inT8 rfl (by decide) rfl (by decide) rfl tw_580 rfl dX8_isFormed_52) ?_
  refine bm_cc (s_iconst hx hb dX8_isFormed_55 (by decide)) ?_
  refine bm_cc (s_iadd hx hb dX8_isFormed_56) ?_
  refine bm_cc (s_putI hx hb hown hts hK (C := RX8) (TT := TX8) (N := 19) (ci := 7) (j := 12) inT8 rfl (by decide) rfl (by decide) tyX8 tyX8_ok nmX8 rfl tw_580 rfl rfl (by decide +kernel) dX8_isFormed_57) ?_
  refine bm_cc (s_aload_n hx hb dX8_isFormed_60) ?_
  refine bm_cc (s_callV hx hb hml hown hts hK (C := RX8) (TT := TX8) (N := 19) (ci := 7) rfl (by decide) (k_X8_readsMark l g) tw_592 tw_593 tw_594 tw_123 tw_591 ⟨by decide, by decide, by decide +kernel⟩ ⟨by rw [hF]; decide, by rw [hL]; decide⟩ dX8_isFormed_61) ?_
  refine bm_cc (s_istore_n hx hb dX8_isFormed_64) ?_
  refine bm_cc (s_goto hx hb dX8_isFormed_65 (by decide)) ?_
  refine bm_cc (s_iload_n hx hb dX8_isFormed_68) ?_
  refine bm_cc (s_ifeq hx hb dX8_isFormed_69 (by decide)) ?_
  refine bm_cc (s_aload_n hx hb dX8_isFormed_72) ?_
  refine bm_cc (s_getI hx hb hown hts hK (C := RX8) (TT := TX8) (N := 19) (ci := 7) (j := 12) inT8 rfl (by decide) rfl (by decide) rfl tw_580 rfl dX8_isFormed_73) ?_
  refine bm_cc (s_aload_n hx hb dX8_isFormed_76) ?_
  refine bm_cc (s_getI hx hb hown hts hK (C := RX8) (TT := TX8) (N := 19) (ci := 7) (j := 4) inT8 rfl (by decide) rfl (by decide) rfl tw_333 rfl dX8_isFormed_77) ?_
  refine bm_cc (s_icne hx hb dX8_isFormed_80 (by decide)) ?_
  refine bm_cc (s_iconst hx hb dX8_isFormed_83 (by decide)) ?_
  refine bm_cc (s_goto hx hb dX8_isFormed_84 (by decide)) ?_
  refine bm_cc (s_iconst hx hb dX8_isFormed_87 (by decide)) ?_
  refine bm_cc (s_zret hx hb hr hlk dX8_isFormed_88) ?_
  exact bm_c9

noncomputable def z_X8_isTwice : List (Nat × bm_O) := [(0, op_const (0)), (1, op_istore 2), (2, op_const (0)), (3, op_istore 3), (4, op_iload 3), (5, op_iload 1), (6, op_icge 55), (9, op_iload 2), (10, op_ifne 43), (13, op_aload 0), (14, op_getR 7 17), (17, op_iload 3), (18, op_iaload), (19, op_aload 0), (20, op_getR 7 17), (23, op_iload 1), (24, op_iaload), (25, op_icne 47), (28, op_aload 0), (29, op_getR 7 18), (32, op_iload 3), (33, op_iaload), (34, op_aload 0), (35, op_getR 7 18), (38, op_iload 1), (39, op_iaload), (40, op_icne 47), (43, op_const (1)), (44, op_goto 48), (47, op_const (0)), (48, op_istore 2), (49, op_iinc 3 1), (52, op_goto 4), (55, op_iload 2), (56, op_zret)]
noncomputable def f_X8_isTwice : bm_F := Classical.choose (bm_hide (bm_mt 4 z_X8_isTwice))
theorem u_X8_isTwice : f_X8_isTwice = bm_mt 4 z_X8_isTwice := Classical.choose_spec (bm_hide _)
theorem k_X8_isTwice (l : Launch) (g : bm_G) : bm_MetF l g yX8_isTwice cX8_isTwice 4 (some .boolean) 0 0 f_X8_isTwice := by
  rw [u_X8_isTwice]
  refine bm_met (by decide) ?_
  intro p e R s m args below meth c n0 s0 hx hb hml hown hts hK hr hlk hnm hF hL
  refine bm_cc (s_iconst hx hb dX8_isTwice_0 (by decide)) ?_
  refine bm_cc (s_istore_n hx hb dX8_isTwice_1) ?_
  refine bm_cc (s_iconst hx hb dX8_isTwice_2 (by decide)) ?_
  refine bm_cc (s_istore_n hx hb dX8_isTwice_3) ?_
  refine bm_cc (s_iload_n hx hb dX8_isTwice_4) ?_
  refine bm_cc (s_iload_n hx hb dX8_isTwice_5) ?_
  refine bm_cc (s_icge hx hb dX8_isTwice_6 (by decide)) ?_
  refine bm_cc (s_iload_n hx hb dX8_isTwice_9) ?_
  refine bm_cc (s_ifne hx hb dX8_isTwice_10 (by decide)) ?_
  refine bm_cc (s_aload_n hx hb dX8_isTwice_13) ?_
  refine bm_cc (s_getR hx hb hown hts hK (C := RX8) (TT := TX8) (N := 19) (ci := 7) (j := 17) inT8 rfl (by decide) rfl (by decide) rfl tw_89 rfl dX8_isTwice_14) ?_
  refine bm_cc (s_iload_n hx hb dX8_isTwice_17) ?_
  refine bm_cc (s_iaload hx hb hK dX8_isTwice_18) ?_
  refine bm_cc (s_aload_n hx hb dX8_isTwice_19) ?_
  refine bm_cc (s_getR hx hb hown hts hK (C := RX8) (TT := TX8) (N := 19) (ci := 7) (j := 17) inT8 rfl (by decide) rfl (by decide) rfl tw_89 rfl dX8_isTwice_20) ?_
  refine bm_cc (s_iload_n hx hb dX8_isTwice_23) ?_
  refine bm_cc (s_iaload hx hb hK dX8_isTwice_24) ?_
  refine bm_cc (s_icne hx hb dX8_isTwice_25 (by decide)) ?_
  refine bm_cc (s_aload_n hx hb dX8_isTwice_28) ?_
  refine bm_cc (s_getR hx hb hown hts hK (C := RX8) (TT := TX8) (N := 19) (ci := 7) (j := 18) inT8 rfl (by decide) rfl (by decide) rfl tw_90 rfl dX8_isTwice_29) ?_
  refine bm_cc (s_iload_n hx hb dX8_isTwice_32) ?_
  refine bm_cc (s_iaload hx hb hK dX8_isTwice_33) ?_
  refine bm_cc (s_aload_n hx hb dX8_isTwice_34) ?_
  refine bm_cc (s_getR hx hb hown hts hK (C := RX8) (TT := TX8) (N := 19) (ci := 7) (j := 18) inT8 rfl (by decide) rfl (by decide) rfl tw_90 rfl dX8_isTwice_35) ?_
  refine bm_cc (s_iload_n hx hb dX8_isTwice_38) ?_
  refine bm_cc (s_iaload hx hb hK dX8_isTwice_39) ?_
  refine bm_cc (s_icne hx hb dX8_isTwice_40 (by decide)) ?_
  refine bm_cc (s_iconst hx hb dX8_isTwice_43 (by decide)) ?_
  refine bm_cc (s_goto hx hb dX8_isTwice_44 (by decide)) ?_
  refine bm_cc (s_iconst hx hb dX8_isTwice_47 (by decide)) ?_
  refine bm_cc (s_istore_n hx hb dX8_isTwice_48) ?_
  refine bm_cc (s_iinc hx hb dX8_isTwice_49 (by decide)) ?_
  refine bm_cc (s_goto hx hb dX8_isTwice_52 (by decide)) ?_
  refine bm_cc (s_iload_n hx hb dX8_isTwice_55) ?_
  refine bm_cc (s_zret hx hb hr hlk dX8_isTwice_56) ?_
  exact bm_c9

noncomputable def z_X8_isRight : List (Nat × bm_O) := [(0, op_aload 0), (1, op_const (1)), (2, op_putI 7 13), (5, op_aload 0), (6, op_call 1 1 (bm_rc 7) f_X8_isFormed), (9, op_ifne 14), (12, op_const (0)), (13, op_zret), (14, op_aload 0), (15, op_const (0)), (16, op_putI 7 13), (19, op_aload 0), (20, op_aload 0), (21, op_getI 7 14), (24, op_call 1 2 (bm_rc 7) f_X8_isVersion), (27, op_ifne 40), (30, op_aload 0), (31, op_const (0)), (32, op_putI 7 12), (35, op_aload 0), (36, op_const (2)), (37, op_putI 7 13), (40, op_const (0)), (41, op_istore 1), (42, op_iload 1), (43, op_aload 0), (44, op_getI 7 15), (47, op_icge 113), (50, op_aload 0), (51, op_getI 7 13), (54, op_ifne 113), (57, op_aload 0), (58, op_aload 0), (59, op_getR 7 16), (62, op_iload 1), (63, op_iaload), (64, op_putI 7 12), (67, op_aload 0), (68, op_aload 0), (69, op_aload 0), (70, op_getR 7 17), (73, op_iload 1), (74, op_iaload), (75, op_aload 0), (76, op_getR 7 18), (79, op_iload 1), (80, op_iaload), (81, op_call 1 3 (bm_rc 7) f_X8_isName), (84, op_ifne 91), (87, op_const (3)), (88, op_goto 104), (91, op_aload 0), (92, op_iload 1), (93, op_call 1 2 (bm_rc 7) f_X8_isTwice), (96, op_ifeq 103), (99, op_const (4)), (100, op_goto 104), (103, op_const (0)), (104, op_putI 7 13), (107, op_iinc 1 1), (110, op_goto 42), (113, op_aload 0), (114, op_getI 7 13), (117, op_ifne 124), (120, op_const (1)), (121, op_goto 125), (124, op_const (0)), (125, op_zret)]
noncomputable def f_X8_isRight : bm_F := Classical.choose (bm_hide (bm_mt 2 z_X8_isRight))
theorem u_X8_isRight : f_X8_isRight = bm_mt 2 z_X8_isRight := Classical.choose_spec (bm_hide _)
theorem k_X8_isRight (l : Launch) (g : bm_G) : bm_MetF l g yX8_isRight cX8_isRight 2 (some .boolean) 4 86 f_X8_isRight := by
  rw [u_X8_isRight]
  refine bm_met (by decide) ?_
  intro p e R s m args below meth c n0 s0 hx hb hml hown hts hK hr hlk hnm hF hL
  refine bm_cc (s_aload_n hx hb dX8_isRight_0) ?_
  refine bm_cc (s_iconst hx hb dX8_isRight_1 (by decide)) ?_
  refine bm_cc (s_putI hx hb hown hts hK (C := RX8) (TT := TX8) (N := 19) (ci := 7) (j := 13) inT8 rfl (by decide) rfl (by decide) tyX8 tyX8_ok nmX8 rfl tw_595 rfl rfl (by decide +kernel) dX8_isRight_2) ?_
  refine bm_cc (s_aload_n hx hb dX8_isRight_5) ?_
  refine bm_cc (s_callV hx hb hml hown hts hK (C := RX8) (TT := TX8) (N := 19) (ci := 7) rfl (by decide) (k_X8_isFormed l g) tw_597 tw_598 tw_599 tw_123 tw_596 ⟨by decide, by decide, by decide +kernel⟩ ⟨by rw [hF]; decide, by rw [hL]; decide⟩ dX8_isRight_6) ?_
  refine bm_cc (s_ifne hx hb dX8_isRight_9 (by decide)) ?_
  refine bm_cc (s_iconst hx hb dX8_isRight_12 (by decide)) ?_
  refine bm_cc (s_zret hx hb hr hlk dX8_isRight_13) ?_
  refine bm_cc (s_aload_n hx hb dX8_isRight_14) ?_
  refine bm_cc (s_iconst hx hb dX8_isRight_15 (by decide)) ?_
  refine bm_cc (s_putI hx hb hown hts hK (C := RX8) (TT := TX8) (N := 19) (ci := 7) (j := 13) inT8 rfl (by decide) rfl (by decide) tyX8 tyX8_ok nmX8 rfl tw_595 rfl rfl (by decide +kernel) dX8_isRight_16) ?_
  refine bm_cc (s_aload_n hx hb dX8_isRight_19) ?_
  refine bm_cc (s_aload_n hx hb dX8_isRight_20) ?_
  refine bm_cc (s_getI hx hb hown hts hK (C := RX8) (TT := TX8) (N := 19) (ci := 7) (j := 14) inT8 rfl (by decide) rfl (by decide) rfl tw_585 rfl dX8_isRight_21) ?_
  refine bm_cc (s_callV hx hb hml hown hts hK (C := RX8) (TT := TX8) (N := 19) (ci := 7) rfl (by decide) (k_X8_isVersion l g) tw_192 tw_193 tw_194 tw_123 tw_191 ⟨by decide, by decide, by decide +kernel⟩ ⟨by rw [hF]; decide, by rw [hL]; decide⟩ dX8_isRight_24) ?_
  refine bm_cc (s_ifne hx hb dX8_isRight_27 (by decide)) ?_
  refine bm_cc (s_aload_n hx hb dX8_isRight_30) ?_
  refine bm_cc (s_iconst hx hb dX8_isRight_31 (by decide)) ?_
  refine bm_cc (s_putI hx hb hown hts hK (C := RX8) (TT := TX8) (N := 19) (ci := 7) (j := 12) inT8 rfl (by decide) rfl (by decide) tyX8 tyX8_ok nmX8 rfl tw_580 rfl rfl (by decide +kernel) dX8_isRight_32) ?_
  refine bm_cc (s_aload_n hx hb dX8_isRight_35) ?_
  refine bm_cc (s_iconst hx hb dX8_isRight_36 (by decide)) ?_
  refine bm_cc (s_putI hx hb hown hts hK (C := RX8) (TT := TX8) (N := 19) (ci := 7) (j := 13) inT8 rfl (by decide) rfl (by decide) tyX8 tyX8_ok nmX8 rfl tw_595 rfl rfl (by decide +kernel) dX8_isRight_37) ?_
  refine bm_cc (s_iconst hx hb dX8_isRight_40 (by decide)) ?_
  refine bm_cc (s_istore_n hx hb dX8_isRight_41) ?_
  refine bm_cc (s_iload_n hx hb dX8_isRight_42) ?_
  refine bm_cc (s_aload_n hx hb dX8_isRight_43) ?_
  refine bm_cc (s_getI hx hb hown hts hK (C := RX8) (TT := TX8) (N := 19) (ci := 7) (j := 15) inT8 rfl (by decide) rfl (by decide) rfl tw_586 rfl dX8_isRight_44) ?_
  refine bm_cc (s_icge hx hb dX8_isRight_47 (by decide)) ?_
  refine bm_cc (s_aload_n hx hb dX8_isRight_50) ?_
  refine bm_cc (s_getI hx hb hown hts hK (C := RX8) (TT := TX8) (N := 19) (ci := 7) (j := 13) inT8 rfl (by decide) rfl (by decide) rfl tw_595 rfl dX8_isRight_51) ?_
  refine bm_cc (s_ifne hx hb dX8_isRight_54 (by decide)) ?_
  refine bm_cc (s_aload_n hx hb dX8_isRight_57) ?_
  refine bm_cc (s_aload_n hx hb dX8_isRight_58) ?_
  refine bm_cc (s_getR hx hb hown hts hK (C := RX8) (TT := TX8) (N := 19) (ci := 7) (j := 16) inT8 rfl (by decide) rfl (by decide) rfl tw_88 rfl dX8_isRight_59) ?_
  refine bm_cc (s_iload_n hx hb dX8_isRight_62) ?_
  refine bm_cc (s_iaload hx hb hK dX8_isRight_63) ?_
  refine bm_cc (s_putI hx hb hown hts hK (C := RX8) (TT := TX8) (N := 19) (ci := 7) (j := 12) inT8 rfl (by decide) rfl (by decide) tyX8 tyX8_ok nmX8 rfl tw_580 rfl rfl (by decide +kernel) dX8_isRight_64) ?_
  refine bm_cc (s_aload_n hx hb dX8_isRight_67) ?_
  refine bm_cc (s_aload_n hx hb dX8_isRight_68) ?_
  refine bm_cc (s_aload_n hx hb dX8_isRight_69) ?_
  refine bm_cc (s_getR hx hb hown hts hK (C := RX8) (TT := TX8) (N := 19) (ci := 7) (j := 17) inT8 rfl (by decide) rfl (by decide) rfl tw_89 rfl dX8_isRight_70) ?_
  refine bm_cc (s_iload_n hx hb dX8_isRight_73) ?_
  refine bm_cc (s_iaload hx hb hK dX8_isRight_74) ?_
  refine bm_cc (s_aload_n hx hb dX8_isRight_75) ?_
  refine bm_cc (s_getR hx hb hown hts hK (C := RX8) (TT := TX8) (N := 19) (ci := 7) (j := 18) inT8 rfl (by decide) rfl (by decide) rfl tw_90 rfl dX8_isRight_76) ?_
  refine bm_cc (s_iload_n hx hb dX8_isRight_79) ?_
  refine bm_cc (s_iaload hx hb hK dX8_isRight_80) ?_
  refine bm_cc (s_callV hx hb hml hown hts hK (C := RX8) (TT := TX8) (N := 19) (ci := 7) rfl (by decide) (k_X8_isName l g) tw_288 tw_289 tw_290 tw_123 tw_287 ⟨by decide, by decide, by decide +kernel⟩ ⟨by rw [hF]; decide, by rw [hL]; decide⟩ dX8_isRight_81) ?_
  refine bm_cc (s_ifne hx hb dX8_isRight_84 (by decide)) ?_
  refine bm_cc (s_iconst hx hb dX8_isRight_87 (by decide)) ?_
  refine bm_cc (s_goto hx hb dX8_isRight_88 (by decide)) ?_
  refine bm_cc (s_aload_n hx hb dX8_isRight_91) ?_
  refine bm_cc (s_iload_n hx hb dX8_isRight_92) ?_
  refine bm_cc (s_callV hx hb hml hown hts hK (C := RX8) (TT := TX8) (N := 19) (ci := 7) rfl (by decide) (k_X8_isTwice l g) tw_601 tw_602 tw_603 tw_123 tw_600 ⟨by decide, by decide, by decide +kernel⟩ ⟨by rw [hF]; decide, by rw [hL]; decide⟩ dX8_isRight_93) ?_
  refine bm_cc (s_ifeq hx hb dX8_isRight_96 (by decide)) ?_
  refine bm_cc (s_iconst hx hb dX8_isRight_99 (by decide)) ?_
  refine bm_cc (s_goto hx hb dX8_isRight_100 (by decide)) ?_
  refine bm_cc (s_iconst hx hb dX8_isRight_103 (by decide)) ?_
  refine bm_cc (s_putI hx hb hown hts hK (C := RX8) (TT := TX8) (N := 19) (ci := 7) (j := 13) inT8 rfl (by decide) rfl (by decide) tyX8 tyX8_ok nmX8 rfl tw_595 rfl rfl (by decide +kernel) dX8_isRight_104) ?_
  refine bm_cc (s_iinc hx hb dX8_isRight_107 (by decide)) ?_
  refine bm_cc (s_goto hx hb dX8_isRight_110 (by decide)) ?_
  refine bm_cc (s_aload_n hx hb dX8_isRight_113) ?_
  refine bm_cc (s_getI hx hb hown hts hK (C := RX8) (TT := TX8) (N := 19) (ci := 7) (j := 13) inT8 rfl (by decide) rfl (by decide) rfl tw_595 rfl dX8_isRight_114) ?_
  refine bm_cc (s_ifne hx hb dX8_isRight_117 (by decide)) ?_
  refine bm_cc (s_iconst hx hb dX8_isRight_120 (by decide)) ?_
  refine bm_cc (s_goto hx hb dX8_isRight_121 (by decide)) ?_
  refine bm_cc (s_iconst hx hb dX8_isRight_124 (by decide)) ?_
  refine bm_cc (s_zret hx hb hr hlk dX8_isRight_125) ?_
  exact bm_c9

noncomputable def z_X8_fault : List (Nat × bm_O) := [(0, op_iload 1), (1, op_const (0)), (2, op_const (1)), (3, op_call 1 3 bm_c0 f_X8_in), (6, op_ifne 11), (9, op_const (-1)), (10, op_iret), (11, op_aload 0), (12, op_call 1 1 (bm_rc 7) f_X8_isRight), (15, op_ifeq 23), (18, op_const (-4)), (20, op_goto 38), (23, op_iload 1), (24, op_ifne 34), (27, op_aload 0), (28, op_getI 7 12), (31, op_goto 38), (34, op_aload 0), (35, op_getI 7 13), (38, op_iret)]
noncomputable def f_X8_fault : bm_F := Classical.choose (bm_hide (bm_mt 2 z_X8_fault))
theorem u_X8_fault : f_X8_fault = bm_mt 2 z_X8_fault := Classical.choose_spec (bm_hide _)
theorem k_X8_fault (l : Launch) (g : bm_G) : bm_MetF l g yX8_fault cX8_fault 2 (some .int) 5 107 f_X8_fault := by
  rw [u_X8_fault]
  refine bm_met (by decide) ?_
  intro p e R s m args below meth c n0 s0 hx hb hml hown hts hK hr hlk hnm hF hL
  refine bm_cc (s_iload_n hx hb dX8_fault_0) ?_
  refine bm_cc (s_iconst hx hb dX8_fault_1 (by decide)) ?_
  refine bm_cc (s_iconst hx hb dX8_fault_2 (by decide)) ?_
  refine bm_cc (s_callS hx hb hml hown hts hK (k_X8_in l g) tw_125 tw_126 tw_123 tw_124 ⟨by decide, by decide, by decide +kernel⟩ ⟨by rw [hF]; decide, by rw [hL]; decide⟩ dX8_fault_3) ?_
  refine bm_cc (s_ifne hx hb dX8_fault_6 (by decide)) ?_
  refine bm_cc (s_iconst hx hb dX8_fault_9 (by decide)) ?_
  refine bm_cc (s_iret hx hb hr hlk dX8_fault_10) ?_
  refine bm_cc (s_aload_n hx hb dX8_fault_11) ?_
  refine bm_cc (s_callV hx hb hml hown hts hK (C := RX8) (TT := TX8) (N := 19) (ci := 7) rfl (by decide) (k_X8_isRight l g) tw_605 tw_606 tw_607 tw_123 tw_604 ⟨by decide, by decide, by decide +kernel⟩ ⟨by rw [hF]; decide, by rw [hL]; decide⟩ dX8_fault_12) ?_
  refine bm_cc (s_ifeq hx hb dX8_fault_15 (by decide)) ?_
  refine bm_cc (s_bipush hx hb dX8_fault_18 (by decide)) ?_
  refine bm_cc (s_goto hx hb dX8_fault_20 (by decide)) ?_
  refine bm_cc (s_iload_n hx hb dX8_fault_23) ?_
  refine bm_cc (s_ifne hx hb dX8_fault_24 (by decide)) ?_
  refine bm_cc (s_aload_n hx hb dX8_fault_27) ?_
  refine bm_cc (s_getI hx hb hown hts hK (C := RX8) (TT := TX8) (N := 19) (ci := 7) (j := 12) inT8 rfl (by decide) rfl (by decide) rfl tw_580 rfl dX8_fault_28) ?_
  refine bm_cc (s_goto hx hb dX8_fault_31 (by decide)) ?_
  refine bm_cc (s_aload_n hx hb dX8_fault_34) ?_
  refine bm_cc (s_getI hx hb hown hts hK (C := RX8) (TT := TX8) (N := 19) (ci := 7) (j := 13) inT8 rfl (by decide) rfl (by decide) rfl tw_595 rfl dX8_fault_35) ?_
  refine bm_cc (s_iret hx hb hr hlk dX8_fault_38) ?_
  exact bm_c9

noncomputable def z_X8_marksIn : List (Nat × bm_O) := [(0, op_const (0)), (1, op_istore 2), (2, op_const (0)), (3, op_istore 3), (4, op_iload 3), (5, op_aload 0), (6, op_getI 7 15), (9, op_icge 36), (12, op_iload 2), (13, op_aload 0), (14, op_getR 7 17), (17, op_iload 3), (18, op_iaload), (19, op_iload 1), (20, op_icne 27), (23, op_const (1)), (24, op_goto 28), (27, op_const (0)), (28, op_bin (fun a b => a + b)), (29, op_istore 2), (30, op_iinc 3 1), (33, op_goto 4), (36, op_iload 2), (37, op_iret)]
noncomputable def f_X8_marksIn : bm_F := Classical.choose (bm_hide (bm_mt 4 z_X8_marksIn))
theorem u_X8_marksIn : f_X8_marksIn = bm_mt 4 z_X8_marksIn := Classical.choose_spec (bm_hide _)
theorem k_X8_marksIn (l : Launch) (g : bm_G) : bm_MetF l g yX8_marksIn cX8_marksIn 4 (some .int) 0 0 f_X8_marksIn := by
  rw [u_X8_marksIn]
  refine bm_met (by decide) ?_
  intro p e R s m args below meth c n0 s0 hx hb hml hown hts hK hr hlk hnm hF hL
  refine bm_cc (s_iconst hx hb dX8_marksIn_0 (by decide)) ?_
  refine bm_cc (s_istore_n hx hb dX8_marksIn_1) ?_
  refine bm_cc (s_iconst hx hb dX8_marksIn_2 (by decide)) ?_
  refine bm_cc (s_istore_n hx hb dX8_marksIn_3) ?_
  refine bm_cc (s_iload_n hx hb dX8_marksIn_4) ?_
  refine bm_cc (s_aload_n hx hb dX8_marksIn_5) ?_
  refine bm_cc (s_getI hx hb hown hts hK (C := RX8) (TT := TX8) (N := 19) (ci := 7) (j := 15) inT8 rfl (by decide) rfl (by decide) rfl tw_586 rfl dX8_marksIn_6) ?_
  refine bm_cc (s_icge hx hb dX8_marksIn_9 (by decide)) ?_
  refine bm_cc (s_iload_n hx hb dX8_marksIn_12) ?_
  refine bm_cc (s_aload_n hx hb dX8_marksIn_13) ?_
  refine bm_cc (s_getR hx hb hown hts hK (C := RX8) (TT := TX8) (N := 19) (ci := 7) (j := 17) inT8 rfl (by decide) rfl (by decide) rfl tw_89 rfl dX8_marksIn_14) ?_
  refine bm_cc (s_iload_n hx hb dX8_marksIn_17) ?_
  refine bm_cc (s_iaload hx hb hK dX8_marksIn_18) ?_
  refine bm_cc (s_iload_n hx hb dX8_marksIn_19) ?_
  refine bm_cc (s_icne hx hb dX8_marksIn_20 (by decide)) ?_
  refine bm_cc (s_iconst hx hb dX8_marksIn_23 (by decide)) ?_
  refine bm_cc (s_goto hx hb dX8_marksIn_24 (by decide)) ?_
  refine bm_cc (s_iconst hx hb dX8_marksIn_27 (by decide)) ?_
  refine bm_cc (s_iadd hx hb dX8_marksIn_28) ?_
  refine bm_cc (s_istore_n hx hb dX8_marksIn_29) ?_
  refine bm_cc (s_iinc hx hb dX8_marksIn_30 (by decide)) ?_
  refine bm_cc (s_goto hx hb dX8_marksIn_33 (by decide)) ?_
  refine bm_cc (s_iload_n hx hb dX8_marksIn_36) ?_
  refine bm_cc (s_iret hx hb hr hlk dX8_marksIn_37) ?_
  exact bm_c9

noncomputable def z_X8_cast : List (Nat × bm_O) := [(0, op_aload 0), (1, op_call 1 1 (bm_rc 7) f_X8_isRight), (4, op_ifne 10), (7, op_const (-2)), (9, op_iret), (10, op_aload 0), (11, op_getR 7 0), (14, op_const (1)), (15, op_iaload), (16, op_const (9999)), (19, op_icne 25), (22, op_const (-3)), (24, op_iret), (25, op_aload 0), (26, op_call 0 1 (bm_rc 7) f_X8_changes), (29, op_aload 0), (30, op_getR 7 0), (33, op_const (1)), (34, op_dup2), (35, op_iaload), (36, op_const (1)), (37, op_bin (fun a b => a + b)), (38, op_iastore), (39, op_const (0)), (40, op_istore 1), (41, op_iload 1), (42, op_aload 0), (43, op_getR 7 0), (46, op_const (0)), (47, op_iaload), (48, op_icge 130), (51, op_aload 0), (52, op_iload 1), (53, op_call 1 2 (bm_rc 7) f_X8_marksIn), (56, op_istore 2), (57, op_aload 0), (58, op_getR 7 0), (61, op_const (32)), (63, op_const (6)), (65, op_iload 1), (66, op_bin (fun a b => a * b)), (67, op_bin (fun a b => a + b)), (68, op_const (5)), (69, op_bin (fun a b => a + b)), (70, op_dup2), (71, op_iaload), (72, op_iload 2), (73, op_ifne 89), (76, op_aload 0), (77, op_iload 1), (78, op_const (3)), (79, op_call 1 3 (bm_rc 7) f_X8_of), (82, op_ifle 89), (85, op_const (1)), (86, op_goto 90), (89, op_const (0)), (90, op_bin (fun a b => a + b)), (91, op_iastore), (92, op_aload 0), (93, op_getR 7 0), (96, op_const (32)), (98, op_const (6)), (100, op_iload 1), (101, op_bin (fun a b => a * b)), (102, op_bin (fun a b => a + b)), (103, op_const (4)), (104, op_bin (fun a b => a + b)), (105, op_dup2), (106, op_iaload), (107, op_iload 2), (108, op_aload 0), (109, op_iload 1), (110, op_const (1)), (111, op_call 1 3 (bm_rc 7) f_X8_of), (114, op_icle 121), (117, op_const (1)), (118, op_goto 122), (121, op_const (0)), (122, op_bin (fun a b => a + b)), (123, op_iastore), (124, op_iinc 1 1), (127, op_goto 41), (130, op_const (0)), (131, op_istore 1), (132, op_const (0)), (133, op_istore 2), (134, op_iload 2), (135, op_aload 0), (136, op_getI 7 15), (139, op_icge 208), (142, op_aload 0), (143, op_getR 7 17), (146, op_iload 2), (147, op_iaload), (148, op_istore 3), (149, op_aload 0), (150, op_iload 3), (151, op_call 1 2 (bm_rc 7) f_X8_marksIn), (154, op_aload 0), (155, op_iload 3), (156, op_const (1)), (157, op_call 1 3 (bm_rc 7) f_X8_of), (160, op_icgt 202), (163, op_aload 0), (164, op_getR 7 0), (167, op_const (68)), (169, op_const (16)), (171, op_iload 3), (172, op_bin (fun a b => a * b)), (173, op_bin (fun a b => a + b)), (174, op_const (2)), (175, op_aload 0), (176, op_aload 0), (177, op_getI 7 14), (180, op_iload 3), (181, op_aload 0), (182, op_getR 7 18), (185, op_iload 2), (186, op_iaload), (187, op_call 1 4 (bm_rc 7) f_X8_standing), (190, op_bin (fun a b => a * b)), (191, op_bin (fun a b => a + b)), (192, op_const (1)), (193, op_bin (fun a b => a + b)), (194, op_dup2), (195, op_iaload), (196, op_const (1)), (197, op_bin (fun a b => a + b)), (198, op_iastore), (199, op_iinc 1 1), (202, op_iinc 2 1), (205, op_goto 134), (208, op_iload 1), (209, op_iret)]
noncomputable def f_X8_cast : bm_F := Classical.choose (bm_hide (bm_mt 4 z_X8_cast))
theorem u_X8_cast : f_X8_cast = bm_mt 4 z_X8_cast := Classical.choose_spec (bm_hide _)
theorem k_X8_cast (l : Launch) (g : bm_G) : bm_MetF l g yX8_cast cX8_cast 4 (some .int) 5 107 f_X8_cast := by
  rw [u_X8_cast]
  refine bm_met (by decide) ?_
  intro p e R s m args below meth c n0 s0 hx hb hml hown hts hK hr hlk hnm hF hL
  refine bm_cc (s_aload_n hx hb dX8_cast_0) ?_
  refine bm_cc (s_callV hx hb hml hown hts hK (C := RX8) (TT := TX8) (N := 19) (ci := 7) rfl (by decide) (k_X8_isRight l g) tw_605 tw_606 tw_607 tw_123 tw_604 ⟨by decide, by decide, by decide +kernel⟩ ⟨by rw [hF]; decide, by rw [hL]; decide⟩ dX8_cast_1) ?_
  refine bm_cc (s_ifne hx hb dX8_cast_4 (by decide)) ?_
  refine bm_cc (s_bipush hx hb dX8_cast_7 (by decide)) ?_
  refine bm_cc (s_iret hx hb hr hlk dX8_cast_9) ?_
  refine bm_cc (s_aload_n hx hb dX8_cast_10) ?_
  refine bm_cc (s_getR hx hb hown hts hK (C := RX8) (TT := TX8) (N := 19) (ci := 7) (j := 0) inT8 rfl (by decide) rfl (by decide) rfl tw_83 rfl dX8_cast_11) ?_
  refine bm_cc (s_iconst hx hb dX8_cast_14 (by decide)) ?_
  refine bm_cc (s_iaload hx hb hK dX8_cast_15) ?_
  refine bm_cc (s_sipush hx hb dX8_cast_16 (by decide)) ?_
  refine bm_cc (s_icne hx hb dX8_cast_19 (by decide)) ?_
  refine bm_cc (s_bipush hx hb dX8_cast_22 (by decide)) ?_
  refine bm_cc (s_iret hx hb hr hlk dX8_cast_24) ?_
  refine bm_cc (s_aload_n hx hb dX8_cast_25) ?_
  refine bm_cc (s_callV hx hb hml hown hts hK (C := RX8) (TT := TX8) (N := 19) (ci := 7) rfl (by decide) (k_X8_changes l g) tw_128 tw_129 tw_130 tw_123 tw_127 ⟨by decide, by decide, by decide +kernel⟩ ⟨by rw [hF]; decide, by rw [hL]; decide⟩ dX8_cast_26) ?_
  refine bm_cc (s_aload_n hx hb dX8_cast_29) ?_
  refine bm_cc (s_getR hx hb hown hts hK (C := RX8) (TT := TX8) (N := 19) (ci := 7) (j := 0) inT8 rfl (by decide) rfl (by decide) rfl tw_83 rfl dX8_cast_30) ?_
  refine bm_cc (s_iconst hx hb dX8_cast_33 (by decide)) ?_
  refine bm_cc (s_dup2 hx hb dX8_cast_34) ?_
  refine bm_cc (s_iaload hx hb hK dX8_cast_35) ?_
  refine bm_cc (s_iconst hx hb dX8_cast_36 (by decide)) ?_
  refine bm_cc (s_iadd hx hb dX8_cast_37) ?_
  refine bm_cc (s_iastore hx hb hK dX8_cast_38) ?_
  refine bm_cc (s_iconst hx hb dX8_cast_39 (by decide)) ?_
  refine bm_cc (s_istore_n hx hb dX8_cast_40) ?_
  refine bm_cc (s_iload_n hx hb dX8_cast_41) ?_
  refine bm_cc (s_aload_n hx hb dX8_cast_42) ?_
  refine bm_cc (s_getR hx hb hown hts hK (C := RX8) (TT := TX8) (N := 19) (ci := 7) (j := 0) inT8 rfl (by decide) rfl (by decide) rfl tw_83 rfl dX8_cast_43) ?_
  refine bm_cc (s_iconst hx hb dX8_cast_46 (by decide)) ?_
  refine bm_cc (s_iaload hx hb hK dX8_cast_47) ?_
  refine bm_cc (s_icge hx hb dX8_cast_48 (by decide)) ?_
  refine bm_cc (s_aload_n hx hb dX8_cast_51) ?_
  refine bm_cc (s_iload_n hx hb dX8_cast_52) ?_
  refine bm_cc (s_callV hx hb hml hown hts hK (C := RX8) (TT := TX8) (N := 19) (ci := 7) rfl (by decide) (k_X8_marksIn l g) tw_641 tw_642 tw_643 tw_123 tw_640 ⟨by decide, by decide, by decide +kernel⟩ ⟨by rw [hF]; decide, by rw [hL]; decide⟩ dX8_cast_53) ?_
  refine bm_cc (s_istore_n hx hb dX8_cast_56) ?_
  refine bm_cc (s_aload_n hx hb dX8_cast_57) ?_
  refine bm_cc (s_getR hx hb hown hts hK (C := RX8) (TT := TX8) (N := 19) (ci := 7) (j := 0) inT8 rfl (by decide) rfl (by decide) rfl tw_83 rfl dX8_cast_58) ?_
  refine bm_cc (s_bipush hx hb dX8_cast_61 (by decide)) ?_
  refine bm_cc (s_bipush hx hb dX8_cast_63 (by decide)) ?_
  refine bm_cc (s_iload_n hx hb dX8_cast_65) ?_
  refine bm_cc (s_imul hx hb dX8_cast_66) ?_
  refine bm_cc (s_iadd hx hb dX8_cast_67) ?_
  refine bm_cc (s_iconst hx hb dX8_cast_68 (by decide)) ?_
  refine bm_cc (s_iadd hx hb dX8_cast_69) ?_
  refine bm_cc (s_dup2 hx hb dX8_cast_70) ?_
  refine bm_cc (s_iaload hx hb hK dX8_cast_71) ?_
  refine bm_cc (s_iload_n hx hb dX8_cast_72) ?_
  refine bm_cc (s_ifne hx hb dX8_cast_73 (by decide)) ?_
  refine bm_cc (s_aload_n hx hb dX8_cast_76) ?_
  refine bm_cc (s_iload_n hx hb dX8_cast_77) ?_
  refine bm_cc (s_iconst hx hb dX8_cast_78 (by decide)) ?_
  refine bm_cc (s_callV hx hb hml hown hts hK (C := RX8) (TT := TX8) (N := 19) (ci := 7) rfl (by decide) (k_X8_of l g) tw_164 tw_165 tw_166 tw_123 tw_163 ⟨by decide, by decide, by decide +kernel⟩ ⟨by rw [hF]; decide, by rw [hL]; decide⟩ dX8_cast_79) ?_
  refine bm_cc (s_ifle hx hb dX8_cast_82 (by decide)) ?_
  refine bm_cc (s_iconst hx hb dX8_cast_85 (by decide)) ?_
  refine bm_cc (s_goto hx hb dX8_cast_86 (by decide)) ?_
  refine bm_cc (s_iconst hx hb dX8_cast_89 (by decide)) ?_
  refine bm_cc (s_iadd hx hb dX8_cast_90) ?_
  refine bm_cc (s_iastore hx hb hK dX8_cast_91) ?_
  refine bm_cc (s_aload_n hx hb dX8_cast_92) ?_
  refine bm_cc (s_getR hx hb hown hts hK (C := RX8) (TT := TX8) (N := 19) (ci := 7) (j := 0) inT8 rfl (by decide) rfl (by decide) rfl tw_83 rfl dX8_cast_93) ?_
  refine bm_cc (s_bipush hx hb dX8_cast_96 (by decide)) ?_
  refine bm_cc (s_bipush hx hb dX8_cast_98 (by decide)) ?_
  refine bm_cc (s_iload_n hx hb dX8_cast_100) ?_
  refine bm_cc (s_imul hx hb dX8_cast_101) ?_
  refine bm_cc (s_iadd hx hb dX8_cast_102) ?_
  refine bm_cc (s_iconst hx hb dX8_cast_103 (by decide)) ?_
  refine bm_cc (s_iadd hx hb dX8_cast_104) ?_
  refine bm_cc (s_dup2 hx hb dX8_cast_105) ?_
  refine bm_cc (s_iaload hx hb hK dX8_cast_106) ?_
  refine bm_cc (s_iload_n hx hb dX8_cast_107) ?_
  refine bm_cc (s_aload_n hx hb dX8_cast_108) ?_
  refine bm_cc (s_iload_n hx hb dX8_cast_109) ?_
  refine bm_cc (s_iconst hx hb dX8_cast_110 (by decide)) ?_
  refine bm_cc (s_callV hx hb hml hown hts hK (C := RX8) (TT := TX8) (N := 19) (ci := 7) rfl (by decide) (k_X8_of l g) tw_164 tw_165 tw_166 tw_123 tw_163 ⟨by decide, by decide, by decide +kernel⟩ ⟨by rw [hF]; decide, by rw [hL]; decide⟩ dX8_cast_111) ?_
  refine bm_cc (s_icle hx hb dX8_cast_114 (by decide)) ?_
  refine bm_cc (s_iconst hx hb dX8_cast_117 (by decide)) ?_
  refine bm_cc (s_goto hx hb dX8_cast_118 (by decide)) ?_
  refine bm_cc (s_iconst hx hb dX8_cast_121 (by decide)) ?_
  refine bm_cc (s_iadd hx hb dX8_cast_122) ?_
  refine bm_cc (s_iastore hx hb hK dX8_cast_123) ?_
  refine bm_cc (s_iinc hx hb dX8_cast_124 (by decide)) ?_
  refine bm_cc (s_goto hx hb dX8_cast_127 (by decide)) ?_
  refine bm_cc (s_iconst hx hb dX8_cast_130 (by decide)) ?_
  refine bm_cc (s_istore_n hx hb dX8_cast_131) ?_
  refine bm_cc (s_iconst hx hb dX8_cast_132 (by decide)) ?_
  refine bm_cc (s_istore_n hx hb dX8_cast_133) ?_
  refine bm_cc (s_iload_n hx hb dX8_cast_134) ?_
  refine bm_cc (s_aload_n hx hb dX8_cast_135) ?_
  refine bm_cc (s_getI hx hb hown hts hK (C := RX8) (TT := TX8) (N := 19) (ci := 7) (j := 15) inT8 rfl (by decide) rfl (by decide) rfl tw_586 rfl dX8_cast_136) ?_
  refine bm_cc (s_icge hx hb dX8_cast_139 (by decide)) ?_
  refine bm_cc (s_aload_n hx hb dX8_cast_142) ?_
  refine bm_cc (s_getR hx hb hown hts hK (C := RX8) (TT := TX8) (N := 19) (ci := 7) (j := 17) inT8 rfl (by decide) rfl (by decide) rfl tw_89 rfl dX8_cast_143) ?_
  refine bm_cc (s_iload_n hx hb dX8_cast_146) ?_
  refine bm_cc (s_iaload hx hb hK dX8_cast_147) ?_
  refine bm_cc (s_istore_n hx hb dX8_cast_148) ?_
  refine bm_cc (s_aload_n hx hb dX8_cast_149) ?_
  refine bm_cc (s_iload_n hx hb dX8_cast_150) ?_
  refine bm_cc (s_callV hx hb hml hown hts hK (C := RX8) (TT := TX8) (N := 19) (ci := 7) rfl (by decide) (k_X8_marksIn l g) tw_641 tw_642 tw_643 tw_123 tw_640 ⟨by decide, by decide, by decide +kernel⟩ ⟨by rw [hF]; decide, by rw [hL]; decide⟩ dX8_cast_151) ?_
  refine bm_cc (s_aload_n hx hb dX8_cast_154) ?_
  refine bm_cc (s_iload_n hx hb dX8_cast_155) ?_
  refine bm_cc (s_iconst hx hb dX8_cast_156 (by decide)) ?_
  refine bm_cc (s_callV hx hb hml hown hts hK (C := RX8) (TT := TX8) (N := 19) (ci := 7) rfl (by decide) (k_X8_of l g) tw_164 tw_165 tw_166 tw_123 tw_163 ⟨by decide, by decide, by decide +kernel⟩ ⟨by rw [hF]; decide, by rw [hL]; decide⟩ dX8_cast_157) ?_
  refine bm_cc (s_icgt hx hb dX8_cast_160 (by decide)) ?_
  refine bm_cc (s_aload_n hx hb dX8_cast_163) ?_
  refine bm_cc (s_getR hx hb hown hts hK (C := RX8) (TT := TX8) (N := 19) (ci := 7) (j := 0) inT8 rfl (by decide) rfl (by decide) rfl tw_83 rfl dX8_cast_164) ?_
  refine bm_cc (s_bipush hx hb dX8_cast_167 (by decide)) ?_
  refine bm_cc (s_bipush hx hb dX8_cast_169 (by decide)) ?_
  refine bm_cc (s_iload_n hx hb dX8_cast_171) ?_
  refine bm_cc (s_imul hx hb dX8_cast_172) ?_
  refine bm_cc (s_iadd hx hb dX8_cast_173) ?_
  refine bm_cc (s_iconst hx hb dX8_cast_174 (by decide)) ?_
  refine bm_cc (s_aload_n hx hb dX8_cast_175) ?_
  refine bm_cc (s_aload_n hx hb dX8_cast_176) ?_
  refine bm_cc (s_getI hx hb hown hts hK (C := RX8) (TT := TX8) (N := 19) (ci := 7) (j := 14) inT8 rfl (by decide) rfl (by decide) rfl tw_585 rfl dX8_cast_177) ?_
  refine bm_cc (s_iload_n hx hb dX8_cast_180) ?_
  refine bm_cc (s_aload_n hx hb dX8_cast_181) ?_
  refine bm_cc (s_getR hx hb hown hts hK (C := RX8) (TT := TX8) (N := 19) (ci := 7) (j := 18) inT8 rfl (by decide) rfl (by decide) rfl tw_90 rfl dX8_cast_182) ?_
  refine bm_cc (s_iload_n hx hb dX8_cast_185) ?_
  refine bm_cc (s_iaload hx hb hK dX8_cast_186) ?_
  refine bm_cc (s_callV hx hb hml hown hts hK (C := RX8) (TT := TX8) (N := 19) (ci := 7) rfl (by decide) (k_X8_standing l g) tw_284 tw_285 tw_286 tw_123 tw_283 ⟨by decide, by decide, by decide +kernel⟩ ⟨by rw [hF]; decide, by rw [hL]; decide⟩ dX8_cast_187) ?_
  refine bm_cc (s_imul hx hb dX8_cast_190) ?_
  refine bm_cc (s_iadd hx hb dX8_cast_191) ?_
  refine bm_cc (s_iconst hx hb dX8_cast_192 (by decide)) ?_
  refine bm_cc (s_iadd hx hb dX8_cast_193) ?_
  refine bm_cc (s_dup2 hx hb dX8_cast_194) ?_
  refine bm_cc (s_iaload hx hb hK dX8_cast_195) ?_
  refine bm_cc (s_iconst hx hb dX8_cast_196 (by decide)) ?_
  refine bm_cc (s_iadd hx hb dX8_cast_197) ?_
  refine bm_cc (s_iastore hx hb hK dX8_cast_198) ?_
  refine bm_cc (s_iinc hx hb dX8_cast_199 (by decide)) ?_
  refine bm_cc (s_iinc hx hb dX8_cast_202 (by decide)) ?_
  refine bm_cc (s_goto hx hb dX8_cast_205 (by decide)) ?_
  refine bm_cc (s_iload_n hx hb dX8_cast_208) ?_
  refine bm_cc (s_iret hx hb hr hlk dX8_cast_209) ?_
  exact bm_c9
