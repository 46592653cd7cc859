/-! THE CLASS, method by method: its code, the small machine's method, that the machine follows it -/
theorem bm_hide (f : bm_F) : ∃ h : bm_F, h = f := ⟨f, rfl⟩
theorem bm_cc {S : Nat → Nat → bm_O → Prop} {pc : Nat} {op : bm_O} {rest : List (Nat × bm_O)} (h1 : S pc (bm_hd rest) op) (h2 : bm_CS S rest) : bm_CS S ((pc, op) :: rest) := ⟨h1, h2⟩
theorem bm_c9 {S : Nat → Nat → bm_O → Prop} : bm_CS S [] := trivial
noncomputable def z_X4_copy : List (Nat × bm_O) := [(0, op_aload 0), (1, op_ifnull 24), (4, op_aload 1), (5, op_ifnull 24), (8, op_aload 0), (9, op_alen), (10, op_aload 1), (11, op_alen), (12, op_icne 24), (15, op_aload 0), (16, op_const (0)), (17, op_aload 1), (18, op_const (0)), (19, op_aload 0), (20, op_alen), (21, op_copy), (24, op_ret)]
noncomputable def f_X4_copy : bm_F := Classical.choose (bm_hide (bm_mt 2 z_X4_copy))
theorem u_X4_copy : f_X4_copy = bm_mt 2 z_X4_copy := Classical.choose_spec (bm_hide _)
theorem k_X4_copy (l : Launch) (g : bm_G) : bm_MetF l g yX4_copy cX4_copy 2 none 1 18 f_X4_copy := by
  rw [u_X4_copy]
  refine bm_met (by decide) ?_
  intro p e R s m args below meth c n0 s0 hx hb hml hown hts hK hr hlk hnm hF hL
  refine bm_cc (s_aload_n hx hb dX4_copy_0) ?_
  refine bm_cc (s_ifnull hx hb dX4_copy_1 (by decide)) ?_
  refine bm_cc (s_aload_n hx hb dX4_copy_4) ?_
  refine bm_cc (s_ifnull hx hb dX4_copy_5 (by decide)) ?_
  refine bm_cc (s_aload_n hx hb dX4_copy_8) ?_
  refine bm_cc (s_alen hx hb hK dX4_copy_9) ?_
  refine bm_cc (s_aload_n hx hb dX4_copy_10) ?_
  refine bm_cc (s_alen hx hb hK dX4_copy_11) ?_
  refine bm_cc (s_icne hx hb dX4_copy_12 (by decide)) ?_
  refine bm_cc (s_aload_n hx hb dX4_copy_15) ?_
  refine bm_cc (s_iconst hx hb dX4_copy_16 (by decide)) ?_
  refine bm_cc (s_aload_n hx hb dX4_copy_17) ?_
  refine bm_cc (s_iconst hx hb dX4_copy_18 (by decide)) ?_
  refine bm_cc (s_aload_n hx hb dX4_copy_19) ?_
  refine bm_cc (s_alen hx hb hK dX4_copy_20) ?_
  refine bm_cc (s_copy hx hb hml hown hts hK tw_0 tw_1 tw_2 tw_3 (by rw [hF]; decide) (by rw [hL]; decide) dX4_copy_21) ?_
  refine bm_cc (s_ret hx hb hr hlk dX4_copy_24) ?_
  exact bm_c9

noncomputable def z_X3_init : List (Nat × bm_O) := [(0, op_aload 0), (1, op_objinit), (4, op_aload 0), (5, op_const (6)), (7, op_newa), (9, op_putR 3 2), (12, op_aload 0), (13, op_const (6)), (15, op_newa), (17, op_putR 3 3), (20, op_aload 0), (21, op_const (6)), (23, op_newa), (25, op_putR 3 4), (28, op_aload 0), (29, op_const (6)), (31, op_newa), (33, op_putR 3 5), (36, op_aload 0), (37, op_const (6)), (39, op_newa), (41, op_putR 3 6), (44, op_aload 0), (45, op_const (6)), (47, op_newa), (49, op_putR 3 7), (52, op_aload 0), (53, op_const (48)), (55, op_newa), (57, op_putR 3 8), (60, op_aload 0), (61, op_const (48)), (63, op_newa), (65, op_putR 3 9), (68, op_aload 0), (69, op_const (24)), (71, op_newa), (73, op_putR 3 10), (76, op_aload 0), (77, op_const (6)), (79, op_newa), (81, op_putR 3 11), (84, op_gets 0), (87, op_aload 0), (88, op_getR 3 11), (91, op_call 0 2 bm_c0 f_X4_copy), (94, op_ret)]
noncomputable def f_X3_init : bm_F := Classical.choose (bm_hide (bm_mt 1 z_X3_init))
theorem u_X3_init : f_X3_init = bm_mt 1 z_X3_init := Classical.choose_spec (bm_hide _)
theorem k_X3_init (l : Launch) (g : bm_G) : bm_MetF l g yX3_init cX3_init 1 none 2 39 f_X3_init := by
  rw [u_X3_init]
  refine bm_met (by decide) ?_
  intro p e R s m args below meth c n0 s0 hx hb hml hown hts hK hr hlk hnm hF hL
  refine bm_cc (s_aload_n hx hb dX3_init_0) ?_
  refine bm_cc (s_objinit hx hb hml hown hts tw_4 tw_5 tw_6 (by rw [hF]; decide) (by rw [hL]; decide) dX3_init_1) ?_
  refine bm_cc (s_aload_n hx hb dX3_init_4) ?_
  refine bm_cc (s_bipush hx hb dX3_init_5 (by decide)) ?_
  refine bm_cc (s_newa hx hb hts hK tw_7 dX3_init_7) ?_
  refine bm_cc (s_putR hx hb hown hts hK (C := RX3) (TT := TX3) (N := 12) (ci := 3) (j := 2) inT3 rfl (by decide) rfl (by decide) tyX3 tyX3_ok nmX3 rfl tw_8 rfl ⟨rfl, hnm, rfl⟩ (ty := .array .int) (by decide +kernel) (fun q => ⟨rfl, rfl⟩) dX3_init_9) ?_
  refine bm_cc (s_aload_n hx hb dX3_init_12) ?_
  refine bm_cc (s_bipush hx hb dX3_init_13 (by decide)) ?_
  refine bm_cc (s_newa hx hb hts hK tw_7 dX3_init_15) ?_
  refine bm_cc (s_putR hx hb hown hts hK (C := RX3) (TT := TX3) (N := 12) (ci := 3) (j := 3) inT3 rfl (by decide) rfl (by decide) tyX3 tyX3_ok nmX3 rfl tw_9 rfl ⟨rfl, hnm, rfl⟩ (ty := .array .int) (by decide +kernel) (fun q => ⟨rfl, rfl⟩) dX3_init_17) ?_
  refine bm_cc (s_aload_n hx hb dX3_init_20) ?_
  refine bm_cc (s_bipush hx hb dX3_init_21 (by decide)) ?_
  refine bm_cc (s_newa hx hb hts hK tw_7 dX3_init_23) ?_
  refine bm_cc (s_putR hx hb hown hts hK (C := RX3) (TT := TX3) (N := 12) (ci := 3) (j := 4) inT3 rfl (by decide) rfl (by decide) tyX3 tyX3_ok nmX3 rfl tw_10 rfl ⟨rfl, hnm, rfl⟩ (ty := .array .int) (by decide +kernel) (fun q => ⟨rfl, rfl⟩) dX3_init_25) ?_
  refine bm_cc (s_aload_n hx hb dX3_init_28) ?_
  refine bm_cc (s_bipush hx hb dX3_init_29 (by decide)) ?_
  refine bm_cc (s_newa hx hb hts hK tw_7 dX3_init_31) ?_
  refine bm_cc (s_putR hx hb hown hts hK (C := RX3) (TT := TX3) (N := 12) (ci := 3) (j := 5) inT3 rfl (by decide) rfl (by decide) tyX3 tyX3_ok nmX3 rfl tw_11 rfl ⟨rfl, hnm, rfl⟩ (ty := .array .int) (by decide +kernel) (fun q => ⟨rfl, rfl⟩) dX3_init_33) ?_
  refine bm_cc (s_aload_n hx hb dX3_init_36) ?_
  refine bm_cc (s_bipush hx hb dX3_init_37 (by decide)) ?_
  refine bm_cc (s_newa hx hb hts hK tw_7 dX3_init_39) ?_
  refine bm_cc (s_putR hx hb hown hts hK (C := RX3) (TT := TX3) (N := 12) (ci := 3) (j := 6) inT3 rfl (by decide) rfl (by decide) tyX3 tyX3_ok nmX3 rfl tw_12 rfl ⟨rfl, hnm, rfl⟩ (ty := .array .int) (by decide +kernel) (fun q => ⟨rfl, rfl⟩) dX3_init_41) ?_
  refine bm_cc (s_aload_n hx hb dX3_init_44) ?_
  refine bm_cc (s_bipush hx hb dX3_init_45 (by decide)) ?_
  refine bm_cc (s_newa hx hb hts hK tw_7 dX3_init_47) ?_
  refine bm_cc (s_putR hx hb hown hts hK (C := RX3) (TT := TX3) (N := 12) (ci := 3) (j := 7) inT3 rfl (by decide) rfl (by decide) tyX3 tyX3_ok nmX3 rfl tw_13 rfl ⟨rfl, hnm, rfl⟩ (ty := .array .int) (by decide +kernel) (fun q => ⟨rfl, rfl⟩) dX3_init_49) ?_
  refine bm_cc (s_aload_n hx hb dX3_init_52) ?_
  refine bm_cc (s_bipush hx hb dX3_init_53 (by decide)) ?_
  refine bm_cc (s_newa hx hb hts hK tw_7 dX3_init_55) ?_
  refine bm_cc (s_putR hx hb hown hts hK (C := RX3) (TT := TX3) (N := 12) (ci := 3) (j := 8) inT3 rfl (by decide) rfl (by decide) tyX3 tyX3_ok nmX3 rfl tw_14 rfl ⟨rfl, hnm, rfl⟩ (ty := .array .int) (by decide +kernel) (fun q => ⟨rfl, rfl⟩) dX3_init_57) ?_
  refine bm_cc (s_aload_n hx hb dX3_init_60) ?_
  refine bm_cc (s_bipush hx hb dX3_init_61 (by decide)) ?_
  refine bm_cc (s_newa hx hb hts hK tw_7 dX3_init_63) ?_
  refine bm_cc (s_putR hx hb hown hts hK (C := RX3) (TT := TX3) (N := 12) (ci := 3) (j := 9) inT3 rfl (by decide) rfl (by decide) tyX3 tyX3_ok nmX3 rfl tw_15 rfl ⟨rfl, hnm, rfl⟩ (ty := .array .int) (by decide +kernel) (fun q => ⟨rfl, rfl⟩) dX3_init_65) ?_
  refine bm_cc (s_aload_n hx hb dX3_init_68) ?_
  refine bm_cc (s_bipush hx hb dX3_init_69 (by decide)) ?_
  refine bm_cc (s_newa hx hb hts hK tw_7 dX3_init_71) ?_
  refine bm_cc (s_putR hx hb hown hts hK (C := RX3) (TT := TX3) (N := 12) (ci := 3) (j := 10) inT3 rfl (by decide) rfl (by decide) tyX3 tyX3_ok nmX3 rfl tw_16 rfl ⟨rfl, hnm, rfl⟩ (ty := .array .int) (by decide +kernel) (fun q => ⟨rfl, rfl⟩) dX3_init_73) ?_
  refine bm_cc (s_aload_n hx hb dX3_init_76) ?_
  refine bm_cc (s_bipush hx hb dX3_init_77 (by decide)) ?_
  refine bm_cc (s_newa hx hb hts hK tw_7 dX3_init_79) ?_
  refine bm_cc (s_putR hx hb hown hts hK (C := RX3) (TT := TX3) (N := 12) (ci := 3) (j := 11) inT3 rfl (by decide) rfl (by decide) tyX3 tyX3_ok nmX3 rfl tw_17 rfl ⟨rfl, hnm, rfl⟩ (ty := .array .int) (by decide +kernel) (fun q => ⟨rfl, rfl⟩) dX3_init_81) ?_
  refine bm_cc (s_getsN hx hb hown hts hK.2.2.2.1.1 (by decide) hK.2.2.2.2.2.1 dX3_init_84) ?_
  refine bm_cc (s_aload_n hx hb dX3_init_87) ?_
  refine bm_cc (s_getR hx hb hown hts hK (C := RX3) (TT := TX3) (N := 12) (ci := 3) (j := 11) inT3 rfl (by decide) rfl (by decide) rfl tw_17 rfl dX3_init_88) ?_
  refine bm_cc (s_callS hx hb hml hown hts hK (k_X4_copy l g) tw_20 tw_21 tw_18 tw_19 ⟨by decide, by decide, by decide +kernel⟩ ⟨by rw [hF]; decide, by rw [hL]; decide⟩ dX3_init_91) ?_
  refine bm_cc (s_ret hx hb hr hlk dX3_init_94) ?_
  exact bm_c9

noncomputable def z_X2_init : List (Nat × bm_O) := [(0, op_aload 0), (1, op_objinit), (4, op_aload 0), (5, op_const (4)), (6, op_anew), (9, op_putR 2 0), (12, op_const (0)), (13, op_istore 1), (14, op_iload 1), (15, op_aload 0), (16, op_getR 2 0), (19, op_alen), (20, op_icge 42), (23, op_aload 0), (24, op_getR 2 0), (27, op_iload 1), (28, op_new 3), (31, op_dup), (32, op_call 0 1 (bm_rc 3) f_X3_init), (35, op_aastore), (36, op_iinc 1 1), (39, op_goto 14), (42, op_ret)]
noncomputable def f_X2_init : bm_F := Classical.choose (bm_hide (bm_mt 2 z_X2_init))
theorem u_X2_init : f_X2_init = bm_mt 2 z_X2_init := Classical.choose_spec (bm_hide _)
theorem k_X2_init (l : Launch) (g : bm_G) : bm_MetF l g yX2_init cX2_init 2 none 3 59 f_X2_init := by
  rw [u_X2_init]
  refine bm_met (by decide) ?_
  intro p e R s m args below meth c n0 s0 hx hb hml hown hts hK hr hlk hnm hF hL
  refine bm_cc (s_aload_n hx hb dX2_init_0) ?_
  refine bm_cc (s_objinit hx hb hml hown hts tw_22 tw_5 tw_6 (by rw [hF]; decide) (by rw [hL]; decide) dX2_init_1) ?_
  refine bm_cc (s_aload_n hx hb dX2_init_4) ?_
  refine bm_cc (s_iconst hx hb dX2_init_5 (by decide)) ?_
  refine bm_cc (s_anew hx hb hown hts hK tw_23 dX2_init_6) ?_
  refine bm_cc (s_putR hx hb hown hts hK (C := RX2) (TT := TX2) (N := 3) (ci := 2) (j := 0) inT2 rfl (by decide) rfl (by decide) tyX2 tyX2_ok nmX2 rfl tw_24 rfl ⟨rfl, hnm, rfl⟩ (ty := .array (.object "BallotPapers$Poll")) (by decide +kernel) (fun q => ⟨rfl, rfl⟩) dX2_init_9) ?_
  refine bm_cc (s_iconst hx hb dX2_init_12 (by decide)) ?_
  refine bm_cc (s_istore_n hx hb dX2_init_13) ?_
  refine bm_cc (s_iload_n hx hb dX2_init_14) ?_
  refine bm_cc (s_aload_n hx hb dX2_init_15) ?_
  refine bm_cc (s_getR hx hb hown hts hK (C := RX2) (TT := TX2) (N := 3) (ci := 2) (j := 0) inT2 rfl (by decide) rfl (by decide) rfl tw_24 rfl dX2_init_16) ?_
  refine bm_cc (s_alen hx hb hK dX2_init_19) ?_
  refine bm_cc (s_icge hx hb dX2_init_20 (by decide)) ?_
  refine bm_cc (s_aload_n hx hb dX2_init_23) ?_
  refine bm_cc (s_getR hx hb hown hts hK (C := RX2) (TT := TX2) (N := 3) (ci := 2) (j := 0) inT2 rfl (by decide) rfl (by decide) rfl tw_24 rfl dX2_init_24) ?_
  refine bm_cc (s_iload_n hx hb dX2_init_27) ?_
  refine bm_cc (s_new hx hb hown hts hK (C := RX3) (TT := TX3) (N := 12) (ci := 3) inT3 rfl rfl (by decide) tyX3 tyX3_ok (by decide +kernel) tw_23 tw_25 tw_26 dX2_init_28) ?_
  refine bm_cc (s_dup hx hb dX2_init_31) ?_
  refine bm_cc (s_callI hx hb hml hown hts hK (k_X3_init l g) tw_28 tw_29 rfl tw_26 tw_27 ⟨by decide, by decide, by decide +kernel⟩ ⟨by rw [hF]; decide, by rw [hL]; decide⟩ dX2_init_32) ?_
  refine bm_cc (s_aastore hx hb hK dX2_init_35) ?_
  refine bm_cc (s_iinc hx hb dX2_init_36 (by decide)) ?_
  refine bm_cc (s_goto hx hb dX2_init_39 (by decide)) ?_
  refine bm_cc (s_ret hx hb hr hlk dX2_init_42) ?_
  exact bm_c9

noncomputable def z_X5_init : List (Nat × bm_O) := [(0, op_aload 0), (1, op_objinit), (4, op_aload 0), (5, op_const (48)), (7, op_newa), (9, op_putR 4 0), (12, op_aload 0), (13, op_const (48)), (15, op_newa), (17, op_putR 4 1), (20, op_aload 0), (21, op_const (48)), (23, op_newa), (25, op_putR 4 2), (28, op_aload 0), (29, op_const (6)), (31, op_newa), (33, op_putR 4 3), (36, op_ret)]
noncomputable def f_X5_init : bm_F := Classical.choose (bm_hide (bm_mt 1 z_X5_init))
theorem u_X5_init : f_X5_init = bm_mt 1 z_X5_init := Classical.choose_spec (bm_hide _)
theorem k_X5_init (l : Launch) (g : bm_G) : bm_MetF l g yX5_init cX5_init 1 none 1 16 f_X5_init := by
  rw [u_X5_init]
  refine bm_met (by decide) ?_
  intro p e R s m args below meth c n0 s0 hx hb hml hown hts hK hr hlk hnm hF hL
  refine bm_cc (s_aload_n hx hb dX5_init_0) ?_
  refine bm_cc (s_objinit hx hb hml hown hts tw_30 tw_5 tw_6 (by rw [hF]; decide) (by rw [hL]; decide) dX5_init_1) ?_
  refine bm_cc (s_aload_n hx hb dX5_init_4) ?_
  refine bm_cc (s_bipush hx hb dX5_init_5 (by decide)) ?_
  refine bm_cc (s_newa hx hb hts hK tw_7 dX5_init_7) ?_
  refine bm_cc (s_putR hx hb hown hts hK (C := RX5) (TT := TX5) (N := 12) (ci := 4) (j := 0) inT5 rfl (by decide) rfl (by decide) tyX5 tyX5_ok nmX5 rfl tw_31 rfl ⟨rfl, hnm, rfl⟩ (ty := .array .int) (by decide +kernel) (fun q => ⟨rfl, rfl⟩) dX5_init_9) ?_
  refine bm_cc (s_aload_n hx hb dX5_init_12) ?_
  refine bm_cc (s_bipush hx hb dX5_init_13 (by decide)) ?_
  refine bm_cc (s_newa hx hb hts hK tw_7 dX5_init_15) ?_
  refine bm_cc (s_putR hx hb hown hts hK (C := RX5) (TT := TX5) (N := 12) (ci := 4) (j := 1) inT5 rfl (by decide) rfl (by decide) tyX5 tyX5_ok nmX5 rfl tw_32 rfl ⟨rfl, hnm, rfl⟩ (ty := .array .int) (by decide +kernel) (fun q => ⟨rfl, rfl⟩) dX5_init_17) ?_
  refine bm_cc (s_aload_n hx hb dX5_init_20) ?_
  refine bm_cc (s_bipush hx hb dX5_init_21 (by decide)) ?_
  refine bm_cc (s_newa hx hb hts hK tw_7 dX5_init_23) ?_
  refine bm_cc (s_putR hx hb hown hts hK (C := RX5) (TT := TX5) (N := 12) (ci := 4) (j := 2) inT5 rfl (by decide) rfl (by decide) tyX5 tyX5_ok nmX5 rfl tw_33 rfl ⟨rfl, hnm, rfl⟩ (ty := .array .int) (by decide +kernel) (fun q => ⟨rfl, rfl⟩) dX5_init_25) ?_
  refine bm_cc (s_aload_n hx hb dX5_init_28) ?_
  refine bm_cc (s_bipush hx hb dX5_init_29 (by decide)) ?_
  refine bm_cc (s_newa hx hb hts hK tw_7 dX5_init_31) ?_
  refine bm_cc (s_putR hx hb hown hts hK (C := RX5) (TT := TX5) (N := 12) (ci := 4) (j := 3) inT5 rfl (by decide) rfl (by decide) tyX5 tyX5_ok nmX5 rfl tw_34 rfl ⟨rfl, hnm, rfl⟩ (ty := .array .int) (by decide +kernel) (fun q => ⟨rfl, rfl⟩) dX5_init_33) ?_
  refine bm_cc (s_ret hx hb hr hlk dX5_init_36) ?_
  exact bm_c9

noncomputable def z_X1_init : List (Nat × bm_O) := [(0, op_aload 0), (1, op_objinit), (4, op_aload 0), (5, op_const (8)), (7, op_newa), (9, op_putR 1 0), (12, op_ret)]
noncomputable def f_X1_init : bm_F := Classical.choose (bm_hide (bm_mt 1 z_X1_init))
theorem u_X1_init : f_X1_init = bm_mt 1 z_X1_init := Classical.choose_spec (bm_hide _)
theorem k_X1_init (l : Launch) (g : bm_G) : bm_MetF l g yX1_init cX1_init 1 none 1 16 f_X1_init := by
  rw [u_X1_init]
  refine bm_met (by decide) ?_
  intro p e R s m args below meth c n0 s0 hx hb hml hown hts hK hr hlk hnm hF hL
  refine bm_cc (s_aload_n hx hb dX1_init_0) ?_
  refine bm_cc (s_objinit hx hb hml hown hts tw_35 tw_5 tw_6 (by rw [hF]; decide) (by rw [hL]; decide) dX1_init_1) ?_
  refine bm_cc (s_aload_n hx hb dX1_init_4) ?_
  refine bm_cc (s_bipush hx hb dX1_init_5 (by decide)) ?_
  refine bm_cc (s_newa hx hb hts hK tw_7 dX1_init_7) ?_
  refine bm_cc (s_putR hx hb hown hts hK (C := RX1) (TT := TX1) (N := 1) (ci := 1) (j := 0) inT1 rfl (by decide) rfl (by decide) tyX1 tyX1_ok nmX1 rfl tw_36 rfl ⟨rfl, hnm, rfl⟩ (ty := .array .int) (by decide +kernel) (fun q => ⟨rfl, rfl⟩) dX1_init_9) ?_
  refine bm_cc (s_ret hx hb hr hlk dX1_init_12) ?_
  exact bm_c9

noncomputable def z_X6_init : List (Nat × bm_O) := [(0, op_aload 0), (1, op_objinit), (4, op_aload 0), (5, op_const (40)), (7, op_newa), (9, op_putR 5 0), (12, op_ret)]
noncomputable def f_X6_init : bm_F := Classical.choose (bm_hide (bm_mt 1 z_X6_init))
theorem u_X6_init : f_X6_init = bm_mt 1 z_X6_init := Classical.choose_spec (bm_hide _)
theorem k_X6_init (l : Launch) (g : bm_G) : bm_MetF l g yX6_init cX6_init 1 none 1 16 f_X6_init := by
  rw [u_X6_init]
  refine bm_met (by decide) ?_
  intro p e R s m args below meth c n0 s0 hx hb hml hown hts hK hr hlk hnm hF hL
  refine bm_cc (s_aload_n hx hb dX6_init_0) ?_
  refine bm_cc (s_objinit hx hb hml hown hts tw_37 tw_5 tw_6 (by rw [hF]; decide) (by rw [hL]; decide) dX6_init_1) ?_
  refine bm_cc (s_aload_n hx hb dX6_init_4) ?_
  refine bm_cc (s_bipush hx hb dX6_init_5 (by decide)) ?_
  refine bm_cc (s_newa hx hb hts hK tw_7 dX6_init_7) ?_
  refine bm_cc (s_putR hx hb hown hts hK (C := RX6) (TT := TX6) (N := 2) (ci := 5) (j := 0) inT6 rfl (by decide) rfl (by decide) tyX6 tyX6_ok nmX6 rfl tw_38 rfl ⟨rfl, hnm, rfl⟩ (ty := .array .int) (by decide +kernel) (fun q => ⟨rfl, rfl⟩) dX6_init_9) ?_
  refine bm_cc (s_ret hx hb hr hlk dX6_init_12) ?_
  exact bm_c9

noncomputable def z_X0_init : List (Nat × bm_O) := [(0, op_aload 0), (1, op_objinit), (4, op_aload 0), (5, op_const (13)), (7, op_newa), (9, op_putR 0 0), (12, op_aload 0), (13, op_const (13)), (15, op_newa), (17, op_putR 0 1), (20, op_aload 0), (21, op_const (13)), (23, op_newa), (25, op_putR 0 2), (28, op_ret)]
noncomputable def f_X0_init : bm_F := Classical.choose (bm_hide (bm_mt 1 z_X0_init))
theorem u_X0_init : f_X0_init = bm_mt 1 z_X0_init := Classical.choose_spec (bm_hide _)
theorem k_X0_init (l : Launch) (g : bm_G) : bm_MetF l g yX0_init cX0_init 1 none 1 16 f_X0_init := by
  rw [u_X0_init]
  refine bm_met (by decide) ?_
  intro p e R s m args below meth c n0 s0 hx hb hml hown hts hK hr hlk hnm hF hL
  refine bm_cc (s_aload_n hx hb dX0_init_0) ?_
  refine bm_cc (s_objinit hx hb hml hown hts tw_39 tw_5 tw_6 (by rw [hF]; decide) (by rw [hL]; decide) dX0_init_1) ?_
  refine bm_cc (s_aload_n hx hb dX0_init_4) ?_
  refine bm_cc (s_bipush hx hb dX0_init_5 (by decide)) ?_
  refine bm_cc (s_newa hx hb hts hK tw_7 dX0_init_7) ?_
  refine bm_cc (s_putR hx hb hown hts hK (C := RX0) (TT := TX0) (N := 7) (ci := 0) (j := 0) inT0 rfl (by decide) rfl (by decide) tyX0 tyX0_ok nmX0 rfl tw_40 rfl ⟨rfl, hnm, rfl⟩ (ty := .array .int) (by decide +kernel) (fun q => ⟨rfl, rfl⟩) dX0_init_9) ?_
  refine bm_cc (s_aload_n hx hb dX0_init_12) ?_
  refine bm_cc (s_bipush hx hb dX0_init_13 (by decide)) ?_
  refine bm_cc (s_newa hx hb hts hK tw_7 dX0_init_15) ?_
  refine bm_cc (s_putR hx hb hown hts hK (C := RX0) (TT := TX0) (N := 7) (ci := 0) (j := 1) inT0 rfl (by decide) rfl (by decide) tyX0 tyX0_ok nmX0 rfl tw_41 rfl ⟨rfl, hnm, rfl⟩ (ty := .array .int) (by decide +kernel) (fun q => ⟨rfl, rfl⟩) dX0_init_17) ?_
  refine bm_cc (s_aload_n hx hb dX0_init_20) ?_
  refine bm_cc (s_bipush hx hb dX0_init_21 (by decide)) ?_
  refine bm_cc (s_newa hx hb hts hK tw_7 dX0_init_23) ?_
  refine bm_cc (s_putR hx hb hown hts hK (C := RX0) (TT := TX0) (N := 7) (ci := 0) (j := 2) inT0 rfl (by decide) rfl (by decide) tyX0 tyX0_ok nmX0 rfl tw_42 rfl ⟨rfl, hnm, rfl⟩ (ty := .array .int) (by decide +kernel) (fun q => ⟨rfl, rfl⟩) dX0_init_25) ?_
  refine bm_cc (s_ret hx hb hr hlk dX0_init_28) ?_
  exact bm_c9

noncomputable def z_X7_init : List (Nat × bm_O) := [(0, op_aload 0), (1, op_objinit), (4, op_aload 0), (5, op_new 3), (8, op_dup), (9, op_call 0 1 (bm_rc 3) f_X3_init), (12, op_putR 6 0), (15, op_aload 0), (16, op_new 2), (19, op_dup), (20, op_call 0 1 (bm_rc 2) f_X2_init), (23, op_putR 6 1), (26, op_aload 0), (27, op_new 4), (30, op_dup), (31, op_call 0 1 (bm_rc 4) f_X5_init), (34, op_putR 6 2), (37, op_aload 0), (38, op_new 1), (41, op_dup), (42, op_call 0 1 (bm_rc 1) f_X1_init), (45, op_putR 6 3), (48, op_aload 0), (49, op_new 5), (52, op_dup), (53, op_call 0 1 (bm_rc 5) f_X6_init), (56, op_putR 6 4), (59, op_aload 0), (60, op_new 0), (63, op_dup), (64, op_call 0 1 (bm_rc 0) f_X0_init), (67, op_putR 6 5), (70, op_ret)]
noncomputable def f_X7_init : bm_F := Classical.choose (bm_hide (bm_mt 1 z_X7_init))
theorem u_X7_init : f_X7_init = bm_mt 1 z_X7_init := Classical.choose_spec (bm_hide _)
theorem k_X7_init (l : Launch) (g : bm_G) : bm_MetF l g yX7_init cX7_init 1 none 4 80 f_X7_init := by
  rw [u_X7_init]
  refine bm_met (by decide) ?_
  intro p e R s m args below meth c n0 s0 hx hb hml hown hts hK hr hlk hnm hF hL
  refine bm_cc (s_aload_n hx hb dX7_init_0) ?_
  refine bm_cc (s_objinit hx hb hml hown hts tw_43 tw_5 tw_6 (by rw [hF]; decide) (by rw [hL]; decide) dX7_init_1) ?_
  refine bm_cc (s_aload_n hx hb dX7_init_4) ?_
  refine bm_cc (s_new hx hb hown hts hK (C := RX3) (TT := TX3) (N := 12) (ci := 3) inT3 rfl rfl (by decide) tyX3 tyX3_ok (by decide +kernel) tw_44 tw_25 tw_26 dX7_init_5) ?_
  refine bm_cc (s_dup hx hb dX7_init_8) ?_
  refine bm_cc (s_callI hx hb hml hown hts hK (k_X3_init l g) tw_45 tw_29 rfl tw_26 tw_27 ⟨by decide, by decide, by decide +kernel⟩ ⟨by rw [hF]; decide, by rw [hL]; decide⟩ dX7_init_9) ?_
  refine bm_cc (s_putR hx hb hown hts hK (C := RX7) (TT := TX7) (N := 6) (ci := 6) (j := 0) inT7 rfl (by decide) rfl (by decide) tyX7 tyX7_ok nmX7 rfl tw_46 rfl ⟨rfl, hnm, rfl⟩ (ty := .object "BallotPapers$Poll") (by decide +kernel) (fun q => ⟨rfl, rfl⟩) dX7_init_12) ?_
  refine bm_cc (s_aload_n hx hb dX7_init_15) ?_
  refine bm_cc (s_new hx hb hown hts hK (C := RX2) (TT := TX2) (N := 3) (ci := 2) inT2 rfl rfl (by decide) tyX2 tyX2_ok (by decide +kernel) tw_47 tw_48 tw_49 dX7_init_16) ?_
  refine bm_cc (s_dup hx hb dX7_init_19) ?_
  refine bm_cc (s_callI hx hb hml hown hts hK (k_X2_init l g) tw_51 tw_52 rfl tw_49 tw_50 ⟨by decide, by decide, by decide +kernel⟩ ⟨by rw [hF]; decide, by rw [hL]; decide⟩ dX7_init_20) ?_
  refine bm_cc (s_putR hx hb hown hts hK (C := RX7) (TT := TX7) (N := 6) (ci := 6) (j := 1) inT7 rfl (by decide) rfl (by decide) tyX7 tyX7_ok nmX7 rfl tw_53 rfl ⟨rfl, hnm, rfl⟩ (ty := .object "BallotPapers$History") (by decide +kernel) (fun q => ⟨rfl, rfl⟩) dX7_init_23) ?_
  refine bm_cc (s_aload_n hx hb dX7_init_26) ?_
  refine bm_cc (s_new hx hb hown hts hK (C := RX5) (TT := TX5) (N := 12) (ci := 4) inT5 rfl rfl (by decide) tyX5 tyX5_ok (by decide +kernel) tw_54 tw_55 tw_56 dX7_init_27) ?_
  refine bm_cc (s_dup hx hb dX7_init_30) ?_
  refine bm_cc (s_callI hx hb hml hown hts hK (k_X5_init l g) tw_58 tw_59 rfl tw_56 tw_57 ⟨by decide, by decide, by decide +kernel⟩ ⟨by rw [hF]; decide, by rw [hL]; decide⟩ dX7_init_31) ?_
  refine bm_cc (s_putR hx hb hown hts hK (C := RX7) (TT := TX7) (N := 6) (ci := 6) (j := 2) inT7 rfl (by decide) rfl (by decide) tyX7 tyX7_ok nmX7 rfl tw_60 rfl ⟨rfl, hnm, rfl⟩ (ty := .object "BallotPapers$Sheet") (by decide +kernel) (fun q => ⟨rfl, rfl⟩) dX7_init_34) ?_
  refine bm_cc (s_aload_n hx hb dX7_init_37) ?_
  refine bm_cc (s_new hx hb hown hts hK (C := RX1) (TT := TX1) (N := 1) (ci := 1) inT1 rfl rfl (by decide) tyX1 tyX1_ok (by decide +kernel) tw_61 tw_62 tw_63 dX7_init_38) ?_
  refine bm_cc (s_dup hx hb dX7_init_41) ?_
  refine bm_cc (s_callI hx hb hml hown hts hK (k_X1_init l g) tw_65 tw_66 rfl tw_63 tw_64 ⟨by decide, by decide, by decide +kernel⟩ ⟨by rw [hF]; decide, by rw [hL]; decide⟩ dX7_init_42) ?_
  refine bm_cc (s_putR hx hb hown hts hK (C := RX7) (TT := TX7) (N := 6) (ci := 6) (j := 3) inT7 rfl (by decide) rfl (by decide) tyX7 tyX7_ok nmX7 rfl tw_67 rfl ⟨rfl, hnm, rfl⟩ (ty := .object "BallotPapers$Firsts") (by decide +kernel) (fun q => ⟨rfl, rfl⟩) dX7_init_45) ?_
  refine bm_cc (s_aload_n hx hb dX7_init_48) ?_
  refine bm_cc (s_new hx hb hown hts hK (C := RX6) (TT := TX6) (N := 2) (ci := 5) inT6 rfl rfl (by decide) tyX6 tyX6_ok (by decide +kernel) tw_68 tw_69 tw_70 dX7_init_49) ?_
  refine bm_cc (s_dup hx hb dX7_init_52) ?_
  refine bm_cc (s_callI hx hb hml hown hts hK (k_X6_init l g) tw_72 tw_73 rfl tw_70 tw_71 ⟨by decide, by decide, by decide +kernel⟩ ⟨by rw [hF]; decide, by rw [hL]; decide⟩ dX7_init_53) ?_
  refine bm_cc (s_putR hx hb hown hts hK (C := RX7) (TT := TX7) (N := 6) (ci := 6) (j := 4) inT7 rfl (by decide) rfl (by decide) tyX7 tyX7_ok nmX7 rfl tw_74 rfl ⟨rfl, hnm, rfl⟩ (ty := .object "BallotPapers$Text") (by decide +kernel) (fun q => ⟨rfl, rfl⟩) dX7_init_56) ?_
  refine bm_cc (s_aload_n hx hb dX7_init_59) ?_
  refine bm_cc (s_new hx hb hown hts hK (C := RX0) (TT := TX0) (N := 7) (ci := 0) inT0 rfl rfl (by decide) tyX0 tyX0_ok (by decide +kernel) tw_75 tw_76 tw_77 dX7_init_60) ?_
  refine bm_cc (s_dup hx hb dX7_init_63) ?_
  refine bm_cc (s_callI hx hb hml hown hts hK (k_X0_init l g) tw_79 tw_80 rfl tw_77 tw_78 ⟨by decide, by decide, by decide +kernel⟩ ⟨by rw [hF]; decide, by rw [hL]; decide⟩ dX7_init_64) ?_
  refine bm_cc (s_putR hx hb hown hts hK (C := RX7) (TT := TX7) (N := 6) (ci := 6) (j := 5) inT7 rfl (by decide) rfl (by decide) tyX7 tyX7_ok nmX7 rfl tw_81 rfl ⟨rfl, hnm, rfl⟩ (ty := .object "BallotPapers$Ballot") (by decide +kernel) (fun q => ⟨rfl, rfl⟩) dX7_init_67) ?_
  refine bm_cc (s_ret hx hb hr hlk dX7_init_70) ?_
  exact bm_c9

noncomputable def z_X7_within : List (Nat × bm_O) := [(0, op_iload 0), (1, op_iload 1), (2, op_iclt 14), (5, op_iload 0), (6, op_iload 2), (7, op_icgt 14), (10, op_const (1)), (11, op_goto 15), (14, op_const (0)), (15, op_zret)]
noncomputable def f_X7_within : bm_F := Classical.choose (bm_hide (bm_mt 3 z_X7_within))
theorem u_X7_within : f_X7_within = bm_mt 3 z_X7_within := Classical.choose_spec (bm_hide _)
theorem k_X7_within (l : Launch) (g : bm_G) : bm_MetF l g yX7_within cX7_within 3 (some .boolean) 0 0 f_X7_within := by
  rw [u_X7_within]
  refine bm_met (by decide) ?_
  intro p e R s m args below meth c n0 s0 hx hb hml hown hts hK hr hlk hnm hF hL
  refine bm_cc (s_iload_n hx hb dX7_within_0) ?_
  refine bm_cc (s_iload_n hx hb dX7_within_1) ?_
  refine bm_cc (s_iclt hx hb dX7_within_2 (by decide)) ?_
  refine bm_cc (s_iload_n hx hb dX7_within_5) ?_
  refine bm_cc (s_iload_n hx hb dX7_within_6) ?_
  refine bm_cc (s_icgt hx hb dX7_within_7 (by decide)) ?_
  refine bm_cc (s_iconst hx hb dX7_within_10 (by decide)) ?_
  refine bm_cc (s_goto hx hb dX7_within_11 (by decide)) ?_
  refine bm_cc (s_iconst hx hb dX7_within_14 (by decide)) ?_
  refine bm_cc (s_zret hx hb hr hlk dX7_within_15) ?_
  exact bm_c9

noncomputable def z_X3_contests : List (Nat × bm_O) := [(0, op_aload 0), (1, op_getI 3 0), (4, op_iret)]
noncomputable def f_X3_contests : bm_F := Classical.choose (bm_hide (bm_mt 1 z_X3_contests))
theorem u_X3_contests : f_X3_contests = bm_mt 1 z_X3_contests := Classical.choose_spec (bm_hide _)
theorem k_X3_contests (l : Launch) (g : bm_G) : bm_MetF l g yX3_contests cX3_contests 1 (some .int) 0 0 f_X3_contests := by
  rw [u_X3_contests]
  refine bm_met (by decide) ?_
  intro p e R s m args below meth c n0 s0 hx hb hml hown hts hK hr hlk hnm hF hL
  refine bm_cc (s_aload_n hx hb dX3_contests_0) ?_
  refine bm_cc (s_getI hx hb hown hts hK (C := RX3) (TT := TX3) (N := 12) (ci := 3) (j := 0) inT3 rfl (by decide) rfl (by decide) rfl tw_91 rfl dX3_contests_1) ?_
  refine bm_cc (s_iret hx hb hr hlk dX3_contests_4) ?_
  exact bm_c9

noncomputable def z_X2_stateAt : List (Nat × bm_O) := [(0, op_iload 1), (1, op_iflt 22), (4, op_iload 1), (5, op_aload 0), (6, op_getR 2 0), (9, op_alen), (10, op_icge 22), (13, op_aload 0), (14, op_getR 2 0), (17, op_iload 1), (18, op_aaload), (19, op_goto 23), (22, op_fail), (23, op_aret)]
noncomputable def f_X2_stateAt : bm_F := Classical.choose (bm_hide (bm_mt 2 z_X2_stateAt))
theorem u_X2_stateAt : f_X2_stateAt = bm_mt 2 z_X2_stateAt := Classical.choose_spec (bm_hide _)
theorem k_X2_stateAt (l : Launch) (g : bm_G) : bm_MetF l g yX2_stateAt cX2_stateAt 2 (some (.object "BallotPapers$Poll")) 0 0 f_X2_stateAt := by
  rw [u_X2_stateAt]
  refine bm_met (by decide) ?_
  intro p e R s m args below meth c n0 s0 hx hb hml hown hts hK hr hlk hnm hF hL
  refine bm_cc (s_iload_n hx hb dX2_stateAt_0) ?_
  refine bm_cc (s_iflt hx hb dX2_stateAt_1 (by decide)) ?_
  refine bm_cc (s_iload_n hx hb dX2_stateAt_4) ?_
  refine bm_cc (s_aload_n hx hb dX2_stateAt_5) ?_
  refine bm_cc (s_getR hx hb hown hts hK (C := RX2) (TT := TX2) (N := 3) (ci := 2) (j := 0) inT2 rfl (by decide) rfl (by decide) rfl tw_24 rfl dX2_stateAt_6) ?_
  refine bm_cc (s_alen hx hb hK dX2_stateAt_9) ?_
  refine bm_cc (s_icge hx hb dX2_stateAt_10 (by decide)) ?_
  refine bm_cc (s_aload_n hx hb dX2_stateAt_13) ?_
  refine bm_cc (s_getR hx hb hown hts hK (C := RX2) (TT := TX2) (N := 3) (ci := 2) (j := 0) inT2 rfl (by decide) rfl (by decide) rfl tw_24 rfl dX2_stateAt_14) ?_
  refine bm_cc (s_iload_n hx hb dX2_stateAt_17) ?_
  refine bm_cc (s_aaload hx hb hK dX2_stateAt_18) ?_
  refine bm_cc (s_goto hx hb dX2_stateAt_19 (by decide)) ?_
  refine bm_cc (s_fail) ?_
  refine bm_cc (s_aret hx hb hr (Or.inl ⟨_, rfl⟩) hlk dX2_stateAt_23) ?_
  exact bm_c9

noncomputable def z_X3_become : List (Nat × bm_O) := [(0, op_aload 0), (1, op_aload 1), (2, op_getI 3 0), (5, op_putI 3 0), (8, op_aload 0), (9, op_aload 1), (10, op_getI 3 1), (13, op_putI 3 1), (16, op_aload 1), (17, op_getR 3 2), (20, op_aload 0), (21, op_getR 3 2), (24, op_call 0 2 bm_c0 f_X4_copy), (27, op_aload 1), (28, op_getR 3 3), (31, op_aload 0), (32, op_getR 3 3), (35, op_call 0 2 bm_c0 f_X4_copy), (38, op_aload 1), (39, op_getR 3 4), (42, op_aload 0), (43, op_getR 3 4), (46, op_call 0 2 bm_c0 f_X4_copy), (49, op_aload 1), (50, op_getR 3 5), (53, op_aload 0), (54, op_getR 3 5), (57, op_call 0 2 bm_c0 f_X4_copy), (60, op_aload 1), (61, op_getR 3 6), (64, op_aload 0), (65, op_getR 3 6), (68, op_call 0 2 bm_c0 f_X4_copy), (71, op_aload 1), (72, op_getR 3 7), (75, op_aload 0), (76, op_getR 3 7), (79, op_call 0 2 bm_c0 f_X4_copy), (82, op_aload 1), (83, op_getR 3 8), (86, op_aload 0), (87, op_getR 3 8), (90, op_call 0 2 bm_c0 f_X4_copy), (93, op_aload 1), (94, op_getR 3 9), (97, op_aload 0), (98, op_getR 3 9), (101, op_call 0 2 bm_c0 f_X4_copy), (104, op_aload 1), (105, op_getR 3 10), (108, op_aload 0), (109, op_getR 3 10), (112, op_call 0 2 bm_c0 f_X4_copy), (115, op_aload 1), (116, op_getR 3 11), (119, op_aload 0), (120, op_getR 3 11), (123, op_call 0 2 bm_c0 f_X4_copy), (126, op_ret)]
noncomputable def f_X3_become : bm_F := Classical.choose (bm_hide (bm_mt 2 z_X3_become))
theorem u_X3_become : f_X3_become = bm_mt 2 z_X3_become := Classical.choose_spec (bm_hide _)
theorem k_X3_become (l : Launch) (g : bm_G) : bm_MetF l g yX3_become cX3_become 2 none 2 39 f_X3_become := by
  rw [u_X3_become]
  refine bm_met (by decide) ?_
  intro p e R s m args below meth c n0 s0 hx hb hml hown hts hK hr hlk hnm hF hL
  refine bm_cc (s_aload_n hx hb dX3_become_0) ?_
  refine bm_cc (s_aload_n hx hb dX3_become_1) ?_
  refine bm_cc (s_getI hx hb hown hts hK (C := RX3) (TT := TX3) (N := 12) (ci := 3) (j := 0) inT3 rfl (by decide) rfl (by decide) rfl tw_91 rfl dX3_become_2) ?_
  refine bm_cc (s_putI hx hb hown hts hK (C := RX3) (TT := TX3) (N := 12) (ci := 3) (j := 0) inT3 rfl (by decide) rfl (by decide) tyX3 tyX3_ok nmX3 rfl tw_91 rfl rfl (by decide +kernel) dX3_become_5) ?_
  refine bm_cc (s_aload_n hx hb dX3_become_8) ?_
  refine bm_cc (s_aload_n hx hb dX3_become_9) ?_
  refine bm_cc (s_getI hx hb hown hts hK (C := RX3) (TT := TX3) (N := 12) (ci := 3) (j := 1) inT3 rfl (by decide) rfl (by decide) rfl tw_92 rfl dX3_become_10) ?_
  refine bm_cc (s_putI hx hb hown hts hK (C := RX3) (TT := TX3) (N := 12) (ci := 3) (j := 1) inT3 rfl (by decide) rfl (by decide) tyX3 tyX3_ok nmX3 rfl tw_92 rfl rfl (by decide +kernel) dX3_become_13) ?_
  refine bm_cc (s_aload_n hx hb dX3_become_16) ?_
  refine bm_cc (s_getR hx hb hown hts hK (C := RX3) (TT := TX3) (N := 12) (ci := 3) (j := 2) inT3 rfl (by decide) rfl (by decide) rfl tw_8 rfl dX3_become_17) ?_
  refine bm_cc (s_aload_n hx hb dX3_become_20) ?_
  refine bm_cc (s_getR hx hb hown hts hK (C := RX3) (TT := TX3) (N := 12) (ci := 3) (j := 2) inT3 rfl (by decide) rfl (by decide) rfl tw_8 rfl dX3_become_21) ?_
  refine bm_cc (s_callS hx hb hml hown hts hK (k_X4_copy l g) tw_20 tw_21 tw_18 tw_19 ⟨by decide, by decide, by decide +kernel⟩ ⟨by rw [hF]; decide, by rw [hL]; decide⟩ dX3_become_24) ?_
  refine bm_cc (s_aload_n hx hb dX3_become_27) ?_
  refine bm_cc (s_getR hx hb hown hts hK (C := RX3) (TT := TX3) (N := 12) (ci := 3) (j := 3) inT3 rfl (by decide) rfl (by decide) rfl tw_9 rfl dX3_become_28) ?_
  refine bm_cc (s_aload_n hx hb dX3_become_31) ?_
  refine bm_cc (s_getR hx hb hown hts hK (C := RX3) (TT := TX3) (N := 12) (ci := 3) (j := 3) inT3 rfl (by decide) rfl (by decide) rfl tw_9 rfl dX3_become_32) ?_
  refine bm_cc (s_callS hx hb hml hown hts hK (k_X4_copy l g) tw_20 tw_21 tw_18 tw_19 ⟨by decide, by decide, by decide +kernel⟩ ⟨by rw [hF]; decide, by rw [hL]; decide⟩ dX3_become_35) ?_
  refine bm_cc (s_aload_n hx hb dX3_become_38) ?_
  refine bm_cc (s_getR hx hb hown hts hK (C := RX3) (TT := TX3) (N := 12) (ci := 3) (j := 4) inT3 rfl (by decide) rfl (by decide) rfl tw_10 rfl dX3_become_39) ?_
  refine bm_cc (s_aload_n hx hb dX3_become_42) ?_
  refine bm_cc (s_getR hx hb hown hts hK (C := RX3) (TT := TX3) (N := 12) (ci := 3) (j := 4) inT3 rfl (by decide) rfl (by decide) rfl tw_10 rfl dX3_become_43) ?_
  refine bm_cc (s_callS hx hb hml hown hts hK (k_X4_copy l g) tw_20 tw_21 tw_18 tw_19 ⟨by decide, by decide, by decide +kernel⟩ ⟨by rw [hF]; decide, by rw [hL]; decide⟩ dX3_become_46) ?_
  refine bm_cc (s_aload_n hx hb dX3_become_49) ?_
  refine bm_cc (s_getR hx hb hown hts hK (C := RX3) (TT := TX3) (N := 12) (ci := 3) (j := 5) inT3 rfl (by decide) rfl (by decide) rfl tw_11 rfl dX3_become_50) ?_
  refine bm_cc (s_aload_n hx hb dX3_become_53) ?_
  refine bm_cc (s_getR hx hb hown hts hK (C := RX3) (TT := TX3) (N := 12) (ci := 3) (j := 5) inT3 rfl (by decide) rfl (by decide) rfl tw_11 rfl dX3_become_54) ?_
  refine bm_cc (s_callS hx hb hml hown hts hK (k_X4_copy l g) tw_20 tw_21 tw_18 tw_19 ⟨by decide, by decide, by decide +kernel⟩ ⟨by rw [hF]; decide, by rw [hL]; decide⟩ dX3_become_57) ?_
  refine bm_cc (s_aload_n hx hb dX3_become_60) ?_
  refine bm_cc (s_getR hx hb hown hts hK (C := RX3) (TT := TX3) (N := 12) (ci := 3) (j := 6) inT3 rfl (by decide) rfl (by decide) rfl tw_12 rfl dX3_become_61) ?_
  refine bm_cc (s_aload_n hx hb dX3_become_64) ?_
  refine bm_cc (s_getR hx hb hown hts hK (C := RX3) (TT := TX3) (N := 12) (ci := 3) (j := 6) inT3 rfl (by decide) rfl (by decide) rfl tw_12 rfl dX3_become_65) ?_
  refine bm_cc (s_callS hx hb hml hown hts hK (k_X4_copy l g) tw_20 tw_21 tw_18 tw_19 ⟨by decide, by decide, by decide +kernel⟩ ⟨by rw [hF]; decide, by rw [hL]; decide⟩ dX3_become_68) ?_
  refine bm_cc (s_aload_n hx hb dX3_become_71) ?_
  refine bm_cc (s_getR hx hb hown hts hK (C := RX3) (TT := TX3) (N := 12) (ci := 3) (j := 7) inT3 rfl (by decide) rfl (by decide) rfl tw_13 rfl dX3_become_72) ?_
  refine bm_cc (s_aload_n hx hb dX3_become_75) ?_
  refine bm_cc (s_getR hx hb hown hts hK (C := RX3) (TT := TX3) (N := 12) (ci := 3) (j := 7) inT3 rfl (by decide) rfl (by decide) rfl tw_13 rfl dX3_become_76) ?_
  refine bm_cc (s_callS hx hb hml hown hts hK (k_X4_copy l g) tw_20 tw_21 tw_18 tw_19 ⟨by decide, by decide, by decide +kernel⟩ ⟨by rw [hF]; decide, by rw [hL]; decide⟩ dX3_become_79) ?_
  refine bm_cc (s_aload_n hx hb dX3_become_82) ?_
  refine bm_cc (s_getR hx hb hown hts hK (C := RX3) (TT := TX3) (N := 12) (ci := 3) (j := 8) inT3 rfl (by decide) rfl (by decide) rfl tw_14 rfl dX3_become_83) ?_
  refine bm_cc (s_aload_n hx hb dX3_become_86) ?_
  refine bm_cc (s_getR hx hb hown hts hK (C := RX3) (TT := TX3) (N := 12) (ci := 3) (j := 8) inT3 rfl (by decide) rfl (by decide) rfl tw_14 rfl dX3_become_87) ?_
  refine bm_cc (s_callS hx hb hml hown hts hK (k_X4_copy l g) tw_20 tw_21 tw_18 tw_19 ⟨by decide, by decide, by decide +kernel⟩ ⟨by rw [hF]; decide, by rw [hL]; decide⟩ dX3_become_90) ?_
  refine bm_cc (s_aload_n hx hb dX3_become_93) ?_
  refine bm_cc (s_getR hx hb hown hts hK (C := RX3) (TT := TX3) (N := 12) (ci := 3) (j := 9) inT3 rfl (by decide) rfl (by decide) rfl tw_15 rfl dX3_become_94) ?_
  refine bm_cc (s_aload_n hx hb dX3_become_97) ?_
  refine bm_cc (s_getR hx hb hown hts hK (C := RX3) (TT := TX3) (N := 12) (ci := 3) (j := 9) inT3 rfl (by decide) rfl (by decide) rfl tw_15 rfl dX3_become_98) ?_
  refine bm_cc (s_callS hx hb hml hown hts hK (k_X4_copy l g) tw_20 tw_21 tw_18 tw_19 ⟨by decide, by decide, by decide +kernel⟩ ⟨by rw [hF]; decide, by rw [hL]; decide⟩ dX3_become_101) ?_
  refine bm_cc (s_aload_n hx hb dX3_become_104) ?_
  refine bm_cc (s_getR hx hb hown hts hK (C := RX3) (TT := TX3) (N := 12) (ci := 3) (j := 10) inT3 rfl (by decide) rfl (by decide) rfl tw_16 rfl dX3_become_105) ?_
  refine bm_cc (s_aload_n hx hb dX3_become_108) ?_
  refine bm_cc (s_getR hx hb hown hts hK (C := RX3) (TT := TX3) (N := 12) (ci := 3) (j := 10) inT3 rfl (by decide) rfl (by decide) rfl tw_16 rfl dX3_become_109) ?_
  refine bm_cc (s_callS hx hb hml hown hts hK (k_X4_copy l g) tw_20 tw_21 tw_18 tw_19 ⟨by decide, by decide, by decide +kernel⟩ ⟨by rw [hF]; decide, by rw [hL]; decide⟩ dX3_become_112) ?_
  refine bm_cc (s_aload_n hx hb dX3_become_115) ?_
  refine bm_cc (s_getR hx hb hown hts hK (C := RX3) (TT := TX3) (N := 12) (ci := 3) (j := 11) inT3 rfl (by decide) rfl (by decide) rfl tw_17 rfl dX3_become_116) ?_
  refine bm_cc (s_aload_n hx hb dX3_become_119) ?_
  refine bm_cc (s_getR hx hb hown hts hK (C := RX3) (TT := TX3) (N := 12) (ci := 3) (j := 11) inT3 rfl (by decide) rfl (by decide) rfl tw_17 rfl dX3_become_120) ?_
  refine bm_cc (s_callS hx hb hml hown hts hK (k_X4_copy l g) tw_20 tw_21 tw_18 tw_19 ⟨by decide, by decide, by decide +kernel⟩ ⟨by rw [hF]; decide, by rw [hL]; decide⟩ dX3_become_123) ?_
  refine bm_cc (s_ret hx hb hr hlk dX3_become_126) ?_
  exact bm_c9

noncomputable def z_X2_keep : List (Nat × bm_O) := [(0, op_aload 0), (1, op_getI 2 2), (4, op_const (4)), (5, op_icne 30), (8, op_aload 0), (9, op_aload 0), (10, op_getI 2 1), (13, op_const (1)), (14, op_bin (fun a b => a + b)), (15, op_const (4)), (16, op_binz (fun a b => a - a / b * b)), (17, op_putI 2 1), (20, op_aload 0), (21, op_dup), (22, op_getI 2 2), (25, op_const (1)), (26, op_bin (fun a b => a - b)), (27, op_putI 2 2), (30, op_aload 0), (31, op_aload 0), (32, op_getI 2 1), (35, op_aload 0), (36, op_getI 2 2), (39, op_bin (fun a b => a + b)), (40, op_const (4)), (41, op_binz (fun a b => a - a / b * b)), (42, op_call 2 2 (bm_rc 2) f_X2_stateAt), (45, op_astore 2), (46, op_aload 2), (47, op_ifnull 65), (50, op_aload 2), (51, op_aload 1), (52, op_call 0 2 (bm_rc 3) f_X3_become), (55, op_aload 0), (56, op_dup), (57, op_getI 2 2), (60, op_const (1)), (61, op_bin (fun a b => a + b)), (62, op_putI 2 2), (65, op_ret)]
noncomputable def f_X2_keep : bm_F := Classical.choose (bm_hide (bm_mt 3 z_X2_keep))
theorem u_X2_keep : f_X2_keep = bm_mt 3 z_X2_keep := Classical.choose_spec (bm_hide _)
theorem k_X2_keep (l : Launch) (g : bm_G) : bm_MetF l g yX2_keep cX2_keep 3 none 3 60 f_X2_keep := by
  rw [u_X2_keep]
  refine bm_met (by decide) ?_
  intro p e R s m args below meth c n0 s0 hx hb hml hown hts hK hr hlk hnm hF hL
  refine bm_cc (s_aload_n hx hb dX2_keep_0) ?_
  refine bm_cc (s_getI hx hb hown hts hK (C := RX2) (TT := TX2) (N := 3) (ci := 2) (j := 2) inT2 rfl (by decide) rfl (by decide) rfl tw_93 rfl dX2_keep_1) ?_
  refine bm_cc (s_iconst hx hb dX2_keep_4 (by decide)) ?_
  refine bm_cc (s_icne hx hb dX2_keep_5 (by decide)) ?_
  refine bm_cc (s_aload_n hx hb dX2_keep_8) ?_
  refine bm_cc (s_aload_n hx hb dX2_keep_9) ?_
  refine bm_cc (s_getI hx hb hown hts hK (C := RX2) (TT := TX2) (N := 3) (ci := 2) (j := 1) inT2 rfl (by decide) rfl (by decide) rfl tw_94 rfl dX2_keep_10) ?_
  refine bm_cc (s_iconst hx hb dX2_keep_13 (by decide)) ?_
  refine bm_cc (s_iadd hx hb dX2_keep_14) ?_
  refine bm_cc (s_iconst hx hb dX2_keep_15 (by decide)) ?_
  refine bm_cc (s_irem hx hb dX2_keep_16) ?_
  refine bm_cc (s_putI hx hb hown hts hK (C := RX2) (TT := TX2) (N := 3) (ci := 2) (j := 1) inT2 rfl (by decide) rfl (by decide) tyX2 tyX2_ok nmX2 rfl tw_94 rfl rfl (by decide +kernel) dX2_keep_17) ?_
  refine bm_cc (s_aload_n hx hb dX2_keep_20) ?_
  refine bm_cc (s_dup hx hb dX2_keep_21) ?_
  refine bm_cc (s_getI hx hb hown hts hK (C := RX2) (TT := TX2) (N := 3) (ci := 2) (j := 2) inT2 rfl (by decide) rfl (by decide) rfl tw_93 rfl dX2_keep_22) ?_
  refine bm_cc (s_iconst hx hb dX2_keep_25 (by decide)) ?_
  refine bm_cc (s_isub hx hb dX2_keep_26) ?_
  refine bm_cc (s_putI hx hb hown hts hK (C := RX2) (TT := TX2) (N := 3) (ci := 2) (j := 2) inT2 rfl (by decide) rfl (by decide) tyX2 tyX2_ok nmX2 rfl tw_93 rfl rfl (by decide +kernel) dX2_keep_27) ?_
  refine bm_cc (s_aload_n hx hb dX2_keep_30) ?_
  refine bm_cc (s_aload_n hx hb dX2_keep_31) ?_
  refine bm_cc (s_getI hx hb hown hts hK (C := RX2) (TT := TX2) (N := 3) (ci := 2) (j := 1) inT2 rfl (by decide) rfl (by decide) rfl tw_94 rfl dX2_keep_32) ?_
  refine bm_cc (s_aload_n hx hb dX2_keep_35) ?_
  refine bm_cc (s_getI hx hb hown hts hK (C := RX2) (TT := TX2) (N := 3) (ci := 2) (j := 2) inT2 rfl (by decide) rfl (by decide) rfl tw_93 rfl dX2_keep_36) ?_
  refine bm_cc (s_iadd hx hb dX2_keep_39) ?_
  refine bm_cc (s_iconst hx hb dX2_keep_40 (by decide)) ?_
  refine bm_cc (s_irem hx hb dX2_keep_41) ?_
  refine bm_cc (s_callV hx hb hml hown hts hK (C := RX2) (TT := TX2) (N := 3) (ci := 2) rfl (by decide) (k_X2_stateAt l g) tw_96 tw_97 tw_98 tw_49 tw_95 ⟨by decide, by decide, by decide +kernel⟩ ⟨by rw [hF]; decide, by rw [hL]; decide⟩ dX2_keep_42) ?_
  refine bm_cc (s_astore_n hx hb dX2_keep_45) ?_
  refine bm_cc (s_aload_n hx hb dX2_keep_46) ?_
  refine bm_cc (s_ifnull hx hb dX2_keep_47 (by decide)) ?_
  refine bm_cc (s_aload_n hx hb dX2_keep_50) ?_
  refine bm_cc (s_aload_n hx hb dX2_keep_51) ?_
  refine bm_cc (s_callV hx hb hml hown hts hK (C := RX3) (TT := TX3) (N := 12) (ci := 3) rfl (by decide) (k_X3_become l g) tw_100 tw_101 tw_102 tw_26 tw_99 ⟨by decide, by decide, by decide +kernel⟩ ⟨by rw [hF]; decide, by rw [hL]; decide⟩ dX2_keep_52) ?_
  refine bm_cc (s_aload_n hx hb dX2_keep_55) ?_
  refine bm_cc (s_dup hx hb dX2_keep_56) ?_
  refine bm_cc (s_getI hx hb hown hts hK (C := RX2) (TT := TX2) (N := 3) (ci := 2) (j := 2) inT2 rfl (by decide) rfl (by decide) rfl tw_93 rfl dX2_keep_57) ?_
  refine bm_cc (s_iconst hx hb dX2_keep_60 (by decide)) ?_
  refine bm_cc (s_iadd hx hb dX2_keep_61) ?_
  refine bm_cc (s_putI hx hb hown hts hK (C := RX2) (TT := TX2) (N := 3) (ci := 2) (j := 2) inT2 rfl (by decide) rfl (by decide) tyX2 tyX2_ok nmX2 rfl tw_93 rfl rfl (by decide +kernel) dX2_keep_62) ?_
  refine bm_cc (s_ret hx hb hr hlk dX2_keep_65) ?_
  exact bm_c9

noncomputable def z_X4_put : List (Nat × bm_O) := [(0, op_aload 0), (1, op_ifnull 18), (4, op_iload 1), (5, op_iflt 18), (8, op_iload 1), (9, op_aload 0), (10, op_alen), (11, op_icge 18), (14, op_aload 0), (15, op_iload 1), (16, op_iload 2), (17, op_iastore), (18, op_ret)]
noncomputable def f_X4_put : bm_F := Classical.choose (bm_hide (bm_mt 3 z_X4_put))
theorem u_X4_put : f_X4_put = bm_mt 3 z_X4_put := Classical.choose_spec (bm_hide _)
theorem k_X4_put (l : Launch) (g : bm_G) : bm_MetF l g yX4_put cX4_put 3 none 0 0 f_X4_put := by
  rw [u_X4_put]
  refine bm_met (by decide) ?_
  intro p e R s m args below meth c n0 s0 hx hb hml hown hts hK hr hlk hnm hF hL
  refine bm_cc (s_aload_n hx hb dX4_put_0) ?_
  refine bm_cc (s_ifnull hx hb dX4_put_1 (by decide)) ?_
  refine bm_cc (s_iload_n hx hb dX4_put_4) ?_
  refine bm_cc (s_iflt hx hb dX4_put_5 (by decide)) ?_
  refine bm_cc (s_iload_n hx hb dX4_put_8) ?_
  refine bm_cc (s_aload_n hx hb dX4_put_9) ?_
  refine bm_cc (s_alen hx hb hK dX4_put_10) ?_
  refine bm_cc (s_icge hx hb dX4_put_11 (by decide)) ?_
  refine bm_cc (s_aload_n hx hb dX4_put_14) ?_
  refine bm_cc (s_iload_n hx hb dX4_put_15) ?_
  refine bm_cc (s_iload_n hx hb dX4_put_16) ?_
  refine bm_cc (s_iastore hx hb hK dX4_put_17) ?_
  refine bm_cc (s_ret hx hb hr hlk dX4_put_18) ?_
  exact bm_c9

noncomputable def z_X3_addContest : List (Nat × bm_O) := [(0, op_aload 0), (1, op_getI 3 0), (4, op_istore 3), (5, op_aload 0), (6, op_getR 3 2), (9, op_iload 3), (10, op_iload 1), (11, op_call 0 3 bm_c0 f_X4_put), (14, op_aload 0), (15, op_getR 3 3), (18, op_iload 3), (19, op_iload 2), (20, op_call 0 3 bm_c0 f_X4_put), (23, op_aload 0), (24, op_dup), (25, op_getI 3 0), (28, op_const (1)), (29, op_bin (fun a b => a + b)), (30, op_putI 3 0), (33, op_iload 3), (34, op_iret)]
noncomputable def f_X3_addContest : bm_F := Classical.choose (bm_hide (bm_mt 4 z_X3_addContest))
theorem u_X3_addContest : f_X3_addContest = bm_mt 4 z_X3_addContest := Classical.choose_spec (bm_hide _)
theorem k_X3_addContest (l : Launch) (g : bm_G) : bm_MetF l g yX3_addContest cX3_addContest 4 (some .int) 1 22 f_X3_addContest := by
  rw [u_X3_addContest]
  refine bm_met (by decide) ?_
  intro p e R s m args below meth c n0 s0 hx hb hml hown hts hK hr hlk hnm hF hL
  refine bm_cc (s_aload_n hx hb dX3_addContest_0) ?_
  refine bm_cc (s_getI hx hb hown hts hK (C := RX3) (TT := TX3) (N := 12) (ci := 3) (j := 0) inT3 rfl (by decide) rfl (by decide) rfl tw_91 rfl dX3_addContest_1) ?_
  refine bm_cc (s_istore_n hx hb dX3_addContest_4) ?_
  refine bm_cc (s_aload_n hx hb dX3_addContest_5) ?_
  refine bm_cc (s_getR hx hb hown hts hK (C := RX3) (TT := TX3) (N := 12) (ci := 3) (j := 2) inT3 rfl (by decide) rfl (by decide) rfl tw_8 rfl dX3_addContest_6) ?_
  refine bm_cc (s_iload_n hx hb dX3_addContest_9) ?_
  refine bm_cc (s_iload_n hx hb dX3_addContest_10) ?_
  refine bm_cc (s_callS hx hb hml hown hts hK (k_X4_put l g) tw_104 tw_105 tw_18 tw_103 ⟨by decide, by decide, by decide +kernel⟩ ⟨by rw [hF]; decide, by rw [hL]; decide⟩ dX3_addContest_11) ?_
  refine bm_cc (s_aload_n hx hb dX3_addContest_14) ?_
  refine bm_cc (s_getR hx hb hown hts hK (C := RX3) (TT := TX3) (N := 12) (ci := 3) (j := 3) inT3 rfl (by decide) rfl (by decide) rfl tw_9 rfl dX3_addContest_15) ?_
  refine bm_cc (s_iload_n hx hb dX3_addContest_18) ?_
  refine bm_cc (s_iload_n hx hb dX3_addContest_19) ?_
  refine bm_cc (s_callS hx hb hml hown hts hK (k_X4_put l g) tw_104 tw_105 tw_18 tw_103 ⟨by decide, by decide, by decide +kernel⟩ ⟨by rw [hF]; decide, by rw [hL]; decide⟩ dX3_addContest_20) ?_
  refine bm_cc (s_aload_n hx hb dX3_addContest_23) ?_
  refine bm_cc (s_dup hx hb dX3_addContest_24) ?_
  refine bm_cc (s_getI hx hb hown hts hK (C := RX3) (TT := TX3) (N := 12) (ci := 3) (j := 0) inT3 rfl (by decide) rfl (by decide) rfl tw_91 rfl dX3_addContest_25) ?_
  refine bm_cc (s_iconst hx hb dX3_addContest_28 (by decide)) ?_
  refine bm_cc (s_iadd hx hb dX3_addContest_29) ?_
  refine bm_cc (s_putI hx hb hown hts hK (C := RX3) (TT := TX3) (N := 12) (ci := 3) (j := 0) inT3 rfl (by decide) rfl (by decide) tyX3 tyX3_ok nmX3 rfl tw_91 rfl rfl (by decide +kernel) dX3_addContest_30) ?_
  refine bm_cc (s_iload_n hx hb dX3_addContest_33) ?_
  refine bm_cc (s_iret hx hb hr hlk dX3_addContest_34) ?_
  exact bm_c9

noncomputable def z_X7_contest : List (Nat × bm_O) := [(0, op_iload 1), (1, op_const (1)), (2, op_const (20)), (4, op_call 1 3 bm_c0 f_X7_within), (7, op_ifeq 19), (10, op_iload 2), (11, op_const (1)), (12, op_const (3)), (13, op_call 1 3 bm_c0 f_X7_within), (16, op_ifne 21), (19, op_const (-1)), (20, op_iret), (21, op_aload 0), (22, op_getR 6 0), (25, op_call 1 1 (bm_rc 3) f_X3_contests), (28, op_const (6)), (30, op_iclt 36), (33, op_const (-3)), (35, op_iret), (36, op_aload 0), (37, op_getR 6 1), (40, op_aload 0), (41, op_getR 6 0), (44, op_call 0 2 (bm_rc 2) f_X2_keep), (47, op_aload 0), (48, op_getR 6 0), (51, op_iload 1), (52, op_iload 2), (53, op_call 1 3 (bm_rc 3) f_X3_addContest), (56, op_iret)]
noncomputable def f_X7_contest : bm_F := Classical.choose (bm_hide (bm_mt 3 z_X7_contest))
theorem u_X7_contest : f_X7_contest = bm_mt 3 z_X7_contest := Classical.choose_spec (bm_hide _)
theorem k_X7_contest (l : Launch) (g : bm_G) : bm_MetF l g yX7_contest cX7_contest 3 (some .int) 4 82 f_X7_contest := by
  rw [u_X7_contest]
  refine bm_met (by decide) ?_
  intro p e R s m args below meth c n0 s0 hx hb hml hown hts hK hr hlk hnm hF hL
  refine bm_cc (s_iload_n hx hb dX7_contest_0) ?_
  refine bm_cc (s_iconst hx hb dX7_contest_1 (by decide)) ?_
  refine bm_cc (s_bipush hx hb dX7_contest_2 (by decide)) ?_
  refine bm_cc (s_callS hx hb hml hown hts hK (k_X7_within l g) tw_108 tw_109 tw_106 tw_107 ⟨by decide, by decide, by decide +kernel⟩ ⟨by rw [hF]; decide, by rw [hL]; decide⟩ dX7_contest_4) ?_
  refine bm_cc (s_ifeq hx hb dX7_contest_7 (by decide)) ?_
  refine bm_cc (s_iload_n hx hb dX7_contest_10) ?_
  refine bm_cc (s_iconst hx hb dX7_contest_11 (by decide)) ?_
  refine bm_cc (s_iconst hx hb dX7_contest_12 (by decide)) ?_
  refine bm_cc (s_callS hx hb hml hown hts hK (k_X7_within l g) tw_108 tw_109 tw_106 tw_107 ⟨by decide, by decide, by decide +kernel⟩ ⟨by rw [hF]; decide, by rw [hL]; decide⟩ dX7_contest_13) ?_
  refine bm_cc (s_ifne hx hb dX7_contest_16 (by decide)) ?_
  refine bm_cc (s_iconst hx hb dX7_contest_19 (by decide)) ?_
  refine bm_cc (s_iret hx hb hr hlk dX7_contest_20) ?_
  refine bm_cc (s_aload_n hx hb dX7_contest_21) ?_
  refine bm_cc (s_getR hx hb hown hts hK (C := RX7) (TT := TX7) (N := 6) (ci := 6) (j := 0) inT7 rfl (by decide) rfl (by decide) rfl tw_46 rfl dX7_contest_22) ?_
  refine bm_cc (s_callV hx hb hml hown hts hK (C := RX3) (TT := TX3) (N := 12) (ci := 3) rfl (by decide) (k_X3_contests l g) tw_111 tw_112 tw_113 tw_26 tw_110 ⟨by decide, by decide, by decide +kernel⟩ ⟨by rw [hF]; decide, by rw [hL]; decide⟩ dX7_contest_25) ?_
  refine bm_cc (s_bipush hx hb dX7_contest_28 (by decide)) ?_
  refine bm_cc (s_iclt hx hb dX7_contest_30 (by decide)) ?_
  refine bm_cc (s_bipush hx hb dX7_contest_33 (by decide)) ?_
  refine bm_cc (s_iret hx hb hr hlk dX7_contest_35) ?_
  refine bm_cc (s_aload_n hx hb dX7_contest_36) ?_
  refine bm_cc (s_getR hx hb hown hts hK (C := RX7) (TT := TX7) (N := 6) (ci := 6) (j := 1) inT7 rfl (by decide) rfl (by decide) rfl tw_53 rfl dX7_contest_37) ?_
  refine bm_cc (s_aload_n hx hb dX7_contest_40) ?_
  refine bm_cc (s_getR hx hb hown hts hK (C := RX7) (TT := TX7) (N := 6) (ci := 6) (j := 0) inT7 rfl (by decide) rfl (by decide) rfl tw_46 rfl dX7_contest_41) ?_
  refine bm_cc (s_callV hx hb hml hown hts hK (C := RX2) (TT := TX2) (N := 3) (ci := 2) rfl (by decide) (k_X2_keep l g) tw_115 tw_116 tw_117 tw_49 tw_114 ⟨by decide, by decide, by decide +kernel⟩ ⟨by rw [hF]; decide, by rw [hL]; decide⟩ dX7_contest_44) ?_
  refine bm_cc (s_aload_n hx hb dX7_contest_47) ?_
  refine bm_cc (s_getR hx hb hown hts hK (C := RX7) (TT := TX7) (N := 6) (ci := 6) (j := 0) inT7 rfl (by decide) rfl (by decide) rfl tw_46 rfl dX7_contest_48) ?_
  refine bm_cc (s_iload_n hx hb dX7_contest_51) ?_
  refine bm_cc (s_iload_n hx hb dX7_contest_52) ?_
  refine bm_cc (s_callV hx hb hml hown hts hK (C := RX3) (TT := TX3) (N := 12) (ci := 3) rfl (by decide) (k_X3_addContest l g) tw_119 tw_120 tw_121 tw_26 tw_118 ⟨by decide, by decide, by decide +kernel⟩ ⟨by rw [hF]; decide, by rw [hL]; decide⟩ dX7_contest_53) ?_
  refine bm_cc (s_iret hx hb hr hlk dX7_contest_56) ?_
  exact bm_c9

noncomputable def z_X3_hasContest : List (Nat × bm_O) := [(0, op_iload 1), (1, op_const (0)), (2, op_aload 0), (3, op_getI 3 0), (6, op_const (1)), (7, op_bin (fun a b => a - b)), (8, op_call 1 3 bm_c0 f_X7_within), (11, op_zret)]
noncomputable def f_X3_hasContest : bm_F := Classical.choose (bm_hide (bm_mt 2 z_X3_hasContest))
theorem u_X3_hasContest : f_X3_hasContest = bm_mt 2 z_X3_hasContest := Classical.choose_spec (bm_hide _)
theorem k_X3_hasContest (l : Launch) (g : bm_G) : bm_MetF l g yX3_hasContest cX3_hasContest 2 (some .boolean) 1 22 f_X3_hasContest := by
  rw [u_X3_hasContest]
  refine bm_met (by decide) ?_
  intro p e R s m args below meth c n0 s0 hx hb hml hown hts hK hr hlk hnm hF hL
  refine bm_cc (s_iload_n hx hb dX3_hasContest_0) ?_
  refine bm_cc (s_iconst hx hb dX3_hasContest_1 (by decide)) ?_
  refine bm_cc (s_aload_n hx hb dX3_hasContest_2) ?_
  refine bm_cc (s_getI hx hb hown hts hK (C := RX3) (TT := TX3) (N := 12) (ci := 3) (j := 0) inT3 rfl (by decide) rfl (by decide) rfl tw_91 rfl dX3_hasContest_3) ?_
  refine bm_cc (s_iconst hx hb dX3_hasContest_6 (by decide)) ?_
  refine bm_cc (s_isub hx hb dX3_hasContest_7) ?_
  refine bm_cc (s_callSN hx hb hml hown hts hK (k_X7_within l g) (hK.2.2.2.2.1 _ (List.mem_of_getElem? (i := 0) rfl)) tw_109 tw_106 tw_107 ⟨by decide, by decide, by decide +kernel⟩ ⟨by rw [hF]; decide, by rw [hL]; decide⟩ dX3_hasContest_8) ?_
  refine bm_cc (s_zret hx hb hr hlk dX3_hasContest_11) ?_
  exact bm_c9

noncomputable def z_X3_ballots : List (Nat × bm_O) := [(0, op_aload 0), (1, op_getI 3 1), (4, op_iret)]
noncomputable def f_X3_ballots : bm_F := Classical.choose (bm_hide (bm_mt 1 z_X3_ballots))
theorem u_X3_ballots : f_X3_ballots = bm_mt 1 z_X3_ballots := Classical.choose_spec (bm_hide _)
theorem k_X3_ballots (l : Launch) (g : bm_G) : bm_MetF l g yX3_ballots cX3_ballots 1 (some .int) 0 0 f_X3_ballots := by
  rw [u_X3_ballots]
  refine bm_met (by decide) ?_
  intro p e R s m args below meth c n0 s0 hx hb hml hown hts hK hr hlk hnm hF hL
  refine bm_cc (s_aload_n hx hb dX3_ballots_0) ?_
  refine bm_cc (s_getI hx hb hown hts hK (C := RX3) (TT := TX3) (N := 12) (ci := 3) (j := 1) inT3 rfl (by decide) rfl (by decide) rfl tw_92 rfl dX3_ballots_1) ?_
  refine bm_cc (s_iret hx hb hr hlk dX3_ballots_4) ?_
  exact bm_c9

noncomputable def z_X4_get : List (Nat × bm_O) := [(0, op_aload 0), (1, op_ifnull 20), (4, op_iload 1), (5, op_iflt 20), (8, op_iload 1), (9, op_aload 0), (10, op_alen), (11, op_icge 20), (14, op_aload 0), (15, op_iload 1), (16, op_iaload), (17, op_goto 21), (20, op_const (0)), (21, op_iret)]
noncomputable def f_X4_get : bm_F := Classical.choose (bm_hide (bm_mt 2 z_X4_get))
theorem u_X4_get : f_X4_get = bm_mt 2 z_X4_get := Classical.choose_spec (bm_hide _)
theorem k_X4_get (l : Launch) (g : bm_G) : bm_MetF l g yX4_get cX4_get 2 (some .int) 0 0 f_X4_get := by
  rw [u_X4_get]
  refine bm_met (by decide) ?_
  intro p e R s m args below meth c n0 s0 hx hb hml hown hts hK hr hlk hnm hF hL
  refine bm_cc (s_aload_n hx hb dX4_get_0) ?_
  refine bm_cc (s_ifnull hx hb dX4_get_1 (by decide)) ?_
  refine bm_cc (s_iload_n hx hb dX4_get_4) ?_
  refine bm_cc (s_iflt hx hb dX4_get_5 (by decide)) ?_
  refine bm_cc (s_iload_n hx hb dX4_get_8) ?_
  refine bm_cc (s_aload_n hx hb dX4_get_9) ?_
  refine bm_cc (s_alen hx hb hK dX4_get_10) ?_
  refine bm_cc (s_icge hx hb dX4_get_11 (by decide)) ?_
  refine bm_cc (s_aload_n hx hb dX4_get_14) ?_
  refine bm_cc (s_iload_n hx hb dX4_get_15) ?_
  refine bm_cc (s_iaload hx hb hK dX4_get_16) ?_
  refine bm_cc (s_goto hx hb dX4_get_17 (by decide)) ?_
  refine bm_cc (s_iconst hx hb dX4_get_20 (by decide)) ?_
  refine bm_cc (s_iret hx hb hr hlk dX4_get_21) ?_
  exact bm_c9

noncomputable def z_X3_namesIn : List (Nat × bm_O) := [(0, op_aload 0), (1, op_getR 3 5), (4, op_iload 1), (5, op_call 1 2 bm_c0 f_X4_get), (8, op_iret)]
noncomputable def f_X3_namesIn : bm_F := Classical.choose (bm_hide (bm_mt 2 z_X3_namesIn))
theorem u_X3_namesIn : f_X3_namesIn = bm_mt 2 z_X3_namesIn := Classical.choose_spec (bm_hide _)
theorem k_X3_namesIn (l : Launch) (g : bm_G) : bm_MetF l g yX3_namesIn cX3_namesIn 2 (some .int) 1 21 f_X3_namesIn := by
  rw [u_X3_namesIn]
  refine bm_met (by decide) ?_
  intro p e R s m args below meth c n0 s0 hx hb hml hown hts hK hr hlk hnm hF hL
  refine bm_cc (s_aload_n hx hb dX3_namesIn_0) ?_
  refine bm_cc (s_getR hx hb hown hts hK (C := RX3) (TT := TX3) (N := 12) (ci := 3) (j := 5) inT3 rfl (by decide) rfl (by decide) rfl tw_11 rfl dX3_namesIn_1) ?_
  refine bm_cc (s_iload_n hx hb dX3_namesIn_4) ?_
  refine bm_cc (s_callS hx hb hml hown hts hK (k_X4_get l g) tw_132 tw_133 tw_18 tw_131 ⟨by decide, by decide, by decide +kernel⟩ ⟨by rw [hF]; decide, by rw [hL]; decide⟩ dX3_namesIn_5) ?_
  refine bm_cc (s_iret hx hb hr hlk dX3_namesIn_8) ?_
  exact bm_c9

noncomputable def z_X3_slot : List (Nat × bm_O) := [(0, op_iload 0), (1, op_const (8)), (3, op_bin (fun a b => a * b)), (4, op_iload 1), (5, op_bin (fun a b => a + b)), (6, op_iret)]
noncomputable def f_X3_slot : bm_F := Classical.choose (bm_hide (bm_mt 2 z_X3_slot))
theorem u_X3_slot : f_X3_slot = bm_mt 2 z_X3_slot := Classical.choose_spec (bm_hide _)
theorem k_X3_slot (l : Launch) (g : bm_G) : bm_MetF l g yX3_slot cX3_slot 2 (some .int) 0 0 f_X3_slot := by
  rw [u_X3_slot]
  refine bm_met (by decide) ?_
  intro p e R s m args below meth c n0 s0 hx hb hml hown hts hK hr hlk hnm hF hL
  refine bm_cc (s_iload_n hx hb dX3_slot_0) ?_
  refine bm_cc (s_bipush hx hb dX3_slot_1 (by decide)) ?_
  refine bm_cc (s_imul hx hb dX3_slot_3) ?_
  refine bm_cc (s_iload_n hx hb dX3_slot_4) ?_
  refine bm_cc (s_iadd hx hb dX3_slot_5) ?_
  refine bm_cc (s_iret hx hb hr hlk dX3_slot_6) ?_
  exact bm_c9

noncomputable def z_X4_add : List (Nat × bm_O) := [(0, op_aload 0), (1, op_iload 1), (2, op_aload 0), (3, op_iload 1), (4, op_call 1 2 bm_c0 f_X4_get), (7, op_iload 2), (8, op_bin (fun a b => a + b)), (9, op_call 0 3 bm_c0 f_X4_put), (12, op_ret)]
noncomputable def f_X4_add : bm_F := Classical.choose (bm_hide (bm_mt 3 z_X4_add))
theorem u_X4_add : f_X4_add = bm_mt 3 z_X4_add := Classical.choose_spec (bm_hide _)
theorem k_X4_add (l : Launch) (g : bm_G) : bm_MetF l g yX4_add cX4_add 3 none 1 22 f_X4_add := by
  rw [u_X4_add]
  refine bm_met (by decide) ?_
  intro p e R s m args below meth c n0 s0 hx hb hml hown hts hK hr hlk hnm hF hL
  refine bm_cc (s_aload_n hx hb dX4_add_0) ?_
  refine bm_cc (s_iload_n hx hb dX4_add_1) ?_
  refine bm_cc (s_aload_n hx hb dX4_add_2) ?_
  refine bm_cc (s_iload_n hx hb dX4_add_3) ?_
  refine bm_cc (s_callS hx hb hml hown hts hK (k_X4_get l g) tw_134 tw_133 tw_18 tw_131 ⟨by decide, by decide, by decide +kernel⟩ ⟨by rw [hF]; decide, by rw [hL]; decide⟩ dX4_add_4) ?_
  refine bm_cc (s_iload_n hx hb dX4_add_7) ?_
  refine bm_cc (s_iadd hx hb dX4_add_8) ?_
  refine bm_cc (s_callS hx hb hml hown hts hK (k_X4_put l g) tw_135 tw_105 tw_18 tw_103 ⟨by decide, by decide, by decide +kernel⟩ ⟨by rw [hF]; decide, by rw [hL]; decide⟩ dX4_add_9) ?_
  refine bm_cc (s_ret hx hb hr hlk dX4_add_12) ?_
  exact bm_c9

noncomputable def z_X3_addName : List (Nat × bm_O) := [(0, op_aload 0), (1, op_iload 1), (2, op_call 1 2 (bm_rc 3) f_X3_namesIn), (5, op_istore 3), (6, op_aload 0), (7, op_getR 3 8), (10, op_iload 1), (11, op_iload 3), (12, op_call 1 2 bm_c0 f_X3_slot), (15, op_iload 2), (16, op_call 0 3 bm_c0 f_X4_put), (19, op_aload 0), (20, op_getR 3 5), (23, op_iload 1), (24, op_const (1)), (25, op_call 0 3 bm_c0 f_X4_add), (28, op_iload 3), (29, op_iret)]
noncomputable def f_X3_addName : bm_F := Classical.choose (bm_hide (bm_mt 4 z_X3_addName))
theorem u_X3_addName : f_X3_addName = bm_mt 4 z_X3_addName := Classical.choose_spec (bm_hide _)
theorem k_X3_addName (l : Launch) (g : bm_G) : bm_MetF l g yX3_addName cX3_addName 4 (some .int) 2 44 f_X3_addName := by
  rw [u_X3_addName]
  refine bm_met (by decide) ?_
  intro p e R s m args below meth c n0 s0 hx hb hml hown hts hK hr hlk hnm hF hL
  refine bm_cc (s_aload_n hx hb dX3_addName_0) ?_
  refine bm_cc (s_iload_n hx hb dX3_addName_1) ?_
  refine bm_cc (s_callV hx hb hml hown hts hK (C := RX3) (TT := TX3) (N := 12) (ci := 3) rfl (by decide) (k_X3_namesIn l g) tw_137 tw_138 tw_139 tw_26 tw_136 ⟨by decide, by decide, by decide +kernel⟩ ⟨by rw [hF]; decide, by rw [hL]; decide⟩ dX3_addName_2) ?_
  refine bm_cc (s_istore_n hx hb dX3_addName_5) ?_
  refine bm_cc (s_aload_n hx hb dX3_addName_6) ?_
  refine bm_cc (s_getR hx hb hown hts hK (C := RX3) (TT := TX3) (N := 12) (ci := 3) (j := 8) inT3 rfl (by decide) rfl (by decide) rfl tw_14 rfl dX3_addName_7) ?_
  refine bm_cc (s_iload_n hx hb dX3_addName_10) ?_
  refine bm_cc (s_iload_n hx hb dX3_addName_11) ?_
  refine bm_cc (s_callS hx hb hml hown hts hK (k_X3_slot l g) tw_141 tw_142 tw_26 tw_140 ⟨by decide, by decide, by decide +kernel⟩ ⟨by rw [hF]; decide, by rw [hL]; decide⟩ dX3_addName_12) ?_
  refine bm_cc (s_iload_n hx hb dX3_addName_15) ?_
  refine bm_cc (s_callS hx hb hml hown hts hK (k_X4_put l g) tw_104 tw_105 tw_18 tw_103 ⟨by decide, by decide, by decide +kernel⟩ ⟨by rw [hF]; decide, by rw [hL]; decide⟩ dX3_addName_16) ?_
  refine bm_cc (s_aload_n hx hb dX3_addName_19) ?_
  refine bm_cc (s_getR hx hb hown hts hK (C := RX3) (TT := TX3) (N := 12) (ci := 3) (j := 5) inT3 rfl (by decide) rfl (by decide) rfl tw_11 rfl dX3_addName_20) ?_
  refine bm_cc (s_iload_n hx hb dX3_addName_23) ?_
  refine bm_cc (s_iconst hx hb dX3_addName_24 (by decide)) ?_
  refine bm_cc (s_callS hx hb hml hown hts hK (k_X4_add l g) tw_144 tw_145 tw_18 tw_143 ⟨by decide, by decide, by decide +kernel⟩ ⟨by rw [hF]; decide, by rw [hL]; decide⟩ dX3_addName_25) ?_
  refine bm_cc (s_iload_n hx hb dX3_addName_28) ?_
  refine bm_cc (s_iret hx hb hr hlk dX3_addName_29) ?_
  exact bm_c9

noncomputable def z_X7_name : List (Nat × bm_O) := [(0, op_aload 0), (1, op_getR 6 0), (4, op_iload 1), (5, op_call 1 2 (bm_rc 3) f_X3_hasContest), (8, op_ifeq 21), (11, op_iload 2), (12, op_const (1)), (13, op_const (20)), (15, op_call 1 3 bm_c0 f_X7_within), (18, op_ifne 23), (21, op_const (-1)), (22, op_iret), (23, op_aload 0), (24, op_getR 6 0), (27, op_call 1 1 (bm_rc 3) f_X3_ballots), (30, op_ifle 36), (33, op_const (-2)), (35, op_iret), (36, op_aload 0), (37, op_getR 6 0), (40, op_iload 1), (41, op_call 1 2 (bm_rc 3) f_X3_namesIn), (44, op_const (8)), (46, op_iclt 52), (49, op_const (-3)), (51, op_iret), (52, op_aload 0), (53, op_getR 6 1), (56, op_aload 0), (57, op_getR 6 0), (60, op_call 0 2 (bm_rc 2) f_X2_keep), (63, op_aload 0), (64, op_getR 6 0), (67, op_iload 1), (68, op_iload 2), (69, op_call 1 3 (bm_rc 3) f_X3_addName), (72, op_iret)]
noncomputable def f_X7_name : bm_F := Classical.choose (bm_hide (bm_mt 3 z_X7_name))
theorem u_X7_name : f_X7_name = bm_mt 3 z_X7_name := Classical.choose_spec (bm_hide _)
theorem k_X7_name (l : Launch) (g : bm_G) : bm_MetF l g yX7_name cX7_name 3 (some .int) 4 82 f_X7_name := by
  rw [u_X7_name]
  refine bm_met (by decide) ?_
  intro p e R s m args below meth c n0 s0 hx hb hml hown hts hK hr hlk hnm hF hL
  refine bm_cc (s_aload_n hx hb dX7_name_0) ?_
  refine bm_cc (s_getR hx hb hown hts hK (C := RX7) (TT := TX7) (N := 6) (ci := 6) (j := 0) inT7 rfl (by decide) rfl (by decide) rfl tw_46 rfl dX7_name_1) ?_
  refine bm_cc (s_iload_n hx hb dX7_name_4) ?_
  refine bm_cc (s_callV hx hb hml hown hts hK (C := RX3) (TT := TX3) (N := 12) (ci := 3) rfl (by decide) (k_X3_hasContest l g) tw_147 tw_148 tw_149 tw_26 tw_146 ⟨by decide, by decide, by decide +kernel⟩ ⟨by rw [hF]; decide, by rw [hL]; decide⟩ dX7_name_5) ?_
  refine bm_cc (s_ifeq hx hb dX7_name_8 (by decide)) ?_
  refine bm_cc (s_iload_n hx hb dX7_name_11) ?_
  refine bm_cc (s_iconst hx hb dX7_name_12 (by decide)) ?_
  refine bm_cc (s_bipush hx hb dX7_name_13 (by decide)) ?_
  refine bm_cc (s_callS hx hb hml hown hts hK (k_X7_within l g) tw_108 tw_109 tw_106 tw_107 ⟨by decide, by decide, by decide +kernel⟩ ⟨by rw [hF]; decide, by rw [hL]; decide⟩ dX7_name_15) ?_
  refine bm_cc (s_ifne hx hb dX7_name_18 (by decide)) ?_
  refine bm_cc (s_iconst hx hb dX7_name_21 (by decide)) ?_
  refine bm_cc (s_iret hx hb hr hlk dX7_name_22) ?_
  refine bm_cc (s_aload_n hx hb dX7_name_23) ?_
  refine bm_cc (s_getR hx hb hown hts hK (C := RX7) (TT := TX7) (N := 6) (ci := 6) (j := 0) inT7 rfl (by decide) rfl (by decide) rfl tw_46 rfl dX7_name_24) ?_
  refine bm_cc (s_callV hx hb hml hown hts hK (C := RX3) (TT := TX3) (N := 12) (ci := 3) rfl (by decide) (k_X3_ballots l g) tw_151 tw_152 tw_153 tw_26 tw_150 ⟨by decide, by decide, by decide +kernel⟩ ⟨by rw [hF]; decide, by rw [hL]; decide⟩ dX7_name_27) ?_
  refine bm_cc (s_ifle hx hb dX7_name_30 (by decide)) ?_
  refine bm_cc (s_bipush hx hb dX7_name_33 (by decide)) ?_
  refine bm_cc (s_iret hx hb hr hlk dX7_name_35) ?_
  refine bm_cc (s_aload_n hx hb dX7_name_36) ?_
  refine bm_cc (s_getR hx hb hown hts hK (C := RX7) (TT := TX7) (N := 6) (ci := 6) (j := 0) inT7 rfl (by decide) rfl (by decide) rfl tw_46 rfl dX7_name_37) ?_
  refine bm_cc (s_iload_n hx hb dX7_name_40) ?_
  refine bm_cc (s_callV hx hb hml hown hts hK (C := RX3) (TT := TX3) (N := 12) (ci := 3) rfl (by decide) (k_X3_namesIn l g) tw_154 tw_138 tw_139 tw_26 tw_136 ⟨by decide, by decide, by decide +kernel⟩ ⟨by rw [hF]; decide, by rw [hL]; decide⟩ dX7_name_41) ?_
  refine bm_cc (s_bipush hx hb dX7_name_44 (by decide)) ?_
  refine bm_cc (s_iclt hx hb dX7_name_46 (by decide)) ?_
  refine bm_cc (s_bipush hx hb dX7_name_49 (by decide)) ?_
  refine bm_cc (s_iret hx hb hr hlk dX7_name_51) ?_
  refine bm_cc (s_aload_n hx hb dX7_name_52) ?_
  refine bm_cc (s_getR hx hb hown hts hK (C := RX7) (TT := TX7) (N := 6) (ci := 6) (j := 1) inT7 rfl (by decide) rfl (by decide) rfl tw_53 rfl dX7_name_53) ?_
  refine bm_cc (s_aload_n hx hb dX7_name_56) ?_
  refine bm_cc (s_getR hx hb hown hts hK (C := RX7) (TT := TX7) (N := 6) (ci := 6) (j := 0) inT7 rfl (by decide) rfl (by decide) rfl tw_46 rfl dX7_name_57) ?_
  refine bm_cc (s_callV hx hb hml hown hts hK (C := RX2) (TT := TX2) (N := 3) (ci := 2) rfl (by decide) (k_X2_keep l g) tw_115 tw_116 tw_117 tw_49 tw_114 ⟨by decide, by decide, by decide +kernel⟩ ⟨by rw [hF]; decide, by rw [hL]; decide⟩ dX7_name_60) ?_
  refine bm_cc (s_aload_n hx hb dX7_name_63) ?_
  refine bm_cc (s_getR hx hb hown hts hK (C := RX7) (TT := TX7) (N := 6) (ci := 6) (j := 0) inT7 rfl (by decide) rfl (by decide) rfl tw_46 rfl dX7_name_64) ?_
  refine bm_cc (s_iload_n hx hb dX7_name_67) ?_
  refine bm_cc (s_iload_n hx hb dX7_name_68) ?_
  refine bm_cc (s_callV hx hb hml hown hts hK (C := RX3) (TT := TX3) (N := 12) (ci := 3) rfl (by decide) (k_X3_addName l g) tw_156 tw_157 tw_158 tw_26 tw_155 ⟨by decide, by decide, by decide +kernel⟩ ⟨by rw [hF]; decide, by rw [hL]; decide⟩ dX7_name_69) ?_
  refine bm_cc (s_iret hx hb hr hlk dX7_name_72) ?_
  exact bm_c9

noncomputable def z_X3_wayOf : List (Nat × bm_O) := [(0, op_aload 0), (1, op_getR 3 4), (4, op_iload 1), (5, op_call 1 2 bm_c0 f_X4_get), (8, op_iret)]
noncomputable def f_X3_wayOf : bm_F := Classical.choose (bm_hide (bm_mt 2 z_X3_wayOf))
theorem u_X3_wayOf : f_X3_wayOf = bm_mt 2 z_X3_wayOf := Classical.choose_spec (bm_hide _)
theorem k_X3_wayOf (l : Launch) (g : bm_G) : bm_MetF l g yX3_wayOf cX3_wayOf 2 (some .int) 1 21 f_X3_wayOf := by
  rw [u_X3_wayOf]
  refine bm_met (by decide) ?_
  intro p e R s m args below meth c n0 s0 hx hb hml hown hts hK hr hlk hnm hF hL
  refine bm_cc (s_aload_n hx hb dX3_wayOf_0) ?_
  refine bm_cc (s_getR hx hb hown hts hK (C := RX3) (TT := TX3) (N := 12) (ci := 3) (j := 4) inT3 rfl (by decide) rfl (by decide) rfl tw_10 rfl dX3_wayOf_1) ?_
  refine bm_cc (s_iload_n hx hb dX3_wayOf_4) ?_
  refine bm_cc (s_callS hx hb hml hown hts hK (k_X4_get l g) tw_132 tw_133 tw_18 tw_131 ⟨by decide, by decide, by decide +kernel⟩ ⟨by rw [hF]; decide, by rw [hL]; decide⟩ dX3_wayOf_5) ?_
  refine bm_cc (s_iret hx hb hr hlk dX3_wayOf_8) ?_
  exact bm_c9

noncomputable def z_X3_turnBy : List (Nat × bm_O) := [(0, op_aload 0), (1, op_iload 1), (2, op_call 1 2 (bm_rc 3) f_X3_wayOf), (5, op_istore 3), (6, op_aload 0), (7, op_getR 3 4), (10, op_iload 1), (11, op_iload 2), (12, op_call 0 3 bm_c0 f_X4_put), (15, op_iload 3), (16, op_iret)]
noncomputable def f_X3_turnBy : bm_F := Classical.choose (bm_hide (bm_mt 4 z_X3_turnBy))
theorem u_X3_turnBy : f_X3_turnBy = bm_mt 4 z_X3_turnBy := Classical.choose_spec (bm_hide _)
theorem k_X3_turnBy (l : Launch) (g : bm_G) : bm_MetF l g yX3_turnBy cX3_turnBy 4 (some .int) 2 42 f_X3_turnBy := by
  rw [u_X3_turnBy]
  refine bm_met (by decide) ?_
  intro p e R s m args below meth c n0 s0 hx hb hml hown hts hK hr hlk hnm hF hL
  refine bm_cc (s_aload_n hx hb dX3_turnBy_0) ?_
  refine bm_cc (s_iload_n hx hb dX3_turnBy_1) ?_
  refine bm_cc (s_callV hx hb hml hown hts hK (C := RX3) (TT := TX3) (N := 12) (ci := 3) rfl (by decide) (k_X3_wayOf l g) tw_168 tw_169 tw_170 tw_26 tw_167 ⟨by decide, by decide, by decide +kernel⟩ ⟨by rw [hF]; decide, by rw [hL]; decide⟩ dX3_turnBy_2) ?_
  refine bm_cc (s_istore_n hx hb dX3_turnBy_5) ?_
  refine bm_cc (s_aload_n hx hb dX3_turnBy_6) ?_
  refine bm_cc (s_getR hx hb hown hts hK (C := RX3) (TT := TX3) (N := 12) (ci := 3) (j := 4) inT3 rfl (by decide) rfl (by decide) rfl tw_10 rfl dX3_turnBy_7) ?_
  refine bm_cc (s_iload_n hx hb dX3_turnBy_10) ?_
  refine bm_cc (s_iload_n hx hb dX3_turnBy_11) ?_
  refine bm_cc (s_callS hx hb hml hown hts hK (k_X4_put l g) tw_104 tw_105 tw_18 tw_103 ⟨by decide, by decide, by decide +kernel⟩ ⟨by rw [hF]; decide, by rw [hL]; decide⟩ dX3_turnBy_12) ?_
  refine bm_cc (s_iload_n hx hb dX3_turnBy_15) ?_
  refine bm_cc (s_iret hx hb hr hlk dX3_turnBy_16) ?_
  exact bm_c9

noncomputable def z_X7_way : List (Nat × bm_O) := [(0, op_aload 0), (1, op_getR 6 0), (4, op_iload 1), (5, op_call 1 2 (bm_rc 3) f_X3_hasContest), (8, op_ifeq 20), (11, op_iload 2), (12, op_const (0)), (13, op_const (2)), (14, op_call 1 3 bm_c0 f_X7_within), (17, op_ifne 22), (20, op_const (-1)), (21, op_iret), (22, op_aload 0), (23, op_getR 6 0), (26, op_call 1 1 (bm_rc 3) f_X3_ballots), (29, op_ifle 35), (32, op_const (-2)), (34, op_iret), (35, op_aload 0), (36, op_getR 6 1), (39, op_aload 0), (40, op_getR 6 0), (43, op_call 0 2 (bm_rc 2) f_X2_keep), (46, op_aload 0), (47, op_getR 6 0), (50, op_iload 1), (51, op_iload 2), (52, op_call 1 3 (bm_rc 3) f_X3_turnBy), (55, op_iret)]
noncomputable def f_X7_way : bm_F := Classical.choose (bm_hide (bm_mt 3 z_X7_way))
theorem u_X7_way : f_X7_way = bm_mt 3 z_X7_way := Classical.choose_spec (bm_hide _)
theorem k_X7_way (l : Launch) (g : bm_G) : bm_MetF l g yX7_way cX7_way 3 (some .int) 4 82 f_X7_way := by
  rw [u_X7_way]
  refine bm_met (by decide) ?_
  intro p e R s m args below meth c n0 s0 hx hb hml hown hts hK hr hlk hnm hF hL
  refine bm_cc (s_aload_n hx hb dX7_way_0) ?_
  refine bm_cc (s_getR hx hb hown hts hK (C := RX7) (TT := TX7) (N := 6) (ci := 6) (j := 0) inT7 rfl (by decide) rfl (by decide) rfl tw_46 rfl dX7_way_1) ?_
  refine bm_cc (s_iload_n hx hb dX7_way_4) ?_
  refine bm_cc (s_callV hx hb hml hown hts hK (C := RX3) (TT := TX3) (N := 12) (ci := 3) rfl (by decide) (k_X3_hasContest l g) tw_147 tw_148 tw_149 tw_26 tw_146 ⟨by decide, by decide, by decide +kernel⟩ ⟨by rw [hF]; decide, by rw [hL]; decide⟩ dX7_way_5) ?_
  refine bm_cc (s_ifeq hx hb dX7_way_8 (by decide)) ?_
  refine bm_cc (s_iload_n hx hb dX7_way_11) ?_
  refine bm_cc (s_iconst hx hb dX7_way_12 (by decide)) ?_
  refine bm_cc (s_iconst hx hb dX7_way_13 (by decide)) ?_
  refine bm_cc (s_callS hx hb hml hown hts hK (k_X7_within l g) tw_108 tw_109 tw_106 tw_107 ⟨by decide, by decide, by decide +kernel⟩ ⟨by rw [hF]; decide, by rw [hL]; decide⟩ dX7_way_14) ?_
  refine bm_cc (s_ifne hx hb dX7_way_17 (by decide)) ?_
  refine bm_cc (s_iconst hx hb dX7_way_20 (by decide)) ?_
  refine bm_cc (s_iret hx hb hr hlk dX7_way_21) ?_
  refine bm_cc (s_aload_n hx hb dX7_way_22) ?_
  refine bm_cc (s_getR hx hb hown hts hK (C := RX7) (TT := TX7) (N := 6) (ci := 6) (j := 0) inT7 rfl (by decide) rfl (by decide) rfl tw_46 rfl dX7_way_23) ?_
  refine bm_cc (s_callV hx hb hml hown hts hK (C := RX3) (TT := TX3) (N := 12) (ci := 3) rfl (by decide) (k_X3_ballots l g) tw_151 tw_152 tw_153 tw_26 tw_150 ⟨by decide, by decide, by decide +kernel⟩ ⟨by rw [hF]; decide, by rw [hL]; decide⟩ dX7_way_26) ?_
  refine bm_cc (s_ifle hx hb dX7_way_29 (by decide)) ?_
  refine bm_cc (s_bipush hx hb dX7_way_32 (by decide)) ?_
  refine bm_cc (s_iret hx hb hr hlk dX7_way_34) ?_
  refine bm_cc (s_aload_n hx hb dX7_way_35) ?_
  refine bm_cc (s_getR hx hb hown hts hK (C := RX7) (TT := TX7) (N := 6) (ci := 6) (j := 1) inT7 rfl (by decide) rfl (by decide) rfl tw_53 rfl dX7_way_36) ?_
  refine bm_cc (s_aload_n hx hb dX7_way_39) ?_
  refine bm_cc (s_getR hx hb hown hts hK (C := RX7) (TT := TX7) (N := 6) (ci := 6) (j := 0) inT7 rfl (by decide) rfl (by decide) rfl tw_46 rfl dX7_way_40) ?_
  refine bm_cc (s_callV hx hb hml hown hts hK (C := RX2) (TT := TX2) (N := 3) (ci := 2) rfl (by decide) (k_X2_keep l g) tw_115 tw_116 tw_117 tw_49 tw_114 ⟨by decide, by decide, by decide +kernel⟩ ⟨by rw [hF]; decide, by rw [hL]; decide⟩ dX7_way_43) ?_
  refine bm_cc (s_aload_n hx hb dX7_way_46) ?_
  refine bm_cc (s_getR hx hb hown hts hK (C := RX7) (TT := TX7) (N := 6) (ci := 6) (j := 0) inT7 rfl (by decide) rfl (by decide) rfl tw_46 rfl dX7_way_47) ?_
  refine bm_cc (s_iload_n hx hb dX7_way_50) ?_
  refine bm_cc (s_iload_n hx hb dX7_way_51) ?_
  refine bm_cc (s_callV hx hb hml hown hts hK (C := RX3) (TT := TX3) (N := 12) (ci := 3) rfl (by decide) (k_X3_turnBy l g) tw_172 tw_173 tw_174 tw_26 tw_171 ⟨by decide, by decide, by decide +kernel⟩ ⟨by rw [hF]; decide, by rw [hL]; decide⟩ dX7_way_52) ?_
  refine bm_cc (s_iret hx hb hr hlk dX7_way_55) ?_
  exact bm_c9

noncomputable def z_X3_setting : List (Nat × bm_O) := [(0, op_aload 0), (1, op_getR 3 11), (4, op_iload 1), (5, op_call 1 2 bm_c0 f_X4_get), (8, op_iret)]
noncomputable def f_X3_setting : bm_F := Classical.choose (bm_hide (bm_mt 2 z_X3_setting))
theorem u_X3_setting : f_X3_setting = bm_mt 2 z_X3_setting := Classical.choose_spec (bm_hide _)
theorem k_X3_setting (l : Launch) (g : bm_G) : bm_MetF l g yX3_setting cX3_setting 2 (some .int) 1 21 f_X3_setting := by
  rw [u_X3_setting]
  refine bm_met (by decide) ?_
  intro p e R s m args below meth c n0 s0 hx hb hml hown hts hK hr hlk hnm hF hL
  refine bm_cc (s_aload_n hx hb dX3_setting_0) ?_
  refine bm_cc (s_getR hx hb hown hts hK (C := RX3) (TT := TX3) (N := 12) (ci := 3) (j := 11) inT3 rfl (by decide) rfl (by decide) rfl tw_17 rfl dX3_setting_1) ?_
  refine bm_cc (s_iload_n hx hb dX3_setting_4) ?_
  refine bm_cc (s_callS hx hb hml hown hts hK (k_X4_get l g) tw_132 tw_133 tw_18 tw_131 ⟨by decide, by decide, by decide +kernel⟩ ⟨by rw [hF]; decide, by rw [hL]; decide⟩ dX3_setting_5) ?_
  refine bm_cc (s_iret hx hb hr hlk dX3_setting_8) ?_
  exact bm_c9

noncomputable def z_X3_hasVersion : List (Nat × bm_O) := [(0, op_iload 1), (1, op_const (0)), (2, op_aload 0), (3, op_const (5)), (4, op_call 1 2 (bm_rc 3) f_X3_setting), (7, op_const (1)), (8, op_bin (fun a b => a - b)), (9, op_call 1 3 bm_c0 f_X7_within), (12, op_zret)]
noncomputable def f_X3_hasVersion : bm_F := Classical.choose (bm_hide (bm_mt 2 z_X3_hasVersion))
theorem u_X3_hasVersion : f_X3_hasVersion = bm_mt 2 z_X3_hasVersion := Classical.choose_spec (bm_hide _)
theorem k_X3_hasVersion (l : Launch) (g : bm_G) : bm_MetF l g yX3_hasVersion cX3_hasVersion 2 (some .boolean) 2 42 f_X3_hasVersion := by
  rw [u_X3_hasVersion]
  refine bm_met (by decide) ?_
  intro p e R s m args below meth c n0 s0 hx hb hml hown hts hK hr hlk hnm hF hL
  refine bm_cc (s_iload_n hx hb dX3_hasVersion_0) ?_
  refine bm_cc (s_iconst hx hb dX3_hasVersion_1 (by decide)) ?_
  refine bm_cc (s_aload_n hx hb dX3_hasVersion_2) ?_
  refine bm_cc (s_iconst hx hb dX3_hasVersion_3 (by decide)) ?_
  refine bm_cc (s_callV hx hb hml hown hts hK (C := RX3) (TT := TX3) (N := 12) (ci := 3) rfl (by decide) (k_X3_setting l g) tw_176 tw_177 tw_178 tw_26 tw_175 ⟨by decide, by decide, by decide +kernel⟩ ⟨by rw [hF]; decide, by rw [hL]; decide⟩ dX3_hasVersion_4) ?_
  refine bm_cc (s_iconst hx hb dX3_hasVersion_7 (by decide)) ?_
  refine bm_cc (s_isub hx hb dX3_hasVersion_8) ?_
  refine bm_cc (s_callSN hx hb hml hown hts hK (k_X7_within l g) (hK.2.2.2.2.1 _ (List.mem_of_getElem? (i := 0) rfl)) tw_109 tw_106 tw_107 ⟨by decide, by decide, by decide +kernel⟩ ⟨by rw [hF]; decide, by rw [hL]; decide⟩ dX3_hasVersion_9) ?_
  refine bm_cc (s_zret hx hb hr hlk dX3_hasVersion_12) ?_
  exact bm_c9

noncomputable def z_X3_papersIn : List (Nat × bm_O) := [(0, op_aload 0), (1, op_getR 3 10), (4, op_iload 1), (5, op_call 1 2 bm_c0 f_X4_get), (8, op_iret)]
noncomputable def f_X3_papersIn : bm_F := Classical.choose (bm_hide (bm_mt 2 z_X3_papersIn))
theorem u_X3_papersIn : f_X3_papersIn = bm_mt 2 z_X3_papersIn := Classical.choose_spec (bm_hide _)
theorem k_X3_papersIn (l : Launch) (g : bm_G) : bm_MetF l g yX3_papersIn cX3_papersIn 2 (some .int) 1 21 f_X3_papersIn := by
  rw [u_X3_papersIn]
  refine bm_met (by decide) ?_
  intro p e R s m args below meth c n0 s0 hx hb hml hown hts hK hr hlk hnm hF hL
  refine bm_cc (s_aload_n hx hb dX3_papersIn_0) ?_
  refine bm_cc (s_getR hx hb hown hts hK (C := RX3) (TT := TX3) (N := 12) (ci := 3) (j := 10) inT3 rfl (by decide) rfl (by decide) rfl tw_16 rfl dX3_papersIn_1) ?_
  refine bm_cc (s_iload_n hx hb dX3_papersIn_4) ?_
  refine bm_cc (s_callS hx hb hml hown hts hK (k_X4_get l g) tw_132 tw_133 tw_18 tw_131 ⟨by decide, by decide, by decide +kernel⟩ ⟨by rw [hF]; decide, by rw [hL]; decide⟩ dX3_papersIn_5) ?_
  refine bm_cc (s_iret hx hb hr hlk dX3_papersIn_8) ?_
  exact bm_c9

noncomputable def z_X3_printPapers : List (Nat × bm_O) := [(0, op_aload 0), (1, op_iload 1), (2, op_call 1 2 (bm_rc 3) f_X3_papersIn), (5, op_istore 3), (6, op_aload 0), (7, op_getR 3 10), (10, op_iload 1), (11, op_iload 2), (12, op_call 0 3 bm_c0 f_X4_put), (15, op_iload 3), (16, op_iret)]
noncomputable def f_X3_printPapers : bm_F := Classical.choose (bm_hide (bm_mt 4 z_X3_printPapers))
theorem u_X3_printPapers : f_X3_printPapers = bm_mt 4 z_X3_printPapers := Classical.choose_spec (bm_hide _)
theorem k_X3_printPapers (l : Launch) (g : bm_G) : bm_MetF l g yX3_printPapers cX3_printPapers 4 (some .int) 2 42 f_X3_printPapers := by
  rw [u_X3_printPapers]
  refine bm_met (by decide) ?_
  intro p e R s m args below meth c n0 s0 hx hb hml hown hts hK hr hlk hnm hF hL
  refine bm_cc (s_aload_n hx hb dX3_printPapers_0) ?_
  refine bm_cc (s_iload_n hx hb dX3_printPapers_1) ?_
  refine bm_cc (s_callV hx hb hml hown hts hK (C := RX3) (TT := TX3) (N := 12) (ci := 3) rfl (by decide) (k_X3_papersIn l g) tw_180 tw_181 tw_182 tw_26 tw_179 ⟨by decide, by decide, by decide +kernel⟩ ⟨by rw [hF]; decide, by rw [hL]; decide⟩ dX3_printPapers_2) ?_
  refine bm_cc (s_istore_n hx hb dX3_printPapers_5) ?_
  refine bm_cc (s_aload_n hx hb dX3_printPapers_6) ?_
  refine bm_cc (s_getR hx hb hown hts hK (C := RX3) (TT := TX3) (N := 12) (ci := 3) (j := 10) inT3 rfl (by decide) rfl (by decide) rfl tw_16 rfl dX3_printPapers_7) ?_
  refine bm_cc (s_iload_n hx hb dX3_printPapers_10) ?_
  refine bm_cc (s_iload_n hx hb dX3_printPapers_11) ?_
  refine bm_cc (s_callS hx hb hml hown hts hK (k_X4_put l g) tw_104 tw_105 tw_18 tw_103 ⟨by decide, by decide, by decide +kernel⟩ ⟨by rw [hF]; decide, by rw [hL]; decide⟩ dX3_printPapers_12) ?_
  refine bm_cc (s_iload_n hx hb dX3_printPapers_15) ?_
  refine bm_cc (s_iret hx hb hr hlk dX3_printPapers_16) ?_
  exact bm_c9

noncomputable def z_X7_papers : List (Nat × bm_O) := [(0, op_aload 0), (1, op_getR 6 0), (4, op_iload 1), (5, op_call 1 2 (bm_rc 3) f_X3_hasVersion), (8, op_ifeq 22), (11, op_iload 2), (12, op_const (0)), (13, op_const (9999)), (16, op_call 1 3 bm_c0 f_X7_within), (19, op_ifne 24), (22, op_const (-1)), (23, op_iret), (24, op_aload 0), (25, op_getR 6 1), (28, op_aload 0), (29, op_getR 6 0), (32, op_call 0 2 (bm_rc 2) f_X2_keep), (35, op_aload 0), (36, op_getR 6 0), (39, op_iload 1), (40, op_iload 2), (41, op_call 1 3 (bm_rc 3) f_X3_printPapers), (44, op_iret)]
noncomputable def f_X7_papers : bm_F := Classical.choose (bm_hide (bm_mt 3 z_X7_papers))
theorem u_X7_papers : f_X7_papers = bm_mt 3 z_X7_papers := Classical.choose_spec (bm_hide _)
theorem k_X7_papers (l : Launch) (g : bm_G) : bm_MetF l g yX7_papers cX7_papers 3 (some .int) 4 82 f_X7_papers := by
  rw [u_X7_papers]
  refine bm_met (by decide) ?_
  intro p e R s m args below meth c n0 s0 hx hb hml hown hts hK hr hlk hnm hF hL
  refine bm_cc (s_aload_n hx hb dX7_papers_0) ?_
  refine bm_cc (s_getR hx hb hown hts hK (C := RX7) (TT := TX7) (N := 6) (ci := 6) (j := 0) inT7 rfl (by decide) rfl (by decide) rfl tw_46 rfl dX7_papers_1) ?_
  refine bm_cc (s_iload_n hx hb dX7_papers_4) ?_
  refine bm_cc (s_callV hx hb hml hown hts hK (C := RX3) (TT := TX3) (N := 12) (ci := 3) rfl (by decide) (k_X3_hasVersion l g) tw_184 tw_185 tw_186 tw_26 tw_183 ⟨by decide, by decide, by decide +kernel⟩ ⟨by rw [hF]; decide, by rw [hL]; decide⟩ dX7_papers_5) ?_
  refine bm_cc (s_ifeq hx hb dX7_papers_8 (by decide)) ?_
  refine bm_cc (s_iload_n hx hb dX7_papers_11) ?_
  refine bm_cc (s_iconst hx hb dX7_papers_12 (by decide)) ?_
  refine bm_cc (s_sipush hx hb dX7_papers_13 (by decide)) ?_
  refine bm_cc (s_callS hx hb hml hown hts hK (k_X7_within l g) tw_108 tw_109 tw_106 tw_107 ⟨by decide, by decide, by decide +kernel⟩ ⟨by rw [hF]; decide, by rw [hL]; decide⟩ dX7_papers_16) ?_
  refine bm_cc (s_ifne hx hb dX7_papers_19 (by decide)) ?_
  refine bm_cc (s_iconst hx hb dX7_papers_22 (by decide)) ?_
  refine bm_cc (s_iret hx hb hr hlk dX7_papers_23) ?_
  refine bm_cc (s_aload_n hx hb dX7_papers_24) ?_
  refine bm_cc (s_getR hx hb hown hts hK (C := RX7) (TT := TX7) (N := 6) (ci := 6) (j := 1) inT7 rfl (by decide) rfl (by decide) rfl tw_53 rfl dX7_papers_25) ?_
  refine bm_cc (s_aload_n hx hb dX7_papers_28) ?_
  refine bm_cc (s_getR hx hb hown hts hK (C := RX7) (TT := TX7) (N := 6) (ci := 6) (j := 0) inT7 rfl (by decide) rfl (by decide) rfl tw_46 rfl dX7_papers_29) ?_
  refine bm_cc (s_callV hx hb hml hown hts hK (C := RX2) (TT := TX2) (N := 3) (ci := 2) rfl (by decide) (k_X2_keep l g) tw_115 tw_116 tw_117 tw_49 tw_114 ⟨by decide, by decide, by decide +kernel⟩ ⟨by rw [hF]; decide, by rw [hL]; decide⟩ dX7_papers_32) ?_
  refine bm_cc (s_aload_n hx hb dX7_papers_35) ?_
  refine bm_cc (s_getR hx hb hown hts hK (C := RX7) (TT := TX7) (N := 6) (ci := 6) (j := 0) inT7 rfl (by decide) rfl (by decide) rfl tw_46 rfl dX7_papers_36) ?_
  refine bm_cc (s_iload_n hx hb dX7_papers_39) ?_
  refine bm_cc (s_iload_n hx hb dX7_papers_40) ?_
  refine bm_cc (s_callV hx hb hml hown hts hK (C := RX3) (TT := TX3) (N := 12) (ci := 3) rfl (by decide) (k_X3_printPapers l g) tw_188 tw_189 tw_190 tw_26 tw_187 ⟨by decide, by decide, by decide +kernel⟩ ⟨by rw [hF]; decide, by rw [hL]; decide⟩ dX7_papers_41) ?_
  refine bm_cc (s_iret hx hb hr hlk dX7_papers_44) ?_
  exact bm_c9

noncomputable def z_X7_allowed : List (Nat × bm_O) := [(0, op_iload 0), (1, op_const (0)), (2, op_const (5)), (3, op_call 1 3 bm_c0 f_X7_within), (6, op_ifne 11), (9, op_const (0)), (10, op_zret), (11, op_iload 0), (12, op_const (4)), (13, op_icne 22), (16, op_iload 1), (17, op_ifne 22), (20, op_const (1)), (21, op_zret), (22, op_iload 1), (23, op_gets 1), (26, op_iload 0), (27, op_call 1 2 bm_c0 f_X4_get), (30, op_gets 2), (33, op_iload 0), (34, op_call 1 2 bm_c0 f_X4_get), (37, op_call 1 3 bm_c0 f_X7_within), (40, op_zret)]
noncomputable def f_X7_allowed : bm_F := Classical.choose (bm_hide (bm_mt 2 z_X7_allowed))
theorem u_X7_allowed : f_X7_allowed = bm_mt 2 z_X7_allowed := Classical.choose_spec (bm_hide _)
theorem k_X7_allowed (l : Launch) (g : bm_G) : bm_MetF l g yX7_allowed cX7_allowed 2 (some .boolean) 1 22 f_X7_allowed := by
  rw [u_X7_allowed]
  refine bm_met (by decide) ?_
  intro p e R s m args below meth c n0 s0 hx hb hml hown hts hK hr hlk hnm hF hL
  refine bm_cc (s_iload_n hx hb dX7_allowed_0) ?_
  refine bm_cc (s_iconst hx hb dX7_allowed_1 (by decide)) ?_
  refine bm_cc (s_iconst hx hb dX7_allowed_2 (by decide)) ?_
  refine bm_cc (s_callS hx hb hml hown hts hK (k_X7_within l g) tw_108 tw_109 tw_106 tw_107 ⟨by decide, by decide, by decide +kernel⟩ ⟨by rw [hF]; decide, by rw [hL]; decide⟩ dX7_allowed_3) ?_
  refine bm_cc (s_ifne hx hb dX7_allowed_6 (by decide)) ?_
  refine bm_cc (s_iconst hx hb dX7_allowed_9 (by decide)) ?_
  refine bm_cc (s_zret hx hb hr hlk dX7_allowed_10) ?_
  refine bm_cc (s_iload_n hx hb dX7_allowed_11) ?_
  refine bm_cc (s_iconst hx hb dX7_allowed_12 (by decide)) ?_
  refine bm_cc (s_icne hx hb dX7_allowed_13 (by decide)) ?_
  refine bm_cc (s_iload_n hx hb dX7_allowed_16) ?_
  refine bm_cc (s_ifne hx hb dX7_allowed_17 (by decide)) ?_
  refine bm_cc (s_iconst hx hb dX7_allowed_20 (by decide)) ?_
  refine bm_cc (s_zret hx hb hr hlk dX7_allowed_21) ?_
  refine bm_cc (s_iload_n hx hb dX7_allowed_22) ?_
  refine bm_cc (s_gets hx hb hown hts hK.2.2.2.1.2.1 (by decide) tw_195 dX7_allowed_23) ?_
  refine bm_cc (s_iload_n hx hb dX7_allowed_26) ?_
  refine bm_cc (s_callS hx hb hml hown hts hK (k_X4_get l g) tw_196 tw_133 tw_18 tw_131 ⟨by decide, by decide, by decide +kernel⟩ ⟨by rw [hF]; decide, by rw [hL]; decide⟩ dX7_allowed_27) ?_
  refine bm_cc (s_gets hx hb hown hts hK.2.2.2.1.2.2 (by decide) tw_197 dX7_allowed_30) ?_
  refine bm_cc (s_iload_n hx hb dX7_allowed_33) ?_
  refine bm_cc (s_callS hx hb hml hown hts hK (k_X4_get l g) tw_196 tw_133 tw_18 tw_131 ⟨by decide, by decide, by decide +kernel⟩ ⟨by rw [hF]; decide, by rw [hL]; decide⟩ dX7_allowed_34) ?_
  refine bm_cc (s_callS hx hb hml hown hts hK (k_X7_within l g) tw_108 tw_109 tw_106 tw_107 ⟨by decide, by decide, by decide +kernel⟩ ⟨by rw [hF]; decide, by rw [hL]; decide⟩ dX7_allowed_37) ?_
  refine bm_cc (s_zret hx hb hr hlk dX7_allowed_40) ?_
  exact bm_c9

noncomputable def z_X4_wipe : List (Nat × bm_O) := [(0, op_aload 0), (1, op_ifnull 24), (4, op_iload 1), (5, op_istore 2), (6, op_iload 2), (7, op_aload 0), (8, op_alen), (9, op_icge 24), (12, op_aload 0), (13, op_iload 2), (14, op_const (0)), (15, op_call 0 3 bm_c0 f_X4_put), (18, op_iinc 2 1), (21, op_goto 6), (24, op_ret)]
noncomputable def f_X4_wipe : bm_F := Classical.choose (bm_hide (bm_mt 3 z_X4_wipe))
theorem u_X4_wipe : f_X4_wipe = bm_mt 3 z_X4_wipe := Classical.choose_spec (bm_hide _)
theorem k_X4_wipe (l : Launch) (g : bm_G) : bm_MetF l g yX4_wipe cX4_wipe 3 none 1 22 f_X4_wipe := by
  rw [u_X4_wipe]
  refine bm_met (by decide) ?_
  intro p e R s m args below meth c n0 s0 hx hb hml hown hts hK hr hlk hnm hF hL
  refine bm_cc (s_aload_n hx hb dX4_wipe_0) ?_
  refine bm_cc (s_ifnull hx hb dX4_wipe_1 (by decide)) ?_
  refine bm_cc (s_iload_n hx hb dX4_wipe_4) ?_
  refine bm_cc (s_istore_n hx hb dX4_wipe_5) ?_
  refine bm_cc (s_iload_n hx hb dX4_wipe_6) ?_
  refine bm_cc (s_aload_n hx hb dX4_wipe_7) ?_
  refine bm_cc (s_alen hx hb hK dX4_wipe_8) ?_
  refine bm_cc (s_icge hx hb dX4_wipe_9 (by decide)) ?_
  refine bm_cc (s_aload_n hx hb dX4_wipe_12) ?_
  refine bm_cc (s_iload_n hx hb dX4_wipe_13) ?_
  refine bm_cc (s_iconst hx hb dX4_wipe_14 (by decide)) ?_
  refine bm_cc (s_callS hx hb hml hown hts hK (k_X4_put l g) tw_135 tw_105 tw_18 tw_103 ⟨by decide, by decide, by decide +kernel⟩ ⟨by rw [hF]; decide, by rw [hL]; decide⟩ dX4_wipe_15) ?_
  refine bm_cc (s_iinc hx hb dX4_wipe_18 (by decide)) ?_
  refine bm_cc (s_goto hx hb dX4_wipe_21 (by decide)) ?_
  refine bm_cc (s_ret hx hb hr hlk dX4_wipe_24) ?_
  exact bm_c9

noncomputable def z_X3_change : List (Nat × bm_O) := [(0, op_aload 0), (1, op_iload 1), (2, op_call 1 2 (bm_rc 3) f_X3_setting), (5, op_istore 3), (6, op_aload 0), (7, op_getR 3 11), (10, op_iload 1), (11, op_iload 2), (12, op_call 0 3 bm_c0 f_X4_put), (15, op_iload 1), (16, op_const (5)), (17, op_icne 28), (20, op_aload 0), (21, op_getR 3 10), (24, op_iload 2), (25, op_call 0 2 bm_c0 f_X4_wipe), (28, op_iload 3), (29, op_iret)]
noncomputable def f_X3_change : bm_F := Classical.choose (bm_hide (bm_mt 4 z_X3_change))
theorem u_X3_change : f_X3_change = bm_mt 4 z_X3_change := Classical.choose_spec (bm_hide _)
theorem k_X3_change (l : Launch) (g : bm_G) : bm_MetF l g yX3_change cX3_change 4 (some .int) 2 44 f_X3_change := by
  rw [u_X3_change]
  refine bm_met (by decide) ?_
  intro p e R s m args below meth c n0 s0 hx hb hml hown hts hK hr hlk hnm hF hL
  refine bm_cc (s_aload_n hx hb dX3_change_0) ?_
  refine bm_cc (s_iload_n hx hb dX3_change_1) ?_
  refine bm_cc (s_callV hx hb hml hown hts hK (C := RX3) (TT := TX3) (N := 12) (ci := 3) rfl (by decide) (k_X3_setting l g) tw_176 tw_177 tw_178 tw_26 tw_175 ⟨by decide, by decide, by decide +kernel⟩ ⟨by rw [hF]; decide, by rw [hL]; decide⟩ dX3_change_2) ?_
  refine bm_cc (s_istore_n hx hb dX3_change_5) ?_
  refine bm_cc (s_aload_n hx hb dX3_change_6) ?_
  refine bm_cc (s_getR hx hb hown hts hK (C := RX3) (TT := TX3) (N := 12) (ci := 3) (j := 11) inT3 rfl (by decide) rfl (by decide) rfl tw_17 rfl dX3_change_7) ?_
  refine bm_cc (s_iload_n hx hb dX3_change_10) ?_
  refine bm_cc (s_iload_n hx hb dX3_change_11) ?_
  refine bm_cc (s_callS hx hb hml hown hts hK (k_X4_put l g) tw_104 tw_105 tw_18 tw_103 ⟨by decide, by decide, by decide +kernel⟩ ⟨by rw [hF]; decide, by rw [hL]; decide⟩ dX3_change_12) ?_
  refine bm_cc (s_iload_n hx hb dX3_change_15) ?_
  refine bm_cc (s_iconst hx hb dX3_change_16 (by decide)) ?_
  refine bm_cc (s_icne hx hb dX3_change_17 (by decide)) ?_
  refine bm_cc (s_aload_n hx hb dX3_change_20) ?_
  refine bm_cc (s_getR hx hb hown hts hK (C := RX3) (TT := TX3) (N := 12) (ci := 3) (j := 10) inT3 rfl (by decide) rfl (by decide) rfl tw_16 rfl dX3_change_21) ?_
  refine bm_cc (s_iload_n hx hb dX3_change_24) ?_
  refine bm_cc (s_callS hx hb hml hown hts hK (k_X4_wipe l g) tw_199 tw_200 tw_18 tw_198 ⟨by decide, by decide, by decide +kernel⟩ ⟨by rw [hF]; decide, by rw [hL]; decide⟩ dX3_change_25) ?_
  refine bm_cc (s_iload_n hx hb dX3_change_28) ?_
  refine bm_cc (s_iret hx hb hr hlk dX3_change_29) ?_
  exact bm_c9

noncomputable def z_X7_set : List (Nat × bm_O) := [(0, op_iload 1), (1, op_iload 2), (2, op_call 1 2 bm_c0 f_X7_allowed), (5, op_ifne 10), (8, op_const (-1)), (9, op_iret), (10, op_aload 0), (11, op_getR 6 1), (14, op_aload 0), (15, op_getR 6 0), (18, op_call 0 2 (bm_rc 2) f_X2_keep), (21, op_aload 0), (22, op_getR 6 0), (25, op_iload 1), (26, op_iload 2), (27, op_call 1 3 (bm_rc 3) f_X3_change), (30, op_iret)]
noncomputable def f_X7_set : bm_F := Classical.choose (bm_hide (bm_mt 3 z_X7_set))
theorem u_X7_set : f_X7_set = bm_mt 3 z_X7_set := Classical.choose_spec (bm_hide _)
theorem k_X7_set (l : Launch) (g : bm_G) : bm_MetF l g yX7_set cX7_set 3 (some .int) 4 82 f_X7_set := by
  rw [u_X7_set]
  refine bm_met (by decide) ?_
  intro p e R s m args below meth c n0 s0 hx hb hml hown hts hK hr hlk hnm hF hL
  refine bm_cc (s_iload_n hx hb dX7_set_0) ?_
  refine bm_cc (s_iload_n hx hb dX7_set_1) ?_
  refine bm_cc (s_callS hx hb hml hown hts hK (k_X7_allowed l g) tw_202 tw_203 tw_106 tw_201 ⟨by decide, by decide, by decide +kernel⟩ ⟨by rw [hF]; decide, by rw [hL]; decide⟩ dX7_set_2) ?_
  refine bm_cc (s_ifne hx hb dX7_set_5 (by decide)) ?_
  refine bm_cc (s_iconst hx hb dX7_set_8 (by decide)) ?_
  refine bm_cc (s_iret hx hb hr hlk dX7_set_9) ?_
  refine bm_cc (s_aload_n hx hb dX7_set_10) ?_
  refine bm_cc (s_getR hx hb hown hts hK (C := RX7) (TT := TX7) (N := 6) (ci := 6) (j := 1) inT7 rfl (by decide) rfl (by decide) rfl tw_53 rfl dX7_set_11) ?_
  refine bm_cc (s_aload_n hx hb dX7_set_14) ?_
  refine bm_cc (s_getR hx hb hown hts hK (C := RX7) (TT := TX7) (N := 6) (ci := 6) (j := 0) inT7 rfl (by decide) rfl (by decide) rfl tw_46 rfl dX7_set_15) ?_
  refine bm_cc (s_callV hx hb hml hown hts hK (C := RX2) (TT := TX2) (N := 3) (ci := 2) rfl (by decide) (k_X2_keep l g) tw_115 tw_116 tw_117 tw_49 tw_114 ⟨by decide, by decide, by decide +kernel⟩ ⟨by rw [hF]; decide, by rw [hL]; decide⟩ dX7_set_18) ?_
  refine bm_cc (s_aload_n hx hb dX7_set_21) ?_
  refine bm_cc (s_getR hx hb hown hts hK (C := RX7) (TT := TX7) (N := 6) (ci := 6) (j := 0) inT7 rfl (by decide) rfl (by decide) rfl tw_46 rfl dX7_set_22) ?_
  refine bm_cc (s_iload_n hx hb dX7_set_25) ?_
  refine bm_cc (s_iload_n hx hb dX7_set_26) ?_
  refine bm_cc (s_callV hx hb hml hown hts hK (C := RX3) (TT := TX3) (N := 12) (ci := 3) rfl (by decide) (k_X3_change l g) tw_205 tw_206 tw_207 tw_26 tw_204 ⟨by decide, by decide, by decide +kernel⟩ ⟨by rw [hF]; decide, by rw [hL]; decide⟩ dX7_set_27) ?_
  refine bm_cc (s_iret hx hb hr hlk dX7_set_30) ?_
  exact bm_c9

noncomputable def z_X3_forgetVotes : List (Nat × bm_O) := [(0, op_aload 0), (1, op_getI 3 1), (4, op_istore 1), (5, op_aload 0), (6, op_const (0)), (7, op_putI 3 1), (10, op_aload 0), (11, op_getR 3 9), (14, op_const (0)), (15, op_call 0 2 bm_c0 f_X4_wipe), (18, op_aload 0), (19, op_getR 3 6), (22, op_const (0)), (23, op_call 0 2 bm_c0 f_X4_wipe), (26, op_aload 0), (27, op_getR 3 7), (30, op_const (0)), (31, op_call 0 2 bm_c0 f_X4_wipe), (34, op_iload 1), (35, op_iret)]
noncomputable def f_X3_forgetVotes : bm_F := Classical.choose (bm_hide (bm_mt 2 z_X3_forgetVotes))
theorem u_X3_forgetVotes : f_X3_forgetVotes = bm_mt 2 z_X3_forgetVotes := Classical.choose_spec (bm_hide _)
theorem k_X3_forgetVotes (l : Launch) (g : bm_G) : bm_MetF l g yX3_forgetVotes cX3_forgetVotes 2 (some .int) 2 44 f_X3_forgetVotes := by
  rw [u_X3_forgetVotes]
  refine bm_met (by decide) ?_
  intro p e R s m args below meth c n0 s0 hx hb hml hown hts hK hr hlk hnm hF hL
  refine bm_cc (s_aload_n hx hb dX3_forgetVotes_0) ?_
  refine bm_cc (s_getI hx hb hown hts hK (C := RX3) (TT := TX3) (N := 12) (ci := 3) (j := 1) inT3 rfl (by decide) rfl (by decide) rfl tw_92 rfl dX3_forgetVotes_1) ?_
  refine bm_cc (s_istore_n hx hb dX3_forgetVotes_4) ?_
  refine bm_cc (s_aload_n hx hb dX3_forgetVotes_5) ?_
  refine bm_cc (s_iconst hx hb dX3_forgetVotes_6 (by decide)) ?_
  refine bm_cc (s_putI hx hb hown hts hK (C := RX3) (TT := TX3) (N := 12) (ci := 3) (j := 1) inT3 rfl (by decide) rfl (by decide) tyX3 tyX3_ok nmX3 rfl tw_92 rfl rfl (by decide +kernel) dX3_forgetVotes_7) ?_
  refine bm_cc (s_aload_n hx hb dX3_forgetVotes_10) ?_
  refine bm_cc (s_getR hx hb hown hts hK (C := RX3) (TT := TX3) (N := 12) (ci := 3) (j := 9) inT3 rfl (by decide) rfl (by decide) rfl tw_15 rfl dX3_forgetVotes_11) ?_
  refine bm_cc (s_iconst hx hb dX3_forgetVotes_14 (by decide)) ?_
  refine bm_cc (s_callS hx hb hml hown hts hK (k_X4_wipe l g) tw_199 tw_200 tw_18 tw_198 ⟨by decide, by decide, by decide +kernel⟩ ⟨by rw [hF]; decide, by rw [hL]; decide⟩ dX3_forgetVotes_15) ?_
  refine bm_cc (s_aload_n hx hb dX3_forgetVotes_18) ?_
  refine bm_cc (s_getR hx hb hown hts hK (C := RX3) (TT := TX3) (N := 12) (ci := 3) (j := 6) inT3 rfl (by decide) rfl (by decide) rfl tw_12 rfl dX3_forgetVotes_19) ?_
  refine bm_cc (s_iconst hx hb dX3_forgetVotes_22 (by decide)) ?_
  refine bm_cc (s_callS hx hb hml hown hts hK (k_X4_wipe l g) tw_199 tw_200 tw_18 tw_198 ⟨by decide, by decide, by decide +kernel⟩ ⟨by rw [hF]; decide, by rw [hL]; decide⟩ dX3_forgetVotes_23) ?_
  refine bm_cc (s_aload_n hx hb dX3_forgetVotes_26) ?_
  refine bm_cc (s_getR hx hb hown hts hK (C := RX3) (TT := TX3) (N := 12) (ci := 3) (j := 7) inT3 rfl (by decide) rfl (by decide) rfl tw_13 rfl dX3_forgetVotes_27) ?_
  refine bm_cc (s_iconst hx hb dX3_forgetVotes_30 (by decide)) ?_
  refine bm_cc (s_callS hx hb hml hown hts hK (k_X4_wipe l g) tw_199 tw_200 tw_18 tw_198 ⟨by decide, by decide, by decide +kernel⟩ ⟨by rw [hF]; decide, by rw [hL]; decide⟩ dX3_forgetVotes_31) ?_
  refine bm_cc (s_iload_n hx hb dX3_forgetVotes_34) ?_
  refine bm_cc (s_iret hx hb hr hlk dX3_forgetVotes_35) ?_
  exact bm_c9

noncomputable def z_X7_clear : List (Nat × bm_O) := [(0, op_aload 0), (1, op_getR 6 1), (4, op_aload 0), (5, op_getR 6 0), (8, op_call 0 2 (bm_rc 2) f_X2_keep), (11, op_aload 0), (12, op_getR 6 0), (15, op_call 1 1 (bm_rc 3) f_X3_forgetVotes), (18, op_iret)]
noncomputable def f_X7_clear : bm_F := Classical.choose (bm_hide (bm_mt 1 z_X7_clear))
theorem u_X7_clear : f_X7_clear = bm_mt 1 z_X7_clear := Classical.choose_spec (bm_hide _)
theorem k_X7_clear (l : Launch) (g : bm_G) : bm_MetF l g yX7_clear cX7_clear 1 (some .int) 4 82 f_X7_clear := by
  rw [u_X7_clear]
  refine bm_met (by decide) ?_
  intro p e R s m args below meth c n0 s0 hx hb hml hown hts hK hr hlk hnm hF hL
  refine bm_cc (s_aload_n hx hb dX7_clear_0) ?_
  refine bm_cc (s_getR hx hb hown hts hK (C := RX7) (TT := TX7) (N := 6) (ci := 6) (j := 1) inT7 rfl (by decide) rfl (by decide) rfl tw_53 rfl dX7_clear_1) ?_
  refine bm_cc (s_aload_n hx hb dX7_clear_4) ?_
  refine bm_cc (s_getR hx hb hown hts hK (C := RX7) (TT := TX7) (N := 6) (ci := 6) (j := 0) inT7 rfl (by decide) rfl (by decide) rfl tw_46 rfl dX7_clear_5) ?_
  refine bm_cc (s_callV hx hb hml hown hts hK (C := RX2) (TT := TX2) (N := 3) (ci := 2) rfl (by decide) (k_X2_keep l g) tw_115 tw_116 tw_117 tw_49 tw_114 ⟨by decide, by decide, by decide +kernel⟩ ⟨by rw [hF]; decide, by rw [hL]; decide⟩ dX7_clear_8) ?_
  refine bm_cc (s_aload_n hx hb dX7_clear_11) ?_
  refine bm_cc (s_getR hx hb hown hts hK (C := RX7) (TT := TX7) (N := 6) (ci := 6) (j := 0) inT7 rfl (by decide) rfl (by decide) rfl tw_46 rfl dX7_clear_12) ?_
  refine bm_cc (s_callV hx hb hml hown hts hK (C := RX3) (TT := TX3) (N := 12) (ci := 3) rfl (by decide) (k_X3_forgetVotes l g) tw_212 tw_213 tw_214 tw_26 tw_211 ⟨by decide, by decide, by decide +kernel⟩ ⟨by rw [hF]; decide, by rw [hL]; decide⟩ dX7_clear_15) ?_
  refine bm_cc (s_iret hx hb hr hlk dX7_clear_18) ?_
  exact bm_c9

noncomputable def z_X3_titleOf : List (Nat × bm_O) := [(0, op_aload 0), (1, op_getR 3 2), (4, op_iload 1), (5, op_call 1 2 bm_c0 f_X4_get), (8, op_iret)]
noncomputable def f_X3_titleOf : bm_F := Classical.choose (bm_hide (bm_mt 2 z_X3_titleOf))
theorem u_X3_titleOf : f_X3_titleOf = bm_mt 2 z_X3_titleOf := Classical.choose_spec (bm_hide _)
theorem k_X3_titleOf (l : Launch) (g : bm_G) : bm_MetF l g yX3_titleOf cX3_titleOf 2 (some .int) 1 21 f_X3_titleOf := by
  rw [u_X3_titleOf]
  refine bm_met (by decide) ?_
  intro p e R s m args below meth c n0 s0 hx hb hml hown hts hK hr hlk hnm hF hL
  refine bm_cc (s_aload_n hx hb dX3_titleOf_0) ?_
  refine bm_cc (s_getR hx hb hown hts hK (C := RX3) (TT := TX3) (N := 12) (ci := 3) (j := 2) inT3 rfl (by decide) rfl (by decide) rfl tw_8 rfl dX3_titleOf_1) ?_
  refine bm_cc (s_iload_n hx hb dX3_titleOf_4) ?_
  refine bm_cc (s_callS hx hb hml hown hts hK (k_X4_get l g) tw_132 tw_133 tw_18 tw_131 ⟨by decide, by decide, by decide +kernel⟩ ⟨by rw [hF]; decide, by rw [hL]; decide⟩ dX3_titleOf_5) ?_
  refine bm_cc (s_iret hx hb hr hlk dX3_titleOf_8) ?_
  exact bm_c9

noncomputable def z_X3_seatsOf : List (Nat × bm_O) := [(0, op_aload 0), (1, op_getR 3 3), (4, op_iload 1), (5, op_call 1 2 bm_c0 f_X4_get), (8, op_iret)]
noncomputable def f_X3_seatsOf : bm_F := Classical.choose (bm_hide (bm_mt 2 z_X3_seatsOf))
theorem u_X3_seatsOf : f_X3_seatsOf = bm_mt 2 z_X3_seatsOf := Classical.choose_spec (bm_hide _)
theorem k_X3_seatsOf (l : Launch) (g : bm_G) : bm_MetF l g yX3_seatsOf cX3_seatsOf 2 (some .int) 1 21 f_X3_seatsOf := by
  rw [u_X3_seatsOf]
  refine bm_met (by decide) ?_
  intro p e R s m args below meth c n0 s0 hx hb hml hown hts hK hr hlk hnm hF hL
  refine bm_cc (s_aload_n hx hb dX3_seatsOf_0) ?_
  refine bm_cc (s_getR hx hb hown hts hK (C := RX3) (TT := TX3) (N := 12) (ci := 3) (j := 3) inT3 rfl (by decide) rfl (by decide) rfl tw_9 rfl dX3_seatsOf_1) ?_
  refine bm_cc (s_iload_n hx hb dX3_seatsOf_4) ?_
  refine bm_cc (s_callS hx hb hml hown hts hK (k_X4_get l g) tw_132 tw_133 tw_18 tw_131 ⟨by decide, by decide, by decide +kernel⟩ ⟨by rw [hF]; decide, by rw [hL]; decide⟩ dX3_seatsOf_5) ?_
  refine bm_cc (s_iret hx hb hr hlk dX3_seatsOf_8) ?_
  exact bm_c9

noncomputable def z_X4_sum : List (Nat × bm_O) := [(0, op_const (0)), (1, op_istore 3), (2, op_const (0)), (3, op_istore 4), (5, op_iload 4), (7, op_iload 2), (8, op_icge 28), (11, op_iload 3), (12, op_aload 0), (13, op_iload 1), (14, op_iload 4), (16, op_bin (fun a b => a + b)), (17, op_call 1 2 bm_c0 f_X4_get), (20, op_bin (fun a b => a + b)), (21, op_istore 3), (22, op_iinc 4 1), (25, op_goto 5), (28, op_iload 3), (29, op_iret)]
noncomputable def f_X4_sum : bm_F := Classical.choose (bm_hide (bm_mt 5 z_X4_sum))
theorem u_X4_sum : f_X4_sum = bm_mt 5 z_X4_sum := Classical.choose_spec (bm_hide _)
theorem k_X4_sum (l : Launch) (g : bm_G) : bm_MetF l g yX4_sum cX4_sum 5 (some .int) 1 21 f_X4_sum := by
  rw [u_X4_sum]
  refine bm_met (by decide) ?_
  intro p e R s m args below meth c n0 s0 hx hb hml hown hts hK hr hlk hnm hF hL
  refine bm_cc (s_iconst hx hb dX4_sum_0 (by decide)) ?_
  refine bm_cc (s_istore_n hx hb dX4_sum_1) ?_
  refine bm_cc (s_iconst hx hb dX4_sum_2 (by decide)) ?_
  refine bm_cc (s_istore hx hb dX4_sum_3) ?_
  refine bm_cc (s_iload hx hb dX4_sum_5) ?_
  refine bm_cc (s_iload_n hx hb dX4_sum_7) ?_
  refine bm_cc (s_icge hx hb dX4_sum_8 (by decide)) ?_
  refine bm_cc (s_iload_n hx hb dX4_sum_11) ?_
  refine bm_cc (s_aload_n hx hb dX4_sum_12) ?_
  refine bm_cc (s_iload_n hx hb dX4_sum_13) ?_
  refine bm_cc (s_iload hx hb dX4_sum_14) ?_
  refine bm_cc (s_iadd hx hb dX4_sum_16) ?_
  refine bm_cc (s_callS hx hb hml hown hts hK (k_X4_get l g) tw_134 tw_133 tw_18 tw_131 ⟨by decide, by decide, by decide +kernel⟩ ⟨by rw [hF]; decide, by rw [hL]; decide⟩ dX4_sum_17) ?_
  refine bm_cc (s_iadd hx hb dX4_sum_20) ?_
  refine bm_cc (s_istore_n hx hb dX4_sum_21) ?_
  refine bm_cc (s_iinc hx hb dX4_sum_22 (by decide)) ?_
  refine bm_cc (s_goto hx hb dX4_sum_25 (by decide)) ?_
  refine bm_cc (s_iload_n hx hb dX4_sum_28) ?_
  refine bm_cc (s_iret hx hb hr hlk dX4_sum_29) ?_
  exact bm_c9

noncomputable def z_X3_votesIn : List (Nat × bm_O) := [(0, op_aload 0), (1, op_getR 3 9), (4, op_iload 1), (5, op_const (0)), (6, op_call 1 2 bm_c0 f_X3_slot), (9, op_aload 0), (10, op_iload 1), (11, op_call 1 2 (bm_rc 3) f_X3_namesIn), (14, op_call 1 3 bm_c0 f_X4_sum), (17, op_iret)]
noncomputable def f_X3_votesIn : bm_F := Classical.choose (bm_hide (bm_mt 2 z_X3_votesIn))
theorem u_X3_votesIn : f_X3_votesIn = bm_mt 2 z_X3_votesIn := Classical.choose_spec (bm_hide _)
theorem k_X3_votesIn (l : Launch) (g : bm_G) : bm_MetF l g yX3_votesIn cX3_votesIn 2 (some .int) 2 45 f_X3_votesIn := by
  rw [u_X3_votesIn]
  refine bm_met (by decide) ?_
  intro p e R s m args below meth c n0 s0 hx hb hml hown hts hK hr hlk hnm hF hL
  refine bm_cc (s_aload_n hx hb dX3_votesIn_0) ?_
  refine bm_cc (s_getR hx hb hown hts hK (C := RX3) (TT := TX3) (N := 12) (ci := 3) (j := 9) inT3 rfl (by decide) rfl (by decide) rfl tw_15 rfl dX3_votesIn_1) ?_
  refine bm_cc (s_iload_n hx hb dX3_votesIn_4) ?_
  refine bm_cc (s_iconst hx hb dX3_votesIn_5 (by decide)) ?_
  refine bm_cc (s_callS hx hb hml hown hts hK (k_X3_slot l g) tw_141 tw_142 tw_26 tw_140 ⟨by decide, by decide, by decide +kernel⟩ ⟨by rw [hF]; decide, by rw [hL]; decide⟩ dX3_votesIn_6) ?_
  refine bm_cc (s_aload_n hx hb dX3_votesIn_9) ?_
  refine bm_cc (s_iload_n hx hb dX3_votesIn_10) ?_
  refine bm_cc (s_callV hx hb hml hown hts hK (C := RX3) (TT := TX3) (N := 12) (ci := 3) rfl (by decide) (k_X3_namesIn l g) tw_137 tw_138 tw_139 tw_26 tw_136 ⟨by decide, by decide, by decide +kernel⟩ ⟨by rw [hF]; decide, by rw [hL]; decide⟩ dX3_votesIn_11) ?_
  refine bm_cc (s_callS hx hb hml hown hts hK (k_X4_sum l g) tw_216 tw_217 tw_18 tw_215 ⟨by decide, by decide, by decide +kernel⟩ ⟨by rw [hF]; decide, by rw [hL]; decide⟩ dX3_votesIn_14) ?_
  refine bm_cc (s_iret hx hb hr hlk dX3_votesIn_17) ?_
  exact bm_c9

noncomputable def z_X3_spoiltIn : List (Nat × bm_O) := [(0, op_aload 0), (1, op_getR 3 6), (4, op_iload 1), (5, op_call 1 2 bm_c0 f_X4_get), (8, op_iret)]
noncomputable def f_X3_spoiltIn : bm_F := Classical.choose (bm_hide (bm_mt 2 z_X3_spoiltIn))
theorem u_X3_spoiltIn : f_X3_spoiltIn = bm_mt 2 z_X3_spoiltIn := Classical.choose_spec (bm_hide _)
theorem k_X3_spoiltIn (l : Launch) (g : bm_G) : bm_MetF l g yX3_spoiltIn cX3_spoiltIn 2 (some .int) 1 21 f_X3_spoiltIn := by
  rw [u_X3_spoiltIn]
  refine bm_met (by decide) ?_
  intro p e R s m args below meth c n0 s0 hx hb hml hown hts hK hr hlk hnm hF hL
  refine bm_cc (s_aload_n hx hb dX3_spoiltIn_0) ?_
  refine bm_cc (s_getR hx hb hown hts hK (C := RX3) (TT := TX3) (N := 12) (ci := 3) (j := 6) inT3 rfl (by decide) rfl (by decide) rfl tw_12 rfl dX3_spoiltIn_1) ?_
  refine bm_cc (s_iload_n hx hb dX3_spoiltIn_4) ?_
  refine bm_cc (s_callS hx hb hml hown hts hK (k_X4_get l g) tw_132 tw_133 tw_18 tw_131 ⟨by decide, by decide, by decide +kernel⟩ ⟨by rw [hF]; decide, by rw [hL]; decide⟩ dX3_spoiltIn_5) ?_
  refine bm_cc (s_iret hx hb hr hlk dX3_spoiltIn_8) ?_
  exact bm_c9

noncomputable def z_X3_blankIn : List (Nat × bm_O) := [(0, op_aload 0), (1, op_getR 3 7), (4, op_iload 1), (5, op_call 1 2 bm_c0 f_X4_get), (8, op_iret)]
noncomputable def f_X3_blankIn : bm_F := Classical.choose (bm_hide (bm_mt 2 z_X3_blankIn))
theorem u_X3_blankIn : f_X3_blankIn = bm_mt 2 z_X3_blankIn := Classical.choose_spec (bm_hide _)
theorem k_X3_blankIn (l : Launch) (g : bm_G) : bm_MetF l g yX3_blankIn cX3_blankIn 2 (some .int) 1 21 f_X3_blankIn := by
  rw [u_X3_blankIn]
  refine bm_met (by decide) ?_
  intro p e R s m args below meth c n0 s0 hx hb hml hown hts hK hr hlk hnm hF hL
  refine bm_cc (s_aload_n hx hb dX3_blankIn_0) ?_
  refine bm_cc (s_getR hx hb hown hts hK (C := RX3) (TT := TX3) (N := 12) (ci := 3) (j := 7) inT3 rfl (by decide) rfl (by decide) rfl tw_13 rfl dX3_blankIn_1) ?_
  refine bm_cc (s_iload_n hx hb dX3_blankIn_4) ?_
  refine bm_cc (s_callS hx hb hml hown hts hK (k_X4_get l g) tw_132 tw_133 tw_18 tw_131 ⟨by decide, by decide, by decide +kernel⟩ ⟨by rw [hF]; decide, by rw [hL]; decide⟩ dX3_blankIn_5) ?_
  refine bm_cc (s_iret hx hb hr hlk dX3_blankIn_8) ?_
  exact bm_c9

noncomputable def z_X7_contestOf : List (Nat × bm_O) := [(0, op_aload 0), (1, op_getR 6 0), (4, op_iload 1), (5, op_call 1 2 (bm_rc 3) f_X3_hasContest), (8, op_ifne 13), (11, op_const (-1)), (12, op_iret), (13, op_iload 2), (14, op_tsw [56, 65, 74, 83, 92, 101, 110] 119), (56, op_aload 0), (57, op_getR 6 0), (60, op_iload 1), (61, op_call 1 2 (bm_rc 3) f_X3_titleOf), (64, op_iret), (65, op_aload 0), (66, op_getR 6 0), (69, op_iload 1), (70, op_call 1 2 (bm_rc 3) f_X3_seatsOf), (73, op_iret), (74, op_aload 0), (75, op_getR 6 0), (78, op_iload 1), (79, op_call 1 2 (bm_rc 3) f_X3_wayOf), (82, op_iret), (83, op_aload 0), (84, op_getR 6 0), (87, op_iload 1), (88, op_call 1 2 (bm_rc 3) f_X3_namesIn), (91, op_iret), (92, op_aload 0), (93, op_getR 6 0), (96, op_iload 1), (97, op_call 1 2 (bm_rc 3) f_X3_votesIn), (100, op_iret), (101, op_aload 0), (102, op_getR 6 0), (105, op_iload 1), (106, op_call 1 2 (bm_rc 3) f_X3_spoiltIn), (109, op_iret), (110, op_aload 0), (111, op_getR 6 0), (114, op_iload 1), (115, op_call 1 2 (bm_rc 3) f_X3_blankIn), (118, op_iret), (119, op_const (-1)), (120, op_iret)]
noncomputable def f_X7_contestOf : bm_F := Classical.choose (bm_hide (bm_mt 3 z_X7_contestOf))
theorem u_X7_contestOf : f_X7_contestOf = bm_mt 3 z_X7_contestOf := Classical.choose_spec (bm_hide _)
theorem k_X7_contestOf (l : Launch) (g : bm_G) : bm_MetF l g yX7_contestOf cX7_contestOf 3 (some .int) 3 66 f_X7_contestOf := by
  rw [u_X7_contestOf]
  refine bm_met (by decide) ?_
  intro p e R s m args below meth c n0 s0 hx hb hml hown hts hK hr hlk hnm hF hL
  refine bm_cc (s_aload_n hx hb dX7_contestOf_0) ?_
  refine bm_cc (s_getR hx hb hown hts hK (C := RX7) (TT := TX7) (N := 6) (ci := 6) (j := 0) inT7 rfl (by decide) rfl (by decide) rfl tw_46 rfl dX7_contestOf_1) ?_
  refine bm_cc (s_iload_n hx hb dX7_contestOf_4) ?_
  refine bm_cc (s_callV hx hb hml hown hts hK (C := RX3) (TT := TX3) (N := 12) (ci := 3) rfl (by decide) (k_X3_hasContest l g) tw_147 tw_148 tw_149 tw_26 tw_146 ⟨by decide, by decide, by decide +kernel⟩ ⟨by rw [hF]; decide, by rw [hL]; decide⟩ dX7_contestOf_5) ?_
  refine bm_cc (s_ifne hx hb dX7_contestOf_8 (by decide)) ?_
  refine bm_cc (s_iconst hx hb dX7_contestOf_11 (by decide)) ?_
  refine bm_cc (s_iret hx hb hr hlk dX7_contestOf_12) ?_
  refine bm_cc (s_iload_n hx hb dX7_contestOf_13) ?_
  refine bm_cc (s_tsw hx hb dX7_contestOf_14 (by decide) (by decide) (by decide) (by decide)) ?_
  refine bm_cc (s_aload_n hx hb dX7_contestOf_56) ?_
  refine bm_cc (s_getR hx hb hown hts hK (C := RX7) (TT := TX7) (N := 6) (ci := 6) (j := 0) inT7 rfl (by decide) rfl (by decide) rfl tw_46 rfl dX7_contestOf_57) ?_
  refine bm_cc (s_iload_n hx hb dX7_contestOf_60) ?_
  refine bm_cc (s_callV hx hb hml hown hts hK (C := RX3) (TT := TX3) (N := 12) (ci := 3) rfl (by decide) (k_X3_titleOf l g) tw_219 tw_220 tw_221 tw_26 tw_218 ⟨by decide, by decide, by decide +kernel⟩ ⟨by rw [hF]; decide, by rw [hL]; decide⟩ dX7_contestOf_61) ?_
  refine bm_cc (s_iret hx hb hr hlk dX7_contestOf_64) ?_
  refine bm_cc (s_aload_n hx hb dX7_contestOf_65) ?_
  refine bm_cc (s_getR hx hb hown hts hK (C := RX7) (TT := TX7) (N := 6) (ci := 6) (j := 0) inT7 rfl (by decide) rfl (by decide) rfl tw_46 rfl dX7_contestOf_66) ?_
  refine bm_cc (s_iload_n hx hb dX7_contestOf_69) ?_
  refine bm_cc (s_callV hx hb hml hown hts hK (C := RX3) (TT := TX3) (N := 12) (ci := 3) rfl (by decide) (k_X3_seatsOf l g) tw_223 tw_224 tw_225 tw_26 tw_222 ⟨by decide, by decide, by decide +kernel⟩ ⟨by rw [hF]; decide, by rw [hL]; decide⟩ dX7_contestOf_70) ?_
  refine bm_cc (s_iret hx hb hr hlk dX7_contestOf_73) ?_
  refine bm_cc (s_aload_n hx hb dX7_contestOf_74) ?_
  refine bm_cc (s_getR hx hb hown hts hK (C := RX7) (TT := TX7) (N := 6) (ci := 6) (j := 0) inT7 rfl (by decide) rfl (by decide) rfl tw_46 rfl dX7_contestOf_75) ?_
  refine bm_cc (s_iload_n hx hb dX7_contestOf_78) ?_
  refine bm_cc (s_callV hx hb hml hown hts hK (C := RX3) (TT := TX3) (N := 12) (ci := 3) rfl (by decide) (k_X3_wayOf l g) tw_226 tw_169 tw_170 tw_26 tw_167 ⟨by decide, by decide, by decide +kernel⟩ ⟨by rw [hF]; decide, by rw [hL]; decide⟩ dX7_contestOf_79) ?_
  refine bm_cc (s_iret hx hb hr hlk dX7_contestOf_82) ?_
  refine bm_cc (s_aload_n hx hb dX7_contestOf_83) ?_
  refine bm_cc (s_getR hx hb hown hts hK (C := RX7) (TT := TX7) (N := 6) (ci := 6) (j := 0) inT7 rfl (by decide) rfl (by decide) rfl tw_46 rfl dX7_contestOf_84) ?_
  refine bm_cc (s_iload_n hx hb dX7_contestOf_87) ?_
  refine bm_cc (s_callV hx hb hml hown hts hK (C := RX3) (TT := TX3) (N := 12) (ci := 3) rfl (by decide) (k_X3_namesIn l g) tw_154 tw_138 tw_139 tw_26 tw_136 ⟨by decide, by decide, by decide +kernel⟩ ⟨by rw [hF]; decide, by rw [hL]; decide⟩ dX7_contestOf_88) ?_
  refine bm_cc (s_iret hx hb hr hlk dX7_contestOf_91) ?_
  refine bm_cc (s_aload_n hx hb dX7_contestOf_92) ?_
  refine bm_cc (s_getR hx hb hown hts hK (C := RX7) (TT := TX7) (N := 6) (ci := 6) (j := 0) inT7 rfl (by decide) rfl (by decide) rfl tw_46 rfl dX7_contestOf_93) ?_
  refine bm_cc (s_iload_n hx hb dX7_contestOf_96) ?_
  refine bm_cc (s_callV hx hb hml hown hts hK (C := RX3) (TT := TX3) (N := 12) (ci := 3) rfl (by decide) (k_X3_votesIn l g) tw_228 tw_229 tw_230 tw_26 tw_227 ⟨by decide, by decide, by decide +kernel⟩ ⟨by rw [hF]; decide, by rw [hL]; decide⟩ dX7_contestOf_97) ?_
  refine bm_cc (s_iret hx hb hr hlk dX7_contestOf_100) ?_
  refine bm_cc (s_aload_n hx hb dX7_contestOf_101) ?_
  refine bm_cc (s_getR hx hb hown hts hK (C := RX7) (TT := TX7) (N := 6) (ci := 6) (j := 0) inT7 rfl (by decide) rfl (by decide) rfl tw_46 rfl dX7_contestOf_102) ?_
  refine bm_cc (s_iload_n hx hb dX7_contestOf_105) ?_
  refine bm_cc (s_callV hx hb hml hown hts hK (C := RX3) (TT := TX3) (N := 12) (ci := 3) rfl (by decide) (k_X3_spoiltIn l g) tw_232 tw_233 tw_234 tw_26 tw_231 ⟨by decide, by decide, by decide +kernel⟩ ⟨by rw [hF]; decide, by rw [hL]; decide⟩ dX7_contestOf_106) ?_
  refine bm_cc (s_iret hx hb hr hlk dX7_contestOf_109) ?_
  refine bm_cc (s_aload_n hx hb dX7_contestOf_110) ?_
  refine bm_cc (s_getR hx hb hown hts hK (C := RX7) (TT := TX7) (N := 6) (ci := 6) (j := 0) inT7 rfl (by decide) rfl (by decide) rfl tw_46 rfl dX7_contestOf_111) ?_
  refine bm_cc (s_iload_n hx hb dX7_contestOf_114) ?_
  refine bm_cc (s_callV hx hb hml hown hts hK (C := RX3) (TT := TX3) (N := 12) (ci := 3) rfl (by decide) (k_X3_blankIn l g) tw_236 tw_237 tw_238 tw_26 tw_235 ⟨by decide, by decide, by decide +kernel⟩ ⟨by rw [hF]; decide, by rw [hL]; decide⟩ dX7_contestOf_115) ?_
  refine bm_cc (s_iret hx hb hr hlk dX7_contestOf_118) ?_
  refine bm_cc (s_iconst hx hb dX7_contestOf_119 (by decide)) ?_
  refine bm_cc (s_iret hx hb hr hlk dX7_contestOf_120) ?_
  exact bm_c9

noncomputable def z_X3_hasName : List (Nat × bm_O) := [(0, op_aload 0), (1, op_iload 1), (2, op_call 1 2 (bm_rc 3) f_X3_hasContest), (5, op_ifeq 27), (8, op_iload 2), (9, op_const (0)), (10, op_aload 0), (11, op_iload 1), (12, op_call 1 2 (bm_rc 3) f_X3_namesIn), (15, op_const (1)), (16, op_bin (fun a b => a - b)), (17, op_call 1 3 bm_c0 f_X7_within), (20, op_ifeq 27), (23, op_const (1)), (24, op_goto 28), (27, op_const (0)), (28, op_zret)]
noncomputable def f_X3_hasName : bm_F := Classical.choose (bm_hide (bm_mt 3 z_X3_hasName))
theorem u_X3_hasName : f_X3_hasName = bm_mt 3 z_X3_hasName := Classical.choose_spec (bm_hide _)
theorem k_X3_hasName (l : Launch) (g : bm_G) : bm_MetF l g yX3_hasName cX3_hasName 3 (some .boolean) 2 43 f_X3_hasName := by
  rw [u_X3_hasName]
  refine bm_met (by decide) ?_
  intro p e R s m args below meth c n0 s0 hx hb hml hown hts hK hr hlk hnm hF hL
  refine bm_cc (s_aload_n hx hb dX3_hasName_0) ?_
  refine bm_cc (s_iload_n hx hb dX3_hasName_1) ?_
  refine bm_cc (s_callV hx hb hml hown hts hK (C := RX3) (TT := TX3) (N := 12) (ci := 3) rfl (by decide) (k_X3_hasContest l g) tw_247 tw_148 tw_149 tw_26 tw_146 ⟨by decide, by decide, by decide +kernel⟩ ⟨by rw [hF]; decide, by rw [hL]; decide⟩ dX3_hasName_2) ?_
  refine bm_cc (s_ifeq hx hb dX3_hasName_5 (by decide)) ?_
  refine bm_cc (s_iload_n hx hb dX3_hasName_8) ?_
  refine bm_cc (s_iconst hx hb dX3_hasName_9 (by decide)) ?_
  refine bm_cc (s_aload_n hx hb dX3_hasName_10) ?_
  refine bm_cc (s_iload_n hx hb dX3_hasName_11) ?_
  refine bm_cc (s_callV hx hb hml hown hts hK (C := RX3) (TT := TX3) (N := 12) (ci := 3) rfl (by decide) (k_X3_namesIn l g) tw_137 tw_138 tw_139 tw_26 tw_136 ⟨by decide, by decide, by decide +kernel⟩ ⟨by rw [hF]; decide, by rw [hL]; decide⟩ dX3_hasName_12) ?_
  refine bm_cc (s_iconst hx hb dX3_hasName_15 (by decide)) ?_
  refine bm_cc (s_isub hx hb dX3_hasName_16) ?_
  refine bm_cc (s_callSN hx hb hml hown hts hK (k_X7_within l g) (hK.2.2.2.2.1 _ (List.mem_of_getElem? (i := 0) rfl)) tw_109 tw_106 tw_107 ⟨by decide, by decide, by decide +kernel⟩ ⟨by rw [hF]; decide, by rw [hL]; decide⟩ dX3_hasName_17) ?_
  refine bm_cc (s_ifeq hx hb dX3_hasName_20 (by decide)) ?_
  refine bm_cc (s_iconst hx hb dX3_hasName_23 (by decide)) ?_
  refine bm_cc (s_goto hx hb dX3_hasName_24 (by decide)) ?_
  refine bm_cc (s_iconst hx hb dX3_hasName_27 (by decide)) ?_
  refine bm_cc (s_zret hx hb hr hlk dX3_hasName_28) ?_
  exact bm_c9

noncomputable def z_X3_lengthOf : List (Nat × bm_O) := [(0, op_aload 0), (1, op_getR 3 8), (4, op_iload 1), (5, op_iload 2), (6, op_call 1 2 bm_c0 f_X3_slot), (9, op_call 1 2 bm_c0 f_X4_get), (12, op_iret)]
noncomputable def f_X3_lengthOf : bm_F := Classical.choose (bm_hide (bm_mt 3 z_X3_lengthOf))
theorem u_X3_lengthOf : f_X3_lengthOf = bm_mt 3 z_X3_lengthOf := Classical.choose_spec (bm_hide _)
theorem k_X3_lengthOf (l : Launch) (g : bm_G) : bm_MetF l g yX3_lengthOf cX3_lengthOf 3 (some .int) 1 21 f_X3_lengthOf := by
  rw [u_X3_lengthOf]
  refine bm_met (by decide) ?_
  intro p e R s m args below meth c n0 s0 hx hb hml hown hts hK hr hlk hnm hF hL
  refine bm_cc (s_aload_n hx hb dX3_lengthOf_0) ?_
  refine bm_cc (s_getR hx hb hown hts hK (C := RX3) (TT := TX3) (N := 12) (ci := 3) (j := 8) inT3 rfl (by decide) rfl (by decide) rfl tw_14 rfl dX3_lengthOf_1) ?_
  refine bm_cc (s_iload_n hx hb dX3_lengthOf_4) ?_
  refine bm_cc (s_iload_n hx hb dX3_lengthOf_5) ?_
  refine bm_cc (s_callS hx hb hml hown hts hK (k_X3_slot l g) tw_141 tw_142 tw_26 tw_140 ⟨by decide, by decide, by decide +kernel⟩ ⟨by rw [hF]; decide, by rw [hL]; decide⟩ dX3_lengthOf_6) ?_
  refine bm_cc (s_callS hx hb hml hown hts hK (k_X4_get l g) tw_132 tw_133 tw_18 tw_131 ⟨by decide, by decide, by decide +kernel⟩ ⟨by rw [hF]; decide, by rw [hL]; decide⟩ dX3_lengthOf_9) ?_
  refine bm_cc (s_iret hx hb hr hlk dX3_lengthOf_12) ?_
  exact bm_c9

noncomputable def z_X3_votesOf : List (Nat × bm_O) := [(0, op_aload 0), (1, op_getR 3 9), (4, op_iload 1), (5, op_iload 2), (6, op_call 1 2 bm_c0 f_X3_slot), (9, op_call 1 2 bm_c0 f_X4_get), (12, op_iret)]
noncomputable def f_X3_votesOf : bm_F := Classical.choose (bm_hide (bm_mt 3 z_X3_votesOf))
theorem u_X3_votesOf : f_X3_votesOf = bm_mt 3 z_X3_votesOf := Classical.choose_spec (bm_hide _)
theorem k_X3_votesOf (l : Launch) (g : bm_G) : bm_MetF l g yX3_votesOf cX3_votesOf 3 (some .int) 1 21 f_X3_votesOf := by
  rw [u_X3_votesOf]
  refine bm_met (by decide) ?_
  intro p e R s m args below meth c n0 s0 hx hb hml hown hts hK hr hlk hnm hF hL
  refine bm_cc (s_aload_n hx hb dX3_votesOf_0) ?_
  refine bm_cc (s_getR hx hb hown hts hK (C := RX3) (TT := TX3) (N := 12) (ci := 3) (j := 9) inT3 rfl (by decide) rfl (by decide) rfl tw_15 rfl dX3_votesOf_1) ?_
  refine bm_cc (s_iload_n hx hb dX3_votesOf_4) ?_
  refine bm_cc (s_iload_n hx hb dX3_votesOf_5) ?_
  refine bm_cc (s_callS hx hb hml hown hts hK (k_X3_slot l g) tw_141 tw_142 tw_26 tw_140 ⟨by decide, by decide, by decide +kernel⟩ ⟨by rw [hF]; decide, by rw [hL]; decide⟩ dX3_votesOf_6) ?_
  refine bm_cc (s_callS hx hb hml hown hts hK (k_X4_get l g) tw_132 tw_133 tw_18 tw_131 ⟨by decide, by decide, by decide +kernel⟩ ⟨by rw [hF]; decide, by rw [hL]; decide⟩ dX3_votesOf_9) ?_
  refine bm_cc (s_iret hx hb hr hlk dX3_votesOf_12) ?_
  exact bm_c9

noncomputable def z_X3_nameAt : List (Nat × bm_O) := [(0, op_aload 0), (1, op_iload 2), (2, op_call 1 2 (bm_rc 3) f_X3_hasContest), (5, op_ifeq 16), (8, op_aload 0), (9, op_iload 2), (10, op_call 1 2 (bm_rc 3) f_X3_namesIn), (13, op_goto 17), (16, op_const (0)), (17, op_istore 4), (19, op_iload 1), (20, op_iflt 40), (23, op_iload 4), (25, op_ifle 40), (28, op_iload 3), (29, op_const (0)), (30, op_iload 4), (32, op_const (1)), (33, op_bin (fun a b => a - b)), (34, op_call 1 3 bm_c0 f_X7_within), (37, op_ifne 42), (40, op_const (-1)), (41, op_iret), (42, op_aload 0), (43, op_iload 2), (44, op_call 1 2 (bm_rc 3) f_X3_wayOf), (47, op_istore 5), (49, op_iload 5), (51, op_const (1)), (52, op_icne 65), (55, op_iload 1), (56, op_iload 4), (58, op_binz (fun a b => a - a / b * b)), (59, op_iload 3), (60, op_bin (fun a b => a + b)), (61, op_iload 4), (63, op_binz (fun a b => a - a / b * b)), (64, op_iret), (65, op_iload 5), (67, op_const (2)), (68, op_icne 86), (71, op_iload 1), (72, op_const (2)), (73, op_binz (fun a b => a - a / b * b)), (74, op_ifeq 86), (77, op_iload 4), (79, op_const (1)), (80, op_bin (fun a b => a - b)), (81, op_iload 3), (82, op_bin (fun a b => a - b)), (83, op_goto 87), (86, op_iload 3), (87, op_iret)]
noncomputable def f_X3_nameAt : bm_F := Classical.choose (bm_hide (bm_mt 6 z_X3_nameAt))
theorem u_X3_nameAt : f_X3_nameAt = bm_mt 6 z_X3_nameAt := Classical.choose_spec (bm_hide _)
theorem k_X3_nameAt (l : Launch) (g : bm_G) : bm_MetF l g yX3_nameAt cX3_nameAt 6 (some .int) 2 43 f_X3_nameAt := by
  rw [u_X3_nameAt]
  refine bm_met (by decide) ?_
  intro p e R s m args below meth c n0 s0 hx hb hml hown hts hK hr hlk hnm hF hL
  refine bm_cc (s_aload_n hx hb dX3_nameAt_0) ?_
  refine bm_cc (s_iload_n hx hb dX3_nameAt_1) ?_
  refine bm_cc (s_callV hx hb hml hown hts hK (C := RX3) (TT := TX3) (N := 12) (ci := 3) rfl (by decide) (k_X3_hasContest l g) tw_247 tw_148 tw_149 tw_26 tw_146 ⟨by decide, by decide, by decide +kernel⟩ ⟨by rw [hF]; decide, by rw [hL]; decide⟩ dX3_nameAt_2) ?_
  refine bm_cc (s_ifeq hx hb dX3_nameAt_5 (by decide)) ?_
  refine bm_cc (s_aload_n hx hb dX3_nameAt_8) ?_
  refine bm_cc (s_iload_n hx hb dX3_nameAt_9) ?_
  refine bm_cc (s_callV hx hb hml hown hts hK (C := RX3) (TT := TX3) (N := 12) (ci := 3) rfl (by decide) (k_X3_namesIn l g) tw_137 tw_138 tw_139 tw_26 tw_136 ⟨by decide, by decide, by decide +kernel⟩ ⟨by rw [hF]; decide, by rw [hL]; decide⟩ dX3_nameAt_10) ?_
  refine bm_cc (s_goto hx hb dX3_nameAt_13 (by decide)) ?_
  refine bm_cc (s_iconst hx hb dX3_nameAt_16 (by decide)) ?_
  refine bm_cc (s_istore hx hb dX3_nameAt_17) ?_
  refine bm_cc (s_iload_n hx hb dX3_nameAt_19) ?_
  refine bm_cc (s_iflt hx hb dX3_nameAt_20 (by decide)) ?_
  refine bm_cc (s_iload hx hb dX3_nameAt_23) ?_
  refine bm_cc (s_ifle hx hb dX3_nameAt_25 (by decide)) ?_
  refine bm_cc (s_iload_n hx hb dX3_nameAt_28) ?_
  refine bm_cc (s_iconst hx hb dX3_nameAt_29 (by decide)) ?_
  refine bm_cc (s_iload hx hb dX3_nameAt_30) ?_
  refine bm_cc (s_iconst hx hb dX3_nameAt_32 (by decide)) ?_
  refine bm_cc (s_isub hx hb dX3_nameAt_33) ?_
  refine bm_cc (s_callSN hx hb hml hown hts hK (k_X7_within l g) (hK.2.2.2.2.1 _ (List.mem_of_getElem? (i := 0) rfl)) tw_109 tw_106 tw_107 ⟨by decide, by decide, by decide +kernel⟩ ⟨by rw [hF]; decide, by rw [hL]; decide⟩ dX3_nameAt_34) ?_
  refine bm_cc (s_ifne hx hb dX3_nameAt_37 (by decide)) ?_
  refine bm_cc (s_iconst hx hb dX3_nameAt_40 (by decide)) ?_
  refine bm_cc (s_iret hx hb hr hlk dX3_nameAt_41) ?_
  refine bm_cc (s_aload_n hx hb dX3_nameAt_42) ?_
  refine bm_cc (s_iload_n hx hb dX3_nameAt_43) ?_
  refine bm_cc (s_callV hx hb hml hown hts hK (C := RX3) (TT := TX3) (N := 12) (ci := 3) rfl (by decide) (k_X3_wayOf l g) tw_168 tw_169 tw_170 tw_26 tw_167 ⟨by decide, by decide, by decide +kernel⟩ ⟨by rw [hF]; decide, by rw [hL]; decide⟩ dX3_nameAt_44) ?_
  refine bm_cc (s_istore hx hb dX3_nameAt_47) ?_
  refine bm_cc (s_iload hx hb dX3_nameAt_49) ?_
  refine bm_cc (s_iconst hx hb dX3_nameAt_51 (by decide)) ?_
  refine bm_cc (s_icne hx hb dX3_nameAt_52 (by decide)) ?_
  refine bm_cc (s_iload_n hx hb dX3_nameAt_55) ?_
  refine bm_cc (s_iload hx hb dX3_nameAt_56) ?_
  refine bm_cc (s_irem hx hb dX3_nameAt_58) ?_
  refine bm_cc (s_iload_n hx hb dX3_nameAt_59) ?_
  refine bm_cc (s_iadd hx hb dX3_nameAt_60) ?_
  refine bm_cc (s_iload hx hb dX3_nameAt_61) ?_
  refine bm_cc (s_irem hx hb dX3_nameAt_63) ?_
  refine bm_cc (s_iret hx hb hr hlk dX3_nameAt_64) ?_
  refine bm_cc (s_iload hx hb dX3_nameAt_65) ?_
  refine bm_cc (s_iconst hx hb dX3_nameAt_67 (by decide)) ?_
  refine bm_cc (s_icne hx hb dX3_nameAt_68 (by decide)) ?_
  refine bm_cc (s_iload_n hx hb dX3_nameAt_71) ?_
  refine bm_cc (s_iconst hx hb dX3_nameAt_72 (by decide)) ?_
  refine bm_cc (s_irem hx hb dX3_nameAt_73) ?_
  refine bm_cc (s_ifeq hx hb dX3_nameAt_74 (by decide)) ?_
  refine bm_cc (s_iload hx hb dX3_nameAt_77) ?_
  refine bm_cc (s_iconst hx hb dX3_nameAt_79 (by decide)) ?_
  refine bm_cc (s_isub hx hb dX3_nameAt_80) ?_
  refine bm_cc (s_iload_n hx hb dX3_nameAt_81) ?_
  refine bm_cc (s_isub hx hb dX3_nameAt_82) ?_
  refine bm_cc (s_goto hx hb dX3_nameAt_83 (by decide)) ?_
  refine bm_cc (s_iload_n hx hb dX3_nameAt_86) ?_
  refine bm_cc (s_iret hx hb hr hlk dX3_nameAt_87) ?_
  exact bm_c9

noncomputable def z_X1_onPapers : List (Nat × bm_O) := [(0, op_aload 0), (1, op_getR 1 0), (4, op_const (0)), (5, op_call 0 2 bm_c0 f_X4_wipe), (8, op_const (0)), (9, op_istore 3), (10, op_iload 3), (11, op_aload 1), (12, op_const (5)), (13, op_call 1 2 (bm_rc 3) f_X3_setting), (16, op_icge 44), (19, op_aload 0), (20, op_getR 1 0), (23, op_aload 1), (24, op_iload 3), (25, op_iload 2), (26, op_const (0)), (27, op_call 1 4 (bm_rc 3) f_X3_nameAt), (30, op_aload 1), (31, op_iload 3), (32, op_call 1 2 (bm_rc 3) f_X3_papersIn), (35, op_call 0 3 bm_c0 f_X4_add), (38, op_iinc 3 1), (41, op_goto 10), (44, op_ret)]
noncomputable def f_X1_onPapers : bm_F := Classical.choose (bm_hide (bm_mt 4 z_X1_onPapers))
theorem u_X1_onPapers : f_X1_onPapers = bm_mt 4 z_X1_onPapers := Classical.choose_spec (bm_hide _)
theorem k_X1_onPapers (l : Launch) (g : bm_G) : bm_MetF l g yX1_onPapers cX1_onPapers 4 none 3 68 f_X1_onPapers := by
  rw [u_X1_onPapers]
  refine bm_met (by decide) ?_
  intro p e R s m args below meth c n0 s0 hx hb hml hown hts hK hr hlk hnm hF hL
  refine bm_cc (s_aload_n hx hb dX1_onPapers_0) ?_
  refine bm_cc (s_getR hx hb hown hts hK (C := RX1) (TT := TX1) (N := 1) (ci := 1) (j := 0) inT1 rfl (by decide) rfl (by decide) rfl tw_36 rfl dX1_onPapers_1) ?_
  refine bm_cc (s_iconst hx hb dX1_onPapers_4 (by decide)) ?_
  refine bm_cc (s_callS hx hb hml hown hts hK (k_X4_wipe l g) tw_248 tw_200 tw_18 tw_198 ⟨by decide, by decide, by decide +kernel⟩ ⟨by rw [hF]; decide, by rw [hL]; decide⟩ dX1_onPapers_5) ?_
  refine bm_cc (s_iconst hx hb dX1_onPapers_8 (by decide)) ?_
  refine bm_cc (s_istore_n hx hb dX1_onPapers_9) ?_
  refine bm_cc (s_iload_n hx hb dX1_onPapers_10) ?_
  refine bm_cc (s_aload_n hx hb dX1_onPapers_11) ?_
  refine bm_cc (s_iconst hx hb dX1_onPapers_12 (by decide)) ?_
  refine bm_cc (s_callV hx hb hml hown hts hK (C := RX3) (TT := TX3) (N := 12) (ci := 3) rfl (by decide) (k_X3_setting l g) tw_249 tw_177 tw_178 tw_26 tw_175 ⟨by decide, by decide, by decide +kernel⟩ ⟨by rw [hF]; decide, by rw [hL]; decide⟩ dX1_onPapers_13) ?_
  refine bm_cc (s_icge hx hb dX1_onPapers_16 (by decide)) ?_
  refine bm_cc (s_aload_n hx hb dX1_onPapers_19) ?_
  refine bm_cc (s_getR hx hb hown hts hK (C := RX1) (TT := TX1) (N := 1) (ci := 1) (j := 0) inT1 rfl (by decide) rfl (by decide) rfl tw_36 rfl dX1_onPapers_20) ?_
  refine bm_cc (s_aload_n hx hb dX1_onPapers_23) ?_
  refine bm_cc (s_iload_n hx hb dX1_onPapers_24) ?_
  refine bm_cc (s_iload_n hx hb dX1_onPapers_25) ?_
  refine bm_cc (s_iconst hx hb dX1_onPapers_26 (by decide)) ?_
  refine bm_cc (s_callV hx hb hml hown hts hK (C := RX3) (TT := TX3) (N := 12) (ci := 3) rfl (by decide) (k_X3_nameAt l g) tw_251 tw_252 tw_253 tw_26 tw_250 ⟨by decide, by decide, by decide +kernel⟩ ⟨by rw [hF]; decide, by rw [hL]; decide⟩ dX1_onPapers_27) ?_
  refine bm_cc (s_aload_n hx hb dX1_onPapers_30) ?_
  refine bm_cc (s_iload_n hx hb dX1_onPapers_31) ?_
  refine bm_cc (s_callV hx hb hml hown hts hK (C := RX3) (TT := TX3) (N := 12) (ci := 3) rfl (by decide) (k_X3_papersIn l g) tw_254 tw_181 tw_182 tw_26 tw_179 ⟨by decide, by decide, by decide +kernel⟩ ⟨by rw [hF]; decide, by rw [hL]; decide⟩ dX1_onPapers_32) ?_
  refine bm_cc (s_callS hx hb hml hown hts hK (k_X4_add l g) tw_255 tw_145 tw_18 tw_143 ⟨by decide, by decide, by decide +kernel⟩ ⟨by rw [hF]; decide, by rw [hL]; decide⟩ dX1_onPapers_35) ?_
  refine bm_cc (s_iinc hx hb dX1_onPapers_38 (by decide)) ?_
  refine bm_cc (s_goto hx hb dX1_onPapers_41 (by decide)) ?_
  refine bm_cc (s_ret hx hb hr hlk dX1_onPapers_44) ?_
  exact bm_c9

noncomputable def z_X1_timesOf : List (Nat × bm_O) := [(0, op_aload 0), (1, op_getR 1 0), (4, op_iload 1), (5, op_call 1 2 bm_c0 f_X4_get), (8, op_iret)]
noncomputable def f_X1_timesOf : bm_F := Classical.choose (bm_hide (bm_mt 2 z_X1_timesOf))
theorem u_X1_timesOf : f_X1_timesOf = bm_mt 2 z_X1_timesOf := Classical.choose_spec (bm_hide _)
theorem k_X1_timesOf (l : Launch) (g : bm_G) : bm_MetF l g yX1_timesOf cX1_timesOf 2 (some .int) 1 21 f_X1_timesOf := by
  rw [u_X1_timesOf]
  refine bm_met (by decide) ?_
  intro p e R s m args below meth c n0 s0 hx hb hml hown hts hK hr hlk hnm hF hL
  refine bm_cc (s_aload_n hx hb dX1_timesOf_0) ?_
  refine bm_cc (s_getR hx hb hown hts hK (C := RX1) (TT := TX1) (N := 1) (ci := 1) (j := 0) inT1 rfl (by decide) rfl (by decide) rfl tw_36 rfl dX1_timesOf_1) ?_
  refine bm_cc (s_iload_n hx hb dX1_timesOf_4) ?_
  refine bm_cc (s_callS hx hb hml hown hts hK (k_X4_get l g) tw_256 tw_133 tw_18 tw_131 ⟨by decide, by decide, by decide +kernel⟩ ⟨by rw [hF]; decide, by rw [hL]; decide⟩ dX1_timesOf_5) ?_
  refine bm_cc (s_iret hx hb hr hlk dX1_timesOf_8) ?_
  exact bm_c9

noncomputable def z_X3_hasSeat : List (Nat × bm_O) := [(0, op_aload 0), (1, op_iload 1), (2, op_iload 2), (3, op_call 1 3 (bm_rc 3) f_X3_votesOf), (6, op_istore 3), (7, op_const (0)), (8, op_istore 4), (10, op_const (0)), (11, op_istore 5), (13, op_iload 5), (15, op_aload 0), (16, op_iload 1), (17, op_call 1 2 (bm_rc 3) f_X3_namesIn), (20, op_icge 59), (23, op_aload 0), (24, op_iload 1), (25, op_iload 5), (27, op_call 1 3 (bm_rc 3) f_X3_votesOf), (30, op_istore 6), (32, op_iload 6), (34, op_iload 3), (35, op_icgt 50), (38, op_iload 6), (40, op_iload 3), (41, op_icne 53), (44, op_iload 5), (46, op_iload 2), (47, op_icge 53), (50, op_iinc 4 1), (53, op_iinc 5 1), (56, op_goto 13), (59, op_iload 4), (61, op_aload 0), (62, op_iload 1), (63, op_call 1 2 (bm_rc 3) f_X3_seatsOf), (66, op_icge 73), (69, op_const (1)), (70, op_goto 74), (73, op_const (0)), (74, op_zret)]
noncomputable def f_X3_hasSeat : bm_F := Classical.choose (bm_hide (bm_mt 7 z_X3_hasSeat))
theorem u_X3_hasSeat : f_X3_hasSeat = bm_mt 7 z_X3_hasSeat := Classical.choose_spec (bm_hide _)
theorem k_X3_hasSeat (l : Launch) (g : bm_G) : bm_MetF l g yX3_hasSeat cX3_hasSeat 7 (some .boolean) 2 43 f_X3_hasSeat := by
  rw [u_X3_hasSeat]
  refine bm_met (by decide) ?_
  intro p e R s m args below meth c n0 s0 hx hb hml hown hts hK hr hlk hnm hF hL
  refine bm_cc (s_aload_n hx hb dX3_hasSeat_0) ?_
  refine bm_cc (s_iload_n hx hb dX3_hasSeat_1) ?_
  refine bm_cc (s_iload_n hx hb dX3_hasSeat_2) ?_
  refine bm_cc (s_callV hx hb hml hown hts hK (C := RX3) (TT := TX3) (N := 12) (ci := 3) rfl (by decide) (k_X3_votesOf l g) tw_258 tw_259 tw_260 tw_26 tw_257 ⟨by decide, by decide, by decide +kernel⟩ ⟨by rw [hF]; decide, by rw [hL]; decide⟩ dX3_hasSeat_3) ?_
  refine bm_cc (s_istore_n hx hb dX3_hasSeat_6) ?_
  refine bm_cc (s_iconst hx hb dX3_hasSeat_7 (by decide)) ?_
  refine bm_cc (s_istore hx hb dX3_hasSeat_8) ?_
  refine bm_cc (s_iconst hx hb dX3_hasSeat_10 (by decide)) ?_
  refine bm_cc (s_istore hx hb dX3_hasSeat_11) ?_
  refine bm_cc (s_iload hx hb dX3_hasSeat_13) ?_
  refine bm_cc (s_aload_n hx hb dX3_hasSeat_15) ?_
  refine bm_cc (s_iload_n hx hb dX3_hasSeat_16) ?_
  refine bm_cc (s_callV hx hb hml hown hts hK (C := RX3) (TT := TX3) (N := 12) (ci := 3) rfl (by decide) (k_X3_namesIn l g) tw_137 tw_138 tw_139 tw_26 tw_136 ⟨by decide, by decide, by decide +kernel⟩ ⟨by rw [hF]; decide, by rw [hL]; decide⟩ dX3_hasSeat_17) ?_
  refine bm_cc (s_icge hx hb dX3_hasSeat_20 (by decide)) ?_
  refine bm_cc (s_aload_n hx hb dX3_hasSeat_23) ?_
  refine bm_cc (s_iload_n hx hb dX3_hasSeat_24) ?_
  refine bm_cc (s_iload hx hb dX3_hasSeat_25) ?_
  refine bm_cc (s_callV hx hb hml hown hts hK (C := RX3) (TT := TX3) (N := 12) (ci := 3) rfl (by decide) (k_X3_votesOf l g) tw_258 tw_259 tw_260 tw_26 tw_257 ⟨by decide, by decide, by decide +kernel⟩ ⟨by rw [hF]; decide, by rw [hL]; decide⟩ dX3_hasSeat_27) ?_
  refine bm_cc (s_istore hx hb dX3_hasSeat_30) ?_
  refine bm_cc (s_iload hx hb dX3_hasSeat_32) ?_
  refine bm_cc (s_iload_n hx hb dX3_hasSeat_34) ?_
  refine bm_cc (s_icgt hx hb dX3_hasSeat_35 (by decide)) ?_
  refine bm_cc (s_iload hx hb dX3_hasSeat_38) ?_
  refine bm_cc (s_iload_n hx hb dX3_hasSeat_40) ?_
  refine bm_cc (s_icne hx hb dX3_hasSeat_41 (by decide)) ?_
  refine bm_cc (s_iload hx hb dX3_hasSeat_44) ?_
  refine bm_cc (s_iload_n hx hb dX3_hasSeat_46) ?_
  refine bm_cc (s_icge hx hb dX3_hasSeat_47 (by decide)) ?_
  refine bm_cc (s_iinc hx hb dX3_hasSeat_50 (by decide)) ?_
  refine bm_cc (s_iinc hx hb dX3_hasSeat_53 (by decide)) ?_
  refine bm_cc (s_goto hx hb dX3_hasSeat_56 (by decide)) ?_
  refine bm_cc (s_iload hx hb dX3_hasSeat_59) ?_
  refine bm_cc (s_aload_n hx hb dX3_hasSeat_61) ?_
  refine bm_cc (s_iload_n hx hb dX3_hasSeat_62) ?_
  refine bm_cc (s_callV hx hb hml hown hts hK (C := RX3) (TT := TX3) (N := 12) (ci := 3) rfl (by decide) (k_X3_seatsOf l g) tw_261 tw_224 tw_225 tw_26 tw_222 ⟨by decide, by decide, by decide +kernel⟩ ⟨by rw [hF]; decide, by rw [hL]; decide⟩ dX3_hasSeat_63) ?_
  refine bm_cc (s_icge hx hb dX3_hasSeat_66 (by decide)) ?_
  refine bm_cc (s_iconst hx hb dX3_hasSeat_69 (by decide)) ?_
  refine bm_cc (s_goto hx hb dX3_hasSeat_70 (by decide)) ?_
  refine bm_cc (s_iconst hx hb dX3_hasSeat_73 (by decide)) ?_
  refine bm_cc (s_zret hx hb hr hlk dX3_hasSeat_74) ?_
  exact bm_c9

noncomputable def z_X7_nameOf : List (Nat × bm_O) := [(0, op_aload 0), (1, op_getR 6 0), (4, op_iload 1), (5, op_iload 2), (6, op_call 1 3 (bm_rc 3) f_X3_hasName), (9, op_ifne 14), (12, op_const (-1)), (13, op_iret), (14, op_iload 3), (15, op_tsw [44, 54, 64, 85] 103), (44, op_aload 0), (45, op_getR 6 0), (48, op_iload 1), (49, op_iload 2), (50, op_call 1 3 (bm_rc 3) f_X3_lengthOf), (53, op_iret), (54, op_aload 0), (55, op_getR 6 0), (58, op_iload 1), (59, op_iload 2), (60, op_call 1 3 (bm_rc 3) f_X3_votesOf), (63, op_iret), (64, op_aload 0), (65, op_getR 6 3), (68, op_aload 0), (69, op_getR 6 0), (72, op_iload 1), (73, op_call 0 3 (bm_rc 1) f_X1_onPapers), (76, op_aload 0), (77, op_getR 6 3), (80, op_iload 2), (81, op_call 1 2 (bm_rc 1) f_X1_timesOf), (84, op_iret), (85, op_aload 0), (86, op_getR 6 0), (89, op_iload 1), (90, op_iload 2), (91, op_call 1 3 (bm_rc 3) f_X3_hasSeat), (94, op_ifeq 101), (97, op_const (1)), (98, op_goto 102), (101, op_const (0)), (102, op_iret), (103, op_const (-1)), (104, op_iret)]
noncomputable def f_X7_nameOf : bm_F := Classical.choose (bm_hide (bm_mt 4 z_X7_nameOf))
theorem u_X7_nameOf : f_X7_nameOf = bm_mt 4 z_X7_nameOf := Classical.choose_spec (bm_hide _)
theorem k_X7_nameOf (l : Launch) (g : bm_G) : bm_MetF l g yX7_nameOf cX7_nameOf 4 (some .int) 4 91 f_X7_nameOf := by
  rw [u_X7_nameOf]
  refine bm_met (by decide) ?_
  intro p e R s m args below meth c n0 s0 hx hb hml hown hts hK hr hlk hnm hF hL
  refine bm_cc (s_aload_n hx hb dX7_nameOf_0) ?_
  refine bm_cc (s_getR hx hb hown hts hK (C := RX7) (TT := TX7) (N := 6) (ci := 6) (j := 0) inT7 rfl (by decide) rfl (by decide) rfl tw_46 rfl dX7_nameOf_1) ?_
  refine bm_cc (s_iload_n hx hb dX7_nameOf_4) ?_
  refine bm_cc (s_iload_n hx hb dX7_nameOf_5) ?_
  refine bm_cc (s_callV hx hb hml hown hts hK (C := RX3) (TT := TX3) (N := 12) (ci := 3) rfl (by decide) (k_X3_hasName l g) tw_263 tw_264 tw_265 tw_26 tw_262 ⟨by decide, by decide, by decide +kernel⟩ ⟨by rw [hF]; decide, by rw [hL]; decide⟩ dX7_nameOf_6) ?_
  refine bm_cc (s_ifne hx hb dX7_nameOf_9 (by decide)) ?_
  refine bm_cc (s_iconst hx hb dX7_nameOf_12 (by decide)) ?_
  refine bm_cc (s_iret hx hb hr hlk dX7_nameOf_13) ?_
  refine bm_cc (s_iload_n hx hb dX7_nameOf_14) ?_
  refine bm_cc (s_tsw hx hb dX7_nameOf_15 (by decide) (by decide) (by decide) (by decide)) ?_
  refine bm_cc (s_aload_n hx hb dX7_nameOf_44) ?_
  refine bm_cc (s_getR hx hb hown hts hK (C := RX7) (TT := TX7) (N := 6) (ci := 6) (j := 0) inT7 rfl (by decide) rfl (by decide) rfl tw_46 rfl dX7_nameOf_45) ?_
  refine bm_cc (s_iload_n hx hb dX7_nameOf_48) ?_
  refine bm_cc (s_iload_n hx hb dX7_nameOf_49) ?_
  refine bm_cc (s_callV hx hb hml hown hts hK (C := RX3) (TT := TX3) (N := 12) (ci := 3) rfl (by decide) (k_X3_lengthOf l g) tw_267 tw_268 tw_269 tw_26 tw_266 ⟨by decide, by decide, by decide +kernel⟩ ⟨by rw [hF]; decide, by rw [hL]; decide⟩ dX7_nameOf_50) ?_
  refine bm_cc (s_iret hx hb hr hlk dX7_nameOf_53) ?_
  refine bm_cc (s_aload_n hx hb dX7_nameOf_54) ?_
  refine bm_cc (s_getR hx hb hown hts hK (C := RX7) (TT := TX7) (N := 6) (ci := 6) (j := 0) inT7 rfl (by decide) rfl (by decide) rfl tw_46 rfl dX7_nameOf_55) ?_
  refine bm_cc (s_iload_n hx hb dX7_nameOf_58) ?_
  refine bm_cc (s_iload_n hx hb dX7_nameOf_59) ?_
  refine bm_cc (s_callV hx hb hml hown hts hK (C := RX3) (TT := TX3) (N := 12) (ci := 3) rfl (by decide) (k_X3_votesOf l g) tw_270 tw_259 tw_260 tw_26 tw_257 ⟨by decide, by decide, by decide +kernel⟩ ⟨by rw [hF]; decide, by rw [hL]; decide⟩ dX7_nameOf_60) ?_
  refine bm_cc (s_iret hx hb hr hlk dX7_nameOf_63) ?_
  refine bm_cc (s_aload_n hx hb dX7_nameOf_64) ?_
  refine bm_cc (s_getR hx hb hown hts hK (C := RX7) (TT := TX7) (N := 6) (ci := 6) (j := 3) inT7 rfl (by decide) rfl (by decide) rfl tw_67 rfl dX7_nameOf_65) ?_
  refine bm_cc (s_aload_n hx hb dX7_nameOf_68) ?_
  refine bm_cc (s_getR hx hb hown hts hK (C := RX7) (TT := TX7) (N := 6) (ci := 6) (j := 0) inT7 rfl (by decide) rfl (by decide) rfl tw_46 rfl dX7_nameOf_69) ?_
  refine bm_cc (s_iload_n hx hb dX7_nameOf_72) ?_
  refine bm_cc (s_callV hx hb hml hown hts hK (C := RX1) (TT := TX1) (N := 1) (ci := 1) rfl (by decide) (k_X1_onPapers l g) tw_272 tw_273 tw_274 tw_63 tw_271 ⟨by decide, by decide, by decide +kernel⟩ ⟨by rw [hF]; decide, by rw [hL]; decide⟩ dX7_nameOf_73) ?_
  refine bm_cc (s_aload_n hx hb dX7_nameOf_76) ?_
  refine bm_cc (s_getR hx hb hown hts hK (C := RX7) (TT := TX7) (N := 6) (ci := 6) (j := 3) inT7 rfl (by decide) rfl (by decide) rfl tw_67 rfl dX7_nameOf_77) ?_
  refine bm_cc (s_iload_n hx hb dX7_nameOf_80) ?_
  refine bm_cc (s_callV hx hb hml hown hts hK (C := RX1) (TT := TX1) (N := 1) (ci := 1) rfl (by decide) (k_X1_timesOf l g) tw_276 tw_277 tw_278 tw_63 tw_275 ⟨by decide, by decide, by decide +kernel⟩ ⟨by rw [hF]; decide, by rw [hL]; decide⟩ dX7_nameOf_81) ?_
  refine bm_cc (s_iret hx hb hr hlk dX7_nameOf_84) ?_
  refine bm_cc (s_aload_n hx hb dX7_nameOf_85) ?_
  refine bm_cc (s_getR hx hb hown hts hK (C := RX7) (TT := TX7) (N := 6) (ci := 6) (j := 0) inT7 rfl (by decide) rfl (by decide) rfl tw_46 rfl dX7_nameOf_86) ?_
  refine bm_cc (s_iload_n hx hb dX7_nameOf_89) ?_
  refine bm_cc (s_iload_n hx hb dX7_nameOf_90) ?_
  refine bm_cc (s_callV hx hb hml hown hts hK (C := RX3) (TT := TX3) (N := 12) (ci := 3) rfl (by decide) (k_X3_hasSeat l g) tw_280 tw_281 tw_282 tw_26 tw_279 ⟨by decide, by decide, by decide +kernel⟩ ⟨by rw [hF]; decide, by rw [hL]; decide⟩ dX7_nameOf_91) ?_
  refine bm_cc (s_ifeq hx hb dX7_nameOf_94 (by decide)) ?_
  refine bm_cc (s_iconst hx hb dX7_nameOf_97 (by decide)) ?_
  refine bm_cc (s_goto hx hb dX7_nameOf_98 (by decide)) ?_
  refine bm_cc (s_iconst hx hb dX7_nameOf_101 (by decide)) ?_
  refine bm_cc (s_iret hx hb hr hlk dX7_nameOf_102) ?_
  refine bm_cc (s_iconst hx hb dX7_nameOf_103 (by decide)) ?_
  refine bm_cc (s_iret hx hb hr hlk dX7_nameOf_104) ?_
  exact bm_c9

noncomputable def z_X3_allNames : List (Nat × bm_O) := [(0, op_aload 0), (1, op_getR 3 5), (4, op_const (0)), (5, op_aload 0), (6, op_getI 3 0), (9, op_call 1 3 bm_c0 f_X4_sum), (12, op_iret)]
noncomputable def f_X3_allNames : bm_F := Classical.choose (bm_hide (bm_mt 1 z_X3_allNames))
theorem u_X3_allNames : f_X3_allNames = bm_mt 1 z_X3_allNames := Classical.choose_spec (bm_hide _)
theorem k_X3_allNames (l : Launch) (g : bm_G) : bm_MetF l g yX3_allNames cX3_allNames 1 (some .int) 2 45 f_X3_allNames := by
  rw [u_X3_allNames]
  refine bm_met (by decide) ?_
  intro p e R s m args below meth c n0 s0 hx hb hml hown hts hK hr hlk hnm hF hL
  refine bm_cc (s_aload_n hx hb dX3_allNames_0) ?_
  refine bm_cc (s_getR hx hb hown hts hK (C := RX3) (TT := TX3) (N := 12) (ci := 3) (j := 5) inT3 rfl (by decide) rfl (by decide) rfl tw_11 rfl dX3_allNames_1) ?_
  refine bm_cc (s_iconst hx hb dX3_allNames_4 (by decide)) ?_
  refine bm_cc (s_aload_n hx hb dX3_allNames_5) ?_
  refine bm_cc (s_getI hx hb hown hts hK (C := RX3) (TT := TX3) (N := 12) (ci := 3) (j := 0) inT3 rfl (by decide) rfl (by decide) rfl tw_91 rfl dX3_allNames_6) ?_
  refine bm_cc (s_callS hx hb hml hown hts hK (k_X4_sum l g) tw_216 tw_217 tw_18 tw_215 ⟨by decide, by decide, by decide +kernel⟩ ⟨by rw [hF]; decide, by rw [hL]; decide⟩ dX3_allNames_9) ?_
  refine bm_cc (s_iret hx hb hr hlk dX3_allNames_12) ?_
  exact bm_c9

noncomputable def z_X3_allPapers : List (Nat × bm_O) := [(0, op_aload 0), (1, op_getR 3 10), (4, op_const (0)), (5, op_aload 0), (6, op_const (5)), (7, op_call 1 2 (bm_rc 3) f_X3_setting), (10, op_call 1 3 bm_c0 f_X4_sum), (13, op_iret)]
noncomputable def f_X3_allPapers : bm_F := Classical.choose (bm_hide (bm_mt 1 z_X3_allPapers))
theorem u_X3_allPapers : f_X3_allPapers = bm_mt 1 z_X3_allPapers := Classical.choose_spec (bm_hide _)
theorem k_X3_allPapers (l : Launch) (g : bm_G) : bm_MetF l g yX3_allPapers cX3_allPapers 1 (some .int) 2 45 f_X3_allPapers := by
  rw [u_X3_allPapers]
  refine bm_met (by decide) ?_
  intro p e R s m args below meth c n0 s0 hx hb hml hown hts hK hr hlk hnm hF hL
  refine bm_cc (s_aload_n hx hb dX3_allPapers_0) ?_
  refine bm_cc (s_getR hx hb hown hts hK (C := RX3) (TT := TX3) (N := 12) (ci := 3) (j := 10) inT3 rfl (by decide) rfl (by decide) rfl tw_16 rfl dX3_allPapers_1) ?_
  refine bm_cc (s_iconst hx hb dX3_allPapers_4 (by decide)) ?_
  refine bm_cc (s_aload_n hx hb dX3_allPapers_5) ?_
  refine bm_cc (s_iconst hx hb dX3_allPapers_6 (by decide)) ?_
  refine bm_cc (s_callV hx hb hml hown hts hK (C := RX3) (TT := TX3) (N := 12) (ci := 3) rfl (by decide) (k_X3_setting l g) tw_176 tw_177 tw_178 tw_26 tw_175 ⟨by decide, by decide, by decide +kernel⟩ ⟨by rw [hF]; decide, by rw [hL]; decide⟩ dX3_allPapers_7) ?_
  refine bm_cc (s_callS hx hb hml hown hts hK (k_X4_sum l g) tw_216 tw_217 tw_18 tw_215 ⟨by decide, by decide, by decide +kernel⟩ ⟨by rw [hF]; decide, by rw [hL]; decide⟩ dX3_allPapers_10) ?_
  refine bm_cc (s_iret hx hb hr hlk dX3_allPapers_13) ?_
  exact bm_c9

noncomputable def z_X2_kept : List (Nat × bm_O) := [(0, op_aload 0), (1, op_getI 2 2), (4, op_iret)]
noncomputable def f_X2_kept : bm_F := Classical.choose (bm_hide (bm_mt 1 z_X2_kept))
theorem u_X2_kept : f_X2_kept = bm_mt 1 z_X2_kept := Classical.choose_spec (bm_hide _)
theorem k_X2_kept (l : Launch) (g : bm_G) : bm_MetF l g yX2_kept cX2_kept 1 (some .int) 0 0 f_X2_kept := by
  rw [u_X2_kept]
  refine bm_met (by decide) ?_
  intro p e R s m args below meth c n0 s0 hx hb hml hown hts hK hr hlk hnm hF hL
  refine bm_cc (s_aload_n hx hb dX2_kept_0) ?_
  refine bm_cc (s_getI hx hb hown hts hK (C := RX2) (TT := TX2) (N := 3) (ci := 2) (j := 2) inT2 rfl (by decide) rfl (by decide) rfl tw_93 rfl dX2_kept_1) ?_
  refine bm_cc (s_iret hx hb hr hlk dX2_kept_4) ?_
  exact bm_c9

noncomputable def z_X6_length : List (Nat × bm_O) := [(0, op_aload 0), (1, op_getI 5 1), (4, op_iret)]
noncomputable def f_X6_length : bm_F := Classical.choose (bm_hide (bm_mt 1 z_X6_length))
theorem u_X6_length : f_X6_length = bm_mt 1 z_X6_length := Classical.choose_spec (bm_hide _)
theorem k_X6_length (l : Launch) (g : bm_G) : bm_MetF l g yX6_length cX6_length 1 (some .int) 0 0 f_X6_length := by
  rw [u_X6_length]
  refine bm_met (by decide) ?_
  intro p e R s m args below meth c n0 s0 hx hb hml hown hts hK hr hlk hnm hF hL
  refine bm_cc (s_aload_n hx hb dX6_length_0) ?_
  refine bm_cc (s_getI hx hb hown hts hK (C := RX6) (TT := TX6) (N := 2) (ci := 5) (j := 1) inT6 rfl (by decide) rfl (by decide) rfl tw_303 rfl dX6_length_1) ?_
  refine bm_cc (s_iret hx hb hr hlk dX6_length_4) ?_
  exact bm_c9

noncomputable def z_X7_settingOfCount : List (Nat × bm_O) := [(0, op_iload 1), (1, op_const (10)), (3, op_const (15)), (5, op_call 1 3 bm_c0 f_X7_within), (8, op_ifne 13), (11, op_const (-1)), (12, op_iret), (13, op_aload 0), (14, op_getR 6 0), (17, op_iload 1), (18, op_const (10)), (20, op_bin (fun a b => a - b)), (21, op_call 1 2 (bm_rc 3) f_X3_setting), (24, op_iret)]
noncomputable def f_X7_settingOfCount : bm_F := Classical.choose (bm_hide (bm_mt 2 z_X7_settingOfCount))
theorem u_X7_settingOfCount : f_X7_settingOfCount = bm_mt 2 z_X7_settingOfCount := Classical.choose_spec (bm_hide _)
theorem k_X7_settingOfCount (l : Launch) (g : bm_G) : bm_MetF l g yX7_settingOfCount cX7_settingOfCount 2 (some .int) 2 42 f_X7_settingOfCount := by
  rw [u_X7_settingOfCount]
  refine bm_met (by decide) ?_
  intro p e R s m args below meth c n0 s0 hx hb hml hown hts hK hr hlk hnm hF hL
  refine bm_cc (s_iload_n hx hb dX7_settingOfCount_0) ?_
  refine bm_cc (s_bipush hx hb dX7_settingOfCount_1 (by decide)) ?_
  refine bm_cc (s_bipush hx hb dX7_settingOfCount_3 (by decide)) ?_
  refine bm_cc (s_callS hx hb hml hown hts hK (k_X7_within l g) tw_108 tw_109 tw_106 tw_107 ⟨by decide, by decide, by decide +kernel⟩ ⟨by rw [hF]; decide, by rw [hL]; decide⟩ dX7_settingOfCount_5) ?_
  refine bm_cc (s_ifne hx hb dX7_settingOfCount_8 (by decide)) ?_
  refine bm_cc (s_iconst hx hb dX7_settingOfCount_11 (by decide)) ?_
  refine bm_cc (s_iret hx hb hr hlk dX7_settingOfCount_12) ?_
  refine bm_cc (s_aload_n hx hb dX7_settingOfCount_13) ?_
  refine bm_cc (s_getR hx hb hown hts hK (C := RX7) (TT := TX7) (N := 6) (ci := 6) (j := 0) inT7 rfl (by decide) rfl (by decide) rfl tw_46 rfl dX7_settingOfCount_14) ?_
  refine bm_cc (s_iload_n hx hb dX7_settingOfCount_17) ?_
  refine bm_cc (s_bipush hx hb dX7_settingOfCount_18 (by decide)) ?_
  refine bm_cc (s_isub hx hb dX7_settingOfCount_20) ?_
  refine bm_cc (s_callV hx hb hml hown hts hK (C := RX3) (TT := TX3) (N := 12) (ci := 3) rfl (by decide) (k_X3_setting l g) tw_304 tw_177 tw_178 tw_26 tw_175 ⟨by decide, by decide, by decide +kernel⟩ ⟨by rw [hF]; decide, by rw [hL]; decide⟩ dX7_settingOfCount_21) ?_
  refine bm_cc (s_iret hx hb hr hlk dX7_settingOfCount_24) ?_
  exact bm_c9

noncomputable def z_X7_count : List (Nat × bm_O) := [(0, op_iload 1), (1, op_tsw [40, 48, 56, 64, 72, 80] 88), (40, op_aload 0), (41, op_getR 6 0), (44, op_call 1 1 (bm_rc 3) f_X3_contests), (47, op_iret), (48, op_aload 0), (49, op_getR 6 0), (52, op_call 1 1 (bm_rc 3) f_X3_allNames), (55, op_iret), (56, op_aload 0), (57, op_getR 6 0), (60, op_call 1 1 (bm_rc 3) f_X3_allPapers), (63, op_iret), (64, op_aload 0), (65, op_getR 6 0), (68, op_call 1 1 (bm_rc 3) f_X3_ballots), (71, op_iret), (72, op_aload 0), (73, op_getR 6 1), (76, op_call 1 1 (bm_rc 2) f_X2_kept), (79, op_iret), (80, op_aload 0), (81, op_getR 6 4), (84, op_call 1 1 (bm_rc 5) f_X6_length), (87, op_iret), (88, op_aload 0), (89, op_iload 1), (90, op_call 1 2 (bm_rc 6) f_X7_settingOfCount), (93, op_iret)]
noncomputable def f_X7_count : bm_F := Classical.choose (bm_hide (bm_mt 2 z_X7_count))
theorem u_X7_count : f_X7_count = bm_mt 2 z_X7_count := Classical.choose_spec (bm_hide _)
theorem k_X7_count (l : Launch) (g : bm_G) : bm_MetF l g yX7_count cX7_count 2 (some .int) 3 65 f_X7_count := by
  rw [u_X7_count]
  refine bm_met (by decide) ?_
  intro p e R s m args below meth c n0 s0 hx hb hml hown hts hK hr hlk hnm hF hL
  refine bm_cc (s_iload_n hx hb dX7_count_0) ?_
  refine bm_cc (s_tsw hx hb dX7_count_1 (by decide) (by decide) (by decide) (by decide)) ?_
  refine bm_cc (s_aload_n hx hb dX7_count_40) ?_
  refine bm_cc (s_getR hx hb hown hts hK (C := RX7) (TT := TX7) (N := 6) (ci := 6) (j := 0) inT7 rfl (by decide) rfl (by decide) rfl tw_46 rfl dX7_count_41) ?_
  refine bm_cc (s_callV hx hb hml hown hts hK (C := RX3) (TT := TX3) (N := 12) (ci := 3) rfl (by decide) (k_X3_contests l g) tw_111 tw_112 tw_113 tw_26 tw_110 ⟨by decide, by decide, by decide +kernel⟩ ⟨by rw [hF]; decide, by rw [hL]; decide⟩ dX7_count_44) ?_
  refine bm_cc (s_iret hx hb hr hlk dX7_count_47) ?_
  refine bm_cc (s_aload_n hx hb dX7_count_48) ?_
  refine bm_cc (s_getR hx hb hown hts hK (C := RX7) (TT := TX7) (N := 6) (ci := 6) (j := 0) inT7 rfl (by decide) rfl (by decide) rfl tw_46 rfl dX7_count_49) ?_
  refine bm_cc (s_callV hx hb hml hown hts hK (C := RX3) (TT := TX3) (N := 12) (ci := 3) rfl (by decide) (k_X3_allNames l g) tw_306 tw_307 tw_308 tw_26 tw_305 ⟨by decide, by decide, by decide +kernel⟩ ⟨by rw [hF]; decide, by rw [hL]; decide⟩ dX7_count_52) ?_
  refine bm_cc (s_iret hx hb hr hlk dX7_count_55) ?_
  refine bm_cc (s_aload_n hx hb dX7_count_56) ?_
  refine bm_cc (s_getR hx hb hown hts hK (C := RX7) (TT := TX7) (N := 6) (ci := 6) (j := 0) inT7 rfl (by decide) rfl (by decide) rfl tw_46 rfl dX7_count_57) ?_
  refine bm_cc (s_callV hx hb hml hown hts hK (C := RX3) (TT := TX3) (N := 12) (ci := 3) rfl (by decide) (k_X3_allPapers l g) tw_310 tw_311 tw_312 tw_26 tw_309 ⟨by decide, by decide, by decide +kernel⟩ ⟨by rw [hF]; decide, by rw [hL]; decide⟩ dX7_count_60) ?_
  refine bm_cc (s_iret hx hb hr hlk dX7_count_63) ?_
  refine bm_cc (s_aload_n hx hb dX7_count_64) ?_
  refine bm_cc (s_getR hx hb hown hts hK (C := RX7) (TT := TX7) (N := 6) (ci := 6) (j := 0) inT7 rfl (by decide) rfl (by decide) rfl tw_46 rfl dX7_count_65) ?_
  refine bm_cc (s_callV hx hb hml hown hts hK (C := RX3) (TT := TX3) (N := 12) (ci := 3) rfl (by decide) (k_X3_ballots l g) tw_151 tw_152 tw_153 tw_26 tw_150 ⟨by decide, by decide, by decide +kernel⟩ ⟨by rw [hF]; decide, by rw [hL]; decide⟩ dX7_count_68) ?_
  refine bm_cc (s_iret hx hb hr hlk dX7_count_71) ?_
  refine bm_cc (s_aload_n hx hb dX7_count_72) ?_
  refine bm_cc (s_getR hx hb hown hts hK (C := RX7) (TT := TX7) (N := 6) (ci := 6) (j := 1) inT7 rfl (by decide) rfl (by decide) rfl tw_53 rfl dX7_count_73) ?_
  refine bm_cc (s_callV hx hb hml hown hts hK (C := RX2) (TT := TX2) (N := 3) (ci := 2) rfl (by decide) (k_X2_kept l g) tw_314 tw_315 tw_316 tw_49 tw_313 ⟨by decide, by decide, by decide +kernel⟩ ⟨by rw [hF]; decide, by rw [hL]; decide⟩ dX7_count_76) ?_
  refine bm_cc (s_iret hx hb hr hlk dX7_count_79) ?_
  refine bm_cc (s_aload_n hx hb dX7_count_80) ?_
  refine bm_cc (s_getR hx hb hown hts hK (C := RX7) (TT := TX7) (N := 6) (ci := 6) (j := 4) inT7 rfl (by decide) rfl (by decide) rfl tw_74 rfl dX7_count_81) ?_
  refine bm_cc (s_callV hx hb hml hown hts hK (C := RX6) (TT := TX6) (N := 2) (ci := 5) rfl (by decide) (k_X6_length l g) tw_318 tw_319 tw_320 tw_70 tw_317 ⟨by decide, by decide, by decide +kernel⟩ ⟨by rw [hF]; decide, by rw [hL]; decide⟩ dX7_count_84) ?_
  refine bm_cc (s_iret hx hb hr hlk dX7_count_87) ?_
  refine bm_cc (s_aload_n hx hb dX7_count_88) ?_
  refine bm_cc (s_iload_n hx hb dX7_count_89) ?_
  refine bm_cc (s_callV hx hb hml hown hts hK (C := RX7) (TT := TX7) (N := 6) (ci := 6) rfl (by decide) (k_X7_settingOfCount l g) tw_322 tw_323 tw_324 tw_106 tw_321 ⟨by decide, by decide, by decide +kernel⟩ ⟨by rw [hF]; decide, by rw [hL]; decide⟩ dX7_count_90) ?_
  refine bm_cc (s_iret hx hb hr hlk dX7_count_93) ?_
  exact bm_c9

noncomputable def z_X7_papersOf : List (Nat × bm_O) := [(0, op_aload 0), (1, op_getR 6 0), (4, op_iload 1), (5, op_call 1 2 (bm_rc 3) f_X3_hasVersion), (8, op_ifeq 22), (11, op_aload 0), (12, op_getR 6 0), (15, op_iload 1), (16, op_call 1 2 (bm_rc 3) f_X3_papersIn), (19, op_goto 23), (22, op_const (-1)), (23, op_iret)]
noncomputable def f_X7_papersOf : bm_F := Classical.choose (bm_hide (bm_mt 2 z_X7_papersOf))
theorem u_X7_papersOf : f_X7_papersOf = bm_mt 2 z_X7_papersOf := Classical.choose_spec (bm_hide _)
theorem k_X7_papersOf (l : Launch) (g : bm_G) : bm_MetF l g yX7_papersOf cX7_papersOf 2 (some .int) 3 63 f_X7_papersOf := by
  rw [u_X7_papersOf]
  refine bm_met (by decide) ?_
  intro p e R s m args below meth c n0 s0 hx hb hml hown hts hK hr hlk hnm hF hL
  refine bm_cc (s_aload_n hx hb dX7_papersOf_0) ?_
  refine bm_cc (s_getR hx hb hown hts hK (C := RX7) (TT := TX7) (N := 6) (ci := 6) (j := 0) inT7 rfl (by decide) rfl (by decide) rfl tw_46 rfl dX7_papersOf_1) ?_
  refine bm_cc (s_iload_n hx hb dX7_papersOf_4) ?_
  refine bm_cc (s_callV hx hb hml hown hts hK (C := RX3) (TT := TX3) (N := 12) (ci := 3) rfl (by decide) (k_X3_hasVersion l g) tw_184 tw_185 tw_186 tw_26 tw_183 ⟨by decide, by decide, by decide +kernel⟩ ⟨by rw [hF]; decide, by rw [hL]; decide⟩ dX7_papersOf_5) ?_
  refine bm_cc (s_ifeq hx hb dX7_papersOf_8 (by decide)) ?_
  refine bm_cc (s_aload_n hx hb dX7_papersOf_11) ?_
  refine bm_cc (s_getR hx hb hown hts hK (C := RX7) (TT := TX7) (N := 6) (ci := 6) (j := 0) inT7 rfl (by decide) rfl (by decide) rfl tw_46 rfl dX7_papersOf_12) ?_
  refine bm_cc (s_iload_n hx hb dX7_papersOf_15) ?_
  refine bm_cc (s_callV hx hb hml hown hts hK (C := RX3) (TT := TX3) (N := 12) (ci := 3) rfl (by decide) (k_X3_papersIn l g) tw_334 tw_181 tw_182 tw_26 tw_179 ⟨by decide, by decide, by decide +kernel⟩ ⟨by rw [hF]; decide, by rw [hL]; decide⟩ dX7_papersOf_16) ?_
  refine bm_cc (s_goto hx hb dX7_papersOf_19 (by decide)) ?_
  refine bm_cc (s_iconst hx hb dX7_papersOf_22 (by decide)) ?_
  refine bm_cc (s_iret hx hb hr hlk dX7_papersOf_23) ?_
  exact bm_c9

noncomputable def z_X7_stands : List (Nat × bm_O) := [(0, op_aload 0), (1, op_getR 6 0), (4, op_iload 1), (5, op_call 1 2 (bm_rc 3) f_X3_hasVersion), (8, op_ifeq 26), (11, op_aload 0), (12, op_getR 6 0), (15, op_iload 2), (16, op_call 1 2 (bm_rc 3) f_X3_hasContest), (19, op_ifeq 26), (22, op_iload 3), (23, op_ifge 28), (26, op_const (-1)), (27, op_iret), (28, op_aload 0), (29, op_getR 6 0), (32, op_iload 1), (33, op_iload 2), (34, op_iload 3), (35, op_call 1 4 (bm_rc 3) f_X3_nameAt), (38, op_istore 4), (40, op_iload 4), (42, op_const (-1)), (43, op_icne 51), (46, op_const (-4)), (48, op_goto 53), (51, op_iload 4), (53, op_iret)]
noncomputable def f_X7_stands : bm_F := Classical.choose (bm_hide (bm_mt 5 z_X7_stands))
theorem u_X7_stands : f_X7_stands = bm_mt 5 z_X7_stands := Classical.choose_spec (bm_hide _)
theorem k_X7_stands (l : Launch) (g : bm_G) : bm_MetF l g yX7_stands cX7_stands 5 (some .int) 3 68 f_X7_stands := by
  rw [u_X7_stands]
  refine bm_met (by decide) ?_
  intro p e R s m args below meth c n0 s0 hx hb hml hown hts hK hr hlk hnm hF hL
  refine bm_cc (s_aload_n hx hb dX7_stands_0) ?_
  refine bm_cc (s_getR hx hb hown hts hK (C := RX7) (TT := TX7) (N := 6) (ci := 6) (j := 0) inT7 rfl (by decide) rfl (by decide) rfl tw_46 rfl dX7_stands_1) ?_
  refine bm_cc (s_iload_n hx hb dX7_stands_4) ?_
  refine bm_cc (s_callV hx hb hml hown hts hK (C := RX3) (TT := TX3) (N := 12) (ci := 3) rfl (by decide) (k_X3_hasVersion l g) tw_184 tw_185 tw_186 tw_26 tw_183 ⟨by decide, by decide, by decide +kernel⟩ ⟨by rw [hF]; decide, by rw [hL]; decide⟩ dX7_stands_5) ?_
  refine bm_cc (s_ifeq hx hb dX7_stands_8 (by decide)) ?_
  refine bm_cc (s_aload_n hx hb dX7_stands_11) ?_
  refine bm_cc (s_getR hx hb hown hts hK (C := RX7) (TT := TX7) (N := 6) (ci := 6) (j := 0) inT7 rfl (by decide) rfl (by decide) rfl tw_46 rfl dX7_stands_12) ?_
  refine bm_cc (s_iload_n hx hb dX7_stands_15) ?_
  refine bm_cc (s_callV hx hb hml hown hts hK (C := RX3) (TT := TX3) (N := 12) (ci := 3) rfl (by decide) (k_X3_hasContest l g) tw_147 tw_148 tw_149 tw_26 tw_146 ⟨by decide, by decide, by decide +kernel⟩ ⟨by rw [hF]; decide, by rw [hL]; decide⟩ dX7_stands_16) ?_
  refine bm_cc (s_ifeq hx hb dX7_stands_19 (by decide)) ?_
  refine bm_cc (s_iload_n hx hb dX7_stands_22) ?_
  refine bm_cc (s_ifge hx hb dX7_stands_23 (by decide)) ?_
  refine bm_cc (s_iconst hx hb dX7_stands_26 (by decide)) ?_
  refine bm_cc (s_iret hx hb hr hlk dX7_stands_27) ?_
  refine bm_cc (s_aload_n hx hb dX7_stands_28) ?_
  refine bm_cc (s_getR hx hb hown hts hK (C := RX7) (TT := TX7) (N := 6) (ci := 6) (j := 0) inT7 rfl (by decide) rfl (by decide) rfl tw_46 rfl dX7_stands_29) ?_
  refine bm_cc (s_iload_n hx hb dX7_stands_32) ?_
  refine bm_cc (s_iload_n hx hb dX7_stands_33) ?_
  refine bm_cc (s_iload_n hx hb dX7_stands_34) ?_
  refine bm_cc (s_callV hx hb hml hown hts hK (C := RX3) (TT := TX3) (N := 12) (ci := 3) rfl (by decide) (k_X3_nameAt l g) tw_335 tw_252 tw_253 tw_26 tw_250 ⟨by decide, by decide, by decide +kernel⟩ ⟨by rw [hF]; decide, by rw [hL]; decide⟩ dX7_stands_35) ?_
  refine bm_cc (s_istore hx hb dX7_stands_38) ?_
  refine bm_cc (s_iload hx hb dX7_stands_40) ?_
  refine bm_cc (s_iconst hx hb dX7_stands_42 (by decide)) ?_
  refine bm_cc (s_icne hx hb dX7_stands_43 (by decide)) ?_
  refine bm_cc (s_bipush hx hb dX7_stands_46 (by decide)) ?_
  refine bm_cc (s_goto hx hb dX7_stands_48 (by decide)) ?_
  refine bm_cc (s_iload hx hb dX7_stands_51) ?_
  refine bm_cc (s_iret hx hb hr hlk dX7_stands_53) ?_
  exact bm_c9

noncomputable def z_X7_roundedUp : List (Nat × bm_O) := [(0, op_iload 1), (1, op_ifle 14), (4, op_iload 0), (5, op_iload 1), (6, op_bin (fun a b => a + b)), (7, op_const (1)), (8, op_bin (fun a b => a - b)), (9, op_iload 1), (10, op_binz (fun a b => a / b)), (11, op_goto 15), (14, op_const (0)), (15, op_iret)]
noncomputable def f_X7_roundedUp : bm_F := Classical.choose (bm_hide (bm_mt 2 z_X7_roundedUp))
theorem u_X7_roundedUp : f_X7_roundedUp = bm_mt 2 z_X7_roundedUp := Classical.choose_spec (bm_hide _)
theorem k_X7_roundedUp (l : Launch) (g : bm_G) : bm_MetF l g yX7_roundedUp cX7_roundedUp 2 (some .int) 0 0 f_X7_roundedUp := by
  rw [u_X7_roundedUp]
  refine bm_met (by decide) ?_
  intro p e R s m args below meth c n0 s0 hx hb hml hown hts hK hr hlk hnm hF hL
  refine bm_cc (s_iload_n hx hb dX7_roundedUp_0) ?_
  refine bm_cc (s_ifle hx hb dX7_roundedUp_1 (by decide)) ?_
  refine bm_cc (s_iload_n hx hb dX7_roundedUp_4) ?_
  refine bm_cc (s_iload_n hx hb dX7_roundedUp_5) ?_
  refine bm_cc (s_iadd hx hb dX7_roundedUp_6) ?_
  refine bm_cc (s_iconst hx hb dX7_roundedUp_7 (by decide)) ?_
  refine bm_cc (s_isub hx hb dX7_roundedUp_8) ?_
  refine bm_cc (s_iload_n hx hb dX7_roundedUp_9) ?_
  refine bm_cc (s_idiv hx hb dX7_roundedUp_10) ?_
  refine bm_cc (s_goto hx hb dX7_roundedUp_11 (by decide)) ?_
  refine bm_cc (s_iconst hx hb dX7_roundedUp_14 (by decide)) ?_
  refine bm_cc (s_iret hx hb hr hlk dX7_roundedUp_15) ?_
  exact bm_c9

noncomputable def z_X5_measure : List (Nat × bm_O) := [(0, op_const (0)), (1, op_istore 4), (3, op_iload 4), (5, op_aload 1), (6, op_iload 2), (7, op_call 1 2 (bm_rc 3) f_X3_namesIn), (10, op_icge 49), (13, op_aload 1), (14, op_iload 2), (15, op_iload 4), (17, op_call 1 3 (bm_rc 3) f_X3_lengthOf), (20, op_iload 3), (21, op_const (3)), (22, op_bin (fun a b => a - b)), (23, op_call 1 2 bm_c0 f_X7_roundedUp), (26, op_istore 5), (28, op_aload 0), (29, op_getR 4 2), (32, op_iload 2), (33, op_iload 4), (35, op_call 1 2 bm_c0 f_X3_slot), (38, op_iload 5), (40, op_call 0 3 bm_c0 f_X4_put), (43, op_iinc 4 1), (46, op_goto 3), (49, op_ret)]
noncomputable def f_X5_measure : bm_F := Classical.choose (bm_hide (bm_mt 6 z_X5_measure))
theorem u_X5_measure : f_X5_measure = bm_mt 6 z_X5_measure := Classical.choose_spec (bm_hide _)
theorem k_X5_measure (l : Launch) (g : bm_G) : bm_MetF l g yX5_measure cX5_measure 6 none 2 43 f_X5_measure := by
  rw [u_X5_measure]
  refine bm_met (by decide) ?_
  intro p e R s m args below meth c n0 s0 hx hb hml hown hts hK hr hlk hnm hF hL
  refine bm_cc (s_iconst hx hb dX5_measure_0 (by decide)) ?_
  refine bm_cc (s_istore hx hb dX5_measure_1) ?_
  refine bm_cc (s_iload hx hb dX5_measure_3) ?_
  refine bm_cc (s_aload_n hx hb dX5_measure_5) ?_
  refine bm_cc (s_iload_n hx hb dX5_measure_6) ?_
  refine bm_cc (s_callV hx hb hml hown hts hK (C := RX3) (TT := TX3) (N := 12) (ci := 3) rfl (by decide) (k_X3_namesIn l g) tw_336 tw_138 tw_139 tw_26 tw_136 ⟨by decide, by decide, by decide +kernel⟩ ⟨by rw [hF]; decide, by rw [hL]; decide⟩ dX5_measure_7) ?_
  refine bm_cc (s_icge hx hb dX5_measure_10 (by decide)) ?_
  refine bm_cc (s_aload_n hx hb dX5_measure_13) ?_
  refine bm_cc (s_iload_n hx hb dX5_measure_14) ?_
  refine bm_cc (s_iload hx hb dX5_measure_15) ?_
  refine bm_cc (s_callV hx hb hml hown hts hK (C := RX3) (TT := TX3) (N := 12) (ci := 3) rfl (by decide) (k_X3_lengthOf l g) tw_337 tw_268 tw_269 tw_26 tw_266 ⟨by decide, by decide, by decide +kernel⟩ ⟨by rw [hF]; decide, by rw [hL]; decide⟩ dX5_measure_17) ?_
  refine bm_cc (s_iload_n hx hb dX5_measure_20) ?_
  refine bm_cc (s_iconst hx hb dX5_measure_21 (by decide)) ?_
  refine bm_cc (s_isub hx hb dX5_measure_22) ?_
  refine bm_cc (s_callSN hx hb hml hown hts hK (k_X7_roundedUp l g) (hK.2.2.2.2.1 _ (List.mem_of_getElem? (i := 1) rfl)) tw_339 tw_106 tw_338 ⟨by decide, by decide, by decide +kernel⟩ ⟨by rw [hF]; decide, by rw [hL]; decide⟩ dX5_measure_23) ?_
  refine bm_cc (s_istore hx hb dX5_measure_26) ?_
  refine bm_cc (s_aload_n hx hb dX5_measure_28) ?_
  refine bm_cc (s_getR hx hb hown hts hK (C := RX5) (TT := TX5) (N := 12) (ci := 4) (j := 2) inT5 rfl (by decide) rfl (by decide) rfl tw_33 rfl dX5_measure_29) ?_
  refine bm_cc (s_iload_n hx hb dX5_measure_32) ?_
  refine bm_cc (s_iload hx hb dX5_measure_33) ?_
  refine bm_cc (s_callS hx hb hml hown hts hK (k_X3_slot l g) tw_340 tw_142 tw_26 tw_140 ⟨by decide, by decide, by decide +kernel⟩ ⟨by rw [hF]; decide, by rw [hL]; decide⟩ dX5_measure_35) ?_
  refine bm_cc (s_iload hx hb dX5_measure_38) ?_
  refine bm_cc (s_callS hx hb hml hown hts hK (k_X4_put l g) tw_341 tw_105 tw_18 tw_103 ⟨by decide, by decide, by decide +kernel⟩ ⟨by rw [hF]; decide, by rw [hL]; decide⟩ dX5_measure_40) ?_
  refine bm_cc (s_iinc hx hb dX5_measure_43 (by decide)) ?_
  refine bm_cc (s_goto hx hb dX5_measure_46 (by decide)) ?_
  refine bm_cc (s_ret hx hb hr hlk dX5_measure_49) ?_
  exact bm_c9

noncomputable def z_X5_linesOf : List (Nat × bm_O) := [(0, op_aload 0), (1, op_getR 4 2), (4, op_iload 1), (5, op_iload 2), (6, op_call 1 2 bm_c0 f_X3_slot), (9, op_call 1 2 bm_c0 f_X4_get), (12, op_iret)]
noncomputable def f_X5_linesOf : bm_F := Classical.choose (bm_hide (bm_mt 3 z_X5_linesOf))
theorem u_X5_linesOf : f_X5_linesOf = bm_mt 3 z_X5_linesOf := Classical.choose_spec (bm_hide _)
theorem k_X5_linesOf (l : Launch) (g : bm_G) : bm_MetF l g yX5_linesOf cX5_linesOf 3 (some .int) 1 21 f_X5_linesOf := by
  rw [u_X5_linesOf]
  refine bm_met (by decide) ?_
  intro p e R s m args below meth c n0 s0 hx hb hml hown hts hK hr hlk hnm hF hL
  refine bm_cc (s_aload_n hx hb dX5_linesOf_0) ?_
  refine bm_cc (s_getR hx hb hown hts hK (C := RX5) (TT := TX5) (N := 12) (ci := 4) (j := 2) inT5 rfl (by decide) rfl (by decide) rfl tw_33 rfl dX5_linesOf_1) ?_
  refine bm_cc (s_iload_n hx hb dX5_linesOf_4) ?_
  refine bm_cc (s_iload_n hx hb dX5_linesOf_5) ?_
  refine bm_cc (s_callS hx hb hml hown hts hK (k_X3_slot l g) tw_340 tw_142 tw_26 tw_140 ⟨by decide, by decide, by decide +kernel⟩ ⟨by rw [hF]; decide, by rw [hL]; decide⟩ dX5_linesOf_6) ?_
  refine bm_cc (s_callS hx hb hml hown hts hK (k_X4_get l g) tw_342 tw_133 tw_18 tw_131 ⟨by decide, by decide, by decide +kernel⟩ ⟨by rw [hF]; decide, by rw [hL]; decide⟩ dX5_linesOf_9) ?_
  refine bm_cc (s_iret hx hb hr hlk dX5_linesOf_12) ?_
  exact bm_c9

noncomputable def z_X5_behindFold : List (Nat × bm_O) := [(0, op_aload 0), (1, op_getI 4 6), (4, op_ifle 24), (7, op_iload 1), (8, op_const (1)), (9, op_bin (fun a b => a + b)), (10, op_aload 0), (11, op_getI 4 6), (14, op_binz (fun a b => a - a / b * b)), (15, op_ifne 24), (18, op_iload 1), (19, op_const (1)), (20, op_bin (fun a b => a + b)), (21, op_goto 25), (24, op_iload 1), (25, op_iret)]
noncomputable def f_X5_behindFold : bm_F := Classical.choose (bm_hide (bm_mt 2 z_X5_behindFold))
theorem u_X5_behindFold : f_X5_behindFold = bm_mt 2 z_X5_behindFold := Classical.choose_spec (bm_hide _)
theorem k_X5_behindFold (l : Launch) (g : bm_G) : bm_MetF l g yX5_behindFold cX5_behindFold 2 (some .int) 0 0 f_X5_behindFold := by
  rw [u_X5_behindFold]
  refine bm_met (by decide) ?_
  intro p e R s m args below meth c n0 s0 hx hb hml hown hts hK hr hlk hnm hF hL
  refine bm_cc (s_aload_n hx hb dX5_behindFold_0) ?_
  refine bm_cc (s_getI hx hb hown hts hK (C := RX5) (TT := TX5) (N := 12) (ci := 4) (j := 6) inT5 rfl (by decide) rfl (by decide) rfl tw_343 rfl dX5_behindFold_1) ?_
  refine bm_cc (s_ifle hx hb dX5_behindFold_4 (by decide)) ?_
  refine bm_cc (s_iload_n hx hb dX5_behindFold_7) ?_
  refine bm_cc (s_iconst hx hb dX5_behindFold_8 (by decide)) ?_
  refine bm_cc (s_iadd hx hb dX5_behindFold_9) ?_
  refine bm_cc (s_aload_n hx hb dX5_behindFold_10) ?_
  refine bm_cc (s_getI hx hb hown hts hK (C := RX5) (TT := TX5) (N := 12) (ci := 4) (j := 6) inT5 rfl (by decide) rfl (by decide) rfl tw_343 rfl dX5_behindFold_11) ?_
  refine bm_cc (s_irem hx hb dX5_behindFold_14) ?_
  refine bm_cc (s_ifne hx hb dX5_behindFold_15 (by decide)) ?_
  refine bm_cc (s_iload_n hx hb dX5_behindFold_18) ?_
  refine bm_cc (s_iconst hx hb dX5_behindFold_19 (by decide)) ?_
  refine bm_cc (s_iadd hx hb dX5_behindFold_20) ?_
  refine bm_cc (s_goto hx hb dX5_behindFold_21 (by decide)) ?_
  refine bm_cc (s_iload_n hx hb dX5_behindFold_24) ?_
  refine bm_cc (s_iret hx hb hr hlk dX5_behindFold_25) ?_
  exact bm_c9

noncomputable def z_X5_fits : List (Nat × bm_O) := [(0, op_iload 1), (1, op_iload 2), (2, op_bin (fun a b => a + b)), (3, op_aload 0), (4, op_getI 4 5), (7, op_icgt 14), (10, op_const (1)), (11, op_goto 15), (14, op_const (0)), (15, op_zret)]
noncomputable def f_X5_fits : bm_F := Classical.choose (bm_hide (bm_mt 3 z_X5_fits))
theorem u_X5_fits : f_X5_fits = bm_mt 3 z_X5_fits := Classical.choose_spec (bm_hide _)
theorem k_X5_fits (l : Launch) (g : bm_G) : bm_MetF l g yX5_fits cX5_fits 3 (some .boolean) 0 0 f_X5_fits := by
  rw [u_X5_fits]
  refine bm_met (by decide) ?_
  intro p e R s m args below meth c n0 s0 hx hb hml hown hts hK hr hlk hnm hF hL
  refine bm_cc (s_iload_n hx hb dX5_fits_0) ?_
  refine bm_cc (s_iload_n hx hb dX5_fits_1) ?_
  refine bm_cc (s_iadd hx hb dX5_fits_2) ?_
  refine bm_cc (s_aload_n hx hb dX5_fits_3) ?_
  refine bm_cc (s_getI hx hb hown hts hK (C := RX5) (TT := TX5) (N := 12) (ci := 4) (j := 5) inT5 rfl (by decide) rfl (by decide) rfl tw_344 rfl dX5_fits_4) ?_
  refine bm_cc (s_icgt hx hb dX5_fits_7 (by decide)) ?_
  refine bm_cc (s_iconst hx hb dX5_fits_10 (by decide)) ?_
  refine bm_cc (s_goto hx hb dX5_fits_11 (by decide)) ?_
  refine bm_cc (s_iconst hx hb dX5_fits_14 (by decide)) ?_
  refine bm_cc (s_zret hx hb hr hlk dX5_fits_15) ?_
  exact bm_c9

noncomputable def z_X5_layTitle : List (Nat × bm_O) := [(0, op_aload 0), (1, op_getI 4 8), (4, op_const (1)), (5, op_bin (fun a b => a + b)), (6, op_istore 3), (7, op_aload 0), (8, op_getI 4 7), (11, op_ifeq 29), (14, op_aload 0), (15, op_aload 0), (16, op_iload 3), (17, op_iload 1), (18, op_bin (fun a b => a + b)), (19, op_call 1 2 (bm_rc 4) f_X5_behindFold), (22, op_iload 2), (23, op_call 1 3 (bm_rc 4) f_X5_fits), (26, op_ifne 41), (29, op_aload 0), (30, op_dup), (31, op_getI 4 7), (34, op_const (1)), (35, op_bin (fun a b => a + b)), (36, op_putI 4 7), (39, op_const (0)), (40, op_istore 3), (41, op_aload 0), (42, op_iload 3), (43, op_iload 1), (44, op_bin (fun a b => a + b)), (45, op_putI 4 8), (48, op_aload 0), (49, op_dup), (50, op_getI 4 9), (53, op_iload 1), (54, op_bin (fun a b => a + b)), (55, op_putI 4 9), (58, op_ret)]
noncomputable def f_X5_layTitle : bm_F := Classical.choose (bm_hide (bm_mt 4 z_X5_layTitle))
theorem u_X5_layTitle : f_X5_layTitle = bm_mt 4 z_X5_layTitle := Classical.choose_spec (bm_hide _)
theorem k_X5_layTitle (l : Launch) (g : bm_G) : bm_MetF l g yX5_layTitle cX5_layTitle 4 none 1 22 f_X5_layTitle := by
  rw [u_X5_layTitle]
  refine bm_met (by decide) ?_
  intro p e R s m args below meth c n0 s0 hx hb hml hown hts hK hr hlk hnm hF hL
  refine bm_cc (s_aload_n hx hb dX5_layTitle_0) ?_
  refine bm_cc (s_getI hx hb hown hts hK (C := RX5) (TT := TX5) (N := 12) (ci := 4) (j := 8) inT5 rfl (by decide) rfl (by decide) rfl tw_345 rfl dX5_layTitle_1) ?_
  refine bm_cc (s_iconst hx hb dX5_layTitle_4 (by decide)) ?_
  refine bm_cc (s_iadd hx hb dX5_layTitle_5) ?_
  refine bm_cc (s_istore_n hx hb dX5_layTitle_6) ?_
  refine bm_cc (s_aload_n hx hb dX5_layTitle_7) ?_
  refine bm_cc (s_getI hx hb hown hts hK (C := RX5) (TT := TX5) (N := 12) (ci := 4) (j := 7) inT5 rfl (by decide) rfl (by decide) rfl tw_346 rfl dX5_layTitle_8) ?_
  refine bm_cc (s_ifeq hx hb dX5_layTitle_11 (by decide)) ?_
  refine bm_cc (s_aload_n hx hb dX5_layTitle_14) ?_
  refine bm_cc (s_aload_n hx hb dX5_layTitle_15) ?_
  refine bm_cc (s_iload_n hx hb dX5_layTitle_16) ?_
  refine bm_cc (s_iload_n hx hb dX5_layTitle_17) ?_
  refine bm_cc (s_iadd hx hb dX5_layTitle_18) ?_
  refine bm_cc (s_callV hx hb hml hown hts hK (C := RX5) (TT := TX5) (N := 12) (ci := 4) rfl (by decide) (k_X5_behindFold l g) tw_348 tw_349 tw_350 tw_56 tw_347 ⟨by decide, by decide, by decide +kernel⟩ ⟨by rw [hF]; decide, by rw [hL]; decide⟩ dX5_layTitle_19) ?_
  refine bm_cc (s_iload_n hx hb dX5_layTitle_22) ?_
  refine bm_cc (s_callV hx hb hml hown hts hK (C := RX5) (TT := TX5) (N := 12) (ci := 4) rfl (by decide) (k_X5_fits l g) tw_352 tw_353 tw_354 tw_56 tw_351 ⟨by decide, by decide, by decide +kernel⟩ ⟨by rw [hF]; decide, by rw [hL]; decide⟩ dX5_layTitle_23) ?_
  refine bm_cc (s_ifne hx hb dX5_layTitle_26 (by decide)) ?_
  refine bm_cc (s_aload_n hx hb dX5_layTitle_29) ?_
  refine bm_cc (s_dup hx hb dX5_layTitle_30) ?_
  refine bm_cc (s_getI hx hb hown hts hK (C := RX5) (TT := TX5) (N := 12) (ci := 4) (j := 7) inT5 rfl (by decide) rfl (by decide) rfl tw_346 rfl dX5_layTitle_31) ?_
  refine bm_cc (s_iconst hx hb dX5_layTitle_34 (by decide)) ?_
  refine bm_cc (s_iadd hx hb dX5_layTitle_35) ?_
  refine bm_cc (s_putI hx hb hown hts hK (C := RX5) (TT := TX5) (N := 12) (ci := 4) (j := 7) inT5 rfl (by decide) rfl (by decide) tyX5 tyX5_ok nmX5 rfl tw_346 rfl rfl (by decide +kernel) dX5_layTitle_36) ?_
  refine bm_cc (s_iconst hx hb dX5_layTitle_39 (by decide)) ?_
  refine bm_cc (s_istore_n hx hb dX5_layTitle_40) ?_
  refine bm_cc (s_aload_n hx hb dX5_layTitle_41) ?_
  refine bm_cc (s_iload_n hx hb dX5_layTitle_42) ?_
  refine bm_cc (s_iload_n hx hb dX5_layTitle_43) ?_
  refine bm_cc (s_iadd hx hb dX5_layTitle_44) ?_
  refine bm_cc (s_putI hx hb hown hts hK (C := RX5) (TT := TX5) (N := 12) (ci := 4) (j := 8) inT5 rfl (by decide) rfl (by decide) tyX5 tyX5_ok nmX5 rfl tw_345 rfl rfl (by decide +kernel) dX5_layTitle_45) ?_
  refine bm_cc (s_aload_n hx hb dX5_layTitle_48) ?_
  refine bm_cc (s_dup hx hb dX5_layTitle_49) ?_
  refine bm_cc (s_getI hx hb hown hts hK (C := RX5) (TT := TX5) (N := 12) (ci := 4) (j := 9) inT5 rfl (by decide) rfl (by decide) rfl tw_355 rfl dX5_layTitle_50) ?_
  refine bm_cc (s_iload_n hx hb dX5_layTitle_53) ?_
  refine bm_cc (s_iadd hx hb dX5_layTitle_54) ?_
  refine bm_cc (s_putI hx hb hown hts hK (C := RX5) (TT := TX5) (N := 12) (ci := 4) (j := 9) inT5 rfl (by decide) rfl (by decide) tyX5 tyX5_ok nmX5 rfl tw_355 rfl rfl (by decide +kernel) dX5_layTitle_55) ?_
  refine bm_cc (s_ret hx hb hr hlk dX5_layTitle_58) ?_
  exact bm_c9

noncomputable def z_X5_layName : List (Nat × bm_O) := [(0, op_aload 0), (1, op_getR 4 2), (4, op_iload 1), (5, op_call 1 2 bm_c0 f_X4_get), (8, op_istore 2), (9, op_aload 0), (10, op_aload 0), (11, op_getI 4 8), (14, op_call 1 2 (bm_rc 4) f_X5_behindFold), (17, op_istore 3), (18, op_aload 0), (19, op_iload 3), (20, op_iload 2), (21, op_call 1 3 (bm_rc 4) f_X5_fits), (24, op_ifne 52), (27, op_aload 0), (28, op_dup), (29, op_getI 4 7), (32, op_const (1)), (33, op_bin (fun a b => a + b)), (34, op_putI 4 7), (37, op_const (0)), (38, op_istore 3), (39, op_aload 0), (40, op_dup), (41, op_getI 4 11), (44, op_const (1)), (45, op_bin (fun a b => a + b)), (46, op_putI 4 11), (49, op_goto 70), (52, op_iload 3), (53, op_aload 0), (54, op_getI 4 8), (57, op_icle 70), (60, op_aload 0), (61, op_dup), (62, op_getI 4 10), (65, op_const (1)), (66, op_bin (fun a b => a + b)), (67, op_putI 4 10), (70, op_aload 0), (71, op_getR 4 0), (74, op_iload 1), (75, op_aload 0), (76, op_getI 4 7), (79, op_const (1)), (80, op_bin (fun a b => a - b)), (81, op_call 0 3 bm_c0 f_X4_put), (84, op_aload 0), (85, op_getR 4 1), (88, op_iload 1), (89, op_iload 3), (90, op_call 0 3 bm_c0 f_X4_put), (93, op_aload 0), (94, op_iload 3), (95, op_iload 2), (96, op_bin (fun a b => a + b)), (97, op_putI 4 8), (100, op_aload 0), (101, op_dup), (102, op_getI 4 9), (105, op_iload 2), (106, op_bin (fun a b => a + b)), (107, op_putI 4 9), (110, op_ret)]
noncomputable def f_X5_layName : bm_F := Classical.choose (bm_hide (bm_mt 4 z_X5_layName))
theorem u_X5_layName : f_X5_layName = bm_mt 4 z_X5_layName := Classical.choose_spec (bm_hide _)
theorem k_X5_layName (l : Launch) (g : bm_G) : bm_MetF l g yX5_layName cX5_layName 4 none 1 22 f_X5_layName := by
  rw [u_X5_layName]
  refine bm_met (by decide) ?_
  intro p e R s m args below meth c n0 s0 hx hb hml hown hts hK hr hlk hnm hF hL
  refine bm_cc (s_aload_n hx hb dX5_layName_0) ?_
  refine bm_cc (s_getR hx hb hown hts hK (C := RX5) (TT := TX5) (N := 12) (ci := 4) (j := 2) inT5 rfl (by decide) rfl (by decide) rfl tw_33 rfl dX5_layName_1) ?_
  refine bm_cc (s_iload_n hx hb dX5_layName_4) ?_
  refine bm_cc (s_callS hx hb hml hown hts hK (k_X4_get l g) tw_342 tw_133 tw_18 tw_131 ⟨by decide, by decide, by decide +kernel⟩ ⟨by rw [hF]; decide, by rw [hL]; decide⟩ dX5_layName_5) ?_
  refine bm_cc (s_istore_n hx hb dX5_layName_8) ?_
  refine bm_cc (s_aload_n hx hb dX5_layName_9) ?_
  refine bm_cc (s_aload_n hx hb dX5_layName_10) ?_
  refine bm_cc (s_getI hx hb hown hts hK (C := RX5) (TT := TX5) (N := 12) (ci := 4) (j := 8) inT5 rfl (by decide) rfl (by decide) rfl tw_345 rfl dX5_layName_11) ?_
  refine bm_cc (s_callV hx hb hml hown hts hK (C := RX5) (TT := TX5) (N := 12) (ci := 4) rfl (by decide) (k_X5_behindFold l g) tw_348 tw_349 tw_350 tw_56 tw_347 ⟨by decide, by decide, by decide +kernel⟩ ⟨by rw [hF]; decide, by rw [hL]; decide⟩ dX5_layName_14) ?_
  refine bm_cc (s_istore_n hx hb dX5_layName_17) ?_
  refine bm_cc (s_aload_n hx hb dX5_layName_18) ?_
  refine bm_cc (s_iload_n hx hb dX5_layName_19) ?_
  refine bm_cc (s_iload_n hx hb dX5_layName_20) ?_
  refine bm_cc (s_callV hx hb hml hown hts hK (C := RX5) (TT := TX5) (N := 12) (ci := 4) rfl (by decide) (k_X5_fits l g) tw_352 tw_353 tw_354 tw_56 tw_351 ⟨by decide, by decide, by decide +kernel⟩ ⟨by rw [hF]; decide, by rw [hL]; decide⟩ dX5_layName_21) ?_
  refine bm_cc (s_ifne hx hb dX5_layName_24 (by decide)) ?_
  refine bm_cc (s_aload_n hx hb dX5_layName_27) ?_
  refine bm_cc (s_dup hx hb dX5_layName_28) ?_
  refine bm_cc (s_getI hx hb hown hts hK (C := RX5) (TT := TX5) (N := 12) (ci := 4) (j := 7) inT5 rfl (by decide) rfl (by decide) rfl tw_346 rfl dX5_layName_29) ?_
  refine bm_cc (s_iconst hx hb dX5_layName_32 (by decide)) ?_
  refine bm_cc (s_iadd hx hb dX5_layName_33) ?_
  refine bm_cc (s_putI hx hb hown hts hK (C := RX5) (TT := TX5) (N := 12) (ci := 4) (j := 7) inT5 rfl (by decide) rfl (by decide) tyX5 tyX5_ok nmX5 rfl tw_346 rfl rfl (by decide +kernel) dX5_layName_34) ?_
  refine bm_cc (s_iconst hx hb dX5_layName_37 (by decide)) ?_
  refine bm_cc (s_istore_n hx hb dX5_layName_38) ?_
  refine bm_cc (s_aload_n hx hb dX5_layName_39) ?_
  refine bm_cc (s_dup hx hb dX5_layName_40) ?_
  refine bm_cc (s_getI hx hb hown hts hK (C := RX5) (TT := TX5) (N := 12) (ci := 4) (j := 11) inT5 rfl (by decide) rfl (by decide) rfl tw_356 rfl dX5_layName_41) ?_
  refine bm_cc (s_iconst hx hb dX5_layName_44 (by decide)) ?_
  refine bm_cc (s_iadd hx hb dX5_layName_45) ?_
  refine bm_cc (s_putI hx hb hown hts hK (C := RX5) (TT := TX5) (N := 12) (ci := 4) (j := 11) inT5 rfl (by decide) rfl (by decide) tyX5 tyX5_ok nmX5 rfl tw_356 rfl rfl (by decide +kernel) dX5_layName_46) ?_
  refine bm_cc (s_goto hx hb dX5_layName_49 (by decide)) ?_
  refine bm_cc (s_iload_n hx hb dX5_layName_52) ?_
  refine bm_cc (s_aload_n hx hb dX5_layName_53) ?_
  refine bm_cc (s_getI hx hb hown hts hK (C := RX5) (TT := TX5) (N := 12) (ci := 4) (j := 8) inT5 rfl (by decide) rfl (by decide) rfl tw_345 rfl dX5_layName_54) ?_
  refine bm_cc (s_icle hx hb dX5_layName_57 (by decide)) ?_
  refine bm_cc (s_aload_n hx hb dX5_layName_60) ?_
  refine bm_cc (s_dup hx hb dX5_layName_61) ?_
  refine bm_cc (s_getI hx hb hown hts hK (C := RX5) (TT := TX5) (N := 12) (ci := 4) (j := 10) inT5 rfl (by decide) rfl (by decide) rfl tw_357 rfl dX5_layName_62) ?_
  refine bm_cc (s_iconst hx hb dX5_layName_65 (by decide)) ?_
  refine bm_cc (s_iadd hx hb dX5_layName_66) ?_
  refine bm_cc (s_putI hx hb hown hts hK (C := RX5) (TT := TX5) (N := 12) (ci := 4) (j := 10) inT5 rfl (by decide) rfl (by decide) tyX5 tyX5_ok nmX5 rfl tw_357 rfl rfl (by decide +kernel) dX5_layName_67) ?_
  refine bm_cc (s_aload_n hx hb dX5_layName_70) ?_
  refine bm_cc (s_getR hx hb hown hts hK (C := RX5) (TT := TX5) (N := 12) (ci := 4) (j := 0) inT5 rfl (by decide) rfl (by decide) rfl tw_31 rfl dX5_layName_71) ?_
  refine bm_cc (s_iload_n hx hb dX5_layName_74) ?_
  refine bm_cc (s_aload_n hx hb dX5_layName_75) ?_
  refine bm_cc (s_getI hx hb hown hts hK (C := RX5) (TT := TX5) (N := 12) (ci := 4) (j := 7) inT5 rfl (by decide) rfl (by decide) rfl tw_346 rfl dX5_layName_76) ?_
  refine bm_cc (s_iconst hx hb dX5_layName_79 (by decide)) ?_
  refine bm_cc (s_isub hx hb dX5_layName_80) ?_
  refine bm_cc (s_callS hx hb hml hown hts hK (k_X4_put l g) tw_341 tw_105 tw_18 tw_103 ⟨by decide, by decide, by decide +kernel⟩ ⟨by rw [hF]; decide, by rw [hL]; decide⟩ dX5_layName_81) ?_
  refine bm_cc (s_aload_n hx hb dX5_layName_84) ?_
  refine bm_cc (s_getR hx hb hown hts hK (C := RX5) (TT := TX5) (N := 12) (ci := 4) (j := 1) inT5 rfl (by decide) rfl (by decide) rfl tw_32 rfl dX5_layName_85) ?_
  refine bm_cc (s_iload_n hx hb dX5_layName_88) ?_
  refine bm_cc (s_iload_n hx hb dX5_layName_89) ?_
  refine bm_cc (s_callS hx hb hml hown hts hK (k_X4_put l g) tw_341 tw_105 tw_18 tw_103 ⟨by decide, by decide, by decide +kernel⟩ ⟨by rw [hF]; decide, by rw [hL]; decide⟩ dX5_layName_90) ?_
  refine bm_cc (s_aload_n hx hb dX5_layName_93) ?_
  refine bm_cc (s_iload_n hx hb dX5_layName_94) ?_
  refine bm_cc (s_iload_n hx hb dX5_layName_95) ?_
  refine bm_cc (s_iadd hx hb dX5_layName_96) ?_
  refine bm_cc (s_putI hx hb hown hts hK (C := RX5) (TT := TX5) (N := 12) (ci := 4) (j := 8) inT5 rfl (by decide) rfl (by decide) tyX5 tyX5_ok nmX5 rfl tw_345 rfl rfl (by decide +kernel) dX5_layName_97) ?_
  refine bm_cc (s_aload_n hx hb dX5_layName_100) ?_
  refine bm_cc (s_dup hx hb dX5_layName_101) ?_
  refine bm_cc (s_getI hx hb hown hts hK (C := RX5) (TT := TX5) (N := 12) (ci := 4) (j := 9) inT5 rfl (by decide) rfl (by decide) rfl tw_355 rfl dX5_layName_102) ?_
  refine bm_cc (s_iload_n hx hb dX5_layName_105) ?_
  refine bm_cc (s_iadd hx hb dX5_layName_106) ?_
  refine bm_cc (s_putI hx hb hown hts hK (C := RX5) (TT := TX5) (N := 12) (ci := 4) (j := 9) inT5 rfl (by decide) rfl (by decide) tyX5 tyX5_ok nmX5 rfl tw_355 rfl rfl (by decide +kernel) dX5_layName_107) ?_
  refine bm_cc (s_ret hx hb hr hlk dX5_layName_110) ?_
  exact bm_c9

noncomputable def z_X5_layNames : List (Nat × bm_O) := [(0, op_const (0)), (1, op_istore 4), (3, op_iload 4), (5, op_aload 1), (6, op_iload 3), (7, op_call 1 2 (bm_rc 3) f_X3_namesIn), (10, op_icge 35), (13, op_aload 0), (14, op_iload 3), (15, op_aload 1), (16, op_iload 2), (17, op_iload 3), (18, op_iload 4), (20, op_call 1 4 (bm_rc 3) f_X3_nameAt), (23, op_call 1 2 bm_c0 f_X3_slot), (26, op_call 0 2 (bm_rc 4) f_X5_layName), (29, op_iinc 4 1), (32, op_goto 3), (35, op_ret)]
noncomputable def f_X5_layNames : bm_F := Classical.choose (bm_hide (bm_mt 5 z_X5_layNames))
theorem u_X5_layNames : f_X5_layNames = bm_mt 5 z_X5_layNames := Classical.choose_spec (bm_hide _)
theorem k_X5_layNames (l : Launch) (g : bm_G) : bm_MetF l g yX5_layNames cX5_layNames 5 none 3 68 f_X5_layNames := by
  rw [u_X5_layNames]
  refine bm_met (by decide) ?_
  intro p e R s m args below meth c n0 s0 hx hb hml hown hts hK hr hlk hnm hF hL
  refine bm_cc (s_iconst hx hb dX5_layNames_0 (by decide)) ?_
  refine bm_cc (s_istore hx hb dX5_layNames_1) ?_
  refine bm_cc (s_iload hx hb dX5_layNames_3) ?_
  refine bm_cc (s_aload_n hx hb dX5_layNames_5) ?_
  refine bm_cc (s_iload_n hx hb dX5_layNames_6) ?_
  refine bm_cc (s_callV hx hb hml hown hts hK (C := RX3) (TT := TX3) (N := 12) (ci := 3) rfl (by decide) (k_X3_namesIn l g) tw_336 tw_138 tw_139 tw_26 tw_136 ⟨by decide, by decide, by decide +kernel⟩ ⟨by rw [hF]; decide, by rw [hL]; decide⟩ dX5_layNames_7) ?_
  refine bm_cc (s_icge hx hb dX5_layNames_10 (by decide)) ?_
  refine bm_cc (s_aload_n hx hb dX5_layNames_13) ?_
  refine bm_cc (s_iload_n hx hb dX5_layNames_14) ?_
  refine bm_cc (s_aload_n hx hb dX5_layNames_15) ?_
  refine bm_cc (s_iload_n hx hb dX5_layNames_16) ?_
  refine bm_cc (s_iload_n hx hb dX5_layNames_17) ?_
  refine bm_cc (s_iload hx hb dX5_layNames_18) ?_
  refine bm_cc (s_callV hx hb hml hown hts hK (C := RX3) (TT := TX3) (N := 12) (ci := 3) rfl (by decide) (k_X3_nameAt l g) tw_358 tw_252 tw_253 tw_26 tw_250 ⟨by decide, by decide, by decide +kernel⟩ ⟨by rw [hF]; decide, by rw [hL]; decide⟩ dX5_layNames_20) ?_
  refine bm_cc (s_callS hx hb hml hown hts hK (k_X3_slot l g) tw_340 tw_142 tw_26 tw_140 ⟨by decide, by decide, by decide +kernel⟩ ⟨by rw [hF]; decide, by rw [hL]; decide⟩ dX5_layNames_23) ?_
  refine bm_cc (s_callV hx hb hml hown hts hK (C := RX5) (TT := TX5) (N := 12) (ci := 4) rfl (by decide) (k_X5_layName l g) tw_360 tw_361 tw_362 tw_56 tw_359 ⟨by decide, by decide, by decide +kernel⟩ ⟨by rw [hF]; decide, by rw [hL]; decide⟩ dX5_layNames_26) ?_
  refine bm_cc (s_iinc hx hb dX5_layNames_29 (by decide)) ?_
  refine bm_cc (s_goto hx hb dX5_layNames_32 (by decide)) ?_
  refine bm_cc (s_ret hx hb hr hlk dX5_layNames_35) ?_
  exact bm_c9

noncomputable def z_X5_lay : List (Nat × bm_O) := [(0, op_aload 0), (1, op_aload 1), (2, op_const (0)), (3, op_call 1 2 (bm_rc 3) f_X3_setting), (6, op_putI 4 4), (9, op_aload 0), (10, op_aload 1), (11, op_const (1)), (12, op_call 1 2 (bm_rc 3) f_X3_setting), (15, op_putI 4 5), (18, op_aload 0), (19, op_aload 1), (20, op_const (4)), (21, op_call 1 2 (bm_rc 3) f_X3_setting), (24, op_putI 4 6), (27, op_aload 0), (28, op_const (0)), (29, op_putI 4 7), (32, op_aload 0), (33, op_const (0)), (34, op_putI 4 8), (37, op_aload 0), (38, op_const (0)), (39, op_putI 4 9), (42, op_aload 0), (43, op_const (0)), (44, op_putI 4 10), (47, op_aload 0), (48, op_const (0)), (49, op_putI 4 11), (52, op_const (0)), (53, op_istore 4), (55, op_iload 4), (57, op_aload 1), (58, op_call 1 1 (bm_rc 3) f_X3_contests), (61, op_icge 152), (64, op_aload 1), (65, op_iload 4), (67, op_call 1 2 (bm_rc 3) f_X3_namesIn), (70, op_istore 5), (72, op_aload 0), (73, op_getR 4 3), (76, op_iload 4), (78, op_iload 5), (80, op_call 0 3 bm_c0 f_X4_put), (83, op_aload 0), (84, op_aload 1), (85, op_iload 4), (87, op_iload 3), (88, op_call 0 4 (bm_rc 4) f_X5_measure), (91, op_iload 5), (93, op_ifle 146), (96, op_aload 1), (97, op_iload 4), (99, op_call 1 2 (bm_rc 3) f_X3_titleOf), (102, op_iload 3), (103, op_call 1 2 bm_c0 f_X7_roundedUp), (106, op_istore 6), (108, op_aload 1), (109, op_iload 2), (110, op_iload 4), (112, op_const (0)), (113, op_call 1 4 (bm_rc 3) f_X3_nameAt), (116, op_istore 7), (118, op_aload 0), (119, op_iload 6), (121, op_aload 1), (122, op_const (3)), (123, op_call 1 2 (bm_rc 3) f_X3_setting), (126, op_bin (fun a b => a * b)), (127, op_aload 0), (128, op_iload 4), (130, op_iload 7), (132, op_call 1 3 (bm_rc 4) f_X5_linesOf), (135, op_call 0 3 (bm_rc 4) f_X5_layTitle), (138, op_aload 0), (139, op_aload 1), (140, op_iload 2), (141, op_iload 4), (143, op_call 0 4 (bm_rc 4) f_X5_layNames), (146, op_iinc 4 1), (149, op_goto 55), (152, op_ret)]
noncomputable def f_X5_lay : bm_F := Classical.choose (bm_hide (bm_mt 8 z_X5_lay))
theorem u_X5_lay : f_X5_lay = bm_mt 8 z_X5_lay := Classical.choose_spec (bm_hide _)
theorem k_X5_lay (l : Launch) (g : bm_G) : bm_MetF l g yX5_lay cX5_lay 8 none 4 92 f_X5_lay := by
  rw [u_X5_lay]
  refine bm_met (by decide) ?_
  intro p e R s m args below meth c n0 s0 hx hb hml hown hts hK hr hlk hnm hF hL
  refine bm_cc (s_aload_n hx hb dX5_lay_0) ?_
  refine bm_cc (s_aload_n hx hb dX5_lay_1) ?_
  refine bm_cc (s_iconst hx hb dX5_lay_2 (by decide)) ?_
  refine bm_cc (s_callV hx hb hml hown hts hK (C := RX3) (TT := TX3) (N := 12) (ci := 3) rfl (by decide) (k_X3_setting l g) tw_363 tw_177 tw_178 tw_26 tw_175 ⟨by decide, by decide, by decide +kernel⟩ ⟨by rw [hF]; decide, by rw [hL]; decide⟩ dX5_lay_3) ?_
  refine bm_cc (s_putI hx hb hown hts hK (C := RX5) (TT := TX5) (N := 12) (ci := 4) (j := 4) inT5 rfl (by decide) rfl (by decide) tyX5 tyX5_ok nmX5 rfl tw_364 rfl rfl (by decide +kernel) dX5_lay_6) ?_
  refine bm_cc (s_aload_n hx hb dX5_lay_9) ?_
  refine bm_cc (s_aload_n hx hb dX5_lay_10) ?_
  refine bm_cc (s_iconst hx hb dX5_lay_11 (by decide)) ?_
  refine bm_cc (s_callV hx hb hml hown hts hK (C := RX3) (TT := TX3) (N := 12) (ci := 3) rfl (by decide) (k_X3_setting l g) tw_363 tw_177 tw_178 tw_26 tw_175 ⟨by decide, by decide, by decide +kernel⟩ ⟨by rw [hF]; decide, by rw [hL]; decide⟩ dX5_lay_12) ?_
  refine bm_cc (s_putI hx hb hown hts hK (C := RX5) (TT := TX5) (N := 12) (ci := 4) (j := 5) inT5 rfl (by decide) rfl (by decide) tyX5 tyX5_ok nmX5 rfl tw_344 rfl rfl (by decide +kernel) dX5_lay_15) ?_
  refine bm_cc (s_aload_n hx hb dX5_lay_18) ?_
  refine bm_cc (s_aload_n hx hb dX5_lay_19) ?_
  refine bm_cc (s_iconst hx hb dX5_lay_20 (by decide)) ?_
  refine bm_cc (s_callV hx hb hml hown hts hK (C := RX3) (TT := TX3) (N := 12) (ci := 3) rfl (by decide) (k_X3_setting l g) tw_363 tw_177 tw_178 tw_26 tw_175 ⟨by decide, by decide, by decide +kernel⟩ ⟨by rw [hF]; decide, by rw [hL]; decide⟩ dX5_lay_21) ?_
  refine bm_cc (s_putI hx hb hown hts hK (C := RX5) (TT := TX5) (N := 12) (ci := 4) (j := 6) inT5 rfl (by decide) rfl (by decide) tyX5 tyX5_ok nmX5 rfl tw_343 rfl rfl (by decide +kernel) dX5_lay_24) ?_
  refine bm_cc (s_aload_n hx hb dX5_lay_27) ?_
  refine bm_cc (s_iconst hx hb dX5_lay_28 (by decide)) ?_
  refine bm_cc (s_putI hx hb hown hts hK (C := RX5) (TT := TX5) (N := 12) (ci := 4) (j := 7) inT5 rfl (by decide) rfl (by decide) tyX5 tyX5_ok nmX5 rfl tw_346 rfl rfl (by decide +kernel) dX5_lay_29) ?_
  refine bm_cc (s_aload_n hx hb dX5_lay_32) ?_
  refine bm_cc (s_iconst hx hb dX5_lay_33 (by decide)) ?_
  refine bm_cc (s_putI hx hb hown hts hK (C := RX5) (TT := TX5) (N := 12) (ci := 4) (j := 8) inT5 rfl (by decide) rfl (by decide) tyX5 tyX5_ok nmX5 rfl tw_345 rfl rfl (by decide +kernel) dX5_lay_34) ?_
  refine bm_cc (s_aload_n hx hb dX5_lay_37) ?_
  refine bm_cc (s_iconst hx hb dX5_lay_38 (by decide)) ?_
  refine bm_cc (s_putI hx hb hown hts hK (C := RX5) (TT := TX5) (N := 12) (ci := 4) (j := 9) inT5 rfl (by decide) rfl (by decide) tyX5 tyX5_ok nmX5 rfl tw_355 rfl rfl (by decide +kernel) dX5_lay_39) ?_
  refine bm_cc (s_aload_n hx hb dX5_lay_42) ?_
  refine bm_cc (s_iconst hx hb dX5_lay_43 (by decide)) ?_
  refine bm_cc (s_putI hx hb hown hts hK (C := RX5) (TT := TX5) (N := 12) (ci := 4) (j := 10) inT5 rfl (by decide) rfl (by decide) tyX5 tyX5_ok nmX5 rfl tw_357 rfl rfl (by decide +kernel) dX5_lay_44) ?_
  refine bm_cc (s_aload_n hx hb dX5_lay_47) ?_
  refine bm_cc (s_iconst hx hb dX5_lay_48 (by decide)) ?_
  refine bm_cc (s_putI hx hb hown hts hK (C := RX5) (TT := TX5) (N := 12) (ci := 4) (j := 11) inT5 rfl (by decide) rfl (by decide) tyX5 tyX5_ok nmX5 rfl tw_356 rfl rfl (by decide +kernel) dX5_lay_49) ?_
  refine bm_cc (s_iconst hx hb dX5_lay_52 (by decide)) ?_
  refine bm_cc (s_istore hx hb dX5_lay_53) ?_
  refine bm_cc (s_iload hx hb dX5_lay_55) ?_
  refine bm_cc (s_aload_n hx hb dX5_lay_57) ?_
  refine bm_cc (s_callV hx hb hml hown hts hK (C := RX3) (TT := TX3) (N := 12) (ci := 3) rfl (by decide) (k_X3_contests l g) tw_365 tw_112 tw_113 tw_26 tw_110 ⟨by decide, by decide, by decide +kernel⟩ ⟨by rw [hF]; decide, by rw [hL]; decide⟩ dX5_lay_58) ?_
  refine bm_cc (s_icge hx hb dX5_lay_61 (by decide)) ?_
  refine bm_cc (s_aload_n hx hb dX5_lay_64) ?_
  refine bm_cc (s_iload hx hb dX5_lay_65) ?_
  refine bm_cc (s_callV hx hb hml hown hts hK (C := RX3) (TT := TX3) (N := 12) (ci := 3) rfl (by decide) (k_X3_namesIn l g) tw_336 tw_138 tw_139 tw_26 tw_136 ⟨by decide, by decide, by decide +kernel⟩ ⟨by rw [hF]; decide, by rw [hL]; decide⟩ dX5_lay_67) ?_
  refine bm_cc (s_istore hx hb dX5_lay_70) ?_
  refine bm_cc (s_aload_n hx hb dX5_lay_72) ?_
  refine bm_cc (s_getR hx hb hown hts hK (C := RX5) (TT := TX5) (N := 12) (ci := 4) (j := 3) inT5 rfl (by decide) rfl (by decide) rfl tw_34 rfl dX5_lay_73) ?_
  refine bm_cc (s_iload hx hb dX5_lay_76) ?_
  refine bm_cc (s_iload hx hb dX5_lay_78) ?_
  refine bm_cc (s_callS hx hb hml hown hts hK (k_X4_put l g) tw_341 tw_105 tw_18 tw_103 ⟨by decide, by decide, by decide +kernel⟩ ⟨by rw [hF]; decide, by rw [hL]; decide⟩ dX5_lay_80) ?_
  refine bm_cc (s_aload_n hx hb dX5_lay_83) ?_
  refine bm_cc (s_aload_n hx hb dX5_lay_84) ?_
  refine bm_cc (s_iload hx hb dX5_lay_85) ?_
  refine bm_cc (s_iload_n hx hb dX5_lay_87) ?_
  refine bm_cc (s_callV hx hb hml hown hts hK (C := RX5) (TT := TX5) (N := 12) (ci := 4) rfl (by decide) (k_X5_measure l g) tw_367 tw_368 tw_369 tw_56 tw_366 ⟨by decide, by decide, by decide +kernel⟩ ⟨by rw [hF]; decide, by rw [hL]; decide⟩ dX5_lay_88) ?_
  refine bm_cc (s_iload hx hb dX5_lay_91) ?_
  refine bm_cc (s_ifle hx hb dX5_lay_93 (by decide)) ?_
  refine bm_cc (s_aload_n hx hb dX5_lay_96) ?_
  refine bm_cc (s_iload hx hb dX5_lay_97) ?_
  refine bm_cc (s_callV hx hb hml hown hts hK (C := RX3) (TT := TX3) (N := 12) (ci := 3) rfl (by decide) (k_X3_titleOf l g) tw_370 tw_220 tw_221 tw_26 tw_218 ⟨by decide, by decide, by decide +kernel⟩ ⟨by rw [hF]; decide, by rw [hL]; decide⟩ dX5_lay_99) ?_
  refine bm_cc (s_iload_n hx hb dX5_lay_102) ?_
  refine bm_cc (s_callSN hx hb hml hown hts hK (k_X7_roundedUp l g) (hK.2.2.2.2.1 _ (List.mem_of_getElem? (i := 1) rfl)) tw_339 tw_106 tw_338 ⟨by decide, by decide, by decide +kernel⟩ ⟨by rw [hF]; decide, by rw [hL]; decide⟩ dX5_lay_103) ?_
  refine bm_cc (s_istore hx hb dX5_lay_106) ?_
  refine bm_cc (s_aload_n hx hb dX5_lay_108) ?_
  refine bm_cc (s_iload_n hx hb dX5_lay_109) ?_
  refine bm_cc (s_iload hx hb dX5_lay_110) ?_
  refine bm_cc (s_iconst hx hb dX5_lay_112 (by decide)) ?_
  refine bm_cc (s_callV hx hb hml hown hts hK (C := RX3) (TT := TX3) (N := 12) (ci := 3) rfl (by decide) (k_X3_nameAt l g) tw_358 tw_252 tw_253 tw_26 tw_250 ⟨by decide, by decide, by decide +kernel⟩ ⟨by rw [hF]; decide, by rw [hL]; decide⟩ dX5_lay_113) ?_
  refine bm_cc (s_istore hx hb dX5_lay_116) ?_
  refine bm_cc (s_aload_n hx hb dX5_lay_118) ?_
  refine bm_cc (s_iload hx hb dX5_lay_119) ?_
  refine bm_cc (s_aload_n hx hb dX5_lay_121) ?_
  refine bm_cc (s_iconst hx hb dX5_lay_122 (by decide)) ?_
  refine bm_cc (s_callV hx hb hml hown hts hK (C := RX3) (TT := TX3) (N := 12) (ci := 3) rfl (by decide) (k_X3_setting l g) tw_363 tw_177 tw_178 tw_26 tw_175 ⟨by decide, by decide, by decide +kernel⟩ ⟨by rw [hF]; decide, by rw [hL]; decide⟩ dX5_lay_123) ?_
  refine bm_cc (s_imul hx hb dX5_lay_126) ?_
  refine bm_cc (s_aload_n hx hb dX5_lay_127) ?_
  refine bm_cc (s_iload hx hb dX5_lay_128) ?_
  refine bm_cc (s_iload hx hb dX5_lay_130) ?_
  refine bm_cc (s_callV hx hb hml hown hts hK (C := RX5) (TT := TX5) (N := 12) (ci := 4) rfl (by decide) (k_X5_linesOf l g) tw_372 tw_373 tw_374 tw_56 tw_371 ⟨by decide, by decide, by decide +kernel⟩ ⟨by rw [hF]; decide, by rw [hL]; decide⟩ dX5_lay_132) ?_
  refine bm_cc (s_callV hx hb hml hown hts hK (C := RX5) (TT := TX5) (N := 12) (ci := 4) rfl (by decide) (k_X5_layTitle l g) tw_376 tw_377 tw_378 tw_56 tw_375 ⟨by decide, by decide, by decide +kernel⟩ ⟨by rw [hF]; decide, by rw [hL]; decide⟩ dX5_lay_135) ?_
  refine bm_cc (s_aload_n hx hb dX5_lay_138) ?_
  refine bm_cc (s_aload_n hx hb dX5_lay_139) ?_
  refine bm_cc (s_iload_n hx hb dX5_lay_140) ?_
  refine bm_cc (s_iload hx hb dX5_lay_141) ?_
  refine bm_cc (s_callV hx hb hml hown hts hK (C := RX5) (TT := TX5) (N := 12) (ci := 4) rfl (by decide) (k_X5_layNames l g) tw_380 tw_381 tw_382 tw_56 tw_379 ⟨by decide, by decide, by decide +kernel⟩ ⟨by rw [hF]; decide, by rw [hL]; decide⟩ dX5_lay_143) ?_
  refine bm_cc (s_iinc hx hb dX5_lay_146 (by decide)) ?_
  refine bm_cc (s_goto hx hb dX5_lay_149 (by decide)) ?_
  refine bm_cc (s_ret hx hb hr hlk dX5_lay_152) ?_
  exact bm_c9

noncomputable def z_X5_pageOf : List (Nat × bm_O) := [(0, op_aload 0), (1, op_getR 4 0), (4, op_iload 1), (5, op_iload 2), (6, op_call 1 2 bm_c0 f_X3_slot), (9, op_call 1 2 bm_c0 f_X4_get), (12, op_istore 3), (13, op_aload 0), (14, op_getI 4 4), (17, op_ifle 29), (20, op_iload 3), (21, op_aload 0), (22, op_getI 4 4), (25, op_binz (fun a b => a / b)), (26, op_goto 30), (29, op_const (0)), (30, op_iret)]
noncomputable def f_X5_pageOf : bm_F := Classical.choose (bm_hide (bm_mt 4 z_X5_pageOf))
theorem u_X5_pageOf : f_X5_pageOf = bm_mt 4 z_X5_pageOf := Classical.choose_spec (bm_hide _)
theorem k_X5_pageOf (l : Launch) (g : bm_G) : bm_MetF l g yX5_pageOf cX5_pageOf 4 (some .int) 1 21 f_X5_pageOf := by
  rw [u_X5_pageOf]
  refine bm_met (by decide) ?_
  intro p e R s m args below meth c n0 s0 hx hb hml hown hts hK hr hlk hnm hF hL
  refine bm_cc (s_aload_n hx hb dX5_pageOf_0) ?_
  refine bm_cc (s_getR hx hb hown hts hK (C := RX5) (TT := TX5) (N := 12) (ci := 4) (j := 0) inT5 rfl (by decide) rfl (by decide) rfl tw_31 rfl dX5_pageOf_1) ?_
  refine bm_cc (s_iload_n hx hb dX5_pageOf_4) ?_
  refine bm_cc (s_iload_n hx hb dX5_pageOf_5) ?_
  refine bm_cc (s_callS hx hb hml hown hts hK (k_X3_slot l g) tw_340 tw_142 tw_26 tw_140 ⟨by decide, by decide, by decide +kernel⟩ ⟨by rw [hF]; decide, by rw [hL]; decide⟩ dX5_pageOf_6) ?_
  refine bm_cc (s_callS hx hb hml hown hts hK (k_X4_get l g) tw_342 tw_133 tw_18 tw_131 ⟨by decide, by decide, by decide +kernel⟩ ⟨by rw [hF]; decide, by rw [hL]; decide⟩ dX5_pageOf_9) ?_
  refine bm_cc (s_istore_n hx hb dX5_pageOf_12) ?_
  refine bm_cc (s_aload_n hx hb dX5_pageOf_13) ?_
  refine bm_cc (s_getI hx hb hown hts hK (C := RX5) (TT := TX5) (N := 12) (ci := 4) (j := 4) inT5 rfl (by decide) rfl (by decide) rfl tw_364 rfl dX5_pageOf_14) ?_
  refine bm_cc (s_ifle hx hb dX5_pageOf_17 (by decide)) ?_
  refine bm_cc (s_iload_n hx hb dX5_pageOf_20) ?_
  refine bm_cc (s_aload_n hx hb dX5_pageOf_21) ?_
  refine bm_cc (s_getI hx hb hown hts hK (C := RX5) (TT := TX5) (N := 12) (ci := 4) (j := 4) inT5 rfl (by decide) rfl (by decide) rfl tw_364 rfl dX5_pageOf_22) ?_
  refine bm_cc (s_idiv hx hb dX5_pageOf_25) ?_
  refine bm_cc (s_goto hx hb dX5_pageOf_26 (by decide)) ?_
  refine bm_cc (s_iconst hx hb dX5_pageOf_29 (by decide)) ?_
  refine bm_cc (s_iret hx hb hr hlk dX5_pageOf_30) ?_
  exact bm_c9

noncomputable def z_X5_columnOnPage : List (Nat × bm_O) := [(0, op_aload 0), (1, op_getR 4 0), (4, op_iload 1), (5, op_iload 2), (6, op_call 1 2 bm_c0 f_X3_slot), (9, op_call 1 2 bm_c0 f_X4_get), (12, op_istore 3), (13, op_aload 0), (14, op_getI 4 4), (17, op_ifle 29), (20, op_iload 3), (21, op_aload 0), (22, op_getI 4 4), (25, op_binz (fun a b => a - a / b * b)), (26, op_goto 30), (29, op_const (0)), (30, op_iret)]
noncomputable def f_X5_columnOnPage : bm_F := Classical.choose (bm_hide (bm_mt 4 z_X5_columnOnPage))
theorem u_X5_columnOnPage : f_X5_columnOnPage = bm_mt 4 z_X5_columnOnPage := Classical.choose_spec (bm_hide _)
theorem k_X5_columnOnPage (l : Launch) (g : bm_G) : bm_MetF l g yX5_columnOnPage cX5_columnOnPage 4 (some .int) 1 21 f_X5_columnOnPage := by
  rw [u_X5_columnOnPage]
  refine bm_met (by decide) ?_
  intro p e R s m args below meth c n0 s0 hx hb hml hown hts hK hr hlk hnm hF hL
  refine bm_cc (s_aload_n hx hb dX5_columnOnPage_0) ?_
  refine bm_cc (s_getR hx hb hown hts hK (C := RX5) (TT := TX5) (N := 12) (ci := 4) (j := 0) inT5 rfl (by decide) rfl (by decide) rfl tw_31 rfl dX5_columnOnPage_1) ?_
  refine bm_cc (s_iload_n hx hb dX5_columnOnPage_4) ?_
  refine bm_cc (s_iload_n hx hb dX5_columnOnPage_5) ?_
  refine bm_cc (s_callS hx hb hml hown hts hK (k_X3_slot l g) tw_340 tw_142 tw_26 tw_140 ⟨by decide, by decide, by decide +kernel⟩ ⟨by rw [hF]; decide, by rw [hL]; decide⟩ dX5_columnOnPage_6) ?_
  refine bm_cc (s_callS hx hb hml hown hts hK (k_X4_get l g) tw_342 tw_133 tw_18 tw_131 ⟨by decide, by decide, by decide +kernel⟩ ⟨by rw [hF]; decide, by rw [hL]; decide⟩ dX5_columnOnPage_9) ?_
  refine bm_cc (s_istore_n hx hb dX5_columnOnPage_12) ?_
  refine bm_cc (s_aload_n hx hb dX5_columnOnPage_13) ?_
  refine bm_cc (s_getI hx hb hown hts hK (C := RX5) (TT := TX5) (N := 12) (ci := 4) (j := 4) inT5 rfl (by decide) rfl (by decide) rfl tw_364 rfl dX5_columnOnPage_14) ?_
  refine bm_cc (s_ifle hx hb dX5_columnOnPage_17 (by decide)) ?_
  refine bm_cc (s_iload_n hx hb dX5_columnOnPage_20) ?_
  refine bm_cc (s_aload_n hx hb dX5_columnOnPage_21) ?_
  refine bm_cc (s_getI hx hb hown hts hK (C := RX5) (TT := TX5) (N := 12) (ci := 4) (j := 4) inT5 rfl (by decide) rfl (by decide) rfl tw_364 rfl dX5_columnOnPage_22) ?_
  refine bm_cc (s_irem hx hb dX5_columnOnPage_25) ?_
  refine bm_cc (s_goto hx hb dX5_columnOnPage_26 (by decide)) ?_
  refine bm_cc (s_iconst hx hb dX5_columnOnPage_29 (by decide)) ?_
  refine bm_cc (s_iret hx hb hr hlk dX5_columnOnPage_30) ?_
  exact bm_c9

noncomputable def z_X5_lineOf : List (Nat × bm_O) := [(0, op_aload 0), (1, op_getR 4 1), (4, op_iload 1), (5, op_iload 2), (6, op_call 1 2 bm_c0 f_X3_slot), (9, op_call 1 2 bm_c0 f_X4_get), (12, op_iret)]
noncomputable def f_X5_lineOf : bm_F := Classical.choose (bm_hide (bm_mt 3 z_X5_lineOf))
theorem u_X5_lineOf : f_X5_lineOf = bm_mt 3 z_X5_lineOf := Classical.choose_spec (bm_hide _)
theorem k_X5_lineOf (l : Launch) (g : bm_G) : bm_MetF l g yX5_lineOf cX5_lineOf 3 (some .int) 1 21 f_X5_lineOf := by
  rw [u_X5_lineOf]
  refine bm_met (by decide) ?_
  intro p e R s m args below meth c n0 s0 hx hb hml hown hts hK hr hlk hnm hF hL
  refine bm_cc (s_aload_n hx hb dX5_lineOf_0) ?_
  refine bm_cc (s_getR hx hb hown hts hK (C := RX5) (TT := TX5) (N := 12) (ci := 4) (j := 1) inT5 rfl (by decide) rfl (by decide) rfl tw_32 rfl dX5_lineOf_1) ?_
  refine bm_cc (s_iload_n hx hb dX5_lineOf_4) ?_
  refine bm_cc (s_iload_n hx hb dX5_lineOf_5) ?_
  refine bm_cc (s_callS hx hb hml hown hts hK (k_X3_slot l g) tw_340 tw_142 tw_26 tw_140 ⟨by decide, by decide, by decide +kernel⟩ ⟨by rw [hF]; decide, by rw [hL]; decide⟩ dX5_lineOf_6) ?_
  refine bm_cc (s_callS hx hb hml hown hts hK (k_X4_get l g) tw_342 tw_133 tw_18 tw_131 ⟨by decide, by decide, by decide +kernel⟩ ⟨by rw [hF]; decide, by rw [hL]; decide⟩ dX5_lineOf_9) ?_
  refine bm_cc (s_iret hx hb hr hlk dX5_lineOf_12) ?_
  exact bm_c9

noncomputable def z_X3_placeOf : List (Nat × bm_O) := [(0, op_const (0)), (1, op_istore 4), (3, op_iload 4), (5, op_aload 0), (6, op_iload 2), (7, op_call 1 2 (bm_rc 3) f_X3_namesIn), (10, op_icge 34), (13, op_aload 0), (14, op_iload 1), (15, op_iload 2), (16, op_iload 4), (18, op_call 1 4 (bm_rc 3) f_X3_nameAt), (21, op_iload 3), (22, op_icne 28), (25, op_iload 4), (27, op_iret), (28, op_iinc 4 1), (31, op_goto 3), (34, op_const (-1)), (35, op_iret)]
noncomputable def f_X3_placeOf : bm_F := Classical.choose (bm_hide (bm_mt 5 z_X3_placeOf))
theorem u_X3_placeOf : f_X3_placeOf = bm_mt 5 z_X3_placeOf := Classical.choose_spec (bm_hide _)
theorem k_X3_placeOf (l : Launch) (g : bm_G) : bm_MetF l g yX3_placeOf cX3_placeOf 5 (some .int) 3 68 f_X3_placeOf := by
  rw [u_X3_placeOf]
  refine bm_met (by decide) ?_
  intro p e R s m args below meth c n0 s0 hx hb hml hown hts hK hr hlk hnm hF hL
  refine bm_cc (s_iconst hx hb dX3_placeOf_0 (by decide)) ?_
  refine bm_cc (s_istore hx hb dX3_placeOf_1) ?_
  refine bm_cc (s_iload hx hb dX3_placeOf_3) ?_
  refine bm_cc (s_aload_n hx hb dX3_placeOf_5) ?_
  refine bm_cc (s_iload_n hx hb dX3_placeOf_6) ?_
  refine bm_cc (s_callV hx hb hml hown hts hK (C := RX3) (TT := TX3) (N := 12) (ci := 3) rfl (by decide) (k_X3_namesIn l g) tw_137 tw_138 tw_139 tw_26 tw_136 ⟨by decide, by decide, by decide +kernel⟩ ⟨by rw [hF]; decide, by rw [hL]; decide⟩ dX3_placeOf_7) ?_
  refine bm_cc (s_icge hx hb dX3_placeOf_10 (by decide)) ?_
  refine bm_cc (s_aload_n hx hb dX3_placeOf_13) ?_
  refine bm_cc (s_iload_n hx hb dX3_placeOf_14) ?_
  refine bm_cc (s_iload_n hx hb dX3_placeOf_15) ?_
  refine bm_cc (s_iload hx hb dX3_placeOf_16) ?_
  refine bm_cc (s_callV hx hb hml hown hts hK (C := RX3) (TT := TX3) (N := 12) (ci := 3) rfl (by decide) (k_X3_nameAt l g) tw_383 tw_252 tw_253 tw_26 tw_250 ⟨by decide, by decide, by decide +kernel⟩ ⟨by rw [hF]; decide, by rw [hL]; decide⟩ dX3_placeOf_18) ?_
  refine bm_cc (s_iload_n hx hb dX3_placeOf_21) ?_
  refine bm_cc (s_icne hx hb dX3_placeOf_22 (by decide)) ?_
  refine bm_cc (s_iload hx hb dX3_placeOf_25) ?_
  refine bm_cc (s_iret hx hb hr hlk dX3_placeOf_27) ?_
  refine bm_cc (s_iinc hx hb dX3_placeOf_28 (by decide)) ?_
  refine bm_cc (s_goto hx hb dX3_placeOf_31 (by decide)) ?_
  refine bm_cc (s_iconst hx hb dX3_placeOf_34 (by decide)) ?_
  refine bm_cc (s_iret hx hb hr hlk dX3_placeOf_35) ?_
  exact bm_c9

noncomputable def z_X7_lies : List (Nat × bm_O) := [(0, op_aload 0), (1, op_getR 6 0), (4, op_iload 1), (5, op_call 1 2 (bm_rc 3) f_X3_hasVersion), (8, op_ifeq 23), (11, op_aload 0), (12, op_getR 6 0), (15, op_iload 2), (16, op_iload 3), (17, op_call 1 3 (bm_rc 3) f_X3_hasName), (20, op_ifne 25), (23, op_const (-1)), (24, op_iret), (25, op_aload 0), (26, op_getR 6 2), (29, op_aload 0), (30, op_getR 6 0), (33, op_iload 1), (34, op_aload 0), (35, op_getR 6 0), (38, op_const (2)), (39, op_call 1 2 (bm_rc 3) f_X3_setting), (42, op_call 0 4 (bm_rc 4) f_X5_lay), (45, op_iload 4), (47, op_tsw [80, 90, 100, 110, 121] 131), (80, op_aload 0), (81, op_getR 6 2), (84, op_iload 2), (85, op_iload 3), (86, op_call 1 3 (bm_rc 4) f_X5_pageOf), (89, op_iret), (90, op_aload 0), (91, op_getR 6 2), (94, op_iload 2), (95, op_iload 3), (96, op_call 1 3 (bm_rc 4) f_X5_columnOnPage), (99, op_iret), (100, op_aload 0), (101, op_getR 6 2), (104, op_iload 2), (105, op_iload 3), (106, op_call 1 3 (bm_rc 4) f_X5_lineOf), (109, op_iret), (110, op_aload 0), (111, op_getR 6 0), (114, op_iload 1), (115, op_iload 2), (116, op_iload 3), (117, op_call 1 4 (bm_rc 3) f_X3_placeOf), (120, op_iret), (121, op_aload 0), (122, op_getR 6 2), (125, op_iload 2), (126, op_iload 3), (127, op_call 1 3 (bm_rc 4) f_X5_linesOf), (130, op_iret), (131, op_const (-1)), (132, op_iret)]
noncomputable def f_X7_lies : bm_F := Classical.choose (bm_hide (bm_mt 5 z_X7_lies))
theorem u_X7_lies : f_X7_lies = bm_mt 5 z_X7_lies := Classical.choose_spec (bm_hide _)
theorem k_X7_lies (l : Launch) (g : bm_G) : bm_MetF l g yX7_lies cX7_lies 5 (some .int) 5 119 f_X7_lies := by
  rw [u_X7_lies]
  refine bm_met (by decide) ?_
  intro p e R s m args below meth c n0 s0 hx hb hml hown hts hK hr hlk hnm hF hL
  refine bm_cc (s_aload_n hx hb dX7_lies_0) ?_
  refine bm_cc (s_getR hx hb hown hts hK (C := RX7) (TT := TX7) (N := 6) (ci := 6) (j := 0) inT7 rfl (by decide) rfl (by decide) rfl tw_46 rfl dX7_lies_1) ?_
  refine bm_cc (s_iload_n hx hb dX7_lies_4) ?_
  refine bm_cc (s_callV hx hb hml hown hts hK (C := RX3) (TT := TX3) (N := 12) (ci := 3) rfl (by decide) (k_X3_hasVersion l g) tw_184 tw_185 tw_186 tw_26 tw_183 ⟨by decide, by decide, by decide +kernel⟩ ⟨by rw [hF]; decide, by rw [hL]; decide⟩ dX7_lies_5) ?_
  refine bm_cc (s_ifeq hx hb dX7_lies_8 (by decide)) ?_
  refine bm_cc (s_aload_n hx hb dX7_lies_11) ?_
  refine bm_cc (s_getR hx hb hown hts hK (C := RX7) (TT := TX7) (N := 6) (ci := 6) (j := 0) inT7 rfl (by decide) rfl (by decide) rfl tw_46 rfl dX7_lies_12) ?_
  refine bm_cc (s_iload_n hx hb dX7_lies_15) ?_
  refine bm_cc (s_iload_n hx hb dX7_lies_16) ?_
  refine bm_cc (s_callV hx hb hml hown hts hK (C := RX3) (TT := TX3) (N := 12) (ci := 3) rfl (by decide) (k_X3_hasName l g) tw_263 tw_264 tw_265 tw_26 tw_262 ⟨by decide, by decide, by decide +kernel⟩ ⟨by rw [hF]; decide, by rw [hL]; decide⟩ dX7_lies_17) ?_
  refine bm_cc (s_ifne hx hb dX7_lies_20 (by decide)) ?_
  refine bm_cc (s_iconst hx hb dX7_lies_23 (by decide)) ?_
  refine bm_cc (s_iret hx hb hr hlk dX7_lies_24) ?_
  refine bm_cc (s_aload_n hx hb dX7_lies_25) ?_
  refine bm_cc (s_getR hx hb hown hts hK (C := RX7) (TT := TX7) (N := 6) (ci := 6) (j := 2) inT7 rfl (by decide) rfl (by decide) rfl tw_60 rfl dX7_lies_26) ?_
  refine bm_cc (s_aload_n hx hb dX7_lies_29) ?_
  refine bm_cc (s_getR hx hb hown hts hK (C := RX7) (TT := TX7) (N := 6) (ci := 6) (j := 0) inT7 rfl (by decide) rfl (by decide) rfl tw_46 rfl dX7_lies_30) ?_
  refine bm_cc (s_iload_n hx hb dX7_lies_33) ?_
  refine bm_cc (s_aload_n hx hb dX7_lies_34) ?_
  refine bm_cc (s_getR hx hb hown hts hK (C := RX7) (TT := TX7) (N := 6) (ci := 6) (j := 0) inT7 rfl (by decide) rfl (by decide) rfl tw_46 rfl dX7_lies_35) ?_
  refine bm_cc (s_iconst hx hb dX7_lies_38 (by decide)) ?_
  refine bm_cc (s_callV hx hb hml hown hts hK (C := RX3) (TT := TX3) (N := 12) (ci := 3) rfl (by decide) (k_X3_setting l g) tw_304 tw_177 tw_178 tw_26 tw_175 ⟨by decide, by decide, by decide +kernel⟩ ⟨by rw [hF]; decide, by rw [hL]; decide⟩ dX7_lies_39) ?_
  refine bm_cc (s_callV hx hb hml hown hts hK (C := RX5) (TT := TX5) (N := 12) (ci := 4) rfl (by decide) (k_X5_lay l g) tw_385 tw_386 tw_387 tw_56 tw_384 ⟨by decide, by decide, by decide +kernel⟩ ⟨by rw [hF]; decide, by rw [hL]; decide⟩ dX7_lies_42) ?_
  refine bm_cc (s_iload hx hb dX7_lies_45) ?_
  refine bm_cc (s_tsw hx hb dX7_lies_47 (by decide) (by decide) (by decide) (by decide)) ?_
  refine bm_cc (s_aload_n hx hb dX7_lies_80) ?_
  refine bm_cc (s_getR hx hb hown hts hK (C := RX7) (TT := TX7) (N := 6) (ci := 6) (j := 2) inT7 rfl (by decide) rfl (by decide) rfl tw_60 rfl dX7_lies_81) ?_
  refine bm_cc (s_iload_n hx hb dX7_lies_84) ?_
  refine bm_cc (s_iload_n hx hb dX7_lies_85) ?_
  refine bm_cc (s_callV hx hb hml hown hts hK (C := RX5) (TT := TX5) (N := 12) (ci := 4) rfl (by decide) (k_X5_pageOf l g) tw_389 tw_390 tw_391 tw_56 tw_388 ⟨by decide, by decide, by decide +kernel⟩ ⟨by rw [hF]; decide, by rw [hL]; decide⟩ dX7_lies_86) ?_
  refine bm_cc (s_iret hx hb hr hlk dX7_lies_89) ?_
  refine bm_cc (s_aload_n hx hb dX7_lies_90) ?_
  refine bm_cc (s_getR hx hb hown hts hK (C := RX7) (TT := TX7) (N := 6) (ci := 6) (j := 2) inT7 rfl (by decide) rfl (by decide) rfl tw_60 rfl dX7_lies_91) ?_
  refine bm_cc (s_iload_n hx hb dX7_lies_94) ?_
  refine bm_cc (s_iload_n hx hb dX7_lies_95) ?_
  refine bm_cc (s_callV hx hb hml hown hts hK (C := RX5) (TT := TX5) (N := 12) (ci := 4) rfl (by decide) (k_X5_columnOnPage l g) tw_393 tw_394 tw_395 tw_56 tw_392 ⟨by decide, by decide, by decide +kernel⟩ ⟨by rw [hF]; decide, by rw [hL]; decide⟩ dX7_lies_96) ?_
  refine bm_cc (s_iret hx hb hr hlk dX7_lies_99) ?_
  refine bm_cc (s_aload_n hx hb dX7_lies_100) ?_
  refine bm_cc (s_getR hx hb hown hts hK (C := RX7) (TT := TX7) (N := 6) (ci := 6) (j := 2) inT7 rfl (by decide) rfl (by decide) rfl tw_60 rfl dX7_lies_101) ?_
  refine bm_cc (s_iload_n hx hb dX7_lies_104) ?_
  refine bm_cc (s_iload_n hx hb dX7_lies_105) ?_
  refine bm_cc (s_callV hx hb hml hown hts hK (C := RX5) (TT := TX5) (N := 12) (ci := 4) rfl (by decide) (k_X5_lineOf l g) tw_397 tw_398 tw_399 tw_56 tw_396 ⟨by decide, by decide, by decide +kernel⟩ ⟨by rw [hF]; decide, by rw [hL]; decide⟩ dX7_lies_106) ?_
  refine bm_cc (s_iret hx hb hr hlk dX7_lies_109) ?_
  refine bm_cc (s_aload_n hx hb dX7_lies_110) ?_
  refine bm_cc (s_getR hx hb hown hts hK (C := RX7) (TT := TX7) (N := 6) (ci := 6) (j := 0) inT7 rfl (by decide) rfl (by decide) rfl tw_46 rfl dX7_lies_111) ?_
  refine bm_cc (s_iload_n hx hb dX7_lies_114) ?_
  refine bm_cc (s_iload_n hx hb dX7_lies_115) ?_
  refine bm_cc (s_iload_n hx hb dX7_lies_116) ?_
  refine bm_cc (s_callV hx hb hml hown hts hK (C := RX3) (TT := TX3) (N := 12) (ci := 3) rfl (by decide) (k_X3_placeOf l g) tw_401 tw_402 tw_403 tw_26 tw_400 ⟨by decide, by decide, by decide +kernel⟩ ⟨by rw [hF]; decide, by rw [hL]; decide⟩ dX7_lies_117) ?_
  refine bm_cc (s_iret hx hb hr hlk dX7_lies_120) ?_
  refine bm_cc (s_aload_n hx hb dX7_lies_121) ?_
  refine bm_cc (s_getR hx hb hown hts hK (C := RX7) (TT := TX7) (N := 6) (ci := 6) (j := 2) inT7 rfl (by decide) rfl (by decide) rfl tw_60 rfl dX7_lies_122) ?_
  refine bm_cc (s_iload_n hx hb dX7_lies_125) ?_
  refine bm_cc (s_iload_n hx hb dX7_lies_126) ?_
  refine bm_cc (s_callV hx hb hml hown hts hK (C := RX5) (TT := TX5) (N := 12) (ci := 4) rfl (by decide) (k_X5_linesOf l g) tw_404 tw_373 tw_374 tw_56 tw_371 ⟨by decide, by decide, by decide +kernel⟩ ⟨by rw [hF]; decide, by rw [hL]; decide⟩ dX7_lies_127) ?_
  refine bm_cc (s_iret hx hb hr hlk dX7_lies_130) ?_
  refine bm_cc (s_iconst hx hb dX7_lies_131 (by decide)) ?_
  refine bm_cc (s_iret hx hb hr hlk dX7_lies_132) ?_
  exact bm_c9

noncomputable def z_X5_nameWithMarkAt : List (Nat × bm_O) := [(0, op_const (0)), (1, op_istore 5), (3, op_iload 5), (5, op_aload 0), (6, op_getR 4 3), (9, op_iload 1), (10, op_call 1 2 bm_c0 f_X4_get), (13, op_icge 59), (16, op_aload 0), (17, op_iload 1), (18, op_iload 5), (20, op_call 1 3 (bm_rc 4) f_X5_pageOf), (23, op_iload 2), (24, op_icne 53), (27, op_aload 0), (28, op_iload 1), (29, op_iload 5), (31, op_call 1 3 (bm_rc 4) f_X5_columnOnPage), (34, op_iload 3), (35, op_icne 53), (38, op_aload 0), (39, op_iload 1), (40, op_iload 5), (42, op_call 1 3 (bm_rc 4) f_X5_lineOf), (45, op_iload 4), (47, op_icne 53), (50, op_iload 5), (52, op_iret), (53, op_iinc 5 1), (56, op_goto 3), (59, op_const (-1)), (60, op_iret)]
noncomputable def f_X5_nameWithMarkAt : bm_F := Classical.choose (bm_hide (bm_mt 6 z_X5_nameWithMarkAt))
theorem u_X5_nameWithMarkAt : f_X5_nameWithMarkAt = bm_mt 6 z_X5_nameWithMarkAt := Classical.choose_spec (bm_hide _)
theorem k_X5_nameWithMarkAt (l : Launch) (g : bm_G) : bm_MetF l g yX5_nameWithMarkAt cX5_nameWithMarkAt 6 (some .int) 2 44 f_X5_nameWithMarkAt := by
  rw [u_X5_nameWithMarkAt]
  refine bm_met (by decide) ?_
  intro p e R s m args below meth c n0 s0 hx hb hml hown hts hK hr hlk hnm hF hL
  refine bm_cc (s_iconst hx hb dX5_nameWithMarkAt_0 (by decide)) ?_
  refine bm_cc (s_istore hx hb dX5_nameWithMarkAt_1) ?_
  refine bm_cc (s_iload hx hb dX5_nameWithMarkAt_3) ?_
  refine bm_cc (s_aload_n hx hb dX5_nameWithMarkAt_5) ?_
  refine bm_cc (s_getR hx hb hown hts hK (C := RX5) (TT := TX5) (N := 12) (ci := 4) (j := 3) inT5 rfl (by decide) rfl (by decide) rfl tw_34 rfl dX5_nameWithMarkAt_6) ?_
  refine bm_cc (s_iload_n hx hb dX5_nameWithMarkAt_9) ?_
  refine bm_cc (s_callS hx hb hml hown hts hK (k_X4_get l g) tw_342 tw_133 tw_18 tw_131 ⟨by decide, by decide, by decide +kernel⟩ ⟨by rw [hF]; decide, by rw [hL]; decide⟩ dX5_nameWithMarkAt_10) ?_
  refine bm_cc (s_icge hx hb dX5_nameWithMarkAt_13 (by decide)) ?_
  refine bm_cc (s_aload_n hx hb dX5_nameWithMarkAt_16) ?_
  refine bm_cc (s_iload_n hx hb dX5_nameWithMarkAt_17) ?_
  refine bm_cc (s_iload hx hb dX5_nameWithMarkAt_18) ?_
  refine bm_cc (s_callV hx hb hml hown hts hK (C := RX5) (TT := TX5) (N := 12) (ci := 4) rfl (by decide) (k_X5_pageOf l g) tw_445 tw_390 tw_391 tw_56 tw_388 ⟨by decide, by decide, by decide +kernel⟩ ⟨by rw [hF]; decide, by rw [hL]; decide⟩ dX5_nameWithMarkAt_20) ?_
  refine bm_cc (s_iload_n hx hb dX5_nameWithMarkAt_23) ?_
  refine bm_cc (s_icne hx hb dX5_nameWithMarkAt_24 (by decide)) ?_
  refine bm_cc (s_aload_n hx hb dX5_nameWithMarkAt_27) ?_
  refine bm_cc (s_iload_n hx hb dX5_nameWithMarkAt_28) ?_
  refine bm_cc (s_iload hx hb dX5_nameWithMarkAt_29) ?_
  refine bm_cc (s_callV hx hb hml hown hts hK (C := RX5) (TT := TX5) (N := 12) (ci := 4) rfl (by decide) (k_X5_columnOnPage l g) tw_446 tw_394 tw_395 tw_56 tw_392 ⟨by decide, by decide, by decide +kernel⟩ ⟨by rw [hF]; decide, by rw [hL]; decide⟩ dX5_nameWithMarkAt_31) ?_
  refine bm_cc (s_iload_n hx hb dX5_nameWithMarkAt_34) ?_
  refine bm_cc (s_icne hx hb dX5_nameWithMarkAt_35 (by decide)) ?_
  refine bm_cc (s_aload_n hx hb dX5_nameWithMarkAt_38) ?_
  refine bm_cc (s_iload_n hx hb dX5_nameWithMarkAt_39) ?_
  refine bm_cc (s_iload hx hb dX5_nameWithMarkAt_40) ?_
  refine bm_cc (s_callV hx hb hml hown hts hK (C := RX5) (TT := TX5) (N := 12) (ci := 4) rfl (by decide) (k_X5_lineOf l g) tw_447 tw_398 tw_399 tw_56 tw_396 ⟨by decide, by decide, by decide +kernel⟩ ⟨by rw [hF]; decide, by rw [hL]; decide⟩ dX5_nameWithMarkAt_42) ?_
  refine bm_cc (s_iload hx hb dX5_nameWithMarkAt_45) ?_
  refine bm_cc (s_icne hx hb dX5_nameWithMarkAt_47 (by decide)) ?_
  refine bm_cc (s_iload hx hb dX5_nameWithMarkAt_50) ?_
  refine bm_cc (s_iret hx hb hr hlk dX5_nameWithMarkAt_52) ?_
  refine bm_cc (s_iinc hx hb dX5_nameWithMarkAt_53 (by decide)) ?_
  refine bm_cc (s_goto hx hb dX5_nameWithMarkAt_56 (by decide)) ?_
  refine bm_cc (s_iconst hx hb dX5_nameWithMarkAt_59 (by decide)) ?_
  refine bm_cc (s_iret hx hb hr hlk dX5_nameWithMarkAt_60) ?_
  exact bm_c9

noncomputable def z_X7_markAt : List (Nat × bm_O) := [(0, op_aload 0), (1, op_getR 6 0), (4, op_iload 1), (5, op_call 1 2 (bm_rc 3) f_X3_hasVersion), (8, op_ifeq 25), (11, op_iload 2), (12, op_iflt 25), (15, op_iload 5), (17, op_const (0)), (18, op_const (1)), (19, op_call 1 3 bm_c0 f_X7_within), (22, op_ifne 27), (25, op_const (-1)), (26, op_iret), (27, op_iload 3), (28, op_const (0)), (29, op_aload 0), (30, op_getR 6 0), (33, op_const (0)), (34, op_call 1 2 (bm_rc 3) f_X3_setting), (37, op_const (1)), (38, op_bin (fun a b => a - b)), (39, op_call 1 3 bm_c0 f_X7_within), (42, op_ifeq 64), (45, op_iload 4), (47, op_const (0)), (48, op_aload 0), (49, op_getR 6 0), (52, op_const (1)), (53, op_call 1 2 (bm_rc 3) f_X3_setting), (56, op_const (1)), (57, op_bin (fun a b => a - b)), (58, op_call 1 3 bm_c0 f_X7_within), (61, op_ifne 66), (64, op_const (-1)), (65, op_iret), (66, op_aload 0), (67, op_getR 6 2), (70, op_aload 0), (71, op_getR 6 0), (74, op_iload 1), (75, op_aload 0), (76, op_getR 6 0), (79, op_const (2)), (80, op_call 1 2 (bm_rc 3) f_X3_setting), (83, op_call 0 4 (bm_rc 4) f_X5_lay), (86, op_const (0)), (87, op_istore 6), (89, op_iload 6), (91, op_aload 0), (92, op_getR 6 0), (95, op_call 1 1 (bm_rc 3) f_X3_contests), (98, op_icge 141), (101, op_aload 0), (102, op_getR 6 2), (105, op_iload 6), (107, op_iload 2), (108, op_iload 3), (109, op_iload 4), (111, op_call 1 5 (bm_rc 4) f_X5_nameWithMarkAt), (114, op_istore 7), (116, op_iload 7), (118, op_const (-1)), (119, op_iceq 135), (122, op_iload 5), (124, op_ifne 132), (127, op_iload 6), (129, op_goto 134), (132, op_iload 7), (134, op_iret), (135, op_iinc 6 1), (138, op_goto 89), (141, op_const (-4)), (143, op_iret)]
noncomputable def f_X7_markAt : bm_F := Classical.choose (bm_hide (bm_mt 8 z_X7_markAt))
theorem u_X7_markAt : f_X7_markAt = bm_mt 8 z_X7_markAt := Classical.choose_spec (bm_hide _)
theorem k_X7_markAt (l : Launch) (g : bm_G) : bm_MetF l g yX7_markAt cX7_markAt 8 (some .int) 5 119 f_X7_markAt := by
  rw [u_X7_markAt]
  refine bm_met (by decide) ?_
  intro p e R s m args below meth c n0 s0 hx hb hml hown hts hK hr hlk hnm hF hL
  refine bm_cc (s_aload_n hx hb dX7_markAt_0) ?_
  refine bm_cc (s_getR hx hb hown hts hK (C := RX7) (TT := TX7) (N := 6) (ci := 6) (j := 0) inT7 rfl (by decide) rfl (by decide) rfl tw_46 rfl dX7_markAt_1) ?_
  refine bm_cc (s_iload_n hx hb dX7_markAt_4) ?_
  refine bm_cc (s_callV hx hb hml hown hts hK (C := RX3) (TT := TX3) (N := 12) (ci := 3) rfl (by decide) (k_X3_hasVersion l g) tw_184 tw_185 tw_186 tw_26 tw_183 ⟨by decide, by decide, by decide +kernel⟩ ⟨by rw [hF]; decide, by rw [hL]; decide⟩ dX7_markAt_5) ?_
  refine bm_cc (s_ifeq hx hb dX7_markAt_8 (by decide)) ?_
  refine bm_cc (s_iload_n hx hb dX7_markAt_11) ?_
  refine bm_cc (s_iflt hx hb dX7_markAt_12 (by decide)) ?_
  refine bm_cc (s_iload hx hb dX7_markAt_15) ?_
  refine bm_cc (s_iconst hx hb dX7_markAt_17 (by decide)) ?_
  refine bm_cc (s_iconst hx hb dX7_markAt_18 (by decide)) ?_
  refine bm_cc (s_callS hx hb hml hown hts hK (k_X7_within l g) tw_108 tw_109 tw_106 tw_107 ⟨by decide, by decide, by decide +kernel⟩ ⟨by rw [hF]; decide, by rw [hL]; decide⟩ dX7_markAt_19) ?_
  refine bm_cc (s_ifne hx hb dX7_markAt_22 (by decide)) ?_
  refine bm_cc (s_iconst hx hb dX7_markAt_25 (by decide)) ?_
  refine bm_cc (s_iret hx hb hr hlk dX7_markAt_26) ?_
  refine bm_cc (s_iload_n hx hb dX7_markAt_27) ?_
  refine bm_cc (s_iconst hx hb dX7_markAt_28 (by decide)) ?_
  refine bm_cc (s_aload_n hx hb dX7_markAt_29) ?_
  refine bm_cc (s_getR hx hb hown hts hK (C := RX7) (TT := TX7) (N := 6) (ci := 6) (j := 0) inT7 rfl (by decide) rfl (by decide) rfl tw_46 rfl dX7_markAt_30) ?_
  refine bm_cc (s_iconst hx hb dX7_markAt_33 (by decide)) ?_
  refine bm_cc (s_callV hx hb hml hown hts hK (C := RX3) (TT := TX3) (N := 12) (ci := 3) rfl (by decide) (k_X3_setting l g) tw_304 tw_177 tw_178 tw_26 tw_175 ⟨by decide, by decide, by decide +kernel⟩ ⟨by rw [hF]; decide, by rw [hL]; decide⟩ dX7_markAt_34) ?_
  refine bm_cc (s_iconst hx hb dX7_markAt_37 (by decide)) ?_
  refine bm_cc (s_isub hx hb dX7_markAt_38) ?_
  refine bm_cc (s_callS hx hb hml hown hts hK (k_X7_within l g) tw_108 tw_109 tw_106 tw_107 ⟨by decide, by decide, by decide +kernel⟩ ⟨by rw [hF]; decide, by rw [hL]; decide⟩ dX7_markAt_39) ?_
  refine bm_cc (s_ifeq hx hb dX7_markAt_42 (by decide)) ?_
  refine bm_cc (s_iload hx hb dX7_markAt_45) ?_
  refine bm_cc (s_iconst hx hb dX7_markAt_47 (by decide)) ?_
  refine bm_cc (s_aload_n hx hb dX7_markAt_48) ?_
  refine bm_cc (s_getR hx hb hown hts hK (C := RX7) (TT := TX7) (N := 6) (ci := 6) (j := 0) inT7 rfl (by decide) rfl (by decide) rfl tw_46 rfl dX7_markAt_49) ?_
  refine bm_cc (s_iconst hx hb dX7_markAt_52 (by decide)) ?_
  refine bm_cc (s_callV hx hb hml hown hts hK (C := RX3) (TT := TX3) (N := 12) (ci := 3) rfl (by decide) (k_X3_setting l g) tw_304 tw_177 tw_178 tw_26 tw_175 ⟨by decide, by decide, by decide +kernel⟩ ⟨by rw [hF]; decide, by rw [hL]; decide⟩ dX7_markAt_53) ?_
  refine bm_cc (s_iconst hx hb dX7_markAt_56 (by decide)) ?_
  refine bm_cc (s_isub hx hb dX7_markAt_57) ?_
  refine bm_cc (s_callS hx hb hml hown hts hK (k_X7_within l g) tw_108 tw_109 tw_106 tw_107 ⟨by decide, by decide, by decide +kernel⟩ ⟨by rw [hF]; decide, by rw [hL]; decide⟩ dX7_markAt_58) ?_
  refine bm_cc (s_ifne hx hb dX7_markAt_61 (by decide)) ?_
  refine bm_cc (s_iconst hx hb dX7_markAt_64 (by decide)) ?_
  refine bm_cc (s_iret hx hb hr hlk dX7_markAt_65) ?_
  refine bm_cc (s_aload_n hx hb dX7_markAt_66) ?_
  refine bm_cc (s_getR hx hb hown hts hK (C := RX7) (TT := TX7) (N := 6) (ci := 6) (j := 2) inT7 rfl (by decide) rfl (by decide) rfl tw_60 rfl dX7_markAt_67) ?_
  refine bm_cc (s_aload_n hx hb dX7_markAt_70) ?_
  refine bm_cc (s_getR hx hb hown hts hK (C := RX7) (TT := TX7) (N := 6) (ci := 6) (j := 0) inT7 rfl (by decide) rfl (by decide) rfl tw_46 rfl dX7_markAt_71) ?_
  refine bm_cc (s_iload_n hx hb dX7_markAt_74) ?_
  refine bm_cc (s_aload_n hx hb dX7_markAt_75) ?_
  refine bm_cc (s_getR hx hb hown hts hK (C := RX7) (TT := TX7) (N := 6) (ci := 6) (j := 0) inT7 rfl (by decide) rfl (by decide) rfl tw_46 rfl dX7_markAt_76) ?_
  refine bm_cc (s_iconst hx hb dX7_markAt_79 (by decide)) ?_
  refine bm_cc (s_callV hx hb hml hown hts hK (C := RX3) (TT := TX3) (N := 12) (ci := 3) rfl (by decide) (k_X3_setting l g) tw_304 tw_177 tw_178 tw_26 tw_175 ⟨by decide, by decide, by decide +kernel⟩ ⟨by rw [hF]; decide, by rw [hL]; decide⟩ dX7_markAt_80) ?_
  refine bm_cc (s_callV hx hb hml hown hts hK (C := RX5) (TT := TX5) (N := 12) (ci := 4) rfl (by decide) (k_X5_lay l g) tw_385 tw_386 tw_387 tw_56 tw_384 ⟨by decide, by decide, by decide +kernel⟩ ⟨by rw [hF]; decide, by rw [hL]; decide⟩ dX7_markAt_83) ?_
  refine bm_cc (s_iconst hx hb dX7_markAt_86 (by decide)) ?_
  refine bm_cc (s_istore hx hb dX7_markAt_87) ?_
  refine bm_cc (s_iload hx hb dX7_markAt_89) ?_
  refine bm_cc (s_aload_n hx hb dX7_markAt_91) ?_
  refine bm_cc (s_getR hx hb hown hts hK (C := RX7) (TT := TX7) (N := 6) (ci := 6) (j := 0) inT7 rfl (by decide) rfl (by decide) rfl tw_46 rfl dX7_markAt_92) ?_
  refine bm_cc (s_callV hx hb hml hown hts hK (C := RX3) (TT := TX3) (N := 12) (ci := 3) rfl (by decide) (k_X3_contests l g) tw_111 tw_112 tw_113 tw_26 tw_110 ⟨by decide, by decide, by decide +kernel⟩ ⟨by rw [hF]; decide, by rw [hL]; decide⟩ dX7_markAt_95) ?_
  refine bm_cc (s_icge hx hb dX7_markAt_98 (by decide)) ?_
  refine bm_cc (s_aload_n hx hb dX7_markAt_101) ?_
  refine bm_cc (s_getR hx hb hown hts hK (C := RX7) (TT := TX7) (N := 6) (ci := 6) (j := 2) inT7 rfl (by decide) rfl (by decide) rfl tw_60 rfl dX7_markAt_102) ?_
  refine bm_cc (s_iload hx hb dX7_markAt_105) ?_
  refine bm_cc (s_iload_n hx hb dX7_markAt_107) ?_
  refine bm_cc (s_iload_n hx hb dX7_markAt_108) ?_
  refine bm_cc (s_iload hx hb dX7_markAt_109) ?_
  refine bm_cc (s_callV hx hb hml hown hts hK (C := RX5) (TT := TX5) (N := 12) (ci := 4) rfl (by decide) (k_X5_nameWithMarkAt l g) tw_449 tw_450 tw_451 tw_56 tw_448 ⟨by decide, by decide, by decide +kernel⟩ ⟨by rw [hF]; decide, by rw [hL]; decide⟩ dX7_markAt_111) ?_
  refine bm_cc (s_istore hx hb dX7_markAt_114) ?_
  refine bm_cc (s_iload hx hb dX7_markAt_116) ?_
  refine bm_cc (s_iconst hx hb dX7_markAt_118 (by decide)) ?_
  refine bm_cc (s_iceq hx hb dX7_markAt_119 (by decide)) ?_
  refine bm_cc (s_iload hx hb dX7_markAt_122) ?_
  refine bm_cc (s_ifne hx hb dX7_markAt_124 (by decide)) ?_
  refine bm_cc (s_iload hx hb dX7_markAt_127) ?_
  refine bm_cc (s_goto hx hb dX7_markAt_129 (by decide)) ?_
  refine bm_cc (s_iload hx hb dX7_markAt_132) ?_
  refine bm_cc (s_iret hx hb hr hlk dX7_markAt_134) ?_
  refine bm_cc (s_iinc hx hb dX7_markAt_135 (by decide)) ?_
  refine bm_cc (s_goto hx hb dX7_markAt_138 (by decide)) ?_
  refine bm_cc (s_bipush hx hb dX7_markAt_141 (by decide)) ?_
  refine bm_cc (s_iret hx hb hr hlk dX7_markAt_143) ?_
  exact bm_c9

noncomputable def z_X5_pages : List (Nat × bm_O) := [(0, op_aload 0), (1, op_getI 4 7), (4, op_aload 0), (5, op_getI 4 4), (8, op_call 1 2 bm_c0 f_X7_roundedUp), (11, op_iret)]
noncomputable def f_X5_pages : bm_F := Classical.choose (bm_hide (bm_mt 1 z_X5_pages))
theorem u_X5_pages : f_X5_pages = bm_mt 1 z_X5_pages := Classical.choose_spec (bm_hide _)
theorem k_X5_pages (l : Launch) (g : bm_G) : bm_MetF l g yX5_pages cX5_pages 1 (some .int) 1 21 f_X5_pages := by
  rw [u_X5_pages]
  refine bm_met (by decide) ?_
  intro p e R s m args below meth c n0 s0 hx hb hml hown hts hK hr hlk hnm hF hL
  refine bm_cc (s_aload_n hx hb dX5_pages_0) ?_
  refine bm_cc (s_getI hx hb hown hts hK (C := RX5) (TT := TX5) (N := 12) (ci := 4) (j := 7) inT5 rfl (by decide) rfl (by decide) rfl tw_346 rfl dX5_pages_1) ?_
  refine bm_cc (s_aload_n hx hb dX5_pages_4) ?_
  refine bm_cc (s_getI hx hb hown hts hK (C := RX5) (TT := TX5) (N := 12) (ci := 4) (j := 4) inT5 rfl (by decide) rfl (by decide) rfl tw_364 rfl dX5_pages_5) ?_
  refine bm_cc (s_callSN hx hb hml hown hts hK (k_X7_roundedUp l g) (hK.2.2.2.2.1 _ (List.mem_of_getElem? (i := 1) rfl)) tw_339 tw_106 tw_338 ⟨by decide, by decide, by decide +kernel⟩ ⟨by rw [hF]; decide, by rw [hL]; decide⟩ dX5_pages_8) ?_
  refine bm_cc (s_iret hx hb hr hlk dX5_pages_11) ?_
  exact bm_c9

noncomputable def z_X5_columns : List (Nat × bm_O) := [(0, op_aload 0), (1, op_getI 4 7), (4, op_iret)]
noncomputable def f_X5_columns : bm_F := Classical.choose (bm_hide (bm_mt 1 z_X5_columns))
theorem u_X5_columns : f_X5_columns = bm_mt 1 z_X5_columns := Classical.choose_spec (bm_hide _)
theorem k_X5_columns (l : Launch) (g : bm_G) : bm_MetF l g yX5_columns cX5_columns 1 (some .int) 0 0 f_X5_columns := by
  rw [u_X5_columns]
  refine bm_met (by decide) ?_
  intro p e R s m args below meth c n0 s0 hx hb hml hown hts hK hr hlk hnm hF hL
  refine bm_cc (s_aload_n hx hb dX5_columns_0) ?_
  refine bm_cc (s_getI hx hb hown hts hK (C := RX5) (TT := TX5) (N := 12) (ci := 4) (j := 7) inT5 rfl (by decide) rfl (by decide) rfl tw_346 rfl dX5_columns_1) ?_
  refine bm_cc (s_iret hx hb hr hlk dX5_columns_4) ?_
  exact bm_c9

noncomputable def z_X5_taken : List (Nat × bm_O) := [(0, op_aload 0), (1, op_getI 4 9), (4, op_iret)]
noncomputable def f_X5_taken : bm_F := Classical.choose (bm_hide (bm_mt 1 z_X5_taken))
theorem u_X5_taken : f_X5_taken = bm_mt 1 z_X5_taken := Classical.choose_spec (bm_hide _)
theorem k_X5_taken (l : Launch) (g : bm_G) : bm_MetF l g yX5_taken cX5_taken 1 (some .int) 0 0 f_X5_taken := by
  rw [u_X5_taken]
  refine bm_met (by decide) ?_
  intro p e R s m args below meth c n0 s0 hx hb hml hown hts hK hr hlk hnm hF hL
  refine bm_cc (s_aload_n hx hb dX5_taken_0) ?_
  refine bm_cc (s_getI hx hb hown hts hK (C := RX5) (TT := TX5) (N := 12) (ci := 4) (j := 9) inT5 rfl (by decide) rfl (by decide) rfl tw_355 rfl dX5_taken_1) ?_
  refine bm_cc (s_iret hx hb hr hlk dX5_taken_4) ?_
  exact bm_c9

noncomputable def z_X5_later : List (Nat × bm_O) := [(0, op_aload 0), (1, op_getI 4 10), (4, op_iret)]
noncomputable def f_X5_later : bm_F := Classical.choose (bm_hide (bm_mt 1 z_X5_later))
theorem u_X5_later : f_X5_later = bm_mt 1 z_X5_later := Classical.choose_spec (bm_hide _)
theorem k_X5_later (l : Launch) (g : bm_G) : bm_MetF l g yX5_later cX5_later 1 (some .int) 0 0 f_X5_later := by
  rw [u_X5_later]
  refine bm_met (by decide) ?_
  intro p e R s m args below meth c n0 s0 hx hb hml hown hts hK hr hlk hnm hF hL
  refine bm_cc (s_aload_n hx hb dX5_later_0) ?_
  refine bm_cc (s_getI hx hb hown hts hK (C := RX5) (TT := TX5) (N := 12) (ci := 4) (j := 10) inT5 rfl (by decide) rfl (by decide) rfl tw_357 rfl dX5_later_1) ?_
  refine bm_cc (s_iret hx hb hr hlk dX5_later_4) ?_
  exact bm_c9

noncomputable def z_X5_begunByNames : List (Nat × bm_O) := [(0, op_aload 0), (1, op_getI 4 11), (4, op_iret)]
noncomputable def f_X5_begunByNames : bm_F := Classical.choose (bm_hide (bm_mt 1 z_X5_begunByNames))
theorem u_X5_begunByNames : f_X5_begunByNames = bm_mt 1 z_X5_begunByNames := Classical.choose_spec (bm_hide _)
theorem k_X5_begunByNames (l : Launch) (g : bm_G) : bm_MetF l g yX5_begunByNames cX5_begunByNames 1 (some .int) 0 0 f_X5_begunByNames := by
  rw [u_X5_begunByNames]
  refine bm_met (by decide) ?_
  intro p e R s m args below meth c n0 s0 hx hb hml hown hts hK hr hlk hnm hF hL
  refine bm_cc (s_aload_n hx hb dX5_begunByNames_0) ?_
  refine bm_cc (s_getI hx hb hown hts hK (C := RX5) (TT := TX5) (N := 12) (ci := 4) (j := 11) inT5 rfl (by decide) rfl (by decide) rfl tw_356 rfl dX5_begunByNames_1) ?_
  refine bm_cc (s_iret hx hb hr hlk dX5_begunByNames_4) ?_
  exact bm_c9

noncomputable def z_X7_paper : List (Nat × bm_O) := [(0, op_aload 0), (1, op_getR 6 0), (4, op_iload 1), (5, op_call 1 2 (bm_rc 3) f_X3_hasVersion), (8, op_ifne 13), (11, op_const (-1)), (12, op_iret), (13, op_aload 0), (14, op_getR 6 2), (17, op_aload 0), (18, op_getR 6 0), (21, op_iload 1), (22, op_aload 0), (23, op_getR 6 0), (26, op_const (2)), (27, op_call 1 2 (bm_rc 3) f_X3_setting), (30, op_call 0 4 (bm_rc 4) f_X5_lay), (33, op_iload 2), (34, op_tsw [68, 76, 84, 92, 100] 108), (68, op_aload 0), (69, op_getR 6 2), (72, op_call 1 1 (bm_rc 4) f_X5_pages), (75, op_iret), (76, op_aload 0), (77, op_getR 6 2), (80, op_call 1 1 (bm_rc 4) f_X5_columns), (83, op_iret), (84, op_aload 0), (85, op_getR 6 2), (88, op_call 1 1 (bm_rc 4) f_X5_taken), (91, op_iret), (92, op_aload 0), (93, op_getR 6 2), (96, op_call 1 1 (bm_rc 4) f_X5_later), (99, op_iret), (100, op_aload 0), (101, op_getR 6 2), (104, op_call 1 1 (bm_rc 4) f_X5_begunByNames), (107, op_iret), (108, op_const (-1)), (109, op_iret)]
noncomputable def f_X7_paper : bm_F := Classical.choose (bm_hide (bm_mt 3 z_X7_paper))
theorem u_X7_paper : f_X7_paper = bm_mt 3 z_X7_paper := Classical.choose_spec (bm_hide _)
theorem k_X7_paper (l : Launch) (g : bm_G) : bm_MetF l g yX7_paper cX7_paper 3 (some .int) 5 119 f_X7_paper := by
  rw [u_X7_paper]
  refine bm_met (by decide) ?_
  intro p e R s m args below meth c n0 s0 hx hb hml hown hts hK hr hlk hnm hF hL
  refine bm_cc (s_aload_n hx hb dX7_paper_0) ?_
  refine bm_cc (s_getR hx hb hown hts hK (C := RX7) (TT := TX7) (N := 6) (ci := 6) (j := 0) inT7 rfl (by decide) rfl (by decide) rfl tw_46 rfl dX7_paper_1) ?_
  refine bm_cc (s_iload_n hx hb dX7_paper_4) ?_
  refine bm_cc (s_callV hx hb hml hown hts hK (C := RX3) (TT := TX3) (N := 12) (ci := 3) rfl (by decide) (k_X3_hasVersion l g) tw_184 tw_185 tw_186 tw_26 tw_183 ⟨by decide, by decide, by decide +kernel⟩ ⟨by rw [hF]; decide, by rw [hL]; decide⟩ dX7_paper_5) ?_
  refine bm_cc (s_ifne hx hb dX7_paper_8 (by decide)) ?_
  refine bm_cc (s_iconst hx hb dX7_paper_11 (by decide)) ?_
  refine bm_cc (s_iret hx hb hr hlk dX7_paper_12) ?_
  refine bm_cc (s_aload_n hx hb dX7_paper_13) ?_
  refine bm_cc (s_getR hx hb hown hts hK (C := RX7) (TT := TX7) (N := 6) (ci := 6) (j := 2) inT7 rfl (by decide) rfl (by decide) rfl tw_60 rfl dX7_paper_14) ?_
  refine bm_cc (s_aload_n hx hb dX7_paper_17) ?_
  refine bm_cc (s_getR hx hb hown hts hK (C := RX7) (TT := TX7) (N := 6) (ci := 6) (j := 0) inT7 rfl (by decide) rfl (by decide) rfl tw_46 rfl dX7_paper_18) ?_
  refine bm_cc (s_iload_n hx hb dX7_paper_21) ?_
  refine bm_cc (s_aload_n hx hb dX7_paper_22) ?_
  refine bm_cc (s_getR hx hb hown hts hK (C := RX7) (TT := TX7) (N := 6) (ci := 6) (j := 0) inT7 rfl (by decide) rfl (by decide) rfl tw_46 rfl dX7_paper_23) ?_
  refine bm_cc (s_iconst hx hb dX7_paper_26 (by decide)) ?_
  refine bm_cc (s_callV hx hb hml hown hts hK (C := RX3) (TT := TX3) (N := 12) (ci := 3) rfl (by decide) (k_X3_setting l g) tw_304 tw_177 tw_178 tw_26 tw_175 ⟨by decide, by decide, by decide +kernel⟩ ⟨by rw [hF]; decide, by rw [hL]; decide⟩ dX7_paper_27) ?_
  refine bm_cc (s_callV hx hb hml hown hts hK (C := RX5) (TT := TX5) (N := 12) (ci := 4) rfl (by decide) (k_X5_lay l g) tw_385 tw_386 tw_387 tw_56 tw_384 ⟨by decide, by decide, by decide +kernel⟩ ⟨by rw [hF]; decide, by rw [hL]; decide⟩ dX7_paper_30) ?_
  refine bm_cc (s_iload_n hx hb dX7_paper_33) ?_
  refine bm_cc (s_tsw hx hb dX7_paper_34 (by decide) (by decide) (by decide) (by decide)) ?_
  refine bm_cc (s_aload_n hx hb dX7_paper_68) ?_
  refine bm_cc (s_getR hx hb hown hts hK (C := RX7) (TT := TX7) (N := 6) (ci := 6) (j := 2) inT7 rfl (by decide) rfl (by decide) rfl tw_60 rfl dX7_paper_69) ?_
  refine bm_cc (s_callV hx hb hml hown hts hK (C := RX5) (TT := TX5) (N := 12) (ci := 4) rfl (by decide) (k_X5_pages l g) tw_453 tw_454 tw_455 tw_56 tw_452 ⟨by decide, by decide, by decide +kernel⟩ ⟨by rw [hF]; decide, by rw [hL]; decide⟩ dX7_paper_72) ?_
  refine bm_cc (s_iret hx hb hr hlk dX7_paper_75) ?_
  refine bm_cc (s_aload_n hx hb dX7_paper_76) ?_
  refine bm_cc (s_getR hx hb hown hts hK (C := RX7) (TT := TX7) (N := 6) (ci := 6) (j := 2) inT7 rfl (by decide) rfl (by decide) rfl tw_60 rfl dX7_paper_77) ?_
  refine bm_cc (s_callV hx hb hml hown hts hK (C := RX5) (TT := TX5) (N := 12) (ci := 4) rfl (by decide) (k_X5_columns l g) tw_457 tw_458 tw_459 tw_56 tw_456 ⟨by decide, by decide, by decide +kernel⟩ ⟨by rw [hF]; decide, by rw [hL]; decide⟩ dX7_paper_80) ?_
  refine bm_cc (s_iret hx hb hr hlk dX7_paper_83) ?_
  refine bm_cc (s_aload_n hx hb dX7_paper_84) ?_
  refine bm_cc (s_getR hx hb hown hts hK (C := RX7) (TT := TX7) (N := 6) (ci := 6) (j := 2) inT7 rfl (by decide) rfl (by decide) rfl tw_60 rfl dX7_paper_85) ?_
  refine bm_cc (s_callV hx hb hml hown hts hK (C := RX5) (TT := TX5) (N := 12) (ci := 4) rfl (by decide) (k_X5_taken l g) tw_461 tw_462 tw_463 tw_56 tw_460 ⟨by decide, by decide, by decide +kernel⟩ ⟨by rw [hF]; decide, by rw [hL]; decide⟩ dX7_paper_88) ?_
  refine bm_cc (s_iret hx hb hr hlk dX7_paper_91) ?_
  refine bm_cc (s_aload_n hx hb dX7_paper_92) ?_
  refine bm_cc (s_getR hx hb hown hts hK (C := RX7) (TT := TX7) (N := 6) (ci := 6) (j := 2) inT7 rfl (by decide) rfl (by decide) rfl tw_60 rfl dX7_paper_93) ?_
  refine bm_cc (s_callV hx hb hml hown hts hK (C := RX5) (TT := TX5) (N := 12) (ci := 4) rfl (by decide) (k_X5_later l g) tw_465 tw_466 tw_467 tw_56 tw_464 ⟨by decide, by decide, by decide +kernel⟩ ⟨by rw [hF]; decide, by rw [hL]; decide⟩ dX7_paper_96) ?_
  refine bm_cc (s_iret hx hb hr hlk dX7_paper_99) ?_
  refine bm_cc (s_aload_n hx hb dX7_paper_100) ?_
  refine bm_cc (s_getR hx hb hown hts hK (C := RX7) (TT := TX7) (N := 6) (ci := 6) (j := 2) inT7 rfl (by decide) rfl (by decide) rfl tw_60 rfl dX7_paper_101) ?_
  refine bm_cc (s_callV hx hb hml hown hts hK (C := RX5) (TT := TX5) (N := 12) (ci := 4) rfl (by decide) (k_X5_begunByNames l g) tw_469 tw_470 tw_471 tw_56 tw_468 ⟨by decide, by decide, by decide +kernel⟩ ⟨by rw [hF]; decide, by rw [hL]; decide⟩ dX7_paper_104) ?_
  refine bm_cc (s_iret hx hb hr hlk dX7_paper_107) ?_
  refine bm_cc (s_iconst hx hb dX7_paper_108 (by decide)) ?_
  refine bm_cc (s_iret hx hb hr hlk dX7_paper_109) ?_
  exact bm_c9

noncomputable def z_X1_difference : List (Nat × bm_O) := [(0, op_aload 0), (1, op_const (0)), (2, op_call 1 2 (bm_rc 1) f_X1_timesOf), (5, op_istore 2), (6, op_iload 2), (7, op_istore 3), (8, op_const (1)), (9, op_istore 4), (11, op_iload 4), (13, op_iload 1), (14, op_icge 45), (17, op_iload 2), (18, op_aload 0), (19, op_iload 4), (21, op_call 1 2 (bm_rc 1) f_X1_timesOf), (24, op_mm (fun a b => if a < b then b else a)), (27, op_istore 2), (28, op_iload 3), (29, op_aload 0), (30, op_iload 4), (32, op_call 1 2 (bm_rc 1) f_X1_timesOf), (35, op_mm (fun a b => if b < a then b else a)), (38, op_istore 3), (39, op_iinc 4 1), (42, op_goto 11), (45, op_iload 2), (46, op_iload 3), (47, op_bin (fun a b => a - b)), (48, op_iret)]
noncomputable def f_X1_difference : bm_F := Classical.choose (bm_hide (bm_mt 5 z_X1_difference))
theorem u_X1_difference : f_X1_difference = bm_mt 5 z_X1_difference := Classical.choose_spec (bm_hide _)
theorem k_X1_difference (l : Launch) (g : bm_G) : bm_MetF l g yX1_difference cX1_difference 5 (some .int) 2 42 f_X1_difference := by
  rw [u_X1_difference]
  refine bm_met (by decide) ?_
  intro p e R s m args below meth c n0 s0 hx hb hml hown hts hK hr hlk hnm hF hL
  refine bm_cc (s_aload_n hx hb dX1_difference_0) ?_
  refine bm_cc (s_iconst hx hb dX1_difference_1 (by decide)) ?_
  refine bm_cc (s_callV hx hb hml hown hts hK (C := RX1) (TT := TX1) (N := 1) (ci := 1) rfl (by decide) (k_X1_timesOf l g) tw_472 tw_277 tw_278 tw_63 tw_275 ⟨by decide, by decide, by decide +kernel⟩ ⟨by rw [hF]; decide, by rw [hL]; decide⟩ dX1_difference_2) ?_
  refine bm_cc (s_istore_n hx hb dX1_difference_5) ?_
  refine bm_cc (s_iload_n hx hb dX1_difference_6) ?_
  refine bm_cc (s_istore_n hx hb dX1_difference_7) ?_
  refine bm_cc (s_iconst hx hb dX1_difference_8 (by decide)) ?_
  refine bm_cc (s_istore hx hb dX1_difference_9) ?_
  refine bm_cc (s_iload hx hb dX1_difference_11) ?_
  refine bm_cc (s_iload_n hx hb dX1_difference_13) ?_
  refine bm_cc (s_icge hx hb dX1_difference_14 (by decide)) ?_
  refine bm_cc (s_iload_n hx hb dX1_difference_17) ?_
  refine bm_cc (s_aload_n hx hb dX1_difference_18) ?_
  refine bm_cc (s_iload hx hb dX1_difference_19) ?_
  refine bm_cc (s_callV hx hb hml hown hts hK (C := RX1) (TT := TX1) (N := 1) (ci := 1) rfl (by decide) (k_X1_timesOf l g) tw_472 tw_277 tw_278 tw_63 tw_275 ⟨by decide, by decide, by decide +kernel⟩ ⟨by rw [hF]; decide, by rw [hL]; decide⟩ dX1_difference_21) ?_
  refine bm_cc (s_mmax hx hb hml hown hts tw_473 tw_474 tw_475 tw_476 (by rw [hF]; decide) (by rw [hL]; decide) dX1_difference_24) ?_
  refine bm_cc (s_istore_n hx hb dX1_difference_27) ?_
  refine bm_cc (s_iload_n hx hb dX1_difference_28) ?_
  refine bm_cc (s_aload_n hx hb dX1_difference_29) ?_
  refine bm_cc (s_iload hx hb dX1_difference_30) ?_
  refine bm_cc (s_callV hx hb hml hown hts hK (C := RX1) (TT := TX1) (N := 1) (ci := 1) rfl (by decide) (k_X1_timesOf l g) tw_472 tw_277 tw_278 tw_63 tw_275 ⟨by decide, by decide, by decide +kernel⟩ ⟨by rw [hF]; decide, by rw [hL]; decide⟩ dX1_difference_32) ?_
  refine bm_cc (s_mmin hx hb hml hown hts tw_477 tw_478 tw_475 tw_479 (by rw [hF]; decide) (by rw [hL]; decide) dX1_difference_35) ?_
  refine bm_cc (s_istore_n hx hb dX1_difference_38) ?_
  refine bm_cc (s_iinc hx hb dX1_difference_39 (by decide)) ?_
  refine bm_cc (s_goto hx hb dX1_difference_42 (by decide)) ?_
  refine bm_cc (s_iload_n hx hb dX1_difference_45) ?_
  refine bm_cc (s_iload_n hx hb dX1_difference_46) ?_
  refine bm_cc (s_isub hx hb dX1_difference_47) ?_
  refine bm_cc (s_iret hx hb hr hlk dX1_difference_48) ?_
  exact bm_c9

noncomputable def z_X7_spread : List (Nat × bm_O) := [(0, op_aload 0), (1, op_getR 6 0), (4, op_iload 1), (5, op_call 1 2 (bm_rc 3) f_X3_hasContest), (8, op_ifne 13), (11, op_const (-1)), (12, op_iret), (13, op_aload 0), (14, op_getR 6 0), (17, op_iload 1), (18, op_call 1 2 (bm_rc 3) f_X3_namesIn), (21, op_ifne 27), (24, op_const (-4)), (26, op_iret), (27, op_aload 0), (28, op_getR 6 3), (31, op_aload 0), (32, op_getR 6 0), (35, op_iload 1), (36, op_call 0 3 (bm_rc 1) f_X1_onPapers), (39, op_aload 0), (40, op_getR 6 3), (43, op_aload 0), (44, op_getR 6 0), (47, op_iload 1), (48, op_call 1 2 (bm_rc 3) f_X3_namesIn), (51, op_call 1 2 (bm_rc 1) f_X1_difference), (54, op_iret)]
noncomputable def f_X7_spread : bm_F := Classical.choose (bm_hide (bm_mt 2 z_X7_spread))
theorem u_X7_spread : f_X7_spread = bm_mt 2 z_X7_spread := Classical.choose_spec (bm_hide _)
theorem k_X7_spread (l : Launch) (g : bm_G) : bm_MetF l g yX7_spread cX7_spread 2 (some .int) 4 91 f_X7_spread := by
  rw [u_X7_spread]
  refine bm_met (by decide) ?_
  intro p e R s m args below meth c n0 s0 hx hb hml hown hts hK hr hlk hnm hF hL
  refine bm_cc (s_aload_n hx hb dX7_spread_0) ?_
  refine bm_cc (s_getR hx hb hown hts hK (C := RX7) (TT := TX7) (N := 6) (ci := 6) (j := 0) inT7 rfl (by decide) rfl (by decide) rfl tw_46 rfl dX7_spread_1) ?_
  refine bm_cc (s_iload_n hx hb dX7_spread_4) ?_
  refine bm_cc (s_callV hx hb hml hown hts hK (C := RX3) (TT := TX3) (N := 12) (ci := 3) rfl (by decide) (k_X3_hasContest l g) tw_147 tw_148 tw_149 tw_26 tw_146 ⟨by decide, by decide, by decide +kernel⟩ ⟨by rw [hF]; decide, by rw [hL]; decide⟩ dX7_spread_5) ?_
  refine bm_cc (s_ifne hx hb dX7_spread_8 (by decide)) ?_
  refine bm_cc (s_iconst hx hb dX7_spread_11 (by decide)) ?_
  refine bm_cc (s_iret hx hb hr hlk dX7_spread_12) ?_
  refine bm_cc (s_aload_n hx hb dX7_spread_13) ?_
  refine bm_cc (s_getR hx hb hown hts hK (C := RX7) (TT := TX7) (N := 6) (ci := 6) (j := 0) inT7 rfl (by decide) rfl (by decide) rfl tw_46 rfl dX7_spread_14) ?_
  refine bm_cc (s_iload_n hx hb dX7_spread_17) ?_
  refine bm_cc (s_callV hx hb hml hown hts hK (C := RX3) (TT := TX3) (N := 12) (ci := 3) rfl (by decide) (k_X3_namesIn l g) tw_154 tw_138 tw_139 tw_26 tw_136 ⟨by decide, by decide, by decide +kernel⟩ ⟨by rw [hF]; decide, by rw [hL]; decide⟩ dX7_spread_18) ?_
  refine bm_cc (s_ifne hx hb dX7_spread_21 (by decide)) ?_
  refine bm_cc (s_bipush hx hb dX7_spread_24 (by decide)) ?_
  refine bm_cc (s_iret hx hb hr hlk dX7_spread_26) ?_
  refine bm_cc (s_aload_n hx hb dX7_spread_27) ?_
  refine bm_cc (s_getR hx hb hown hts hK (C := RX7) (TT := TX7) (N := 6) (ci := 6) (j := 3) inT7 rfl (by decide) rfl (by decide) rfl tw_67 rfl dX7_spread_28) ?_
  refine bm_cc (s_aload_n hx hb dX7_spread_31) ?_
  refine bm_cc (s_getR hx hb hown hts hK (C := RX7) (TT := TX7) (N := 6) (ci := 6) (j := 0) inT7 rfl (by decide) rfl (by decide) rfl tw_46 rfl dX7_spread_32) ?_
  refine bm_cc (s_iload_n hx hb dX7_spread_35) ?_
  refine bm_cc (s_callV hx hb hml hown hts hK (C := RX1) (TT := TX1) (N := 1) (ci := 1) rfl (by decide) (k_X1_onPapers l g) tw_272 tw_273 tw_274 tw_63 tw_271 ⟨by decide, by decide, by decide +kernel⟩ ⟨by rw [hF]; decide, by rw [hL]; decide⟩ dX7_spread_36) ?_
  refine bm_cc (s_aload_n hx hb dX7_spread_39) ?_
  refine bm_cc (s_getR hx hb hown hts hK (C := RX7) (TT := TX7) (N := 6) (ci := 6) (j := 3) inT7 rfl (by decide) rfl (by decide) rfl tw_67 rfl dX7_spread_40) ?_
  refine bm_cc (s_aload_n hx hb dX7_spread_43) ?_
  refine bm_cc (s_getR hx hb hown hts hK (C := RX7) (TT := TX7) (N := 6) (ci := 6) (j := 0) inT7 rfl (by decide) rfl (by decide) rfl tw_46 rfl dX7_spread_44) ?_
  refine bm_cc (s_iload_n hx hb dX7_spread_47) ?_
  refine bm_cc (s_callV hx hb hml hown hts hK (C := RX3) (TT := TX3) (N := 12) (ci := 3) rfl (by decide) (k_X3_namesIn l g) tw_154 tw_138 tw_139 tw_26 tw_136 ⟨by decide, by decide, by decide +kernel⟩ ⟨by rw [hF]; decide, by rw [hL]; decide⟩ dX7_spread_48) ?_
  refine bm_cc (s_callV hx hb hml hown hts hK (C := RX1) (TT := TX1) (N := 1) (ci := 1) rfl (by decide) (k_X1_difference l g) tw_481 tw_482 tw_483 tw_63 tw_480 ⟨by decide, by decide, by decide +kernel⟩ ⟨by rw [hF]; decide, by rw [hL]; decide⟩ dX7_spread_51) ?_
  refine bm_cc (s_iret hx hb hr hlk dX7_spread_54) ?_
  exact bm_c9

noncomputable def z_X1_inVersions : List (Nat × bm_O) := [(0, op_aload 0), (1, op_getR 1 0), (4, op_const (0)), (5, op_call 0 2 bm_c0 f_X4_wipe), (8, op_const (0)), (9, op_istore 4), (11, op_iload 4), (13, op_iload 3), (14, op_icge 39), (17, op_aload 0), (18, op_getR 1 0), (21, op_aload 1), (22, op_iload 4), (24, op_iload 2), (25, op_const (0)), (26, op_call 1 4 (bm_rc 3) f_X3_nameAt), (29, op_const (1)), (30, op_call 0 3 bm_c0 f_X4_add), (33, op_iinc 4 1), (36, op_goto 11), (39, op_ret)]
noncomputable def f_X1_inVersions : bm_F := Classical.choose (bm_hide (bm_mt 5 z_X1_inVersions))
theorem u_X1_inVersions : f_X1_inVersions = bm_mt 5 z_X1_inVersions := Classical.choose_spec (bm_hide _)
theorem k_X1_inVersions (l : Launch) (g : bm_G) : bm_MetF l g yX1_inVersions cX1_inVersions 5 none 3 68 f_X1_inVersions := by
  rw [u_X1_inVersions]
  refine bm_met (by decide) ?_
  intro p e R s m args below meth c n0 s0 hx hb hml hown hts hK hr hlk hnm hF hL
  refine bm_cc (s_aload_n hx hb dX1_inVersions_0) ?_
  refine bm_cc (s_getR hx hb hown hts hK (C := RX1) (TT := TX1) (N := 1) (ci := 1) (j := 0) inT1 rfl (by decide) rfl (by decide) rfl tw_36 rfl dX1_inVersions_1) ?_
  refine bm_cc (s_iconst hx hb dX1_inVersions_4 (by decide)) ?_
  refine bm_cc (s_callS hx hb hml hown hts hK (k_X4_wipe l g) tw_248 tw_200 tw_18 tw_198 ⟨by decide, by decide, by decide +kernel⟩ ⟨by rw [hF]; decide, by rw [hL]; decide⟩ dX1_inVersions_5) ?_
  refine bm_cc (s_iconst hx hb dX1_inVersions_8 (by decide)) ?_
  refine bm_cc (s_istore hx hb dX1_inVersions_9) ?_
  refine bm_cc (s_iload hx hb dX1_inVersions_11) ?_
  refine bm_cc (s_iload_n hx hb dX1_inVersions_13) ?_
  refine bm_cc (s_icge hx hb dX1_inVersions_14 (by decide)) ?_
  refine bm_cc (s_aload_n hx hb dX1_inVersions_17) ?_
  refine bm_cc (s_getR hx hb hown hts hK (C := RX1) (TT := TX1) (N := 1) (ci := 1) (j := 0) inT1 rfl (by decide) rfl (by decide) rfl tw_36 rfl dX1_inVersions_18) ?_
  refine bm_cc (s_aload_n hx hb dX1_inVersions_21) ?_
  refine bm_cc (s_iload hx hb dX1_inVersions_22) ?_
  refine bm_cc (s_iload_n hx hb dX1_inVersions_24) ?_
  refine bm_cc (s_iconst hx hb dX1_inVersions_25 (by decide)) ?_
  refine bm_cc (s_callV hx hb hml hown hts hK (C := RX3) (TT := TX3) (N := 12) (ci := 3) rfl (by decide) (k_X3_nameAt l g) tw_251 tw_252 tw_253 tw_26 tw_250 ⟨by decide, by decide, by decide +kernel⟩ ⟨by rw [hF]; decide, by rw [hL]; decide⟩ dX1_inVersions_26) ?_
  refine bm_cc (s_iconst hx hb dX1_inVersions_29 (by decide)) ?_
  refine bm_cc (s_callS hx hb hml hown hts hK (k_X4_add l g) tw_255 tw_145 tw_18 tw_143 ⟨by decide, by decide, by decide +kernel⟩ ⟨by rw [hF]; decide, by rw [hL]; decide⟩ dX1_inVersions_30) ?_
  refine bm_cc (s_iinc hx hb dX1_inVersions_33 (by decide)) ?_
  refine bm_cc (s_goto hx hb dX1_inVersions_36 (by decide)) ?_
  refine bm_cc (s_ret hx hb hr hlk dX1_inVersions_39) ?_
  exact bm_c9

noncomputable def z_X7_areEven : List (Nat × bm_O) := [(0, op_const (0)), (1, op_istore 2), (2, op_iload 2), (3, op_aload 0), (4, op_getR 6 0), (7, op_call 1 1 (bm_rc 3) f_X3_contests), (10, op_icge 52), (13, op_aload 0), (14, op_getR 6 3), (17, op_aload 0), (18, op_getR 6 0), (21, op_iload 2), (22, op_iload 1), (23, op_call 0 4 (bm_rc 1) f_X1_inVersions), (26, op_aload 0), (27, op_getR 6 3), (30, op_aload 0), (31, op_getR 6 0), (34, op_iload 2), (35, op_call 1 2 (bm_rc 3) f_X3_namesIn), (38, op_call 1 2 (bm_rc 1) f_X1_difference), (41, op_ifeq 46), (44, op_const (0)), (45, op_zret), (46, op_iinc 2 1), (49, op_goto 2), (52, op_const (1)), (53, op_zret)]
noncomputable def f_X7_areEven : bm_F := Classical.choose (bm_hide (bm_mt 3 z_X7_areEven))
theorem u_X7_areEven : f_X7_areEven = bm_mt 3 z_X7_areEven := Classical.choose_spec (bm_hide _)
theorem k_X7_areEven (l : Launch) (g : bm_G) : bm_MetF l g yX7_areEven cX7_areEven 3 (some .boolean) 4 92 f_X7_areEven := by
  rw [u_X7_areEven]
  refine bm_met (by decide) ?_
  intro p e R s m args below meth c n0 s0 hx hb hml hown hts hK hr hlk hnm hF hL
  refine bm_cc (s_iconst hx hb dX7_areEven_0 (by decide)) ?_
  refine bm_cc (s_istore_n hx hb dX7_areEven_1) ?_
  refine bm_cc (s_iload_n hx hb dX7_areEven_2) ?_
  refine bm_cc (s_aload_n hx hb dX7_areEven_3) ?_
  refine bm_cc (s_getR hx hb hown hts hK (C := RX7) (TT := TX7) (N := 6) (ci := 6) (j := 0) inT7 rfl (by decide) rfl (by decide) rfl tw_46 rfl dX7_areEven_4) ?_
  refine bm_cc (s_callV hx hb hml hown hts hK (C := RX3) (TT := TX3) (N := 12) (ci := 3) rfl (by decide) (k_X3_contests l g) tw_111 tw_112 tw_113 tw_26 tw_110 ⟨by decide, by decide, by decide +kernel⟩ ⟨by rw [hF]; decide, by rw [hL]; decide⟩ dX7_areEven_7) ?_
  refine bm_cc (s_icge hx hb dX7_areEven_10 (by decide)) ?_
  refine bm_cc (s_aload_n hx hb dX7_areEven_13) ?_
  refine bm_cc (s_getR hx hb hown hts hK (C := RX7) (TT := TX7) (N := 6) (ci := 6) (j := 3) inT7 rfl (by decide) rfl (by decide) rfl tw_67 rfl dX7_areEven_14) ?_
  refine bm_cc (s_aload_n hx hb dX7_areEven_17) ?_
  refine bm_cc (s_getR hx hb hown hts hK (C := RX7) (TT := TX7) (N := 6) (ci := 6) (j := 0) inT7 rfl (by decide) rfl (by decide) rfl tw_46 rfl dX7_areEven_18) ?_
  refine bm_cc (s_iload_n hx hb dX7_areEven_21) ?_
  refine bm_cc (s_iload_n hx hb dX7_areEven_22) ?_
  refine bm_cc (s_callV hx hb hml hown hts hK (C := RX1) (TT := TX1) (N := 1) (ci := 1) rfl (by decide) (k_X1_inVersions l g) tw_485 tw_486 tw_487 tw_63 tw_484 ⟨by decide, by decide, by decide +kernel⟩ ⟨by rw [hF]; decide, by rw [hL]; decide⟩ dX7_areEven_23) ?_
  refine bm_cc (s_aload_n hx hb dX7_areEven_26) ?_
  refine bm_cc (s_getR hx hb hown hts hK (C := RX7) (TT := TX7) (N := 6) (ci := 6) (j := 3) inT7 rfl (by decide) rfl (by decide) rfl tw_67 rfl dX7_areEven_27) ?_
  refine bm_cc (s_aload_n hx hb dX7_areEven_30) ?_
  refine bm_cc (s_getR hx hb hown hts hK (C := RX7) (TT := TX7) (N := 6) (ci := 6) (j := 0) inT7 rfl (by decide) rfl (by decide) rfl tw_46 rfl dX7_areEven_31) ?_
  refine bm_cc (s_iload_n hx hb dX7_areEven_34) ?_
  refine bm_cc (s_callV hx hb hml hown hts hK (C := RX3) (TT := TX3) (N := 12) (ci := 3) rfl (by decide) (k_X3_namesIn l g) tw_154 tw_138 tw_139 tw_26 tw_136 ⟨by decide, by decide, by decide +kernel⟩ ⟨by rw [hF]; decide, by rw [hL]; decide⟩ dX7_areEven_35) ?_
  refine bm_cc (s_callV hx hb hml hown hts hK (C := RX1) (TT := TX1) (N := 1) (ci := 1) rfl (by decide) (k_X1_difference l g) tw_481 tw_482 tw_483 tw_63 tw_480 ⟨by decide, by decide, by decide +kernel⟩ ⟨by rw [hF]; decide, by rw [hL]; decide⟩ dX7_areEven_38) ?_
  refine bm_cc (s_ifeq hx hb dX7_areEven_41 (by decide)) ?_
  refine bm_cc (s_iconst hx hb dX7_areEven_44 (by decide)) ?_
  refine bm_cc (s_zret hx hb hr hlk dX7_areEven_45) ?_
  refine bm_cc (s_iinc hx hb dX7_areEven_46 (by decide)) ?_
  refine bm_cc (s_goto hx hb dX7_areEven_49 (by decide)) ?_
  refine bm_cc (s_iconst hx hb dX7_areEven_52 (by decide)) ?_
  refine bm_cc (s_zret hx hb hr hlk dX7_areEven_53) ?_
  exact bm_c9

noncomputable def z_X7_evenVersions : List (Nat × bm_O) := [(0, op_const (1)), (1, op_istore 1), (2, op_iload 1), (3, op_const (24)), (5, op_icgt 24), (8, op_aload 0), (9, op_iload 1), (10, op_call 1 2 (bm_rc 6) f_X7_areEven), (13, op_ifeq 18), (16, op_iload 1), (17, op_iret), (18, op_iinc 1 1), (21, op_goto 2), (24, op_const (-4)), (26, op_iret)]
noncomputable def f_X7_evenVersions : bm_F := Classical.choose (bm_hide (bm_mt 2 z_X7_evenVersions))
theorem u_X7_evenVersions : f_X7_evenVersions = bm_mt 2 z_X7_evenVersions := Classical.choose_spec (bm_hide _)
theorem k_X7_evenVersions (l : Launch) (g : bm_G) : bm_MetF l g yX7_evenVersions cX7_evenVersions 2 (some .int) 5 114 f_X7_evenVersions := by
  rw [u_X7_evenVersions]
  refine bm_met (by decide) ?_
  intro p e R s m args below meth c n0 s0 hx hb hml hown hts hK hr hlk hnm hF hL
  refine bm_cc (s_iconst hx hb dX7_evenVersions_0 (by decide)) ?_
  refine bm_cc (s_istore_n hx hb dX7_evenVersions_1) ?_
  refine bm_cc (s_iload_n hx hb dX7_evenVersions_2) ?_
  refine bm_cc (s_bipush hx hb dX7_evenVersions_3 (by decide)) ?_
  refine bm_cc (s_icgt hx hb dX7_evenVersions_5 (by decide)) ?_
  refine bm_cc (s_aload_n hx hb dX7_evenVersions_8) ?_
  refine bm_cc (s_iload_n hx hb dX7_evenVersions_9) ?_
  refine bm_cc (s_callV hx hb hml hown hts hK (C := RX7) (TT := TX7) (N := 6) (ci := 6) rfl (by decide) (k_X7_areEven l g) tw_489 tw_490 tw_491 tw_106 tw_488 ⟨by decide, by decide, by decide +kernel⟩ ⟨by rw [hF]; decide, by rw [hL]; decide⟩ dX7_evenVersions_10) ?_
  refine bm_cc (s_ifeq hx hb dX7_evenVersions_13 (by decide)) ?_
  refine bm_cc (s_iload_n hx hb dX7_evenVersions_16) ?_
  refine bm_cc (s_iret hx hb hr hlk dX7_evenVersions_17) ?_
  refine bm_cc (s_iinc hx hb dX7_evenVersions_18 (by decide)) ?_
  refine bm_cc (s_goto hx hb dX7_evenVersions_21 (by decide)) ?_
  refine bm_cc (s_bipush hx hb dX7_evenVersions_24 (by decide)) ?_
  refine bm_cc (s_iret hx hb hr hlk dX7_evenVersions_26) ?_
  exact bm_c9

noncomputable def z_X7_pagesByWidth : List (Nat × bm_O) := [(0, op_aload 0), (1, op_getR 6 2), (4, op_aload 0), (5, op_getR 6 0), (8, op_const (0)), (9, op_iload 1), (10, op_call 0 4 (bm_rc 4) f_X5_lay), (13, op_aload 0), (14, op_getR 6 2), (17, op_call 1 1 (bm_rc 4) f_X5_pages), (20, op_iret)]
noncomputable def f_X7_pagesByWidth : bm_F := Classical.choose (bm_hide (bm_mt 2 z_X7_pagesByWidth))
theorem u_X7_pagesByWidth : f_X7_pagesByWidth = bm_mt 2 z_X7_pagesByWidth := Classical.choose_spec (bm_hide _)
theorem k_X7_pagesByWidth (l : Launch) (g : bm_G) : bm_MetF l g yX7_pagesByWidth cX7_pagesByWidth 2 (some .int) 5 119 f_X7_pagesByWidth := by
  rw [u_X7_pagesByWidth]
  refine bm_met (by decide) ?_
  intro p e R s m args below meth c n0 s0 hx hb hml hown hts hK hr hlk hnm hF hL
  refine bm_cc (s_aload_n hx hb dX7_pagesByWidth_0) ?_
  refine bm_cc (s_getR hx hb hown hts hK (C := RX7) (TT := TX7) (N := 6) (ci := 6) (j := 2) inT7 rfl (by decide) rfl (by decide) rfl tw_60 rfl dX7_pagesByWidth_1) ?_
  refine bm_cc (s_aload_n hx hb dX7_pagesByWidth_4) ?_
  refine bm_cc (s_getR hx hb hown hts hK (C := RX7) (TT := TX7) (N := 6) (ci := 6) (j := 0) inT7 rfl (by decide) rfl (by decide) rfl tw_46 rfl dX7_pagesByWidth_5) ?_
  refine bm_cc (s_iconst hx hb dX7_pagesByWidth_8 (by decide)) ?_
  refine bm_cc (s_iload_n hx hb dX7_pagesByWidth_9) ?_
  refine bm_cc (s_callV hx hb hml hown hts hK (C := RX5) (TT := TX5) (N := 12) (ci := 4) rfl (by decide) (k_X5_lay l g) tw_385 tw_386 tw_387 tw_56 tw_384 ⟨by decide, by decide, by decide +kernel⟩ ⟨by rw [hF]; decide, by rw [hL]; decide⟩ dX7_pagesByWidth_10) ?_
  refine bm_cc (s_aload_n hx hb dX7_pagesByWidth_13) ?_
  refine bm_cc (s_getR hx hb hown hts hK (C := RX7) (TT := TX7) (N := 6) (ci := 6) (j := 2) inT7 rfl (by decide) rfl (by decide) rfl tw_60 rfl dX7_pagesByWidth_14) ?_
  refine bm_cc (s_callV hx hb hml hown hts hK (C := RX5) (TT := TX5) (N := 12) (ci := 4) rfl (by decide) (k_X5_pages l g) tw_453 tw_454 tw_455 tw_56 tw_452 ⟨by decide, by decide, by decide +kernel⟩ ⟨by rw [hF]; decide, by rw [hL]; decide⟩ dX7_pagesByWidth_17) ?_
  refine bm_cc (s_iret hx hb hr hlk dX7_pagesByWidth_20) ?_
  exact bm_c9

noncomputable def z_X7_bestWidth : List (Nat × bm_O) := [(0, op_iload 1), (1, op_const (0)), (2, op_const (1)), (3, op_call 1 3 bm_c0 f_X7_within), (6, op_ifne 11), (9, op_const (-1)), (10, op_iret), (11, op_const (8)), (13, op_istore 2), (14, op_aload 0), (15, op_const (8)), (17, op_call 1 2 (bm_rc 6) f_X7_pagesByWidth), (20, op_istore 3), (21, op_const (9)), (23, op_istore 4), (25, op_iload 4), (27, op_const (40)), (29, op_icgt 58), (32, op_aload 0), (33, op_iload 4), (35, op_call 1 2 (bm_rc 6) f_X7_pagesByWidth), (38, op_istore 5), (40, op_iload 5), (42, op_iload 3), (43, op_icge 52), (46, op_iload 4), (48, op_istore 2), (49, op_iload 5), (51, op_istore 3), (52, op_iinc 4 1), (55, op_goto 25), (58, op_iload 1), (59, op_ifne 66), (62, op_iload 2), (63, op_goto 67), (66, op_iload 3), (67, op_iret)]
noncomputable def f_X7_bestWidth : bm_F := Classical.choose (bm_hide (bm_mt 6 z_X7_bestWidth))
theorem u_X7_bestWidth : f_X7_bestWidth = bm_mt 6 z_X7_bestWidth := Classical.choose_spec (bm_hide _)
theorem k_X7_bestWidth (l : Launch) (g : bm_G) : bm_MetF l g yX7_bestWidth cX7_bestWidth 6 (some .int) 6 140 f_X7_bestWidth := by
  rw [u_X7_bestWidth]
  refine bm_met (by decide) ?_
  intro p e R s m args below meth c n0 s0 hx hb hml hown hts hK hr hlk hnm hF hL
  refine bm_cc (s_iload_n hx hb dX7_bestWidth_0) ?_
  refine bm_cc (s_iconst hx hb dX7_bestWidth_1 (by decide)) ?_
  refine bm_cc (s_iconst hx hb dX7_bestWidth_2 (by decide)) ?_
  refine bm_cc (s_callS hx hb hml hown hts hK (k_X7_within l g) tw_108 tw_109 tw_106 tw_107 ⟨by decide, by decide, by decide +kernel⟩ ⟨by rw [hF]; decide, by rw [hL]; decide⟩ dX7_bestWidth_3) ?_
  refine bm_cc (s_ifne hx hb dX7_bestWidth_6 (by decide)) ?_
  refine bm_cc (s_iconst hx hb dX7_bestWidth_9 (by decide)) ?_
  refine bm_cc (s_iret hx hb hr hlk dX7_bestWidth_10) ?_
  refine bm_cc (s_bipush hx hb dX7_bestWidth_11 (by decide)) ?_
  refine bm_cc (s_istore_n hx hb dX7_bestWidth_13) ?_
  refine bm_cc (s_aload_n hx hb dX7_bestWidth_14) ?_
  refine bm_cc (s_bipush hx hb dX7_bestWidth_15 (by decide)) ?_
  refine bm_cc (s_callV hx hb hml hown hts hK (C := RX7) (TT := TX7) (N := 6) (ci := 6) rfl (by decide) (k_X7_pagesByWidth l g) tw_497 tw_498 tw_499 tw_106 tw_496 ⟨by decide, by decide, by decide +kernel⟩ ⟨by rw [hF]; decide, by rw [hL]; decide⟩ dX7_bestWidth_17) ?_
  refine bm_cc (s_istore_n hx hb dX7_bestWidth_20) ?_
  refine bm_cc (s_bipush hx hb dX7_bestWidth_21 (by decide)) ?_
  refine bm_cc (s_istore hx hb dX7_bestWidth_23) ?_
  refine bm_cc (s_iload hx hb dX7_bestWidth_25) ?_
  refine bm_cc (s_bipush hx hb dX7_bestWidth_27 (by decide)) ?_
  refine bm_cc (s_icgt hx hb dX7_bestWidth_29 (by decide)) ?_
  refine bm_cc (s_aload_n hx hb dX7_bestWidth_32) ?_
  refine bm_cc (s_iload hx hb dX7_bestWidth_33) ?_
  refine bm_cc (s_callV hx hb hml hown hts hK (C := RX7) (TT := TX7) (N := 6) (ci := 6) rfl (by decide) (k_X7_pagesByWidth l g) tw_497 tw_498 tw_499 tw_106 tw_496 ⟨by decide, by decide, by decide +kernel⟩ ⟨by rw [hF]; decide, by rw [hL]; decide⟩ dX7_bestWidth_35) ?_
  refine bm_cc (s_istore hx hb dX7_bestWidth_38) ?_
  refine bm_cc (s_iload hx hb dX7_bestWidth_40) ?_
  refine bm_cc (s_iload_n hx hb dX7_bestWidth_42) ?_
  refine bm_cc (s_icge hx hb dX7_bestWidth_43 (by decide)) ?_
  refine bm_cc (s_iload hx hb dX7_bestWidth_46) ?_
  refine bm_cc (s_istore_n hx hb dX7_bestWidth_48) ?_
  refine bm_cc (s_iload hx hb dX7_bestWidth_49) ?_
  refine bm_cc (s_istore_n hx hb dX7_bestWidth_51) ?_
  refine bm_cc (s_iinc hx hb dX7_bestWidth_52 (by decide)) ?_
  refine bm_cc (s_goto hx hb dX7_bestWidth_55 (by decide)) ?_
  refine bm_cc (s_iload_n hx hb dX7_bestWidth_58) ?_
  refine bm_cc (s_ifne hx hb dX7_bestWidth_59 (by decide)) ?_
  refine bm_cc (s_iload_n hx hb dX7_bestWidth_62) ?_
  refine bm_cc (s_goto hx hb dX7_bestWidth_63 (by decide)) ?_
  refine bm_cc (s_iload_n hx hb dX7_bestWidth_66) ?_
  refine bm_cc (s_iret hx hb hr hlk dX7_bestWidth_67) ?_
  exact bm_c9

noncomputable def z_X2_restore : List (Nat × bm_O) := [(0, op_aload 0), (1, op_getI 2 2), (4, op_ifle 42), (7, op_aload 0), (8, op_dup), (9, op_getI 2 2), (12, op_const (1)), (13, op_bin (fun a b => a - b)), (14, op_putI 2 2), (17, op_aload 0), (18, op_aload 0), (19, op_getI 2 1), (22, op_aload 0), (23, op_getI 2 2), (26, op_bin (fun a b => a + b)), (27, op_const (4)), (28, op_binz (fun a b => a - a / b * b)), (29, op_call 2 2 (bm_rc 2) f_X2_stateAt), (32, op_astore 2), (33, op_aload 2), (34, op_ifnull 42), (37, op_aload 1), (38, op_aload 2), (39, op_call 0 2 (bm_rc 3) f_X3_become), (42, op_ret)]
noncomputable def f_X2_restore : bm_F := Classical.choose (bm_hide (bm_mt 3 z_X2_restore))
theorem u_X2_restore : f_X2_restore = bm_mt 3 z_X2_restore := Classical.choose_spec (bm_hide _)
theorem k_X2_restore (l : Launch) (g : bm_G) : bm_MetF l g yX2_restore cX2_restore 3 none 3 60 f_X2_restore := by
  rw [u_X2_restore]
  refine bm_met (by decide) ?_
  intro p e R s m args below meth c n0 s0 hx hb hml hown hts hK hr hlk hnm hF hL
  refine bm_cc (s_aload_n hx hb dX2_restore_0) ?_
  refine bm_cc (s_getI hx hb hown hts hK (C := RX2) (TT := TX2) (N := 3) (ci := 2) (j := 2) inT2 rfl (by decide) rfl (by decide) rfl tw_93 rfl dX2_restore_1) ?_
  refine bm_cc (s_ifle hx hb dX2_restore_4 (by decide)) ?_
  refine bm_cc (s_aload_n hx hb dX2_restore_7) ?_
  refine bm_cc (s_dup hx hb dX2_restore_8) ?_
  refine bm_cc (s_getI hx hb hown hts hK (C := RX2) (TT := TX2) (N := 3) (ci := 2) (j := 2) inT2 rfl (by decide) rfl (by decide) rfl tw_93 rfl dX2_restore_9) ?_
  refine bm_cc (s_iconst hx hb dX2_restore_12 (by decide)) ?_
  refine bm_cc (s_isub hx hb dX2_restore_13) ?_
  refine bm_cc (s_putI hx hb hown hts hK (C := RX2) (TT := TX2) (N := 3) (ci := 2) (j := 2) inT2 rfl (by decide) rfl (by decide) tyX2 tyX2_ok nmX2 rfl tw_93 rfl rfl (by decide +kernel) dX2_restore_14) ?_
  refine bm_cc (s_aload_n hx hb dX2_restore_17) ?_
  refine bm_cc (s_aload_n hx hb dX2_restore_18) ?_
  refine bm_cc (s_getI hx hb hown hts hK (C := RX2) (TT := TX2) (N := 3) (ci := 2) (j := 1) inT2 rfl (by decide) rfl (by decide) rfl tw_94 rfl dX2_restore_19) ?_
  refine bm_cc (s_aload_n hx hb dX2_restore_22) ?_
  refine bm_cc (s_getI hx hb hown hts hK (C := RX2) (TT := TX2) (N := 3) (ci := 2) (j := 2) inT2 rfl (by decide) rfl (by decide) rfl tw_93 rfl dX2_restore_23) ?_
  refine bm_cc (s_iadd hx hb dX2_restore_26) ?_
  refine bm_cc (s_iconst hx hb dX2_restore_27 (by decide)) ?_
  refine bm_cc (s_irem hx hb dX2_restore_28) ?_
  refine bm_cc (s_callV hx hb hml hown hts hK (C := RX2) (TT := TX2) (N := 3) (ci := 2) rfl (by decide) (k_X2_stateAt l g) tw_96 tw_97 tw_98 tw_49 tw_95 ⟨by decide, by decide, by decide +kernel⟩ ⟨by rw [hF]; decide, by rw [hL]; decide⟩ dX2_restore_29) ?_
  refine bm_cc (s_astore_n hx hb dX2_restore_32) ?_
  refine bm_cc (s_aload_n hx hb dX2_restore_33) ?_
  refine bm_cc (s_ifnull hx hb dX2_restore_34 (by decide)) ?_
  refine bm_cc (s_aload_n hx hb dX2_restore_37) ?_
  refine bm_cc (s_aload_n hx hb dX2_restore_38) ?_
  refine bm_cc (s_callV hx hb hml hown hts hK (C := RX3) (TT := TX3) (N := 12) (ci := 3) rfl (by decide) (k_X3_become l g) tw_100 tw_101 tw_102 tw_26 tw_99 ⟨by decide, by decide, by decide +kernel⟩ ⟨by rw [hF]; decide, by rw [hL]; decide⟩ dX2_restore_39) ?_
  refine bm_cc (s_ret hx hb hr hlk dX2_restore_42) ?_
  exact bm_c9

noncomputable def z_X7_undo : List (Nat × bm_O) := [(0, op_aload 0), (1, op_getR 6 1), (4, op_call 1 1 (bm_rc 2) f_X2_kept), (7, op_ifne 13), (10, op_const (-2)), (12, op_iret), (13, op_aload 0), (14, op_getR 6 1), (17, op_aload 0), (18, op_getR 6 0), (21, op_call 0 2 (bm_rc 2) f_X2_restore), (24, op_aload 0), (25, op_getR 6 1), (28, op_call 1 1 (bm_rc 2) f_X2_kept), (31, op_iret)]
noncomputable def f_X7_undo : bm_F := Classical.choose (bm_hide (bm_mt 1 z_X7_undo))
theorem u_X7_undo : f_X7_undo = bm_mt 1 z_X7_undo := Classical.choose_spec (bm_hide _)
theorem k_X7_undo (l : Launch) (g : bm_G) : bm_MetF l g yX7_undo cX7_undo 1 (some .int) 4 82 f_X7_undo := by
  rw [u_X7_undo]
  refine bm_met (by decide) ?_
  intro p e R s m args below meth c n0 s0 hx hb hml hown hts hK hr hlk hnm hF hL
  refine bm_cc (s_aload_n hx hb dX7_undo_0) ?_
  refine bm_cc (s_getR hx hb hown hts hK (C := RX7) (TT := TX7) (N := 6) (ci := 6) (j := 1) inT7 rfl (by decide) rfl (by decide) rfl tw_53 rfl dX7_undo_1) ?_
  refine bm_cc (s_callV hx hb hml hown hts hK (C := RX2) (TT := TX2) (N := 3) (ci := 2) rfl (by decide) (k_X2_kept l g) tw_314 tw_315 tw_316 tw_49 tw_313 ⟨by decide, by decide, by decide +kernel⟩ ⟨by rw [hF]; decide, by rw [hL]; decide⟩ dX7_undo_4) ?_
  refine bm_cc (s_ifne hx hb dX7_undo_7 (by decide)) ?_
  refine bm_cc (s_bipush hx hb dX7_undo_10 (by decide)) ?_
  refine bm_cc (s_iret hx hb hr hlk dX7_undo_12) ?_
  refine bm_cc (s_aload_n hx hb dX7_undo_13) ?_
  refine bm_cc (s_getR hx hb hown hts hK (C := RX7) (TT := TX7) (N := 6) (ci := 6) (j := 1) inT7 rfl (by decide) rfl (by decide) rfl tw_53 rfl dX7_undo_14) ?_
  refine bm_cc (s_aload_n hx hb dX7_undo_17) ?_
  refine bm_cc (s_getR hx hb hown hts hK (C := RX7) (TT := TX7) (N := 6) (ci := 6) (j := 0) inT7 rfl (by decide) rfl (by decide) rfl tw_46 rfl dX7_undo_18) ?_
  refine bm_cc (s_callV hx hb hml hown hts hK (C := RX2) (TT := TX2) (N := 3) (ci := 2) rfl (by decide) (k_X2_restore l g) tw_505 tw_506 tw_507 tw_49 tw_504 ⟨by decide, by decide, by decide +kernel⟩ ⟨by rw [hF]; decide, by rw [hL]; decide⟩ dX7_undo_21) ?_
  refine bm_cc (s_aload_n hx hb dX7_undo_24) ?_
  refine bm_cc (s_getR hx hb hown hts hK (C := RX7) (TT := TX7) (N := 6) (ci := 6) (j := 1) inT7 rfl (by decide) rfl (by decide) rfl tw_53 rfl dX7_undo_25) ?_
  refine bm_cc (s_callV hx hb hml hown hts hK (C := RX2) (TT := TX2) (N := 3) (ci := 2) rfl (by decide) (k_X2_kept l g) tw_314 tw_315 tw_316 tw_49 tw_313 ⟨by decide, by decide, by decide +kernel⟩ ⟨by rw [hF]; decide, by rw [hL]; decide⟩ dX7_undo_28) ?_
  refine bm_cc (s_iret hx hb hr hlk dX7_undo_31) ?_
  exact bm_c9

noncomputable def z_X6_append : List (Nat × bm_O) := [(0, op_aload 0), (1, op_getI 5 1), (4, op_const (40)), (6, op_icge 31), (9, op_aload 0), (10, op_getR 5 0), (13, op_aload 0), (14, op_getI 5 1), (17, op_iload 1), (18, op_call 0 3 bm_c0 f_X4_put), (21, op_aload 0), (22, op_dup), (23, op_getI 5 1), (26, op_const (1)), (27, op_bin (fun a b => a + b)), (28, op_putI 5 1), (31, op_aload 0), (32, op_getI 5 1), (35, op_iret)]
noncomputable def f_X6_append : bm_F := Classical.choose (bm_hide (bm_mt 2 z_X6_append))
theorem u_X6_append : f_X6_append = bm_mt 2 z_X6_append := Classical.choose_spec (bm_hide _)
theorem k_X6_append (l : Launch) (g : bm_G) : bm_MetF l g yX6_append cX6_append 2 (some .int) 1 22 f_X6_append := by
  rw [u_X6_append]
  refine bm_met (by decide) ?_
  intro p e R s m args below meth c n0 s0 hx hb hml hown hts hK hr hlk hnm hF hL
  refine bm_cc (s_aload_n hx hb dX6_append_0) ?_
  refine bm_cc (s_getI hx hb hown hts hK (C := RX6) (TT := TX6) (N := 2) (ci := 5) (j := 1) inT6 rfl (by decide) rfl (by decide) rfl tw_303 rfl dX6_append_1) ?_
  refine bm_cc (s_bipush hx hb dX6_append_4 (by decide)) ?_
  refine bm_cc (s_icge hx hb dX6_append_6 (by decide)) ?_
  refine bm_cc (s_aload_n hx hb dX6_append_9) ?_
  refine bm_cc (s_getR hx hb hown hts hK (C := RX6) (TT := TX6) (N := 2) (ci := 5) (j := 0) inT6 rfl (by decide) rfl (by decide) rfl tw_38 rfl dX6_append_10) ?_
  refine bm_cc (s_aload_n hx hb dX6_append_13) ?_
  refine bm_cc (s_getI hx hb hown hts hK (C := RX6) (TT := TX6) (N := 2) (ci := 5) (j := 1) inT6 rfl (by decide) rfl (by decide) rfl tw_303 rfl dX6_append_14) ?_
  refine bm_cc (s_iload_n hx hb dX6_append_17) ?_
  refine bm_cc (s_callS hx hb hml hown hts hK (k_X4_put l g) tw_508 tw_105 tw_18 tw_103 ⟨by decide, by decide, by decide +kernel⟩ ⟨by rw [hF]; decide, by rw [hL]; decide⟩ dX6_append_18) ?_
  refine bm_cc (s_aload_n hx hb dX6_append_21) ?_
  refine bm_cc (s_dup hx hb dX6_append_22) ?_
  refine bm_cc (s_getI hx hb hown hts hK (C := RX6) (TT := TX6) (N := 2) (ci := 5) (j := 1) inT6 rfl (by decide) rfl (by decide) rfl tw_303 rfl dX6_append_23) ?_
  refine bm_cc (s_iconst hx hb dX6_append_26 (by decide)) ?_
  refine bm_cc (s_iadd hx hb dX6_append_27) ?_
  refine bm_cc (s_putI hx hb hown hts hK (C := RX6) (TT := TX6) (N := 2) (ci := 5) (j := 1) inT6 rfl (by decide) rfl (by decide) tyX6 tyX6_ok nmX6 rfl tw_303 rfl rfl (by decide +kernel) dX6_append_28) ?_
  refine bm_cc (s_aload_n hx hb dX6_append_31) ?_
  refine bm_cc (s_getI hx hb hown hts hK (C := RX6) (TT := TX6) (N := 2) (ci := 5) (j := 1) inT6 rfl (by decide) rfl (by decide) rfl tw_303 rfl dX6_append_32) ?_
  refine bm_cc (s_iret hx hb hr hlk dX6_append_35) ?_
  exact bm_c9

noncomputable def z_X7_type : List (Nat × bm_O) := [(0, op_iload 1), (1, op_const (32)), (3, op_const (126)), (5, op_call 1 3 bm_c0 f_X7_within), (8, op_ifne 13), (11, op_const (-1)), (12, op_iret), (13, op_aload 0), (14, op_getR 6 4), (17, op_call 1 1 (bm_rc 5) f_X6_length), (20, op_const (40)), (22, op_iclt 28), (25, op_const (-3)), (27, op_iret), (28, op_aload 0), (29, op_getR 6 4), (32, op_iload 1), (33, op_call 1 2 (bm_rc 5) f_X6_append), (36, op_iret)]
noncomputable def f_X7_type : bm_F := Classical.choose (bm_hide (bm_mt 2 z_X7_type))
theorem u_X7_type : f_X7_type = bm_mt 2 z_X7_type := Classical.choose_spec (bm_hide _)
theorem k_X7_type (l : Launch) (g : bm_G) : bm_MetF l g yX7_type cX7_type 2 (some .int) 2 43 f_X7_type := by
  rw [u_X7_type]
  refine bm_met (by decide) ?_
  intro p e R s m args below meth c n0 s0 hx hb hml hown hts hK hr hlk hnm hF hL
  refine bm_cc (s_iload_n hx hb dX7_type_0) ?_
  refine bm_cc (s_bipush hx hb dX7_type_1 (by decide)) ?_
  refine bm_cc (s_bipush hx hb dX7_type_3 (by decide)) ?_
  refine bm_cc (s_callS hx hb hml hown hts hK (k_X7_within l g) tw_108 tw_109 tw_106 tw_107 ⟨by decide, by decide, by decide +kernel⟩ ⟨by rw [hF]; decide, by rw [hL]; decide⟩ dX7_type_5) ?_
  refine bm_cc (s_ifne hx hb dX7_type_8 (by decide)) ?_
  refine bm_cc (s_iconst hx hb dX7_type_11 (by decide)) ?_
  refine bm_cc (s_iret hx hb hr hlk dX7_type_12) ?_
  refine bm_cc (s_aload_n hx hb dX7_type_13) ?_
  refine bm_cc (s_getR hx hb hown hts hK (C := RX7) (TT := TX7) (N := 6) (ci := 6) (j := 4) inT7 rfl (by decide) rfl (by decide) rfl tw_74 rfl dX7_type_14) ?_
  refine bm_cc (s_callV hx hb hml hown hts hK (C := RX6) (TT := TX6) (N := 2) (ci := 5) rfl (by decide) (k_X6_length l g) tw_318 tw_319 tw_320 tw_70 tw_317 ⟨by decide, by decide, by decide +kernel⟩ ⟨by rw [hF]; decide, by rw [hL]; decide⟩ dX7_type_17) ?_
  refine bm_cc (s_bipush hx hb dX7_type_20 (by decide)) ?_
  refine bm_cc (s_iclt hx hb dX7_type_22 (by decide)) ?_
  refine bm_cc (s_bipush hx hb dX7_type_25 (by decide)) ?_
  refine bm_cc (s_iret hx hb hr hlk dX7_type_27) ?_
  refine bm_cc (s_aload_n hx hb dX7_type_28) ?_
  refine bm_cc (s_getR hx hb hown hts hK (C := RX7) (TT := TX7) (N := 6) (ci := 6) (j := 4) inT7 rfl (by decide) rfl (by decide) rfl tw_74 rfl dX7_type_29) ?_
  refine bm_cc (s_iload_n hx hb dX7_type_32) ?_
  refine bm_cc (s_callV hx hb hml hown hts hK (C := RX6) (TT := TX6) (N := 2) (ci := 5) rfl (by decide) (k_X6_append l g) tw_510 tw_511 tw_512 tw_70 tw_509 ⟨by decide, by decide, by decide +kernel⟩ ⟨by rw [hF]; decide, by rw [hL]; decide⟩ dX7_type_33) ?_
  refine bm_cc (s_iret hx hb hr hlk dX7_type_36) ?_
  exact bm_c9

noncomputable def z_X6_empty : List (Nat × bm_O) := [(0, op_aload 0), (1, op_getI 5 1), (4, op_istore 1), (5, op_aload 0), (6, op_const (0)), (7, op_putI 5 1), (10, op_iload 1), (11, op_iret)]
noncomputable def f_X6_empty : bm_F := Classical.choose (bm_hide (bm_mt 2 z_X6_empty))
theorem u_X6_empty : f_X6_empty = bm_mt 2 z_X6_empty := Classical.choose_spec (bm_hide _)
theorem k_X6_empty (l : Launch) (g : bm_G) : bm_MetF l g yX6_empty cX6_empty 2 (some .int) 0 0 f_X6_empty := by
  rw [u_X6_empty]
  refine bm_met (by decide) ?_
  intro p e R s m args below meth c n0 s0 hx hb hml hown hts hK hr hlk hnm hF hL
  refine bm_cc (s_aload_n hx hb dX6_empty_0) ?_
  refine bm_cc (s_getI hx hb hown hts hK (C := RX6) (TT := TX6) (N := 2) (ci := 5) (j := 1) inT6 rfl (by decide) rfl (by decide) rfl tw_303 rfl dX6_empty_1) ?_
  refine bm_cc (s_istore_n hx hb dX6_empty_4) ?_
  refine bm_cc (s_aload_n hx hb dX6_empty_5) ?_
  refine bm_cc (s_iconst hx hb dX6_empty_6 (by decide)) ?_
  refine bm_cc (s_putI hx hb hown hts hK (C := RX6) (TT := TX6) (N := 2) (ci := 5) (j := 1) inT6 rfl (by decide) rfl (by decide) tyX6 tyX6_ok nmX6 rfl tw_303 rfl rfl (by decide +kernel) dX6_empty_7) ?_
  refine bm_cc (s_iload_n hx hb dX6_empty_10) ?_
  refine bm_cc (s_iret hx hb hr hlk dX6_empty_11) ?_
  exact bm_c9

noncomputable def z_X7_clearText : List (Nat × bm_O) := [(0, op_aload 0), (1, op_getR 6 4), (4, op_call 1 1 (bm_rc 5) f_X6_empty), (7, op_iret)]
noncomputable def f_X7_clearText : bm_F := Classical.choose (bm_hide (bm_mt 1 z_X7_clearText))
theorem u_X7_clearText : f_X7_clearText = bm_mt 1 z_X7_clearText := Classical.choose_spec (bm_hide _)
theorem k_X7_clearText (l : Launch) (g : bm_G) : bm_MetF l g yX7_clearText cX7_clearText 1 (some .int) 1 21 f_X7_clearText := by
  rw [u_X7_clearText]
  refine bm_met (by decide) ?_
  intro p e R s m args below meth c n0 s0 hx hb hml hown hts hK hr hlk hnm hF hL
  refine bm_cc (s_aload_n hx hb dX7_clearText_0) ?_
  refine bm_cc (s_getR hx hb hown hts hK (C := RX7) (TT := TX7) (N := 6) (ci := 6) (j := 4) inT7 rfl (by decide) rfl (by decide) rfl tw_74 rfl dX7_clearText_1) ?_
  refine bm_cc (s_callV hx hb hml hown hts hK (C := RX6) (TT := TX6) (N := 2) (ci := 5) rfl (by decide) (k_X6_empty l g) tw_514 tw_515 tw_516 tw_70 tw_513 ⟨by decide, by decide, by decide +kernel⟩ ⟨by rw [hF]; decide, by rw [hL]; decide⟩ dX7_clearText_4) ?_
  refine bm_cc (s_iret hx hb hr hlk dX7_clearText_7) ?_
  exact bm_c9

noncomputable def z_X6_signAt : List (Nat × bm_O) := [(0, op_iload 1), (1, op_const (0)), (2, op_aload 0), (3, op_getI 5 1), (6, op_const (1)), (7, op_bin (fun a b => a - b)), (8, op_call 1 3 bm_c0 f_X7_within), (11, op_ifeq 25), (14, op_aload 0), (15, op_getR 5 0), (18, op_iload 1), (19, op_call 1 2 bm_c0 f_X4_get), (22, op_goto 26), (25, op_const (-1)), (26, op_iret)]
noncomputable def f_X6_signAt : bm_F := Classical.choose (bm_hide (bm_mt 2 z_X6_signAt))
theorem u_X6_signAt : f_X6_signAt = bm_mt 2 z_X6_signAt := Classical.choose_spec (bm_hide _)
theorem k_X6_signAt (l : Launch) (g : bm_G) : bm_MetF l g yX6_signAt cX6_signAt 2 (some .int) 1 22 f_X6_signAt := by
  rw [u_X6_signAt]
  refine bm_met (by decide) ?_
  intro p e R s m args below meth c n0 s0 hx hb hml hown hts hK hr hlk hnm hF hL
  refine bm_cc (s_iload_n hx hb dX6_signAt_0) ?_
  refine bm_cc (s_iconst hx hb dX6_signAt_1 (by decide)) ?_
  refine bm_cc (s_aload_n hx hb dX6_signAt_2) ?_
  refine bm_cc (s_getI hx hb hown hts hK (C := RX6) (TT := TX6) (N := 2) (ci := 5) (j := 1) inT6 rfl (by decide) rfl (by decide) rfl tw_303 rfl dX6_signAt_3) ?_
  refine bm_cc (s_iconst hx hb dX6_signAt_6 (by decide)) ?_
  refine bm_cc (s_isub hx hb dX6_signAt_7) ?_
  refine bm_cc (s_callSN hx hb hml hown hts hK (k_X7_within l g) (hK.2.2.2.2.1 _ (List.mem_of_getElem? (i := 2) rfl)) tw_109 tw_106 tw_107 ⟨by decide, by decide, by decide +kernel⟩ ⟨by rw [hF]; decide, by rw [hL]; decide⟩ dX6_signAt_8) ?_
  refine bm_cc (s_ifeq hx hb dX6_signAt_11 (by decide)) ?_
  refine bm_cc (s_aload_n hx hb dX6_signAt_14) ?_
  refine bm_cc (s_getR hx hb hown hts hK (C := RX6) (TT := TX6) (N := 2) (ci := 5) (j := 0) inT6 rfl (by decide) rfl (by decide) rfl tw_38 rfl dX6_signAt_15) ?_
  refine bm_cc (s_iload_n hx hb dX6_signAt_18) ?_
  refine bm_cc (s_callS hx hb hml hown hts hK (k_X4_get l g) tw_517 tw_133 tw_18 tw_131 ⟨by decide, by decide, by decide +kernel⟩ ⟨by rw [hF]; decide, by rw [hL]; decide⟩ dX6_signAt_19) ?_
  refine bm_cc (s_goto hx hb dX6_signAt_22 (by decide)) ?_
  refine bm_cc (s_iconst hx hb dX6_signAt_25 (by decide)) ?_
  refine bm_cc (s_iret hx hb hr hlk dX6_signAt_26) ?_
  exact bm_c9

noncomputable def z_X6_hasDigitAt : List (Nat × bm_O) := [(0, op_aload 0), (1, op_iload 1), (2, op_call 1 2 (bm_rc 5) f_X6_signAt), (5, op_const (48)), (7, op_const (57)), (9, op_call 1 3 bm_c0 f_X7_within), (12, op_zret)]
noncomputable def f_X6_hasDigitAt : bm_F := Classical.choose (bm_hide (bm_mt 2 z_X6_hasDigitAt))
theorem u_X6_hasDigitAt : f_X6_hasDigitAt = bm_mt 2 z_X6_hasDigitAt := Classical.choose_spec (bm_hide _)
theorem k_X6_hasDigitAt (l : Launch) (g : bm_G) : bm_MetF l g yX6_hasDigitAt cX6_hasDigitAt 2 (some .boolean) 2 43 f_X6_hasDigitAt := by
  rw [u_X6_hasDigitAt]
  refine bm_met (by decide) ?_
  intro p e R s m args below meth c n0 s0 hx hb hml hown hts hK hr hlk hnm hF hL
  refine bm_cc (s_aload_n hx hb dX6_hasDigitAt_0) ?_
  refine bm_cc (s_iload_n hx hb dX6_hasDigitAt_1) ?_
  refine bm_cc (s_callV hx hb hml hown hts hK (C := RX6) (TT := TX6) (N := 2) (ci := 5) rfl (by decide) (k_X6_signAt l g) tw_519 tw_520 tw_521 tw_70 tw_518 ⟨by decide, by decide, by decide +kernel⟩ ⟨by rw [hF]; decide, by rw [hL]; decide⟩ dX6_hasDigitAt_2) ?_
  refine bm_cc (s_bipush hx hb dX6_hasDigitAt_5 (by decide)) ?_
  refine bm_cc (s_bipush hx hb dX6_hasDigitAt_7 (by decide)) ?_
  refine bm_cc (s_callSN hx hb hml hown hts hK (k_X7_within l g) (hK.2.2.2.2.1 _ (List.mem_of_getElem? (i := 2) rfl)) tw_109 tw_106 tw_107 ⟨by decide, by decide, by decide +kernel⟩ ⟨by rw [hF]; decide, by rw [hL]; decide⟩ dX6_hasDigitAt_9) ?_
  refine bm_cc (s_zret hx hb hr hlk dX6_hasDigitAt_12) ?_
  exact bm_c9

noncomputable def z_X0_blame : List (Nat × bm_O) := [(0, op_aload 0), (1, op_iload 1), (2, op_putI 0 5), (5, op_aload 0), (6, op_iload 2), (7, op_putI 0 6), (10, op_ret)]
noncomputable def f_X0_blame : bm_F := Classical.choose (bm_hide (bm_mt 3 z_X0_blame))
theorem u_X0_blame : f_X0_blame = bm_mt 3 z_X0_blame := Classical.choose_spec (bm_hide _)
theorem k_X0_blame (l : Launch) (g : bm_G) : bm_MetF l g yX0_blame cX0_blame 3 none 0 0 f_X0_blame := by
  rw [u_X0_blame]
  refine bm_met (by decide) ?_
  intro p e R s m args below meth c n0 s0 hx hb hml hown hts hK hr hlk hnm hF hL
  refine bm_cc (s_aload_n hx hb dX0_blame_0) ?_
  refine bm_cc (s_iload_n hx hb dX0_blame_1) ?_
  refine bm_cc (s_putI hx hb hown hts hK (C := RX0) (TT := TX0) (N := 7) (ci := 0) (j := 5) inT0 rfl (by decide) rfl (by decide) tyX0 tyX0_ok nmX0 rfl tw_522 rfl rfl (by decide +kernel) dX0_blame_2) ?_
  refine bm_cc (s_aload_n hx hb dX0_blame_5) ?_
  refine bm_cc (s_iload_n hx hb dX0_blame_6) ?_
  refine bm_cc (s_putI hx hb hown hts hK (C := RX0) (TT := TX0) (N := 7) (ci := 0) (j := 6) inT0 rfl (by decide) rfl (by decide) tyX0 tyX0_ok nmX0 rfl tw_523 rfl rfl (by decide +kernel) dX0_blame_7) ?_
  refine bm_cc (s_ret hx hb hr hlk dX0_blame_10) ?_
  exact bm_c9

noncomputable def z_X6_digitAt : List (Nat × bm_O) := [(0, op_aload 0), (1, op_iload 1), (2, op_call 1 2 (bm_rc 5) f_X6_signAt), (5, op_const (48)), (7, op_bin (fun a b => a - b)), (8, op_iret)]
noncomputable def f_X6_digitAt : bm_F := Classical.choose (bm_hide (bm_mt 2 z_X6_digitAt))
theorem u_X6_digitAt : f_X6_digitAt = bm_mt 2 z_X6_digitAt := Classical.choose_spec (bm_hide _)
theorem k_X6_digitAt (l : Launch) (g : bm_G) : bm_MetF l g yX6_digitAt cX6_digitAt 2 (some .int) 2 43 f_X6_digitAt := by
  rw [u_X6_digitAt]
  refine bm_met (by decide) ?_
  intro p e R s m args below meth c n0 s0 hx hb hml hown hts hK hr hlk hnm hF hL
  refine bm_cc (s_aload_n hx hb dX6_digitAt_0) ?_
  refine bm_cc (s_iload_n hx hb dX6_digitAt_1) ?_
  refine bm_cc (s_callV hx hb hml hown hts hK (C := RX6) (TT := TX6) (N := 2) (ci := 5) rfl (by decide) (k_X6_signAt l g) tw_519 tw_520 tw_521 tw_70 tw_518 ⟨by decide, by decide, by decide +kernel⟩ ⟨by rw [hF]; decide, by rw [hL]; decide⟩ dX6_digitAt_2) ?_
  refine bm_cc (s_bipush hx hb dX6_digitAt_5 (by decide)) ?_
  refine bm_cc (s_isub hx hb dX6_digitAt_7) ?_
  refine bm_cc (s_iret hx hb hr hlk dX6_digitAt_8) ?_
  exact bm_c9

noncomputable def z_X0_readVersion : List (Nat × bm_O) := [(0, op_aload 0), (1, op_const (0)), (2, op_putI 0 3), (5, op_aload 1), (6, op_const (0)), (7, op_call 1 2 (bm_rc 5) f_X6_hasDigitAt), (10, op_ifne 21), (13, op_aload 0), (14, op_const (0)), (15, op_const (1)), (16, op_call 0 3 (bm_rc 0) f_X0_blame), (19, op_const (0)), (20, op_iret), (21, op_aload 0), (22, op_aload 1), (23, op_const (0)), (24, op_call 1 2 (bm_rc 5) f_X6_digitAt), (27, op_putI 0 3), (30, op_const (1)), (31, op_istore 2), (32, op_aload 0), (33, op_getI 0 3), (36, op_ifeq 67), (39, op_aload 1), (40, op_iload 2), (41, op_call 1 2 (bm_rc 5) f_X6_hasDigitAt), (44, op_ifeq 67), (47, op_aload 0), (48, op_aload 0), (49, op_getI 0 3), (52, op_const (10)), (54, op_bin (fun a b => a * b)), (55, op_aload 1), (56, op_iload 2), (57, op_call 1 2 (bm_rc 5) f_X6_digitAt), (60, op_bin (fun a b => a + b)), (61, op_putI 0 3), (64, op_iinc 2 1), (67, op_aload 1), (68, op_iload 2), (69, op_call 1 2 (bm_rc 5) f_X6_signAt), (72, op_const (58)), (74, op_iceq 83), (77, op_aload 0), (78, op_iload 2), (79, op_const (1)), (80, op_call 0 3 (bm_rc 0) f_X0_blame), (83, op_iload 2), (84, op_const (1)), (85, op_bin (fun a b => a + b)), (86, op_iret)]
noncomputable def f_X0_readVersion : bm_F := Classical.choose (bm_hide (bm_mt 3 z_X0_readVersion))
theorem u_X0_readVersion : f_X0_readVersion = bm_mt 3 z_X0_readVersion := Classical.choose_spec (bm_hide _)
theorem k_X0_readVersion (l : Launch) (g : bm_G) : bm_MetF l g yX0_readVersion cX0_readVersion 3 (some .int) 3 64 f_X0_readVersion := by
  rw [u_X0_readVersion]
  refine bm_met (by decide) ?_
  intro p e R s m args below meth c n0 s0 hx hb hml hown hts hK hr hlk hnm hF hL
  refine bm_cc (s_aload_n hx hb dX0_readVersion_0) ?_
  refine bm_cc (s_iconst hx hb dX0_readVersion_1 (by decide)) ?_
  refine bm_cc (s_putI hx hb hown hts hK (C := RX0) (TT := TX0) (N := 7) (ci := 0) (j := 3) inT0 rfl (by decide) rfl (by decide) tyX0 tyX0_ok nmX0 rfl tw_524 rfl rfl (by decide +kernel) dX0_readVersion_2) ?_
  refine bm_cc (s_aload_n hx hb dX0_readVersion_5) ?_
  refine bm_cc (s_iconst hx hb dX0_readVersion_6 (by decide)) ?_
  refine bm_cc (s_callV hx hb hml hown hts hK (C := RX6) (TT := TX6) (N := 2) (ci := 5) rfl (by decide) (k_X6_hasDigitAt l g) tw_526 tw_527 tw_528 tw_70 tw_525 ⟨by decide, by decide, by decide +kernel⟩ ⟨by rw [hF]; decide, by rw [hL]; decide⟩ dX0_readVersion_7) ?_
  refine bm_cc (s_ifne hx hb dX0_readVersion_10 (by decide)) ?_
  refine bm_cc (s_aload_n hx hb dX0_readVersion_13) ?_
  refine bm_cc (s_iconst hx hb dX0_readVersion_14 (by decide)) ?_
  refine bm_cc (s_iconst hx hb dX0_readVersion_15 (by decide)) ?_
  refine bm_cc (s_callV hx hb hml hown hts hK (C := RX0) (TT := TX0) (N := 7) (ci := 0) rfl (by decide) (k_X0_blame l g) tw_530 tw_531 tw_532 tw_77 tw_529 ⟨by decide, by decide, by decide +kernel⟩ ⟨by rw [hF]; decide, by rw [hL]; decide⟩ dX0_readVersion_16) ?_
  refine bm_cc (s_iconst hx hb dX0_readVersion_19 (by decide)) ?_
  refine bm_cc (s_iret hx hb hr hlk dX0_readVersion_20) ?_
  refine bm_cc (s_aload_n hx hb dX0_readVersion_21) ?_
  refine bm_cc (s_aload_n hx hb dX0_readVersion_22) ?_
  refine bm_cc (s_iconst hx hb dX0_readVersion_23 (by decide)) ?_
  refine bm_cc (s_callV hx hb hml hown hts hK (C := RX6) (TT := TX6) (N := 2) (ci := 5) rfl (by decide) (k_X6_digitAt l g) tw_534 tw_535 tw_536 tw_70 tw_533 ⟨by decide, by decide, by decide +kernel⟩ ⟨by rw [hF]; decide, by rw [hL]; decide⟩ dX0_readVersion_24) ?_
  refine bm_cc (s_putI hx hb hown hts hK (C := RX0) (TT := TX0) (N := 7) (ci := 0) (j := 3) inT0 rfl (by decide) rfl (by decide) tyX0 tyX0_ok nmX0 rfl tw_524 rfl rfl (by decide +kernel) dX0_readVersion_27) ?_
  refine bm_cc (s_iconst hx hb dX0_readVersion_30 (by decide)) ?_
  refine bm_cc (s_istore_n hx hb dX0_readVersion_31) ?_
  refine bm_cc (s_aload_n hx hb dX0_readVersion_32) ?_
  refine bm_cc (s_getI hx hb hown hts hK (C := RX0) (TT := TX0) (N := 7) (ci := 0) (j := 3) inT0 rfl (by decide) rfl (by decide) rfl tw_524 rfl dX0_readVersion_33) ?_
  refine bm_cc (s_ifeq hx hb dX0_readVersion_36 (by decide)) ?_
  refine bm_cc (s_aload_n hx hb dX0_readVersion_39) ?_
  refine bm_cc (s_iload_n hx hb dX0_readVersion_40) ?_
  refine bm_cc (s_callV hx hb hml hown hts hK (C := RX6) (TT := TX6) (N := 2) (ci := 5) rfl (by decide) (k_X6_hasDigitAt l g) tw_526 tw_527 tw_528 tw_70 tw_525 ⟨by decide, by decide, by decide +kernel⟩ ⟨by rw [hF]; decide, by rw [hL]; decide⟩ dX0_readVersion_41) ?_
  refine bm_cc (s_ifeq hx hb dX0_readVersion_44 (by decide)) ?_
  refine bm_cc (s_aload_n hx hb dX0_readVersion_47) ?_
  refine bm_cc (s_aload_n hx hb dX0_readVersion_48) ?_
  refine bm_cc (s_getI hx hb hown hts hK (C := RX0) (TT := TX0) (N := 7) (ci := 0) (j := 3) inT0 rfl (by decide) rfl (by decide) rfl tw_524 rfl dX0_readVersion_49) ?_
  refine bm_cc (s_bipush hx hb dX0_readVersion_52 (by decide)) ?_
  refine bm_cc (s_imul hx hb dX0_readVersion_54) ?_
  refine bm_cc (s_aload_n hx hb dX0_readVersion_55) ?_
  refine bm_cc (s_iload_n hx hb dX0_readVersion_56) ?_
  refine bm_cc (s_callV hx hb hml hown hts hK (C := RX6) (TT := TX6) (N := 2) (ci := 5) rfl (by decide) (k_X6_digitAt l g) tw_534 tw_535 tw_536 tw_70 tw_533 ⟨by decide, by decide, by decide +kernel⟩ ⟨by rw [hF]; decide, by rw [hL]; decide⟩ dX0_readVersion_57) ?_
  refine bm_cc (s_iadd hx hb dX0_readVersion_60) ?_
  refine bm_cc (s_putI hx hb hown hts hK (C := RX0) (TT := TX0) (N := 7) (ci := 0) (j := 3) inT0 rfl (by decide) rfl (by decide) tyX0 tyX0_ok nmX0 rfl tw_524 rfl rfl (by decide +kernel) dX0_readVersion_61) ?_
  refine bm_cc (s_iinc hx hb dX0_readVersion_64 (by decide)) ?_
  refine bm_cc (s_aload_n hx hb dX0_readVersion_67) ?_
  refine bm_cc (s_iload_n hx hb dX0_readVersion_68) ?_
  refine bm_cc (s_callV hx hb hml hown hts hK (C := RX6) (TT := TX6) (N := 2) (ci := 5) rfl (by decide) (k_X6_signAt l g) tw_537 tw_520 tw_521 tw_70 tw_518 ⟨by decide, by decide, by decide +kernel⟩ ⟨by rw [hF]; decide, by rw [hL]; decide⟩ dX0_readVersion_69) ?_
  refine bm_cc (s_bipush hx hb dX0_readVersion_72 (by decide)) ?_
  refine bm_cc (s_iceq hx hb dX0_readVersion_74 (by decide)) ?_
  refine bm_cc (s_aload_n hx hb dX0_readVersion_77) ?_
  refine bm_cc (s_iload_n hx hb dX0_readVersion_78) ?_
  refine bm_cc (s_iconst hx hb dX0_readVersion_79 (by decide)) ?_
  refine bm_cc (s_callV hx hb hml hown hts hK (C := RX0) (TT := TX0) (N := 7) (ci := 0) rfl (by decide) (k_X0_blame l g) tw_530 tw_531 tw_532 tw_77 tw_529 ⟨by decide, by decide, by decide +kernel⟩ ⟨by rw [hF]; decide, by rw [hL]; decide⟩ dX0_readVersion_80) ?_
  refine bm_cc (s_iload_n hx hb dX0_readVersion_83) ?_
  refine bm_cc (s_iconst hx hb dX0_readVersion_84 (by decide)) ?_
  refine bm_cc (s_iadd hx hb dX0_readVersion_85) ?_
  refine bm_cc (s_iret hx hb hr hlk dX0_readVersion_86) ?_
  exact bm_c9

noncomputable def z_X0_noteMark : List (Nat × bm_O) := [(0, op_aload 0), (1, op_getR 0 2), (4, op_aload 0), (5, op_getI 0 4), (8, op_iload 1), (9, op_call 0 3 bm_c0 f_X4_put), (12, op_aload 0), (13, op_getR 0 0), (16, op_aload 0), (17, op_getI 0 4), (20, op_iload 2), (21, op_call 0 3 bm_c0 f_X4_put), (24, op_aload 0), (25, op_getR 0 1), (28, op_aload 0), (29, op_getI 0 4), (32, op_iload 3), (33, op_call 0 3 bm_c0 f_X4_put), (36, op_aload 0), (37, op_dup), (38, op_getI 0 4), (41, op_const (1)), (42, op_bin (fun a b => a + b)), (43, op_putI 0 4), (46, op_ret)]
noncomputable def f_X0_noteMark : bm_F := Classical.choose (bm_hide (bm_mt 4 z_X0_noteMark))
theorem u_X0_noteMark : f_X0_noteMark = bm_mt 4 z_X0_noteMark := Classical.choose_spec (bm_hide _)
theorem k_X0_noteMark (l : Launch) (g : bm_G) : bm_MetF l g yX0_noteMark cX0_noteMark 4 none 1 22 f_X0_noteMark := by
  rw [u_X0_noteMark]
  refine bm_met (by decide) ?_
  intro p e R s m args below meth c n0 s0 hx hb hml hown hts hK hr hlk hnm hF hL
  refine bm_cc (s_aload_n hx hb dX0_noteMark_0) ?_
  refine bm_cc (s_getR hx hb hown hts hK (C := RX0) (TT := TX0) (N := 7) (ci := 0) (j := 2) inT0 rfl (by decide) rfl (by decide) rfl tw_42 rfl dX0_noteMark_1) ?_
  refine bm_cc (s_aload_n hx hb dX0_noteMark_4) ?_
  refine bm_cc (s_getI hx hb hown hts hK (C := RX0) (TT := TX0) (N := 7) (ci := 0) (j := 4) inT0 rfl (by decide) rfl (by decide) rfl tw_538 rfl dX0_noteMark_5) ?_
  refine bm_cc (s_iload_n hx hb dX0_noteMark_8) ?_
  refine bm_cc (s_callS hx hb hml hown hts hK (k_X4_put l g) tw_539 tw_105 tw_18 tw_103 ⟨by decide, by decide, by decide +kernel⟩ ⟨by rw [hF]; decide, by rw [hL]; decide⟩ dX0_noteMark_9) ?_
  refine bm_cc (s_aload_n hx hb dX0_noteMark_12) ?_
  refine bm_cc (s_getR hx hb hown hts hK (C := RX0) (TT := TX0) (N := 7) (ci := 0) (j := 0) inT0 rfl (by decide) rfl (by decide) rfl tw_40 rfl dX0_noteMark_13) ?_
  refine bm_cc (s_aload_n hx hb dX0_noteMark_16) ?_
  refine bm_cc (s_getI hx hb hown hts hK (C := RX0) (TT := TX0) (N := 7) (ci := 0) (j := 4) inT0 rfl (by decide) rfl (by decide) rfl tw_538 rfl dX0_noteMark_17) ?_
  refine bm_cc (s_iload_n hx hb dX0_noteMark_20) ?_
  refine bm_cc (s_callS hx hb hml hown hts hK (k_X4_put l g) tw_539 tw_105 tw_18 tw_103 ⟨by decide, by decide, by decide +kernel⟩ ⟨by rw [hF]; decide, by rw [hL]; decide⟩ dX0_noteMark_21) ?_
  refine bm_cc (s_aload_n hx hb dX0_noteMark_24) ?_
  refine bm_cc (s_getR hx hb hown hts hK (C := RX0) (TT := TX0) (N := 7) (ci := 0) (j := 1) inT0 rfl (by decide) rfl (by decide) rfl tw_41 rfl dX0_noteMark_25) ?_
  refine bm_cc (s_aload_n hx hb dX0_noteMark_28) ?_
  refine bm_cc (s_getI hx hb hown hts hK (C := RX0) (TT := TX0) (N := 7) (ci := 0) (j := 4) inT0 rfl (by decide) rfl (by decide) rfl tw_538 rfl dX0_noteMark_29) ?_
  refine bm_cc (s_iload_n hx hb dX0_noteMark_32) ?_
  refine bm_cc (s_callS hx hb hml hown hts hK (k_X4_put l g) tw_539 tw_105 tw_18 tw_103 ⟨by decide, by decide, by decide +kernel⟩ ⟨by rw [hF]; decide, by rw [hL]; decide⟩ dX0_noteMark_33) ?_
  refine bm_cc (s_aload_n hx hb dX0_noteMark_36) ?_
  refine bm_cc (s_dup hx hb dX0_noteMark_37) ?_
  refine bm_cc (s_getI hx hb hown hts hK (C := RX0) (TT := TX0) (N := 7) (ci := 0) (j := 4) inT0 rfl (by decide) rfl (by decide) rfl tw_538 rfl dX0_noteMark_38) ?_
  refine bm_cc (s_iconst hx hb dX0_noteMark_41 (by decide)) ?_
  refine bm_cc (s_iadd hx hb dX0_noteMark_42) ?_
  refine bm_cc (s_putI hx hb hown hts hK (C := RX0) (TT := TX0) (N := 7) (ci := 0) (j := 4) inT0 rfl (by decide) rfl (by decide) tyX0 tyX0_ok nmX0 rfl tw_538 rfl rfl (by decide +kernel) dX0_noteMark_43) ?_
  refine bm_cc (s_ret hx hb hr hlk dX0_noteMark_46) ?_
  exact bm_c9

noncomputable def z_X0_readMarks : List (Nat × bm_O) := [(0, op_iload 2), (1, op_aload 1), (2, op_call 1 1 (bm_rc 5) f_X6_length), (5, op_icne 9), (8, op_ret), (9, op_iload 2), (10, op_istore 3), (11, op_iload 3), (12, op_aload 1), (13, op_call 1 1 (bm_rc 5) f_X6_length), (16, op_icge 118), (19, op_aload 1), (20, op_iload 3), (21, op_call 1 2 (bm_rc 5) f_X6_signAt), (24, op_const (97)), (26, op_const (102)), (28, op_call 1 3 bm_c0 f_X7_within), (31, op_ifne 41), (34, op_aload 0), (35, op_iload 3), (36, op_const (1)), (37, op_call 0 3 (bm_rc 0) f_X0_blame), (40, op_ret), (41, op_aload 1), (42, op_iload 3), (43, op_const (1)), (44, op_bin (fun a b => a + b)), (45, op_call 1 2 (bm_rc 5) f_X6_hasDigitAt), (48, op_ifne 60), (51, op_aload 0), (52, op_iload 3), (53, op_const (1)), (54, op_bin (fun a b => a + b)), (55, op_const (1)), (56, op_call 0 3 (bm_rc 0) f_X0_blame), (59, op_ret), (60, op_aload 0), (61, op_iload 3), (62, op_aload 1), (63, op_iload 3), (64, op_call 1 2 (bm_rc 5) f_X6_signAt), (67, op_const (97)), (69, op_bin (fun a b => a - b)), (70, op_aload 1), (71, op_iload 3), (72, op_const (1)), (73, op_bin (fun a b => a + b)), (74, op_call 1 2 (bm_rc 5) f_X6_digitAt), (77, op_call 0 4 (bm_rc 0) f_X0_noteMark), (80, op_iload 3), (81, op_const (2)), (82, op_bin (fun a b => a + b)), (83, op_aload 1), (84, op_call 1 1 (bm_rc 5) f_X6_length), (87, op_icne 91), (90, op_ret), (91, op_aload 1), (92, op_iload 3), (93, op_const (2)), (94, op_bin (fun a b => a + b)), (95, op_call 1 2 (bm_rc 5) f_X6_signAt), (98, op_const (44)), (100, op_iceq 112), (103, op_aload 0), (104, op_iload 3), (105, op_const (2)), (106, op_bin (fun a b => a + b)), (107, op_const (1)), (108, op_call 0 3 (bm_rc 0) f_X0_blame), (111, op_ret), (112, op_iinc 3 3), (115, op_goto 11), (118, op_aload 0), (119, op_aload 1), (120, op_call 1 1 (bm_rc 5) f_X6_length), (123, op_const (1)), (124, op_call 0 3 (bm_rc 0) f_X0_blame), (127, op_ret)]
noncomputable def f_X0_readMarks : bm_F := Classical.choose (bm_hide (bm_mt 4 z_X0_readMarks))
theorem u_X0_readMarks : f_X0_readMarks = bm_mt 4 z_X0_readMarks := Classical.choose_spec (bm_hide _)
theorem k_X0_readMarks (l : Launch) (g : bm_G) : bm_MetF l g yX0_readMarks cX0_readMarks 4 none 3 64 f_X0_readMarks := by
  rw [u_X0_readMarks]
  refine bm_met (by decide) ?_
  intro p e R s m args below meth c n0 s0 hx hb hml hown hts hK hr hlk hnm hF hL
  refine bm_cc (s_iload_n hx hb dX0_readMarks_0) ?_
  refine bm_cc (s_aload_n hx hb dX0_readMarks_1) ?_
  refine bm_cc (s_callV hx hb hml hown hts hK (C := RX6) (TT := TX6) (N := 2) (ci := 5) rfl (by decide) (k_X6_length l g) tw_540 tw_319 tw_320 tw_70 tw_317 ⟨by decide, by decide, by decide +kernel⟩ ⟨by rw [hF]; decide, by rw [hL]; decide⟩ dX0_readMarks_2) ?_
  refine bm_cc (s_icne hx hb dX0_readMarks_5 (by decide)) ?_
  refine bm_cc (s_ret hx hb hr hlk dX0_readMarks_8) ?_
  refine bm_cc (s_iload_n hx hb dX0_readMarks_9) ?_
  refine bm_cc (s_istore_n hx hb dX0_readMarks_10) ?_
  refine bm_cc (s_iload_n hx hb dX0_readMarks_11) ?_
  refine bm_cc (s_aload_n hx hb dX0_readMarks_12) ?_
  refine bm_cc (s_callV hx hb hml hown hts hK (C := RX6) (TT := TX6) (N := 2) (ci := 5) rfl (by decide) (k_X6_length l g) tw_540 tw_319 tw_320 tw_70 tw_317 ⟨by decide, by decide, by decide +kernel⟩ ⟨by rw [hF]; decide, by rw [hL]; decide⟩ dX0_readMarks_13) ?_
  refine bm_cc (s_icge hx hb dX0_readMarks_16 (by decide)) ?_
  refine bm_cc (s_aload_n hx hb dX0_readMarks_19) ?_
  refine bm_cc (s_iload_n hx hb dX0_readMarks_20) ?_
  refine bm_cc (s_callV hx hb hml hown hts hK (C := RX6) (TT := TX6) (N := 2) (ci := 5) rfl (by decide) (k_X6_signAt l g) tw_537 tw_520 tw_521 tw_70 tw_518 ⟨by decide, by decide, by decide +kernel⟩ ⟨by rw [hF]; decide, by rw [hL]; decide⟩ dX0_readMarks_21) ?_
  refine bm_cc (s_bipush hx hb dX0_readMarks_24 (by decide)) ?_
  refine bm_cc (s_bipush hx hb dX0_readMarks_26 (by decide)) ?_
  refine bm_cc (s_callSN hx hb hml hown hts hK (k_X7_within l g) (hK.2.2.2.2.1 _ (List.mem_of_getElem? (i := 3) rfl)) tw_109 tw_106 tw_107 ⟨by decide, by decide, by decide +kernel⟩ ⟨by rw [hF]; decide, by rw [hL]; decide⟩ dX0_readMarks_28) ?_
  refine bm_cc (s_ifne hx hb dX0_readMarks_31 (by decide)) ?_
  refine bm_cc (s_aload_n hx hb dX0_readMarks_34) ?_
  refine bm_cc (s_iload_n hx hb dX0_readMarks_35) ?_
  refine bm_cc (s_iconst hx hb dX0_readMarks_36 (by decide)) ?_
  refine bm_cc (s_callV hx hb hml hown hts hK (C := RX0) (TT := TX0) (N := 7) (ci := 0) rfl (by decide) (k_X0_blame l g) tw_530 tw_531 tw_532 tw_77 tw_529 ⟨by decide, by decide, by decide +kernel⟩ ⟨by rw [hF]; decide, by rw [hL]; decide⟩ dX0_readMarks_37) ?_
  refine bm_cc (s_ret hx hb hr hlk dX0_readMarks_40) ?_
  refine bm_cc (s_aload_n hx hb dX0_readMarks_41) ?_
  refine bm_cc (s_iload_n hx hb dX0_readMarks_42) ?_
  refine bm_cc (s_iconst hx hb dX0_readMarks_43 (by decide)) ?_
  refine bm_cc (s_iadd hx hb dX0_readMarks_44) ?_
  refine bm_cc (s_callV hx hb hml hown hts hK (C := RX6) (TT := TX6) (N := 2) (ci := 5) rfl (by decide) (k_X6_hasDigitAt l g) tw_526 tw_527 tw_528 tw_70 tw_525 ⟨by decide, by decide, by decide +kernel⟩ ⟨by rw [hF]; decide, by rw [hL]; decide⟩ dX0_readMarks_45) ?_
  refine bm_cc (s_ifne hx hb dX0_readMarks_48 (by decide)) ?_
  refine bm_cc (s_aload_n hx hb dX0_readMarks_51) ?_
  refine bm_cc (s_iload_n hx hb dX0_readMarks_52) ?_
  refine bm_cc (s_iconst hx hb dX0_readMarks_53 (by decide)) ?_
  refine bm_cc (s_iadd hx hb dX0_readMarks_54) ?_
  refine bm_cc (s_iconst hx hb dX0_readMarks_55 (by decide)) ?_
  refine bm_cc (s_callV hx hb hml hown hts hK (C := RX0) (TT := TX0) (N := 7) (ci := 0) rfl (by decide) (k_X0_blame l g) tw_530 tw_531 tw_532 tw_77 tw_529 ⟨by decide, by decide, by decide +kernel⟩ ⟨by rw [hF]; decide, by rw [hL]; decide⟩ dX0_readMarks_56) ?_
  refine bm_cc (s_ret hx hb hr hlk dX0_readMarks_59) ?_
  refine bm_cc (s_aload_n hx hb dX0_readMarks_60) ?_
  refine bm_cc (s_iload_n hx hb dX0_readMarks_61) ?_
  refine bm_cc (s_aload_n hx hb dX0_readMarks_62) ?_
  refine bm_cc (s_iload_n hx hb dX0_readMarks_63) ?_
  refine bm_cc (s_callV hx hb hml hown hts hK (C := RX6) (TT := TX6) (N := 2) (ci := 5) rfl (by decide) (k_X6_signAt l g) tw_537 tw_520 tw_521 tw_70 tw_518 ⟨by decide, by decide, by decide +kernel⟩ ⟨by rw [hF]; decide, by rw [hL]; decide⟩ dX0_readMarks_64) ?_
  refine bm_cc (s_bipush hx hb dX0_readMarks_67 (by decide)) ?_
  refine bm_cc (s_isub hx hb dX0_readMarks_69) ?_
  refine bm_cc (s_aload_n hx hb dX0_readMarks_70) ?_
  refine bm_cc (s_iload_n hx hb dX0_readMarks_71) ?_
  refine bm_cc (s_iconst hx hb dX0_readMarks_72 (by decide)) ?_
  refine bm_cc (s_iadd hx hb dX0_readMarks_73) ?_
  refine bm_cc (s_callV hx hb hml hown hts hK (C := RX6) (TT := TX6) (N := 2) (ci := 5) rfl (by decide) (k_X6_digitAt l g) tw_534 tw_535 tw_536 tw_70 tw_533 ⟨by decide, by decide, by decide +kernel⟩ ⟨by rw [hF]; decide, by rw [hL]; decide⟩ dX0_readMarks_74) ?_
  refine bm_cc (s_callV hx hb hml hown hts hK (C := RX0) (TT := TX0) (N := 7) (ci := 0) rfl (by decide) (k_X0_noteMark l g) tw_542 tw_543 tw_544 tw_77 tw_541 ⟨by decide, by decide, by decide +kernel⟩ ⟨by rw [hF]; decide, by rw [hL]; decide⟩ dX0_readMarks_77) ?_
  refine bm_cc (s_iload_n hx hb dX0_readMarks_80) ?_
  refine bm_cc (s_iconst hx hb dX0_readMarks_81 (by decide)) ?_
  refine bm_cc (s_iadd hx hb dX0_readMarks_82) ?_
  refine bm_cc (s_aload_n hx hb dX0_readMarks_83) ?_
  refine bm_cc (s_callV hx hb hml hown hts hK (C := RX6) (TT := TX6) (N := 2) (ci := 5) rfl (by decide) (k_X6_length l g) tw_540 tw_319 tw_320 tw_70 tw_317 ⟨by decide, by decide, by decide +kernel⟩ ⟨by rw [hF]; decide, by rw [hL]; decide⟩ dX0_readMarks_84) ?_
  refine bm_cc (s_icne hx hb dX0_readMarks_87 (by decide)) ?_
  refine bm_cc (s_ret hx hb hr hlk dX0_readMarks_90) ?_
  refine bm_cc (s_aload_n hx hb dX0_readMarks_91) ?_
  refine bm_cc (s_iload_n hx hb dX0_readMarks_92) ?_
  refine bm_cc (s_iconst hx hb dX0_readMarks_93 (by decide)) ?_
  refine bm_cc (s_iadd hx hb dX0_readMarks_94) ?_
  refine bm_cc (s_callV hx hb hml hown hts hK (C := RX6) (TT := TX6) (N := 2) (ci := 5) rfl (by decide) (k_X6_signAt l g) tw_537 tw_520 tw_521 tw_70 tw_518 ⟨by decide, by decide, by decide +kernel⟩ ⟨by rw [hF]; decide, by rw [hL]; decide⟩ dX0_readMarks_95) ?_
  refine bm_cc (s_bipush hx hb dX0_readMarks_98 (by decide)) ?_
  refine bm_cc (s_iceq hx hb dX0_readMarks_100 (by decide)) ?_
  refine bm_cc (s_aload_n hx hb dX0_readMarks_103) ?_
  refine bm_cc (s_iload_n hx hb dX0_readMarks_104) ?_
  refine bm_cc (s_iconst hx hb dX0_readMarks_105 (by decide)) ?_
  refine bm_cc (s_iadd hx hb dX0_readMarks_106) ?_
  refine bm_cc (s_iconst hx hb dX0_readMarks_107 (by decide)) ?_
  refine bm_cc (s_callV hx hb hml hown hts hK (C := RX0) (TT := TX0) (N := 7) (ci := 0) rfl (by decide) (k_X0_blame l g) tw_530 tw_531 tw_532 tw_77 tw_529 ⟨by decide, by decide, by decide +kernel⟩ ⟨by rw [hF]; decide, by rw [hL]; decide⟩ dX0_readMarks_108) ?_
  refine bm_cc (s_ret hx hb hr hlk dX0_readMarks_111) ?_
  refine bm_cc (s_iinc hx hb dX0_readMarks_112 (by decide)) ?_
  refine bm_cc (s_goto hx hb dX0_readMarks_115 (by decide)) ?_
  refine bm_cc (s_aload_n hx hb dX0_readMarks_118) ?_
  refine bm_cc (s_aload_n hx hb dX0_readMarks_119) ?_
  refine bm_cc (s_callV hx hb hml hown hts hK (C := RX6) (TT := TX6) (N := 2) (ci := 5) rfl (by decide) (k_X6_length l g) tw_540 tw_319 tw_320 tw_70 tw_317 ⟨by decide, by decide, by decide +kernel⟩ ⟨by rw [hF]; decide, by rw [hL]; decide⟩ dX0_readMarks_120) ?_
  refine bm_cc (s_iconst hx hb dX0_readMarks_123 (by decide)) ?_
  refine bm_cc (s_callV hx hb hml hown hts hK (C := RX0) (TT := TX0) (N := 7) (ci := 0) rfl (by decide) (k_X0_blame l g) tw_530 tw_531 tw_532 tw_77 tw_529 ⟨by decide, by decide, by decide +kernel⟩ ⟨by rw [hF]; decide, by rw [hL]; decide⟩ dX0_readMarks_124) ?_
  refine bm_cc (s_ret hx hb hr hlk dX0_readMarks_127) ?_
  exact bm_c9

noncomputable def z_X0_nameOfMark : List (Nat × bm_O) := [(0, op_aload 0), (1, op_getR 0 0), (4, op_iload 2), (5, op_call 1 2 bm_c0 f_X4_get), (8, op_istore 3), (9, op_aload 1), (10, op_aload 0), (11, op_getI 0 3), (14, op_iload 3), (15, op_aload 0), (16, op_getR 0 1), (19, op_iload 2), (20, op_call 1 2 bm_c0 f_X4_get), (23, op_call 1 4 (bm_rc 3) f_X3_nameAt), (26, op_iret)]
noncomputable def f_X0_nameOfMark : bm_F := Classical.choose (bm_hide (bm_mt 4 z_X0_nameOfMark))
theorem u_X0_nameOfMark : f_X0_nameOfMark = bm_mt 4 z_X0_nameOfMark := Classical.choose_spec (bm_hide _)
theorem k_X0_nameOfMark (l : Launch) (g : bm_G) : bm_MetF l g yX0_nameOfMark cX0_nameOfMark 4 (some .int) 3 68 f_X0_nameOfMark := by
  rw [u_X0_nameOfMark]
  refine bm_met (by decide) ?_
  intro p e R s m args below meth c n0 s0 hx hb hml hown hts hK hr hlk hnm hF hL
  refine bm_cc (s_aload_n hx hb dX0_nameOfMark_0) ?_
  refine bm_cc (s_getR hx hb hown hts hK (C := RX0) (TT := TX0) (N := 7) (ci := 0) (j := 0) inT0 rfl (by decide) rfl (by decide) rfl tw_40 rfl dX0_nameOfMark_1) ?_
  refine bm_cc (s_iload_n hx hb dX0_nameOfMark_4) ?_
  refine bm_cc (s_callS hx hb hml hown hts hK (k_X4_get l g) tw_545 tw_133 tw_18 tw_131 ⟨by decide, by decide, by decide +kernel⟩ ⟨by rw [hF]; decide, by rw [hL]; decide⟩ dX0_nameOfMark_5) ?_
  refine bm_cc (s_istore_n hx hb dX0_nameOfMark_8) ?_
  refine bm_cc (s_aload_n hx hb dX0_nameOfMark_9) ?_
  refine bm_cc (s_aload_n hx hb dX0_nameOfMark_10) ?_
  refine bm_cc (s_getI hx hb hown hts hK (C := RX0) (TT := TX0) (N := 7) (ci := 0) (j := 3) inT0 rfl (by decide) rfl (by decide) rfl tw_524 rfl dX0_nameOfMark_11) ?_
  refine bm_cc (s_iload_n hx hb dX0_nameOfMark_14) ?_
  refine bm_cc (s_aload_n hx hb dX0_nameOfMark_15) ?_
  refine bm_cc (s_getR hx hb hown hts hK (C := RX0) (TT := TX0) (N := 7) (ci := 0) (j := 1) inT0 rfl (by decide) rfl (by decide) rfl tw_41 rfl dX0_nameOfMark_16) ?_
  refine bm_cc (s_iload_n hx hb dX0_nameOfMark_19) ?_
  refine bm_cc (s_callS hx hb hml hown hts hK (k_X4_get l g) tw_545 tw_133 tw_18 tw_131 ⟨by decide, by decide, by decide +kernel⟩ ⟨by rw [hF]; decide, by rw [hL]; decide⟩ dX0_nameOfMark_20) ?_
  refine bm_cc (s_callV hx hb hml hown hts hK (C := RX3) (TT := TX3) (N := 12) (ci := 3) rfl (by decide) (k_X3_nameAt l g) tw_546 tw_252 tw_253 tw_26 tw_250 ⟨by decide, by decide, by decide +kernel⟩ ⟨by rw [hF]; decide, by rw [hL]; decide⟩ dX0_nameOfMark_23) ?_
  refine bm_cc (s_iret hx hb hr hlk dX0_nameOfMark_26) ?_
  exact bm_c9

noncomputable def z_X0_standsAhead : List (Nat × bm_O) := [(0, op_const (0)), (1, op_istore 2), (2, op_iload 2), (3, op_iload 1), (4, op_icge 53), (7, op_aload 0), (8, op_getR 0 0), (11, op_iload 2), (12, op_call 1 2 bm_c0 f_X4_get), (15, op_aload 0), (16, op_getR 0 0), (19, op_iload 1), (20, op_call 1 2 bm_c0 f_X4_get), (23, op_icne 47), (26, op_aload 0), (27, op_getR 0 1), (30, op_iload 2), (31, op_call 1 2 bm_c0 f_X4_get), (34, op_aload 0), (35, op_getR 0 1), (38, op_iload 1), (39, op_call 1 2 bm_c0 f_X4_get), (42, op_icne 47), (45, op_const (1)), (46, op_zret), (47, op_iinc 2 1), (50, op_goto 2), (53, op_const (0)), (54, op_zret)]
noncomputable def f_X0_standsAhead : bm_F := Classical.choose (bm_hide (bm_mt 3 z_X0_standsAhead))
theorem u_X0_standsAhead : f_X0_standsAhead = bm_mt 3 z_X0_standsAhead := Classical.choose_spec (bm_hide _)
theorem k_X0_standsAhead (l : Launch) (g : bm_G) : bm_MetF l g yX0_standsAhead cX0_standsAhead 3 (some .boolean) 1 21 f_X0_standsAhead := by
  rw [u_X0_standsAhead]
  refine bm_met (by decide) ?_
  intro p e R s m args below meth c n0 s0 hx hb hml hown hts hK hr hlk hnm hF hL
  refine bm_cc (s_iconst hx hb dX0_standsAhead_0 (by decide)) ?_
  refine bm_cc (s_istore_n hx hb dX0_standsAhead_1) ?_
  refine bm_cc (s_iload_n hx hb dX0_standsAhead_2) ?_
  refine bm_cc (s_iload_n hx hb dX0_standsAhead_3) ?_
  refine bm_cc (s_icge hx hb dX0_standsAhead_4 (by decide)) ?_
  refine bm_cc (s_aload_n hx hb dX0_standsAhead_7) ?_
  refine bm_cc (s_getR hx hb hown hts hK (C := RX0) (TT := TX0) (N := 7) (ci := 0) (j := 0) inT0 rfl (by decide) rfl (by decide) rfl tw_40 rfl dX0_standsAhead_8) ?_
  refine bm_cc (s_iload_n hx hb dX0_standsAhead_11) ?_
  refine bm_cc (s_callS hx hb hml hown hts hK (k_X4_get l g) tw_545 tw_133 tw_18 tw_131 ⟨by decide, by decide, by decide +kernel⟩ ⟨by rw [hF]; decide, by rw [hL]; decide⟩ dX0_standsAhead_12) ?_
  refine bm_cc (s_aload_n hx hb dX0_standsAhead_15) ?_
  refine bm_cc (s_getR hx hb hown hts hK (C := RX0) (TT := TX0) (N := 7) (ci := 0) (j := 0) inT0 rfl (by decide) rfl (by decide) rfl tw_40 rfl dX0_standsAhead_16) ?_
  refine bm_cc (s_iload_n hx hb dX0_standsAhead_19) ?_
  refine bm_cc (s_callS hx hb hml hown hts hK (k_X4_get l g) tw_545 tw_133 tw_18 tw_131 ⟨by decide, by decide, by decide +kernel⟩ ⟨by rw [hF]; decide, by rw [hL]; decide⟩ dX0_standsAhead_20) ?_
  refine bm_cc (s_icne hx hb dX0_standsAhead_23 (by decide)) ?_
  refine bm_cc (s_aload_n hx hb dX0_standsAhead_26) ?_
  refine bm_cc (s_getR hx hb hown hts hK (C := RX0) (TT := TX0) (N := 7) (ci := 0) (j := 1) inT0 rfl (by decide) rfl (by decide) rfl tw_41 rfl dX0_standsAhead_27) ?_
  refine bm_cc (s_iload_n hx hb dX0_standsAhead_30) ?_
  refine bm_cc (s_callS hx hb hml hown hts hK (k_X4_get l g) tw_545 tw_133 tw_18 tw_131 ⟨by decide, by decide, by decide +kernel⟩ ⟨by rw [hF]; decide, by rw [hL]; decide⟩ dX0_standsAhead_31) ?_
  refine bm_cc (s_aload_n hx hb dX0_standsAhead_34) ?_
  refine bm_cc (s_getR hx hb hown hts hK (C := RX0) (TT := TX0) (N := 7) (ci := 0) (j := 1) inT0 rfl (by decide) rfl (by decide) rfl tw_41 rfl dX0_standsAhead_35) ?_
  refine bm_cc (s_iload_n hx hb dX0_standsAhead_38) ?_
  refine bm_cc (s_callS hx hb hml hown hts hK (k_X4_get l g) tw_545 tw_133 tw_18 tw_131 ⟨by decide, by decide, by decide +kernel⟩ ⟨by rw [hF]; decide, by rw [hL]; decide⟩ dX0_standsAhead_39) ?_
  refine bm_cc (s_icne hx hb dX0_standsAhead_42 (by decide)) ?_
  refine bm_cc (s_iconst hx hb dX0_standsAhead_45 (by decide)) ?_
  refine bm_cc (s_zret hx hb hr hlk dX0_standsAhead_46) ?_
  refine bm_cc (s_iinc hx hb dX0_standsAhead_47 (by decide)) ?_
  refine bm_cc (s_goto hx hb dX0_standsAhead_50 (by decide)) ?_
  refine bm_cc (s_iconst hx hb dX0_standsAhead_53 (by decide)) ?_
  refine bm_cc (s_zret hx hb hr hlk dX0_standsAhead_54) ?_
  exact bm_c9

noncomputable def z_X0_judge : List (Nat × bm_O) := [(0, op_aload 1), (1, op_aload 0), (2, op_getI 0 3), (5, op_call 1 2 (bm_rc 3) f_X3_hasVersion), (8, op_ifne 18), (11, op_aload 0), (12, op_const (0)), (13, op_const (2)), (14, op_call 0 3 (bm_rc 0) f_X0_blame), (17, op_ret), (18, op_const (0)), (19, op_istore 2), (20, op_iload 2), (21, op_aload 0), (22, op_getI 0 4), (25, op_icge 80), (28, op_aload 0), (29, op_aload 1), (30, op_iload 2), (31, op_call 1 3 (bm_rc 0) f_X0_nameOfMark), (34, op_const (-1)), (35, op_icne 52), (38, op_aload 0), (39, op_aload 0), (40, op_getR 0 2), (43, op_iload 2), (44, op_call 1 2 bm_c0 f_X4_get), (47, op_const (3)), (48, op_call 0 3 (bm_rc 0) f_X0_blame), (51, op_ret), (52, op_aload 0), (53, op_iload 2), (54, op_call 1 2 (bm_rc 0) f_X0_standsAhead), (57, op_ifeq 74), (60, op_aload 0), (61, op_aload 0), (62, op_getR 0 2), (65, op_iload 2), (66, op_call 1 2 bm_c0 f_X4_get), (69, op_const (4)), (70, op_call 0 3 (bm_rc 0) f_X0_blame), (73, op_ret), (74, op_iinc 2 1), (77, op_goto 20), (80, op_ret)]
noncomputable def f_X0_judge : bm_F := Classical.choose (bm_hide (bm_mt 3 z_X0_judge))
theorem u_X0_judge : f_X0_judge = bm_mt 3 z_X0_judge := Classical.choose_spec (bm_hide _)
theorem k_X0_judge (l : Launch) (g : bm_G) : bm_MetF l g yX0_judge cX0_judge 3 none 4 91 f_X0_judge := by
  rw [u_X0_judge]
  refine bm_met (by decide) ?_
  intro p e R s m args below meth c n0 s0 hx hb hml hown hts hK hr hlk hnm hF hL
  refine bm_cc (s_aload_n hx hb dX0_judge_0) ?_
  refine bm_cc (s_aload_n hx hb dX0_judge_1) ?_
  refine bm_cc (s_getI hx hb hown hts hK (C := RX0) (TT := TX0) (N := 7) (ci := 0) (j := 3) inT0 rfl (by decide) rfl (by decide) rfl tw_524 rfl dX0_judge_2) ?_
  refine bm_cc (s_callV hx hb hml hown hts hK (C := RX3) (TT := TX3) (N := 12) (ci := 3) rfl (by decide) (k_X3_hasVersion l g) tw_547 tw_185 tw_186 tw_26 tw_183 ⟨by decide, by decide, by decide +kernel⟩ ⟨by rw [hF]; decide, by rw [hL]; decide⟩ dX0_judge_5) ?_
  refine bm_cc (s_ifne hx hb dX0_judge_8 (by decide)) ?_
  refine bm_cc (s_aload_n hx hb dX0_judge_11) ?_
  refine bm_cc (s_iconst hx hb dX0_judge_12 (by decide)) ?_
  refine bm_cc (s_iconst hx hb dX0_judge_13 (by decide)) ?_
  refine bm_cc (s_callV hx hb hml hown hts hK (C := RX0) (TT := TX0) (N := 7) (ci := 0) rfl (by decide) (k_X0_blame l g) tw_530 tw_531 tw_532 tw_77 tw_529 ⟨by decide, by decide, by decide +kernel⟩ ⟨by rw [hF]; decide, by rw [hL]; decide⟩ dX0_judge_14) ?_
  refine bm_cc (s_ret hx hb hr hlk dX0_judge_17) ?_
  refine bm_cc (s_iconst hx hb dX0_judge_18 (by decide)) ?_
  refine bm_cc (s_istore_n hx hb dX0_judge_19) ?_
  refine bm_cc (s_iload_n hx hb dX0_judge_20) ?_
  refine bm_cc (s_aload_n hx hb dX0_judge_21) ?_
  refine bm_cc (s_getI hx hb hown hts hK (C := RX0) (TT := TX0) (N := 7) (ci := 0) (j := 4) inT0 rfl (by decide) rfl (by decide) rfl tw_538 rfl dX0_judge_22) ?_
  refine bm_cc (s_icge hx hb dX0_judge_25 (by decide)) ?_
  refine bm_cc (s_aload_n hx hb dX0_judge_28) ?_
  refine bm_cc (s_aload_n hx hb dX0_judge_29) ?_
  refine bm_cc (s_iload_n hx hb dX0_judge_30) ?_
  refine bm_cc (s_callV hx hb hml hown hts hK (C := RX0) (TT := TX0) (N := 7) (ci := 0) rfl (by decide) (k_X0_nameOfMark l g) tw_549 tw_550 tw_551 tw_77 tw_548 ⟨by decide, by decide, by decide +kernel⟩ ⟨by rw [hF]; decide, by rw [hL]; decide⟩ dX0_judge_31) ?_
  refine bm_cc (s_iconst hx hb dX0_judge_34 (by decide)) ?_
  refine bm_cc (s_icne hx hb dX0_judge_35 (by decide)) ?_
  refine bm_cc (s_aload_n hx hb dX0_judge_38) ?_
  refine bm_cc (s_aload_n hx hb dX0_judge_39) ?_
  refine bm_cc (s_getR hx hb hown hts hK (C := RX0) (TT := TX0) (N := 7) (ci := 0) (j := 2) inT0 rfl (by decide) rfl (by decide) rfl tw_42 rfl dX0_judge_40) ?_
  refine bm_cc (s_iload_n hx hb dX0_judge_43) ?_
  refine bm_cc (s_callS hx hb hml hown hts hK (k_X4_get l g) tw_545 tw_133 tw_18 tw_131 ⟨by decide, by decide, by decide +kernel⟩ ⟨by rw [hF]; decide, by rw [hL]; decide⟩ dX0_judge_44) ?_
  refine bm_cc (s_iconst hx hb dX0_judge_47 (by decide)) ?_
  refine bm_cc (s_callV hx hb hml hown hts hK (C := RX0) (TT := TX0) (N := 7) (ci := 0) rfl (by decide) (k_X0_blame l g) tw_530 tw_531 tw_532 tw_77 tw_529 ⟨by decide, by decide, by decide +kernel⟩ ⟨by rw [hF]; decide, by rw [hL]; decide⟩ dX0_judge_48) ?_
  refine bm_cc (s_ret hx hb hr hlk dX0_judge_51) ?_
  refine bm_cc (s_aload_n hx hb dX0_judge_52) ?_
  refine bm_cc (s_iload_n hx hb dX0_judge_53) ?_
  refine bm_cc (s_callV hx hb hml hown hts hK (C := RX0) (TT := TX0) (N := 7) (ci := 0) rfl (by decide) (k_X0_standsAhead l g) tw_553 tw_554 tw_555 tw_77 tw_552 ⟨by decide, by decide, by decide +kernel⟩ ⟨by rw [hF]; decide, by rw [hL]; decide⟩ dX0_judge_54) ?_
  refine bm_cc (s_ifeq hx hb dX0_judge_57 (by decide)) ?_
  refine bm_cc (s_aload_n hx hb dX0_judge_60) ?_
  refine bm_cc (s_aload_n hx hb dX0_judge_61) ?_
  refine bm_cc (s_getR hx hb hown hts hK (C := RX0) (TT := TX0) (N := 7) (ci := 0) (j := 2) inT0 rfl (by decide) rfl (by decide) rfl tw_42 rfl dX0_judge_62) ?_
  refine bm_cc (s_iload_n hx hb dX0_judge_65) ?_
  refine bm_cc (s_callS hx hb hml hown hts hK (k_X4_get l g) tw_545 tw_133 tw_18 tw_131 ⟨by decide, by decide, by decide +kernel⟩ ⟨by rw [hF]; decide, by rw [hL]; decide⟩ dX0_judge_66) ?_
  refine bm_cc (s_iconst hx hb dX0_judge_69 (by decide)) ?_
  refine bm_cc (s_callV hx hb hml hown hts hK (C := RX0) (TT := TX0) (N := 7) (ci := 0) rfl (by decide) (k_X0_blame l g) tw_530 tw_531 tw_532 tw_77 tw_529 ⟨by decide, by decide, by decide +kernel⟩ ⟨by rw [hF]; decide, by rw [hL]; decide⟩ dX0_judge_70) ?_
  refine bm_cc (s_ret hx hb hr hlk dX0_judge_73) ?_
  refine bm_cc (s_iinc hx hb dX0_judge_74 (by decide)) ?_
  refine bm_cc (s_goto hx hb dX0_judge_77 (by decide)) ?_
  refine bm_cc (s_ret hx hb hr hlk dX0_judge_80) ?_
  exact bm_c9

noncomputable def z_X0_read : List (Nat × bm_O) := [(0, op_aload 0), (1, op_const (-1)), (2, op_putI 0 5), (5, op_aload 0), (6, op_const (0)), (7, op_putI 0 6), (10, op_aload 0), (11, op_const (0)), (12, op_putI 0 4), (15, op_aload 0), (16, op_aload 1), (17, op_call 1 2 (bm_rc 0) f_X0_readVersion), (20, op_istore 3), (21, op_aload 0), (22, op_getI 0 6), (25, op_ifne 34), (28, op_aload 0), (29, op_aload 1), (30, op_iload 3), (31, op_call 0 3 (bm_rc 0) f_X0_readMarks), (34, op_aload 0), (35, op_getI 0 6), (38, op_ifne 46), (41, op_aload 0), (42, op_aload 2), (43, op_call 0 2 (bm_rc 0) f_X0_judge), (46, op_ret)]
noncomputable def f_X0_read : bm_F := Classical.choose (bm_hide (bm_mt 4 z_X0_read))
theorem u_X0_read : f_X0_read = bm_mt 4 z_X0_read := Classical.choose_spec (bm_hide _)
theorem k_X0_read (l : Launch) (g : bm_G) : bm_MetF l g yX0_read cX0_read 4 none 5 113 f_X0_read := by
  rw [u_X0_read]
  refine bm_met (by decide) ?_
  intro p e R s m args below meth c n0 s0 hx hb hml hown hts hK hr hlk hnm hF hL
  refine bm_cc (s_aload_n hx hb dX0_read_0) ?_
  refine bm_cc (s_iconst hx hb dX0_read_1 (by decide)) ?_
  refine bm_cc (s_putI hx hb hown hts hK (C := RX0) (TT := TX0) (N := 7) (ci := 0) (j := 5) inT0 rfl (by decide) rfl (by decide) tyX0 tyX0_ok nmX0 rfl tw_522 rfl rfl (by decide +kernel) dX0_read_2) ?_
  refine bm_cc (s_aload_n hx hb dX0_read_5) ?_
  refine bm_cc (s_iconst hx hb dX0_read_6 (by decide)) ?_
  refine bm_cc (s_putI hx hb hown hts hK (C := RX0) (TT := TX0) (N := 7) (ci := 0) (j := 6) inT0 rfl (by decide) rfl (by decide) tyX0 tyX0_ok nmX0 rfl tw_523 rfl rfl (by decide +kernel) dX0_read_7) ?_
  refine bm_cc (s_aload_n hx hb dX0_read_10) ?_
  refine bm_cc (s_iconst hx hb dX0_read_11 (by decide)) ?_
  refine bm_cc (s_putI hx hb hown hts hK (C := RX0) (TT := TX0) (N := 7) (ci := 0) (j := 4) inT0 rfl (by decide) rfl (by decide) tyX0 tyX0_ok nmX0 rfl tw_538 rfl rfl (by decide +kernel) dX0_read_12) ?_
  refine bm_cc (s_aload_n hx hb dX0_read_15) ?_
  refine bm_cc (s_aload_n hx hb dX0_read_16) ?_
  refine bm_cc (s_callV hx hb hml hown hts hK (C := RX0) (TT := TX0) (N := 7) (ci := 0) rfl (by decide) (k_X0_readVersion l g) tw_557 tw_558 tw_559 tw_77 tw_556 ⟨by decide, by decide, by decide +kernel⟩ ⟨by rw [hF]; decide, by rw [hL]; decide⟩ dX0_read_17) ?_
  refine bm_cc (s_istore_n hx hb dX0_read_20) ?_
  refine bm_cc (s_aload_n hx hb dX0_read_21) ?_
  refine bm_cc (s_getI hx hb hown hts hK (C := RX0) (TT := TX0) (N := 7) (ci := 0) (j := 6) inT0 rfl (by decide) rfl (by decide) rfl tw_523 rfl dX0_read_22) ?_
  refine bm_cc (s_ifne hx hb dX0_read_25 (by decide)) ?_
  refine bm_cc (s_aload_n hx hb dX0_read_28) ?_
  refine bm_cc (s_aload_n hx hb dX0_read_29) ?_
  refine bm_cc (s_iload_n hx hb dX0_read_30) ?_
  refine bm_cc (s_callV hx hb hml hown hts hK (C := RX0) (TT := TX0) (N := 7) (ci := 0) rfl (by decide) (k_X0_readMarks l g) tw_561 tw_562 tw_563 tw_77 tw_560 ⟨by decide, by decide, by decide +kernel⟩ ⟨by rw [hF]; decide, by rw [hL]; decide⟩ dX0_read_31) ?_
  refine bm_cc (s_aload_n hx hb dX0_read_34) ?_
  refine bm_cc (s_getI hx hb hown hts hK (C := RX0) (TT := TX0) (N := 7) (ci := 0) (j := 6) inT0 rfl (by decide) rfl (by decide) rfl tw_523 rfl dX0_read_35) ?_
  refine bm_cc (s_ifne hx hb dX0_read_38 (by decide)) ?_
  refine bm_cc (s_aload_n hx hb dX0_read_41) ?_
  refine bm_cc (s_aload_n hx hb dX0_read_42) ?_
  refine bm_cc (s_callV hx hb hml hown hts hK (C := RX0) (TT := TX0) (N := 7) (ci := 0) rfl (by decide) (k_X0_judge l g) tw_565 tw_566 tw_567 tw_77 tw_564 ⟨by decide, by decide, by decide +kernel⟩ ⟨by rw [hF]; decide, by rw [hL]; decide⟩ dX0_read_43) ?_
  refine bm_cc (s_ret hx hb hr hlk dX0_read_46) ?_
  exact bm_c9

noncomputable def z_X0_reason : List (Nat × bm_O) := [(0, op_aload 0), (1, op_getI 0 6), (4, op_iret)]
noncomputable def f_X0_reason : bm_F := Classical.choose (bm_hide (bm_mt 1 z_X0_reason))
theorem u_X0_reason : f_X0_reason = bm_mt 1 z_X0_reason := Classical.choose_spec (bm_hide _)
theorem k_X0_reason (l : Launch) (g : bm_G) : bm_MetF l g yX0_reason cX0_reason 1 (some .int) 0 0 f_X0_reason := by
  rw [u_X0_reason]
  refine bm_met (by decide) ?_
  intro p e R s m args below meth c n0 s0 hx hb hml hown hts hK hr hlk hnm hF hL
  refine bm_cc (s_aload_n hx hb dX0_reason_0) ?_
  refine bm_cc (s_getI hx hb hown hts hK (C := RX0) (TT := TX0) (N := 7) (ci := 0) (j := 6) inT0 rfl (by decide) rfl (by decide) rfl tw_523 rfl dX0_reason_1) ?_
  refine bm_cc (s_iret hx hb hr hlk dX0_reason_4) ?_
  exact bm_c9

noncomputable def z_X0_faultAt : List (Nat × bm_O) := [(0, op_aload 0), (1, op_getI 0 5), (4, op_iret)]
noncomputable def f_X0_faultAt : bm_F := Classical.choose (bm_hide (bm_mt 1 z_X0_faultAt))
theorem u_X0_faultAt : f_X0_faultAt = bm_mt 1 z_X0_faultAt := Classical.choose_spec (bm_hide _)
theorem k_X0_faultAt (l : Launch) (g : bm_G) : bm_MetF l g yX0_faultAt cX0_faultAt 1 (some .int) 0 0 f_X0_faultAt := by
  rw [u_X0_faultAt]
  refine bm_met (by decide) ?_
  intro p e R s m args below meth c n0 s0 hx hb hml hown hts hK hr hlk hnm hF hL
  refine bm_cc (s_aload_n hx hb dX0_faultAt_0) ?_
  refine bm_cc (s_getI hx hb hown hts hK (C := RX0) (TT := TX0) (N := 7) (ci := 0) (j := 5) inT0 rfl (by decide) rfl (by decide) rfl tw_522 rfl dX0_faultAt_1) ?_
  refine bm_cc (s_iret hx hb hr hlk dX0_faultAt_4) ?_
  exact bm_c9

noncomputable def z_X7_fault : List (Nat × bm_O) := [(0, op_iload 1), (1, op_const (0)), (2, op_const (1)), (3, op_call 1 3 bm_c0 f_X7_within), (6, op_ifne 11), (9, op_const (-1)), (10, op_iret), (11, op_aload 0), (12, op_getR 6 5), (15, op_aload 0), (16, op_getR 6 4), (19, op_aload 0), (20, op_getR 6 0), (23, op_call 0 3 (bm_rc 0) f_X0_read), (26, op_aload 0), (27, op_getR 6 5), (30, op_call 1 1 (bm_rc 0) f_X0_reason), (33, op_ifne 39), (36, op_const (-4)), (38, op_iret), (39, op_iload 1), (40, op_ifne 53), (43, op_aload 0), (44, op_getR 6 5), (47, op_call 1 1 (bm_rc 0) f_X0_faultAt), (50, op_goto 60), (53, op_aload 0), (54, op_getR 6 5), (57, op_call 1 1 (bm_rc 0) f_X0_reason), (60, op_iret)]
noncomputable def f_X7_fault : bm_F := Classical.choose (bm_hide (bm_mt 2 z_X7_fault))
theorem u_X7_fault : f_X7_fault = bm_mt 2 z_X7_fault := Classical.choose_spec (bm_hide _)
theorem k_X7_fault (l : Launch) (g : bm_G) : bm_MetF l g yX7_fault cX7_fault 2 (some .int) 6 136 f_X7_fault := by
  rw [u_X7_fault]
  refine bm_met (by decide) ?_
  intro p e R s m args below meth c n0 s0 hx hb hml hown hts hK hr hlk hnm hF hL
  refine bm_cc (s_iload_n hx hb dX7_fault_0) ?_
  refine bm_cc (s_iconst hx hb dX7_fault_1 (by decide)) ?_
  refine bm_cc (s_iconst hx hb dX7_fault_2 (by decide)) ?_
  refine bm_cc (s_callS hx hb hml hown hts hK (k_X7_within l g) tw_108 tw_109 tw_106 tw_107 ⟨by decide, by decide, by decide +kernel⟩ ⟨by rw [hF]; decide, by rw [hL]; decide⟩ dX7_fault_3) ?_
  refine bm_cc (s_ifne hx hb dX7_fault_6 (by decide)) ?_
  refine bm_cc (s_iconst hx hb dX7_fault_9 (by decide)) ?_
  refine bm_cc (s_iret hx hb hr hlk dX7_fault_10) ?_
  refine bm_cc (s_aload_n hx hb dX7_fault_11) ?_
  refine bm_cc (s_getR hx hb hown hts hK (C := RX7) (TT := TX7) (N := 6) (ci := 6) (j := 5) inT7 rfl (by decide) rfl (by decide) rfl tw_81 rfl dX7_fault_12) ?_
  refine bm_cc (s_aload_n hx hb dX7_fault_15) ?_
  refine bm_cc (s_getR hx hb hown hts hK (C := RX7) (TT := TX7) (N := 6) (ci := 6) (j := 4) inT7 rfl (by decide) rfl (by decide) rfl tw_74 rfl dX7_fault_16) ?_
  refine bm_cc (s_aload_n hx hb dX7_fault_19) ?_
  refine bm_cc (s_getR hx hb hown hts hK (C := RX7) (TT := TX7) (N := 6) (ci := 6) (j := 0) inT7 rfl (by decide) rfl (by decide) rfl tw_46 rfl dX7_fault_20) ?_
  refine bm_cc (s_callV hx hb hml hown hts hK (C := RX0) (TT := TX0) (N := 7) (ci := 0) rfl (by decide) (k_X0_read l g) tw_569 tw_570 tw_571 tw_77 tw_568 ⟨by decide, by decide, by decide +kernel⟩ ⟨by rw [hF]; decide, by rw [hL]; decide⟩ dX7_fault_23) ?_
  refine bm_cc (s_aload_n hx hb dX7_fault_26) ?_
  refine bm_cc (s_getR hx hb hown hts hK (C := RX7) (TT := TX7) (N := 6) (ci := 6) (j := 5) inT7 rfl (by decide) rfl (by decide) rfl tw_81 rfl dX7_fault_27) ?_
  refine bm_cc (s_callV hx hb hml hown hts hK (C := RX0) (TT := TX0) (N := 7) (ci := 0) rfl (by decide) (k_X0_reason l g) tw_573 tw_574 tw_575 tw_77 tw_572 ⟨by decide, by decide, by decide +kernel⟩ ⟨by rw [hF]; decide, by rw [hL]; decide⟩ dX7_fault_30) ?_
  refine bm_cc (s_ifne hx hb dX7_fault_33 (by decide)) ?_
  refine bm_cc (s_bipush hx hb dX7_fault_36 (by decide)) ?_
  refine bm_cc (s_iret hx hb hr hlk dX7_fault_38) ?_
  refine bm_cc (s_iload_n hx hb dX7_fault_39) ?_
  refine bm_cc (s_ifne hx hb dX7_fault_40 (by decide)) ?_
  refine bm_cc (s_aload_n hx hb dX7_fault_43) ?_
  refine bm_cc (s_getR hx hb hown hts hK (C := RX7) (TT := TX7) (N := 6) (ci := 6) (j := 5) inT7 rfl (by decide) rfl (by decide) rfl tw_81 rfl dX7_fault_44) ?_
  refine bm_cc (s_callV hx hb hml hown hts hK (C := RX0) (TT := TX0) (N := 7) (ci := 0) rfl (by decide) (k_X0_faultAt l g) tw_577 tw_578 tw_579 tw_77 tw_576 ⟨by decide, by decide, by decide +kernel⟩ ⟨by rw [hF]; decide, by rw [hL]; decide⟩ dX7_fault_47) ?_
  refine bm_cc (s_goto hx hb dX7_fault_50 (by decide)) ?_
  refine bm_cc (s_aload_n hx hb dX7_fault_53) ?_
  refine bm_cc (s_getR hx hb hown hts hK (C := RX7) (TT := TX7) (N := 6) (ci := 6) (j := 5) inT7 rfl (by decide) rfl (by decide) rfl tw_81 rfl dX7_fault_54) ?_
  refine bm_cc (s_callV hx hb hml hown hts hK (C := RX0) (TT := TX0) (N := 7) (ci := 0) rfl (by decide) (k_X0_reason l g) tw_573 tw_574 tw_575 tw_77 tw_572 ⟨by decide, by decide, by decide +kernel⟩ ⟨by rw [hF]; decide, by rw [hL]; decide⟩ dX7_fault_57) ?_
  refine bm_cc (s_iret hx hb hr hlk dX7_fault_60) ?_
  exact bm_c9

noncomputable def z_X3_addBallot : List (Nat × bm_O) := [(0, op_aload 0), (1, op_dup), (2, op_getI 3 1), (5, op_const (1)), (6, op_bin (fun a b => a + b)), (7, op_putI 3 1), (10, op_ret)]
noncomputable def f_X3_addBallot : bm_F := Classical.choose (bm_hide (bm_mt 1 z_X3_addBallot))
theorem u_X3_addBallot : f_X3_addBallot = bm_mt 1 z_X3_addBallot := Classical.choose_spec (bm_hide _)
theorem k_X3_addBallot (l : Launch) (g : bm_G) : bm_MetF l g yX3_addBallot cX3_addBallot 1 none 0 0 f_X3_addBallot := by
  rw [u_X3_addBallot]
  refine bm_met (by decide) ?_
  intro p e R s m args below meth c n0 s0 hx hb hml hown hts hK hr hlk hnm hF hL
  refine bm_cc (s_aload_n hx hb dX3_addBallot_0) ?_
  refine bm_cc (s_dup hx hb dX3_addBallot_1) ?_
  refine bm_cc (s_getI hx hb hown hts hK (C := RX3) (TT := TX3) (N := 12) (ci := 3) (j := 1) inT3 rfl (by decide) rfl (by decide) rfl tw_92 rfl dX3_addBallot_2) ?_
  refine bm_cc (s_iconst hx hb dX3_addBallot_5 (by decide)) ?_
  refine bm_cc (s_iadd hx hb dX3_addBallot_6) ?_
  refine bm_cc (s_putI hx hb hown hts hK (C := RX3) (TT := TX3) (N := 12) (ci := 3) (j := 1) inT3 rfl (by decide) rfl (by decide) tyX3 tyX3_ok nmX3 rfl tw_92 rfl rfl (by decide +kernel) dX3_addBallot_7) ?_
  refine bm_cc (s_ret hx hb hr hlk dX3_addBallot_10) ?_
  exact bm_c9

noncomputable def z_X0_marksIn : List (Nat × bm_O) := [(0, op_const (0)), (1, op_istore 2), (2, op_const (0)), (3, op_istore 3), (4, op_iload 3), (5, op_aload 0), (6, op_getI 0 4), (9, op_icge 33), (12, op_aload 0), (13, op_getR 0 0), (16, op_iload 3), (17, op_call 1 2 bm_c0 f_X4_get), (20, op_iload 1), (21, op_icne 27), (24, op_iinc 2 1), (27, op_iinc 3 1), (30, op_goto 4), (33, op_iload 2), (34, op_iret)]
noncomputable def f_X0_marksIn : bm_F := Classical.choose (bm_hide (bm_mt 4 z_X0_marksIn))
theorem u_X0_marksIn : f_X0_marksIn = bm_mt 4 z_X0_marksIn := Classical.choose_spec (bm_hide _)
theorem k_X0_marksIn (l : Launch) (g : bm_G) : bm_MetF l g yX0_marksIn cX0_marksIn 4 (some .int) 1 21 f_X0_marksIn := by
  rw [u_X0_marksIn]
  refine bm_met (by decide) ?_
  intro p e R s m args below meth c n0 s0 hx hb hml hown hts hK hr hlk hnm hF hL
  refine bm_cc (s_iconst hx hb dX0_marksIn_0 (by decide)) ?_
  refine bm_cc (s_istore_n hx hb dX0_marksIn_1) ?_
  refine bm_cc (s_iconst hx hb dX0_marksIn_2 (by decide)) ?_
  refine bm_cc (s_istore_n hx hb dX0_marksIn_3) ?_
  refine bm_cc (s_iload_n hx hb dX0_marksIn_4) ?_
  refine bm_cc (s_aload_n hx hb dX0_marksIn_5) ?_
  refine bm_cc (s_getI hx hb hown hts hK (C := RX0) (TT := TX0) (N := 7) (ci := 0) (j := 4) inT0 rfl (by decide) rfl (by decide) rfl tw_538 rfl dX0_marksIn_6) ?_
  refine bm_cc (s_icge hx hb dX0_marksIn_9 (by decide)) ?_
  refine bm_cc (s_aload_n hx hb dX0_marksIn_12) ?_
  refine bm_cc (s_getR hx hb hown hts hK (C := RX0) (TT := TX0) (N := 7) (ci := 0) (j := 0) inT0 rfl (by decide) rfl (by decide) rfl tw_40 rfl dX0_marksIn_13) ?_
  refine bm_cc (s_iload_n hx hb dX0_marksIn_16) ?_
  refine bm_cc (s_callS hx hb hml hown hts hK (k_X4_get l g) tw_545 tw_133 tw_18 tw_131 ⟨by decide, by decide, by decide +kernel⟩ ⟨by rw [hF]; decide, by rw [hL]; decide⟩ dX0_marksIn_17) ?_
  refine bm_cc (s_iload_n hx hb dX0_marksIn_20) ?_
  refine bm_cc (s_icne hx hb dX0_marksIn_21 (by decide)) ?_
  refine bm_cc (s_iinc hx hb dX0_marksIn_24 (by decide)) ?_
  refine bm_cc (s_iinc hx hb dX0_marksIn_27 (by decide)) ?_
  refine bm_cc (s_goto hx hb dX0_marksIn_30 (by decide)) ?_
  refine bm_cc (s_iload_n hx hb dX0_marksIn_33) ?_
  refine bm_cc (s_iret hx hb hr hlk dX0_marksIn_34) ?_
  exact bm_c9

noncomputable def z_X3_addSpoilt : List (Nat × bm_O) := [(0, op_aload 0), (1, op_getR 3 6), (4, op_iload 1), (5, op_const (1)), (6, op_call 0 3 bm_c0 f_X4_add), (9, op_ret)]
noncomputable def f_X3_addSpoilt : bm_F := Classical.choose (bm_hide (bm_mt 2 z_X3_addSpoilt))
theorem u_X3_addSpoilt : f_X3_addSpoilt = bm_mt 2 z_X3_addSpoilt := Classical.choose_spec (bm_hide _)
theorem k_X3_addSpoilt (l : Launch) (g : bm_G) : bm_MetF l g yX3_addSpoilt cX3_addSpoilt 2 none 2 44 f_X3_addSpoilt := by
  rw [u_X3_addSpoilt]
  refine bm_met (by decide) ?_
  intro p e R s m args below meth c n0 s0 hx hb hml hown hts hK hr hlk hnm hF hL
  refine bm_cc (s_aload_n hx hb dX3_addSpoilt_0) ?_
  refine bm_cc (s_getR hx hb hown hts hK (C := RX3) (TT := TX3) (N := 12) (ci := 3) (j := 6) inT3 rfl (by decide) rfl (by decide) rfl tw_12 rfl dX3_addSpoilt_1) ?_
  refine bm_cc (s_iload_n hx hb dX3_addSpoilt_4) ?_
  refine bm_cc (s_iconst hx hb dX3_addSpoilt_5 (by decide)) ?_
  refine bm_cc (s_callS hx hb hml hown hts hK (k_X4_add l g) tw_144 tw_145 tw_18 tw_143 ⟨by decide, by decide, by decide +kernel⟩ ⟨by rw [hF]; decide, by rw [hL]; decide⟩ dX3_addSpoilt_6) ?_
  refine bm_cc (s_ret hx hb hr hlk dX3_addSpoilt_9) ?_
  exact bm_c9

noncomputable def z_X3_addVote : List (Nat × bm_O) := [(0, op_aload 0), (1, op_iload 1), (2, op_iload 2), (3, op_call 1 3 (bm_rc 3) f_X3_hasName), (6, op_ifeq 22), (9, op_aload 0), (10, op_getR 3 9), (13, op_iload 1), (14, op_iload 2), (15, op_call 1 2 bm_c0 f_X3_slot), (18, op_const (1)), (19, op_call 0 3 bm_c0 f_X4_add), (22, op_ret)]
noncomputable def f_X3_addVote : bm_F := Classical.choose (bm_hide (bm_mt 3 z_X3_addVote))
theorem u_X3_addVote : f_X3_addVote = bm_mt 3 z_X3_addVote := Classical.choose_spec (bm_hide _)
theorem k_X3_addVote (l : Launch) (g : bm_G) : bm_MetF l g yX3_addVote cX3_addVote 3 none 3 65 f_X3_addVote := by
  rw [u_X3_addVote]
  refine bm_met (by decide) ?_
  intro p e R s m args below meth c n0 s0 hx hb hml hown hts hK hr hlk hnm hF hL
  refine bm_cc (s_aload_n hx hb dX3_addVote_0) ?_
  refine bm_cc (s_iload_n hx hb dX3_addVote_1) ?_
  refine bm_cc (s_iload_n hx hb dX3_addVote_2) ?_
  refine bm_cc (s_callV hx hb hml hown hts hK (C := RX3) (TT := TX3) (N := 12) (ci := 3) rfl (by decide) (k_X3_hasName l g) tw_608 tw_264 tw_265 tw_26 tw_262 ⟨by decide, by decide, by decide +kernel⟩ ⟨by rw [hF]; decide, by rw [hL]; decide⟩ dX3_addVote_3) ?_
  refine bm_cc (s_ifeq hx hb dX3_addVote_6 (by decide)) ?_
  refine bm_cc (s_aload_n hx hb dX3_addVote_9) ?_
  refine bm_cc (s_getR hx hb hown hts hK (C := RX3) (TT := TX3) (N := 12) (ci := 3) (j := 9) inT3 rfl (by decide) rfl (by decide) rfl tw_15 rfl dX3_addVote_10) ?_
  refine bm_cc (s_iload_n hx hb dX3_addVote_13) ?_
  refine bm_cc (s_iload_n hx hb dX3_addVote_14) ?_
  refine bm_cc (s_callS hx hb hml hown hts hK (k_X3_slot l g) tw_141 tw_142 tw_26 tw_140 ⟨by decide, by decide, by decide +kernel⟩ ⟨by rw [hF]; decide, by rw [hL]; decide⟩ dX3_addVote_15) ?_
  refine bm_cc (s_iconst hx hb dX3_addVote_18 (by decide)) ?_
  refine bm_cc (s_callS hx hb hml hown hts hK (k_X4_add l g) tw_144 tw_145 tw_18 tw_143 ⟨by decide, by decide, by decide +kernel⟩ ⟨by rw [hF]; decide, by rw [hL]; decide⟩ dX3_addVote_19) ?_
  refine bm_cc (s_ret hx hb hr hlk dX3_addVote_22) ?_
  exact bm_c9

noncomputable def z_X0_addVotes : List (Nat × bm_O) := [(0, op_const (0)), (1, op_istore 3), (2, op_iload 3), (3, op_aload 0), (4, op_getI 0 4), (7, op_icge 39), (10, op_aload 0), (11, op_getR 0 0), (14, op_iload 3), (15, op_call 1 2 bm_c0 f_X4_get), (18, op_iload 2), (19, op_icne 33), (22, op_aload 1), (23, op_iload 2), (24, op_aload 0), (25, op_aload 1), (26, op_iload 3), (27, op_call 1 3 (bm_rc 0) f_X0_nameOfMark), (30, op_call 0 3 (bm_rc 3) f_X3_addVote), (33, op_iinc 3 1), (36, op_goto 2), (39, op_ret)]
noncomputable def f_X0_addVotes : bm_F := Classical.choose (bm_hide (bm_mt 4 z_X0_addVotes))
theorem u_X0_addVotes : f_X0_addVotes = bm_mt 4 z_X0_addVotes := Classical.choose_spec (bm_hide _)
theorem k_X0_addVotes (l : Launch) (g : bm_G) : bm_MetF l g yX0_addVotes cX0_addVotes 4 none 4 91 f_X0_addVotes := by
  rw [u_X0_addVotes]
  refine bm_met (by decide) ?_
  intro p e R s m args below meth c n0 s0 hx hb hml hown hts hK hr hlk hnm hF hL
  refine bm_cc (s_iconst hx hb dX0_addVotes_0 (by decide)) ?_
  refine bm_cc (s_istore_n hx hb dX0_addVotes_1) ?_
  refine bm_cc (s_iload_n hx hb dX0_addVotes_2) ?_
  refine bm_cc (s_aload_n hx hb dX0_addVotes_3) ?_
  refine bm_cc (s_getI hx hb hown hts hK (C := RX0) (TT := TX0) (N := 7) (ci := 0) (j := 4) inT0 rfl (by decide) rfl (by decide) rfl tw_538 rfl dX0_addVotes_4) ?_
  refine bm_cc (s_icge hx hb dX0_addVotes_7 (by decide)) ?_
  refine bm_cc (s_aload_n hx hb dX0_addVotes_10) ?_
  refine bm_cc (s_getR hx hb hown hts hK (C := RX0) (TT := TX0) (N := 7) (ci := 0) (j := 0) inT0 rfl (by decide) rfl (by decide) rfl tw_40 rfl dX0_addVotes_11) ?_
  refine bm_cc (s_iload_n hx hb dX0_addVotes_14) ?_
  refine bm_cc (s_callS hx hb hml hown hts hK (k_X4_get l g) tw_545 tw_133 tw_18 tw_131 ⟨by decide, by decide, by decide +kernel⟩ ⟨by rw [hF]; decide, by rw [hL]; decide⟩ dX0_addVotes_15) ?_
  refine bm_cc (s_iload_n hx hb dX0_addVotes_18) ?_
  refine bm_cc (s_icne hx hb dX0_addVotes_19 (by decide)) ?_
  refine bm_cc (s_aload_n hx hb dX0_addVotes_22) ?_
  refine bm_cc (s_iload_n hx hb dX0_addVotes_23) ?_
  refine bm_cc (s_aload_n hx hb dX0_addVotes_24) ?_
  refine bm_cc (s_aload_n hx hb dX0_addVotes_25) ?_
  refine bm_cc (s_iload_n hx hb dX0_addVotes_26) ?_
  refine bm_cc (s_callV hx hb hml hown hts hK (C := RX0) (TT := TX0) (N := 7) (ci := 0) rfl (by decide) (k_X0_nameOfMark l g) tw_549 tw_550 tw_551 tw_77 tw_548 ⟨by decide, by decide, by decide +kernel⟩ ⟨by rw [hF]; decide, by rw [hL]; decide⟩ dX0_addVotes_27) ?_
  refine bm_cc (s_callV hx hb hml hown hts hK (C := RX3) (TT := TX3) (N := 12) (ci := 3) rfl (by decide) (k_X3_addVote l g) tw_610 tw_611 tw_612 tw_26 tw_609 ⟨by decide, by decide, by decide +kernel⟩ ⟨by rw [hF]; decide, by rw [hL]; decide⟩ dX0_addVotes_30) ?_
  refine bm_cc (s_iinc hx hb dX0_addVotes_33 (by decide)) ?_
  refine bm_cc (s_goto hx hb dX0_addVotes_36 (by decide)) ?_
  refine bm_cc (s_ret hx hb hr hlk dX0_addVotes_39) ?_
  exact bm_c9

noncomputable def z_X3_addBlank : List (Nat × bm_O) := [(0, op_aload 0), (1, op_getR 3 7), (4, op_iload 1), (5, op_const (1)), (6, op_call 0 3 bm_c0 f_X4_add), (9, op_ret)]
noncomputable def f_X3_addBlank : bm_F := Classical.choose (bm_hide (bm_mt 2 z_X3_addBlank))
theorem u_X3_addBlank : f_X3_addBlank = bm_mt 2 z_X3_addBlank := Classical.choose_spec (bm_hide _)
theorem k_X3_addBlank (l : Launch) (g : bm_G) : bm_MetF l g yX3_addBlank cX3_addBlank 2 none 2 44 f_X3_addBlank := by
  rw [u_X3_addBlank]
  refine bm_met (by decide) ?_
  intro p e R s m args below meth c n0 s0 hx hb hml hown hts hK hr hlk hnm hF hL
  refine bm_cc (s_aload_n hx hb dX3_addBlank_0) ?_
  refine bm_cc (s_getR hx hb hown hts hK (C := RX3) (TT := TX3) (N := 12) (ci := 3) (j := 7) inT3 rfl (by decide) rfl (by decide) rfl tw_13 rfl dX3_addBlank_1) ?_
  refine bm_cc (s_iload_n hx hb dX3_addBlank_4) ?_
  refine bm_cc (s_iconst hx hb dX3_addBlank_5 (by decide)) ?_
  refine bm_cc (s_callS hx hb hml hown hts hK (k_X4_add l g) tw_144 tw_145 tw_18 tw_143 ⟨by decide, by decide, by decide +kernel⟩ ⟨by rw [hF]; decide, by rw [hL]; decide⟩ dX3_addBlank_6) ?_
  refine bm_cc (s_ret hx hb hr hlk dX3_addBlank_9) ?_
  exact bm_c9

noncomputable def z_X0_countIn : List (Nat × bm_O) := [(0, op_aload 1), (1, op_call 0 1 (bm_rc 3) f_X3_addBallot), (4, op_const (0)), (5, op_istore 2), (6, op_const (0)), (7, op_istore 3), (8, op_iload 3), (9, op_aload 1), (10, op_call 1 1 (bm_rc 3) f_X3_contests), (13, op_icge 79), (16, op_aload 0), (17, op_iload 3), (18, op_call 1 2 (bm_rc 0) f_X0_marksIn), (21, op_istore 4), (23, op_iload 4), (25, op_aload 1), (26, op_iload 3), (27, op_call 1 2 (bm_rc 3) f_X3_seatsOf), (30, op_icle 41), (33, op_aload 1), (34, op_iload 3), (35, op_call 0 2 (bm_rc 3) f_X3_addSpoilt), (38, op_goto 73), (41, op_iload 4), (43, op_ifle 60), (46, op_aload 0), (47, op_aload 1), (48, op_iload 3), (49, op_call 0 3 (bm_rc 0) f_X0_addVotes), (52, op_iload 2), (53, op_iload 4), (55, op_bin (fun a b => a + b)), (56, op_istore 2), (57, op_goto 73), (60, op_aload 1), (61, op_iload 3), (62, op_call 1 2 (bm_rc 3) f_X3_namesIn), (65, op_ifle 73), (68, op_aload 1), (69, op_iload 3), (70, op_call 0 2 (bm_rc 3) f_X3_addBlank), (73, op_iinc 3 1), (76, op_goto 8), (79, op_iload 2), (80, op_iret)]
noncomputable def f_X0_countIn : bm_F := Classical.choose (bm_hide (bm_mt 5 z_X0_countIn))
theorem u_X0_countIn : f_X0_countIn = bm_mt 5 z_X0_countIn := Classical.choose_spec (bm_hide _)
theorem k_X0_countIn (l : Launch) (g : bm_G) : bm_MetF l g yX0_countIn cX0_countIn 5 (some .int) 5 114 f_X0_countIn := by
  rw [u_X0_countIn]
  refine bm_met (by decide) ?_
  intro p e R s m args below meth c n0 s0 hx hb hml hown hts hK hr hlk hnm hF hL
  refine bm_cc (s_aload_n hx hb dX0_countIn_0) ?_
  refine bm_cc (s_callV hx hb hml hown hts hK (C := RX3) (TT := TX3) (N := 12) (ci := 3) rfl (by decide) (k_X3_addBallot l g) tw_614 tw_615 tw_616 tw_26 tw_613 ⟨by decide, by decide, by decide +kernel⟩ ⟨by rw [hF]; decide, by rw [hL]; decide⟩ dX0_countIn_1) ?_
  refine bm_cc (s_iconst hx hb dX0_countIn_4 (by decide)) ?_
  refine bm_cc (s_istore_n hx hb dX0_countIn_5) ?_
  refine bm_cc (s_iconst hx hb dX0_countIn_6 (by decide)) ?_
  refine bm_cc (s_istore_n hx hb dX0_countIn_7) ?_
  refine bm_cc (s_iload_n hx hb dX0_countIn_8) ?_
  refine bm_cc (s_aload_n hx hb dX0_countIn_9) ?_
  refine bm_cc (s_callV hx hb hml hown hts hK (C := RX3) (TT := TX3) (N := 12) (ci := 3) rfl (by decide) (k_X3_contests l g) tw_617 tw_112 tw_113 tw_26 tw_110 ⟨by decide, by decide, by decide +kernel⟩ ⟨by rw [hF]; decide, by rw [hL]; decide⟩ dX0_countIn_10) ?_
  refine bm_cc (s_icge hx hb dX0_countIn_13 (by decide)) ?_
  refine bm_cc (s_aload_n hx hb dX0_countIn_16) ?_
  refine bm_cc (s_iload_n hx hb dX0_countIn_17) ?_
  refine bm_cc (s_callV hx hb hml hown hts hK (C := RX0) (TT := TX0) (N := 7) (ci := 0) rfl (by decide) (k_X0_marksIn l g) tw_619 tw_620 tw_621 tw_77 tw_618 ⟨by decide, by decide, by decide +kernel⟩ ⟨by rw [hF]; decide, by rw [hL]; decide⟩ dX0_countIn_18) ?_
  refine bm_cc (s_istore hx hb dX0_countIn_21) ?_
  refine bm_cc (s_iload hx hb dX0_countIn_23) ?_
  refine bm_cc (s_aload_n hx hb dX0_countIn_25) ?_
  refine bm_cc (s_iload_n hx hb dX0_countIn_26) ?_
  refine bm_cc (s_callV hx hb hml hown hts hK (C := RX3) (TT := TX3) (N := 12) (ci := 3) rfl (by decide) (k_X3_seatsOf l g) tw_622 tw_224 tw_225 tw_26 tw_222 ⟨by decide, by decide, by decide +kernel⟩ ⟨by rw [hF]; decide, by rw [hL]; decide⟩ dX0_countIn_27) ?_
  refine bm_cc (s_icle hx hb dX0_countIn_30 (by decide)) ?_
  refine bm_cc (s_aload_n hx hb dX0_countIn_33) ?_
  refine bm_cc (s_iload_n hx hb dX0_countIn_34) ?_
  refine bm_cc (s_callV hx hb hml hown hts hK (C := RX3) (TT := TX3) (N := 12) (ci := 3) rfl (by decide) (k_X3_addSpoilt l g) tw_624 tw_625 tw_626 tw_26 tw_623 ⟨by decide, by decide, by decide +kernel⟩ ⟨by rw [hF]; decide, by rw [hL]; decide⟩ dX0_countIn_35) ?_
  refine bm_cc (s_goto hx hb dX0_countIn_38 (by decide)) ?_
  refine bm_cc (s_iload hx hb dX0_countIn_41) ?_
  refine bm_cc (s_ifle hx hb dX0_countIn_43 (by decide)) ?_
  refine bm_cc (s_aload_n hx hb dX0_countIn_46) ?_
  refine bm_cc (s_aload_n hx hb dX0_countIn_47) ?_
  refine bm_cc (s_iload_n hx hb dX0_countIn_48) ?_
  refine bm_cc (s_callV hx hb hml hown hts hK (C := RX0) (TT := TX0) (N := 7) (ci := 0) rfl (by decide) (k_X0_addVotes l g) tw_628 tw_629 tw_630 tw_77 tw_627 ⟨by decide, by decide, by decide +kernel⟩ ⟨by rw [hF]; decide, by rw [hL]; decide⟩ dX0_countIn_49) ?_
  refine bm_cc (s_iload_n hx hb dX0_countIn_52) ?_
  refine bm_cc (s_iload hx hb dX0_countIn_53) ?_
  refine bm_cc (s_iadd hx hb dX0_countIn_55) ?_
  refine bm_cc (s_istore_n hx hb dX0_countIn_56) ?_
  refine bm_cc (s_goto hx hb dX0_countIn_57 (by decide)) ?_
  refine bm_cc (s_aload_n hx hb dX0_countIn_60) ?_
  refine bm_cc (s_iload_n hx hb dX0_countIn_61) ?_
  refine bm_cc (s_callV hx hb hml hown hts hK (C := RX3) (TT := TX3) (N := 12) (ci := 3) rfl (by decide) (k_X3_namesIn l g) tw_631 tw_138 tw_139 tw_26 tw_136 ⟨by decide, by decide, by decide +kernel⟩ ⟨by rw [hF]; decide, by rw [hL]; decide⟩ dX0_countIn_62) ?_
  refine bm_cc (s_ifle hx hb dX0_countIn_65 (by decide)) ?_
  refine bm_cc (s_aload_n hx hb dX0_countIn_68) ?_
  refine bm_cc (s_iload_n hx hb dX0_countIn_69) ?_
  refine bm_cc (s_callV hx hb hml hown hts hK (C := RX3) (TT := TX3) (N := 12) (ci := 3) rfl (by decide) (k_X3_addBlank l g) tw_633 tw_634 tw_635 tw_26 tw_632 ⟨by decide, by decide, by decide +kernel⟩ ⟨by rw [hF]; decide, by rw [hL]; decide⟩ dX0_countIn_70) ?_
  refine bm_cc (s_iinc hx hb dX0_countIn_73 (by decide)) ?_
  refine bm_cc (s_goto hx hb dX0_countIn_76 (by decide)) ?_
  refine bm_cc (s_iload_n hx hb dX0_countIn_79) ?_
  refine bm_cc (s_iret hx hb hr hlk dX0_countIn_80) ?_
  exact bm_c9

noncomputable def z_X7_cast : List (Nat × bm_O) := [(0, op_aload 0), (1, op_getR 6 5), (4, op_aload 0), (5, op_getR 6 4), (8, op_aload 0), (9, op_getR 6 0), (12, op_call 0 3 (bm_rc 0) f_X0_read), (15, op_aload 0), (16, op_getR 6 5), (19, op_call 1 1 (bm_rc 0) f_X0_reason), (22, op_ifeq 28), (25, op_const (-2)), (27, op_iret), (28, op_aload 0), (29, op_getR 6 0), (32, op_call 1 1 (bm_rc 3) f_X3_ballots), (35, op_const (9999)), (38, op_iclt 44), (41, op_const (-3)), (43, op_iret), (44, op_aload 0), (45, op_getR 6 1), (48, op_aload 0), (49, op_getR 6 0), (52, op_call 0 2 (bm_rc 2) f_X2_keep), (55, op_aload 0), (56, op_getR 6 5), (59, op_aload 0), (60, op_getR 6 0), (63, op_call 1 2 (bm_rc 0) f_X0_countIn), (66, op_iret)]
noncomputable def f_X7_cast : bm_F := Classical.choose (bm_hide (bm_mt 1 z_X7_cast))
theorem u_X7_cast : f_X7_cast = bm_mt 1 z_X7_cast := Classical.choose_spec (bm_hide _)
theorem k_X7_cast (l : Launch) (g : bm_G) : bm_MetF l g yX7_cast cX7_cast 1 (some .int) 6 138 f_X7_cast := by
  rw [u_X7_cast]
  refine bm_met (by decide) ?_
  intro p e R s m args below meth c n0 s0 hx hb hml hown hts hK hr hlk hnm hF hL
  refine bm_cc (s_aload_n hx hb dX7_cast_0) ?_
  refine bm_cc (s_getR hx hb hown hts hK (C := RX7) (TT := TX7) (N := 6) (ci := 6) (j := 5) inT7 rfl (by decide) rfl (by decide) rfl tw_81 rfl dX7_cast_1) ?_
  refine bm_cc (s_aload_n hx hb dX7_cast_4) ?_
  refine bm_cc (s_getR hx hb hown hts hK (C := RX7) (TT := TX7) (N := 6) (ci := 6) (j := 4) inT7 rfl (by decide) rfl (by decide) rfl tw_74 rfl dX7_cast_5) ?_
  refine bm_cc (s_aload_n hx hb dX7_cast_8) ?_
  refine bm_cc (s_getR hx hb hown hts hK (C := RX7) (TT := TX7) (N := 6) (ci := 6) (j := 0) inT7 rfl (by decide) rfl (by decide) rfl tw_46 rfl dX7_cast_9) ?_
  refine bm_cc (s_callV hx hb hml hown hts hK (C := RX0) (TT := TX0) (N := 7) (ci := 0) rfl (by decide) (k_X0_read l g) tw_569 tw_570 tw_571 tw_77 tw_568 ⟨by decide, by decide, by decide +kernel⟩ ⟨by rw [hF]; decide, by rw [hL]; decide⟩ dX7_cast_12) ?_
  refine bm_cc (s_aload_n hx hb dX7_cast_15) ?_
  refine bm_cc (s_getR hx hb hown hts hK (C := RX7) (TT := TX7) (N := 6) (ci := 6) (j := 5) inT7 rfl (by decide) rfl (by decide) rfl tw_81 rfl dX7_cast_16) ?_
  refine bm_cc (s_callV hx hb hml hown hts hK (C := RX0) (TT := TX0) (N := 7) (ci := 0) rfl (by decide) (k_X0_reason l g) tw_573 tw_574 tw_575 tw_77 tw_572 ⟨by decide, by decide, by decide +kernel⟩ ⟨by rw [hF]; decide, by rw [hL]; decide⟩ dX7_cast_19) ?_
  refine bm_cc (s_ifeq hx hb dX7_cast_22 (by decide)) ?_
  refine bm_cc (s_bipush hx hb dX7_cast_25 (by decide)) ?_
  refine bm_cc (s_iret hx hb hr hlk dX7_cast_27) ?_
  refine bm_cc (s_aload_n hx hb dX7_cast_28) ?_
  refine bm_cc (s_getR hx hb hown hts hK (C := RX7) (TT := TX7) (N := 6) (ci := 6) (j := 0) inT7 rfl (by decide) rfl (by decide) rfl tw_46 rfl dX7_cast_29) ?_
  refine bm_cc (s_callV hx hb hml hown hts hK (C := RX3) (TT := TX3) (N := 12) (ci := 3) rfl (by decide) (k_X3_ballots l g) tw_151 tw_152 tw_153 tw_26 tw_150 ⟨by decide, by decide, by decide +kernel⟩ ⟨by rw [hF]; decide, by rw [hL]; decide⟩ dX7_cast_32) ?_
  refine bm_cc (s_sipush hx hb dX7_cast_35 (by decide)) ?_
  refine bm_cc (s_iclt hx hb dX7_cast_38 (by decide)) ?_
  refine bm_cc (s_bipush hx hb dX7_cast_41 (by decide)) ?_
  refine bm_cc (s_iret hx hb hr hlk dX7_cast_43) ?_
  refine bm_cc (s_aload_n hx hb dX7_cast_44) ?_
  refine bm_cc (s_getR hx hb hown hts hK (C := RX7) (TT := TX7) (N := 6) (ci := 6) (j := 1) inT7 rfl (by decide) rfl (by decide) rfl tw_53 rfl dX7_cast_45) ?_
  refine bm_cc (s_aload_n hx hb dX7_cast_48) ?_
  refine bm_cc (s_getR hx hb hown hts hK (C := RX7) (TT := TX7) (N := 6) (ci := 6) (j := 0) inT7 rfl (by decide) rfl (by decide) rfl tw_46 rfl dX7_cast_49) ?_
  refine bm_cc (s_callV hx hb hml hown hts hK (C := RX2) (TT := TX2) (N := 3) (ci := 2) rfl (by decide) (k_X2_keep l g) tw_115 tw_116 tw_117 tw_49 tw_114 ⟨by decide, by decide, by decide +kernel⟩ ⟨by rw [hF]; decide, by rw [hL]; decide⟩ dX7_cast_52) ?_
  refine bm_cc (s_aload_n hx hb dX7_cast_55) ?_
  refine bm_cc (s_getR hx hb hown hts hK (C := RX7) (TT := TX7) (N := 6) (ci := 6) (j := 5) inT7 rfl (by decide) rfl (by decide) rfl tw_81 rfl dX7_cast_56) ?_
  refine bm_cc (s_aload_n hx hb dX7_cast_59) ?_
  refine bm_cc (s_getR hx hb hown hts hK (C := RX7) (TT := TX7) (N := 6) (ci := 6) (j := 0) inT7 rfl (by decide) rfl (by decide) rfl tw_46 rfl dX7_cast_60) ?_
  refine bm_cc (s_callV hx hb hml hown hts hK (C := RX0) (TT := TX0) (N := 7) (ci := 0) rfl (by decide) (k_X0_countIn l g) tw_637 tw_638 tw_639 tw_77 tw_636 ⟨by decide, by decide, by decide +kernel⟩ ⟨by rw [hF]; decide, by rw [hL]; decide⟩ dX7_cast_63) ?_
  refine bm_cc (s_iret hx hb hr hlk dX7_cast_66) ?_
  exact bm_c9
