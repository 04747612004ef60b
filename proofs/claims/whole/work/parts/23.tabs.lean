/-! tables, by program (wip/whole/gen/mkt.py K R) -/
abbrev J_K_init : g_J := (y_K_init, prog_4_method_1_code, 1, none, (2, 45), [], none)
theorem d_K_init_0 : decode prog_4_method_1_code 0 = .ok (.aload_n 0, 1) := by decide +kernel
theorem d_K_init_1 : decode prog_4_method_1_code 1 = .ok (.invokespecial 3, 3) := by decide +kernel
theorem d_K_init_4 : decode prog_4_method_1_code 4 = .ok (.aload_n 0, 1) := by decide +kernel
theorem d_K_init_5 : decode prog_4_method_1_code 5 = .ok (.new 9, 3) := by decide +kernel
theorem d_K_init_8 : decode prog_4_method_1_code 8 = .ok (.dup, 1) := by decide +kernel
theorem d_K_init_9 : decode prog_4_method_1_code 9 = .ok (.sipush 2000, 3) := by decide +kernel
theorem d_K_init_12 : decode prog_4_method_1_code 12 = .ok (.invokespecial 11, 3) := by decide +kernel
theorem d_K_init_15 : decode prog_4_method_1_code 15 = .ok (.putfield 14, 3) := by decide +kernel
theorem d_K_init_18 : decode prog_4_method_1_code 18 = .ok (.aload_n 0, 1) := by decide +kernel
theorem d_K_init_19 : decode prog_4_method_1_code 19 = .ok (.new 9, 3) := by decide +kernel
theorem d_K_init_22 : decode prog_4_method_1_code 22 = .ok (.dup, 1) := by decide +kernel
theorem d_K_init_23 : decode prog_4_method_1_code 23 = .ok (.sipush 2000, 3) := by decide +kernel
theorem d_K_init_26 : decode prog_4_method_1_code 26 = .ok (.invokespecial 11, 3) := by decide +kernel
theorem d_K_init_29 : decode prog_4_method_1_code 29 = .ok (.putfield 20, 3) := by decide +kernel
theorem d_K_init_32 : decode prog_4_method_1_code 32 = .ok (.aload_n 0, 1) := by decide +kernel
theorem d_K_init_33 : decode prog_4_method_1_code 33 = .ok (.new 9, 3) := by decide +kernel
theorem d_K_init_36 : decode prog_4_method_1_code 36 = .ok (.dup, 1) := by decide +kernel
theorem d_K_init_37 : decode prog_4_method_1_code 37 = .ok (.sipush 2000, 3) := by decide +kernel
theorem d_K_init_40 : decode prog_4_method_1_code 40 = .ok (.invokespecial 11, 3) := by decide +kernel
theorem d_K_init_43 : decode prog_4_method_1_code 43 = .ok (.putfield 23, 3) := by decide +kernel
theorem d_K_init_46 : decode prog_4_method_1_code 46 = .ok (.aload_n 0, 1) := by decide +kernel
theorem d_K_init_47 : decode prog_4_method_1_code 47 = .ok (.new 9, 3) := by decide +kernel
theorem d_K_init_50 : decode prog_4_method_1_code 50 = .ok (.dup, 1) := by decide +kernel
theorem d_K_init_51 : decode prog_4_method_1_code 51 = .ok (.sipush 2000, 3) := by decide +kernel
theorem d_K_init_54 : decode prog_4_method_1_code 54 = .ok (.invokespecial 11, 3) := by decide +kernel
theorem d_K_init_57 : decode prog_4_method_1_code 57 = .ok (.putfield 26, 3) := by decide +kernel
theorem d_K_init_60 : decode prog_4_method_1_code 60 = .ok (.aload_n 0, 1) := by decide +kernel
theorem d_K_init_61 : decode prog_4_method_1_code 61 = .ok (.new 9, 3) := by decide +kernel
theorem d_K_init_64 : decode prog_4_method_1_code 64 = .ok (.dup, 1) := by decide +kernel
theorem d_K_init_65 : decode prog_4_method_1_code 65 = .ok (.sipush 2000, 3) := by decide +kernel
theorem d_K_init_68 : decode prog_4_method_1_code 68 = .ok (.invokespecial 11, 3) := by decide +kernel
theorem d_K_init_71 : decode prog_4_method_1_code 71 = .ok (.putfield 29, 3) := by decide +kernel
theorem d_K_init_74 : decode prog_4_method_1_code 74 = .ok (.aload_n 0, 1) := by decide +kernel
theorem d_K_init_75 : decode prog_4_method_1_code 75 = .ok (.new 9, 3) := by decide +kernel
theorem d_K_init_78 : decode prog_4_method_1_code 78 = .ok (.dup, 1) := by decide +kernel
theorem d_K_init_79 : decode prog_4_method_1_code 79 = .ok (.sipush 2000, 3) := by decide +kernel
theorem d_K_init_82 : decode prog_4_method_1_code 82 = .ok (.invokespecial 11, 3) := by decide +kernel
theorem d_K_init_85 : decode prog_4_method_1_code 85 = .ok (.putfield 32, 3) := by decide +kernel
theorem d_K_init_88 : decode prog_4_method_1_code 88 = .ok (.aload_n 0, 1) := by decide +kernel
theorem d_K_init_89 : decode prog_4_method_1_code 89 = .ok (.new 9, 3) := by decide +kernel
theorem d_K_init_92 : decode prog_4_method_1_code 92 = .ok (.dup, 1) := by decide +kernel
theorem d_K_init_93 : decode prog_4_method_1_code 93 = .ok (.sipush 2000, 3) := by decide +kernel
theorem d_K_init_96 : decode prog_4_method_1_code 96 = .ok (.invokespecial 11, 3) := by decide +kernel
theorem d_K_init_99 : decode prog_4_method_1_code 99 = .ok (.putfield 35, 3) := by decide +kernel
theorem d_K_init_102 : decode prog_4_method_1_code 102 = .ok (.aload_n 0, 1) := by decide +kernel
theorem d_K_init_103 : decode prog_4_method_1_code 103 = .ok (.new 9, 3) := by decide +kernel
theorem d_K_init_106 : decode prog_4_method_1_code 106 = .ok (.dup, 1) := by decide +kernel
theorem d_K_init_107 : decode prog_4_method_1_code 107 = .ok (.sipush 2000, 3) := by decide +kernel
theorem d_K_init_110 : decode prog_4_method_1_code 110 = .ok (.invokespecial 11, 3) := by decide +kernel
theorem d_K_init_113 : decode prog_4_method_1_code 113 = .ok (.putfield 38, 3) := by decide +kernel
theorem d_K_init_116 : decode prog_4_method_1_code 116 = .ok (.return_, 1) := by decide +kernel
def cd_K_init_0 : Nat → g_T := g_tab [(0, tr_ald 0 1), (1, tr_oi 4), (4, tr_ald 0 5), (5, tr_new 0 2 [.null, .int 0] 8), (8, tr_dup 9), (9, tr_cst (.int (2000)) 12), (12, tr_cI J_I_init 1 15), (15, tr_put 5 0 (.object "TracePacks$Ints") 18), (18, tr_ald 0 19), (19, tr_new 0 2 [.null, .int 0] 22), (22, tr_dup 23), (23, tr_cst (.int (2000)) 26), (26, tr_cI J_I_init 1 29), (29, tr_put 5 1 (.object "TracePacks$Ints") 32), (32, tr_ald 0 33), (33, tr_new 0 2 [.null, .int 0] 36)]
set_option maxRecDepth 100000 in
theorem ok_K_init_0 : ∀ pc, g_S (J_K_init) pc (cd_K_init_0 pc) := g_tab_ok <|
  List.forall_mem_cons.mpr ⟨so_aload_n d_K_init_0 rfl rfl,
  List.forall_mem_cons.mpr ⟨so_oi d_K_init_1 w_1_183 w_1_25 w_1_26 ⟨(Nat.le_of_ble_eq_true rfl), (Nat.le_of_ble_eq_true rfl)⟩ rfl,
  List.forall_mem_cons.mpr ⟨so_aload_n d_K_init_4 rfl rfl,
  List.forall_mem_cons.mpr ⟨so_new ft_I d_K_init_5 (rfl : vwCl[0]? = some (R_I, F_I, 2)) i_I w_1_184 w_1_28 w_1_2 tk_I (by decide) rfl,
  List.forall_mem_cons.mpr ⟨so_dup d_K_init_8 rfl,
  List.forall_mem_cons.mpr ⟨so_sipush (by decide) d_K_init_9 rfl,
  List.forall_mem_cons.mpr ⟨so_cI g_good d_K_init_12 ⟨w_1_31, (Nat.le_of_ble_eq_true rfl), (Nat.le_of_ble_eq_true rfl), w_1_2, ⟨by decide, by decide⟩, by decide +kernel⟩ rfl rfl w_1_185 w_1_30 rfl,
  List.forall_mem_cons.mpr ⟨so_putF ft_K d_K_init_15 (rfl : vwCl[5]? = some (R_K, F_K, 9)) (Nat.le_of_ble_eq_true rfl) i_K w_1_186 tk_K n_K rfl rfl rfl rfl rfl,
  List.forall_mem_cons.mpr ⟨so_aload_n d_K_init_18 rfl rfl,
  List.forall_mem_cons.mpr ⟨so_new ft_I d_K_init_19 (rfl : vwCl[0]? = some (R_I, F_I, 2)) i_I w_1_184 w_1_28 w_1_2 tk_I (by decide) rfl,
  List.forall_mem_cons.mpr ⟨so_dup d_K_init_22 rfl,
  List.forall_mem_cons.mpr ⟨so_sipush (by decide) d_K_init_23 rfl,
  List.forall_mem_cons.mpr ⟨so_cI g_good d_K_init_26 ⟨w_1_31, (Nat.le_of_ble_eq_true rfl), (Nat.le_of_ble_eq_true rfl), w_1_2, ⟨by decide, by decide⟩, by decide +kernel⟩ rfl rfl w_1_185 w_1_30 rfl,
  List.forall_mem_cons.mpr ⟨so_putF ft_K d_K_init_29 (rfl : vwCl[5]? = some (R_K, F_K, 9)) (Nat.le_of_ble_eq_true rfl) i_K w_1_187 tk_K n_K rfl rfl rfl rfl rfl,
  List.forall_mem_cons.mpr ⟨so_aload_n d_K_init_32 rfl rfl,
  List.forall_mem_cons.mpr ⟨so_new ft_I d_K_init_33 (rfl : vwCl[0]? = some (R_I, F_I, 2)) i_I w_1_184 w_1_28 w_1_2 tk_I (by decide) rfl,
  fun _ h => absurd h List.not_mem_nil⟩⟩⟩⟩⟩⟩⟩⟩⟩⟩⟩⟩⟩⟩⟩⟩
def cd_K_init_1 : Nat → g_T := g_tab [(36, tr_dup 37), (37, tr_cst (.int (2000)) 40), (40, tr_cI J_I_init 1 43), (43, tr_put 5 2 (.object "TracePacks$Ints") 46), (46, tr_ald 0 47), (47, tr_new 0 2 [.null, .int 0] 50), (50, tr_dup 51), (51, tr_cst (.int (2000)) 54), (54, tr_cI J_I_init 1 57), (57, tr_put 5 3 (.object "TracePacks$Ints") 60), (60, tr_ald 0 61), (61, tr_new 0 2 [.null, .int 0] 64), (64, tr_dup 65), (65, tr_cst (.int (2000)) 68), (68, tr_cI J_I_init 1 71), (71, tr_put 5 4 (.object "TracePacks$Ints") 74)]
set_option maxRecDepth 100000 in
theorem ok_K_init_1 : ∀ pc, g_S (J_K_init) pc (cd_K_init_1 pc) := g_tab_ok <|
  List.forall_mem_cons.mpr ⟨so_dup d_K_init_36 rfl,
  List.forall_mem_cons.mpr ⟨so_sipush (by decide) d_K_init_37 rfl,
  List.forall_mem_cons.mpr ⟨so_cI g_good d_K_init_40 ⟨w_1_31, (Nat.le_of_ble_eq_true rfl), (Nat.le_of_ble_eq_true rfl), w_1_2, ⟨by decide, by decide⟩, by decide +kernel⟩ rfl rfl w_1_185 w_1_30 rfl,
  List.forall_mem_cons.mpr ⟨so_putF ft_K d_K_init_43 (rfl : vwCl[5]? = some (R_K, F_K, 9)) (Nat.le_of_ble_eq_true rfl) i_K w_1_188 tk_K n_K rfl rfl rfl rfl rfl,
  List.forall_mem_cons.mpr ⟨so_aload_n d_K_init_46 rfl rfl,
  List.forall_mem_cons.mpr ⟨so_new ft_I d_K_init_47 (rfl : vwCl[0]? = some (R_I, F_I, 2)) i_I w_1_184 w_1_28 w_1_2 tk_I (by decide) rfl,
  List.forall_mem_cons.mpr ⟨so_dup d_K_init_50 rfl,
  List.forall_mem_cons.mpr ⟨so_sipush (by decide) d_K_init_51 rfl,
  List.forall_mem_cons.mpr ⟨so_cI g_good d_K_init_54 ⟨w_1_31, (Nat.le_of_ble_eq_true rfl), (Nat.le_of_ble_eq_true rfl), w_1_2, ⟨by decide, by decide⟩, by decide +kernel⟩ rfl rfl w_1_185 w_1_30 rfl,
  List.forall_mem_cons.mpr ⟨so_putF ft_K d_K_init_57 (rfl : vwCl[5]? = some (R_K, F_K, 9)) (Nat.le_of_ble_eq_true rfl) i_K w_1_189 tk_K n_K rfl rfl rfl rfl rfl,
  List.forall_mem_cons.mpr ⟨so_aload_n d_K_init_60 rfl rfl,
  List.forall_mem_cons.mpr ⟨so_new ft_I d_K_init_61 (rfl : vwCl[0]? = some (R_I, F_I, 2)) i_I w_1_184 w_1_28 w_1_2 tk_I (by decide) rfl,
  List.forall_mem_cons.mpr ⟨so_dup d_K_init_64 rfl,
  List.forall_mem_cons.mpr ⟨so_sipush (by decide) d_K_init_65 rfl,
  List.forall_mem_cons.mpr ⟨so_cI g_good d_K_init_68 ⟨w_1_31, (Nat.le_of_ble_eq_true rfl), (Nat.le_of_ble_eq_true rfl), w_1_2, ⟨by decide, by decide⟩, by decide +kernel⟩ rfl rfl w_1_185 w_1_30 rfl,
  List.forall_mem_cons.mpr ⟨so_putF ft_K d_K_init_71 (rfl : vwCl[5]? = some (R_K, F_K, 9)) (Nat.le_of_ble_eq_true rfl) i_K w_1_190 tk_K n_K rfl rfl rfl rfl rfl,
  fun _ h => absurd h List.not_mem_nil⟩⟩⟩⟩⟩⟩⟩⟩⟩⟩⟩⟩⟩⟩⟩⟩
def cd_K_init_2 : Nat → g_T := g_tab [(74, tr_ald 0 75), (75, tr_new 0 2 [.null, .int 0] 78), (78, tr_dup 79), (79, tr_cst (.int (2000)) 82), (82, tr_cI J_I_init 1 85), (85, tr_put 5 5 (.object "TracePacks$Ints") 88), (88, tr_ald 0 89), (89, tr_new 0 2 [.null, .int 0] 92), (92, tr_dup 93), (93, tr_cst (.int (2000)) 96), (96, tr_cI J_I_init 1 99), (99, tr_put 5 6 (.object "TracePacks$Ints") 102), (102, tr_ald 0 103), (103, tr_new 0 2 [.null, .int 0] 106), (106, tr_dup 107), (107, tr_cst (.int (2000)) 110)]
set_option maxRecDepth 100000 in
theorem ok_K_init_2 : ∀ pc, g_S (J_K_init) pc (cd_K_init_2 pc) := g_tab_ok <|
  List.forall_mem_cons.mpr ⟨so_aload_n d_K_init_74 rfl rfl,
  List.forall_mem_cons.mpr ⟨so_new ft_I d_K_init_75 (rfl : vwCl[0]? = some (R_I, F_I, 2)) i_I w_1_184 w_1_28 w_1_2 tk_I (by decide) rfl,
  List.forall_mem_cons.mpr ⟨so_dup d_K_init_78 rfl,
  List.forall_mem_cons.mpr ⟨so_sipush (by decide) d_K_init_79 rfl,
  List.forall_mem_cons.mpr ⟨so_cI g_good d_K_init_82 ⟨w_1_31, (Nat.le_of_ble_eq_true rfl), (Nat.le_of_ble_eq_true rfl), w_1_2, ⟨by decide, by decide⟩, by decide +kernel⟩ rfl rfl w_1_185 w_1_30 rfl,
  List.forall_mem_cons.mpr ⟨so_putF ft_K d_K_init_85 (rfl : vwCl[5]? = some (R_K, F_K, 9)) (Nat.le_of_ble_eq_true rfl) i_K w_1_191 tk_K n_K rfl rfl rfl rfl rfl,
  List.forall_mem_cons.mpr ⟨so_aload_n d_K_init_88 rfl rfl,
  List.forall_mem_cons.mpr ⟨so_new ft_I d_K_init_89 (rfl : vwCl[0]? = some (R_I, F_I, 2)) i_I w_1_184 w_1_28 w_1_2 tk_I (by decide) rfl,
  List.forall_mem_cons.mpr ⟨so_dup d_K_init_92 rfl,
  List.forall_mem_cons.mpr ⟨so_sipush (by decide) d_K_init_93 rfl,
  List.forall_mem_cons.mpr ⟨so_cI g_good d_K_init_96 ⟨w_1_31, (Nat.le_of_ble_eq_true rfl), (Nat.le_of_ble_eq_true rfl), w_1_2, ⟨by decide, by decide⟩, by decide +kernel⟩ rfl rfl w_1_185 w_1_30 rfl,
  List.forall_mem_cons.mpr ⟨so_put ft_K d_K_init_99 (rfl : vwCl[5]? = some (R_K, F_K, 9)) (Nat.le_of_ble_eq_true rfl) i_K w_1_192 tk_K n_K rfl rfl rfl,
  List.forall_mem_cons.mpr ⟨so_aload_n d_K_init_102 rfl rfl,
  List.forall_mem_cons.mpr ⟨so_new ft_I d_K_init_103 (rfl : vwCl[0]? = some (R_I, F_I, 2)) i_I w_1_184 w_1_28 w_1_2 tk_I (by decide) rfl,
  List.forall_mem_cons.mpr ⟨so_dup d_K_init_106 rfl,
  List.forall_mem_cons.mpr ⟨so_sipush (by decide) d_K_init_107 rfl,
  fun _ h => absurd h List.not_mem_nil⟩⟩⟩⟩⟩⟩⟩⟩⟩⟩⟩⟩⟩⟩⟩⟩
def cd_K_init_3 : Nat → g_T := g_tab [(110, tr_cI J_I_init 1 113), (113, tr_put 5 7 (.object "TracePacks$Ints") 116), (116, tr_rv)]
set_option maxRecDepth 100000 in
theorem ok_K_init_3 : ∀ pc, g_S (J_K_init) pc (cd_K_init_3 pc) := g_tab_ok <|
  List.forall_mem_cons.mpr ⟨so_cI g_good d_K_init_110 ⟨w_1_31, (Nat.le_of_ble_eq_true rfl), (Nat.le_of_ble_eq_true rfl), w_1_2, ⟨by decide, by decide⟩, by decide +kernel⟩ rfl rfl w_1_185 w_1_30 rfl,
  List.forall_mem_cons.mpr ⟨so_put ft_K d_K_init_113 (rfl : vwCl[5]? = some (R_K, F_K, 9)) (Nat.le_of_ble_eq_true rfl) i_K w_1_193 tk_K n_K rfl rfl rfl,
  List.forall_mem_cons.mpr ⟨so_vret d_K_init_116 rfl,
  fun _ h => absurd h List.not_mem_nil⟩⟩⟩
def cd_K_init : Nat → g_T := g_chk [(33, cd_K_init_0), (71, cd_K_init_1), (107, cd_K_init_2), (116, cd_K_init_3)]
theorem ok_K_init : ∀ pc, g_S (J_K_init) pc (cd_K_init pc) := g_chk_ok <|
  List.forall_mem_cons.mpr ⟨ok_K_init_0,
  List.forall_mem_cons.mpr ⟨ok_K_init_1,
  List.forall_mem_cons.mpr ⟨ok_K_init_2,
  List.forall_mem_cons.mpr ⟨ok_K_init_3,
  fun _ h => absurd h List.not_mem_nil⟩⟩⟩⟩
abbrev J_R_init : g_J := (y_R_init, prog_9_method_1_code, 1, none, (5, 105), [], none)
theorem d_R_init_0 : decode prog_9_method_1_code 0 = .ok (.aload_n 0, 1) := by decide +kernel
theorem d_R_init_1 : decode prog_9_method_1_code 1 = .ok (.invokespecial 3, 3) := by decide +kernel
theorem d_R_init_4 : decode prog_9_method_1_code 4 = .ok (.aload_n 0, 1) := by decide +kernel
theorem d_R_init_5 : decode prog_9_method_1_code 5 = .ok (.new 9, 3) := by decide +kernel
theorem d_R_init_8 : decode prog_9_method_1_code 8 = .ok (.dup, 1) := by decide +kernel
theorem d_R_init_9 : decode prog_9_method_1_code 9 = .ok (.invokespecial 11, 3) := by decide +kernel
theorem d_R_init_12 : decode prog_9_method_1_code 12 = .ok (.putfield 12, 3) := by decide +kernel
theorem d_R_init_15 : decode prog_9_method_1_code 15 = .ok (.aload_n 0, 1) := by decide +kernel
theorem d_R_init_16 : decode prog_9_method_1_code 16 = .ok (.new 18, 3) := by decide +kernel
theorem d_R_init_19 : decode prog_9_method_1_code 19 = .ok (.dup, 1) := by decide +kernel
theorem d_R_init_20 : decode prog_9_method_1_code 20 = .ok (.invokespecial 20, 3) := by decide +kernel
theorem d_R_init_23 : decode prog_9_method_1_code 23 = .ok (.putfield 21, 3) := by decide +kernel
theorem d_R_init_26 : decode prog_9_method_1_code 26 = .ok (.return_, 1) := by decide +kernel
def cd_R_init_0 : Nat → g_T := g_tab [(0, tr_ald 0 1), (1, tr_oi 4), (4, tr_ald 0 5), (5, tr_new 7 4 [.null, .null, .null, .int 0] 8), (8, tr_dup 9), (9, tr_cI J_U_init 0 12), (12, tr_put 8 0 (.object "TracePacks$Unpacker") 15), (15, tr_ald 0 16), (16, tr_new 5 9 [.null, .null, .null, .null, .null, .null, .null, .null, .int 0] 19), (19, tr_dup 20), (20, tr_cI J_K_init 0 23), (23, tr_put 8 1 (.object "TracePacks$Kept") 26), (26, tr_rv)]
set_option maxRecDepth 100000 in
theorem ok_R_init_0 : ∀ pc, g_S (J_R_init) pc (cd_R_init_0 pc) := g_tab_ok <|
  List.forall_mem_cons.mpr ⟨so_aload_n d_R_init_0 rfl rfl,
  List.forall_mem_cons.mpr ⟨so_oi d_R_init_1 w_1_152 w_1_25 w_1_26 ⟨(Nat.le_of_ble_eq_true rfl), (Nat.le_of_ble_eq_true rfl)⟩ rfl,
  List.forall_mem_cons.mpr ⟨so_aload_n d_R_init_4 rfl rfl,
  List.forall_mem_cons.mpr ⟨so_new ft_U d_R_init_5 (rfl : vwCl[7]? = some (R_U, F_U, 4)) i_U w_1_153 w_1_154 w_1_10 tk_U (by decide) rfl,
  List.forall_mem_cons.mpr ⟨so_dup d_R_init_8 rfl,
  List.forall_mem_cons.mpr ⟨so_cIN g_good d_R_init_9 ⟨w_1_157, (Nat.le_of_ble_eq_true rfl), (Nat.le_of_ble_eq_true rfl), w_1_10, ⟨by decide, by decide⟩, by decide +kernel⟩ rfl rfl w_1_155 w_1_156 rfl,
  List.forall_mem_cons.mpr ⟨so_putF ft_R d_R_init_12 (rfl : vwCl[8]? = some (R_R, F_R, 6)) (Nat.le_of_ble_eq_true rfl) i_R w_1_214 tk_R n_R rfl rfl rfl rfl rfl,
  List.forall_mem_cons.mpr ⟨so_aload_n d_R_init_15 rfl rfl,
  List.forall_mem_cons.mpr ⟨so_new ft_K d_R_init_16 (rfl : vwCl[5]? = some (R_K, F_K, 9)) i_K w_1_178 w_1_179 w_1_11 tk_K (by decide) rfl,
  List.forall_mem_cons.mpr ⟨so_dup d_R_init_19 rfl,
  List.forall_mem_cons.mpr ⟨so_cIN g_good d_R_init_20 ⟨w_1_182, (Nat.le_of_ble_eq_true rfl), (Nat.le_of_ble_eq_true rfl), w_1_11, ⟨by decide, by decide⟩, by decide +kernel⟩ rfl rfl w_1_180 w_1_181 rfl,
  List.forall_mem_cons.mpr ⟨so_putF ft_R d_R_init_23 (rfl : vwCl[8]? = some (R_R, F_R, 6)) (Nat.le_of_ble_eq_true rfl) i_R w_1_215 tk_R n_R rfl rfl rfl rfl rfl,
  List.forall_mem_cons.mpr ⟨so_vret d_R_init_26 rfl,
  fun _ h => absurd h List.not_mem_nil⟩⟩⟩⟩⟩⟩⟩⟩⟩⟩⟩⟩⟩
def cd_R_init : Nat → g_T := g_chk [(26, cd_R_init_0)]
theorem ok_R_init : ∀ pc, g_S (J_R_init) pc (cd_R_init pc) := g_chk_ok <|
  List.forall_mem_cons.mpr ⟨ok_R_init_0,
  fun _ h => absurd h List.not_mem_nil⟩
abbrev J_R_passedOver : g_J := (y_R_passedOver, prog_9_method_4_code, 1, (some .int), (0, 0), [], none)
theorem d_R_passedOver_0 : decode prog_9_method_4_code 0 = .ok (.aload_n 0, 1) := by decide +kernel
theorem d_R_passedOver_1 : decode prog_9_method_4_code 1 = .ok (.getfield 32, 3) := by decide +kernel
theorem d_R_passedOver_4 : decode prog_9_method_4_code 4 = .ok (.ireturn, 1) := by decide +kernel
def cd_R_passedOver_0 : Nat → g_T := g_tab [(0, tr_ald 0 1), (1, tr_get 8 2 4), (4, tr_ri)]
set_option maxRecDepth 100000 in
theorem ok_R_passedOver_0 : ∀ pc, g_S (J_R_passedOver) pc (cd_R_passedOver_0 pc) := g_tab_ok <|
  List.forall_mem_cons.mpr ⟨so_aload_n d_R_passedOver_0 rfl rfl,
  List.forall_mem_cons.mpr ⟨so_get d_R_passedOver_1 (rfl : vwCl[8]? = some (R_R, F_R, 6)) (Nat.le_of_ble_eq_true rfl) i_R w_1_216 rfl,
  List.forall_mem_cons.mpr ⟨so_iret d_R_passedOver_4 rfl,
  fun _ h => absurd h List.not_mem_nil⟩⟩⟩
def cd_R_passedOver : Nat → g_T := g_chk [(4, cd_R_passedOver_0)]
theorem ok_R_passedOver : ∀ pc, g_S (J_R_passedOver) pc (cd_R_passedOver pc) := g_chk_ok <|
  List.forall_mem_cons.mpr ⟨ok_R_passedOver_0,
  fun _ h => absurd h List.not_mem_nil⟩
abbrev J_R_blocks : g_J := (y_R_blocks, prog_9_method_5_code, 1, (some .int), (0, 0), [], none)
theorem d_R_blocks_0 : decode prog_9_method_5_code 0 = .ok (.aload_n 0, 1) := by decide +kernel
theorem d_R_blocks_1 : decode prog_9_method_5_code 1 = .ok (.getfield 61, 3) := by decide +kernel
theorem d_R_blocks_4 : decode prog_9_method_5_code 4 = .ok (.ireturn, 1) := by decide +kernel
def cd_R_blocks_0 : Nat → g_T := g_tab [(0, tr_ald 0 1), (1, tr_get 8 3 4), (4, tr_ri)]
set_option maxRecDepth 100000 in
theorem ok_R_blocks_0 : ∀ pc, g_S (J_R_blocks) pc (cd_R_blocks_0 pc) := g_tab_ok <|
  List.forall_mem_cons.mpr ⟨so_aload_n d_R_blocks_0 rfl rfl,
  List.forall_mem_cons.mpr ⟨so_get d_R_blocks_1 (rfl : vwCl[8]? = some (R_R, F_R, 6)) (Nat.le_of_ble_eq_true rfl) i_R w_1_217 rfl,
  List.forall_mem_cons.mpr ⟨so_iret d_R_blocks_4 rfl,
  fun _ h => absurd h List.not_mem_nil⟩⟩⟩
def cd_R_blocks : Nat → g_T := g_chk [(4, cd_R_blocks_0)]
theorem ok_R_blocks : ∀ pc, g_S (J_R_blocks) pc (cd_R_blocks pc) := g_chk_ok <|
  List.forall_mem_cons.mpr ⟨ok_R_blocks_0,
  fun _ h => absurd h List.not_mem_nil⟩
abbrev J_R_broken : g_J := (y_R_broken, prog_9_method_6_code, 1, (some .int), (0, 0), [], none)
theorem d_R_broken_0 : decode prog_9_method_6_code 0 = .ok (.aload_n 0, 1) := by decide +kernel
theorem d_R_broken_1 : decode prog_9_method_6_code 1 = .ok (.getfield 58, 3) := by decide +kernel
theorem d_R_broken_4 : decode prog_9_method_6_code 4 = .ok (.ireturn, 1) := by decide +kernel
def cd_R_broken_0 : Nat → g_T := g_tab [(0, tr_ald 0 1), (1, tr_get 8 4 4), (4, tr_ri)]
set_option maxRecDepth 100000 in
theorem ok_R_broken_0 : ∀ pc, g_S (J_R_broken) pc (cd_R_broken_0 pc) := g_tab_ok <|
  List.forall_mem_cons.mpr ⟨so_aload_n d_R_broken_0 rfl rfl,
  List.forall_mem_cons.mpr ⟨so_get d_R_broken_1 (rfl : vwCl[8]? = some (R_R, F_R, 6)) (Nat.le_of_ble_eq_true rfl) i_R w_1_218 rfl,
  List.forall_mem_cons.mpr ⟨so_iret d_R_broken_4 rfl,
  fun _ h => absurd h List.not_mem_nil⟩⟩⟩
def cd_R_broken : Nat → g_T := g_chk [(4, cd_R_broken_0)]
theorem ok_R_broken : ∀ pc, g_S (J_R_broken) pc (cd_R_broken pc) := g_chk_ok <|
  List.forall_mem_cons.mpr ⟨ok_R_broken_0,
  fun _ h => absurd h List.not_mem_nil⟩
abbrev J_R_rows : g_J := (y_R_rows, prog_9_method_3_code, 1, (some (.object "TracePacks$Kept")), (0, 0), [], none)
theorem d_R_rows_0 : decode prog_9_method_3_code 0 = .ok (.aload_n 0, 1) := by decide +kernel
theorem d_R_rows_1 : decode prog_9_method_3_code 1 = .ok (.getfield 21, 3) := by decide +kernel
theorem d_R_rows_4 : decode prog_9_method_3_code 4 = .ok (.areturn, 1) := by decide +kernel
def cd_R_rows_0 : Nat → g_T := g_tab [(0, tr_ald 0 1), (1, tr_get 8 1 4), (4, tr_ra)]
set_option maxRecDepth 100000 in
theorem ok_R_rows_0 : ∀ pc, g_S (J_R_rows) pc (cd_R_rows_0 pc) := g_tab_ok <|
  List.forall_mem_cons.mpr ⟨so_aload_n d_R_rows_0 rfl rfl,
  List.forall_mem_cons.mpr ⟨so_get d_R_rows_1 (rfl : vwCl[8]? = some (R_R, F_R, 6)) (Nat.le_of_ble_eq_true rfl) i_R w_1_215 rfl,
  List.forall_mem_cons.mpr ⟨so_aret d_R_rows_4 rfl,
  fun _ h => absurd h List.not_mem_nil⟩⟩⟩
def cd_R_rows : Nat → g_T := g_chk [(4, cd_R_rows_0)]
theorem ok_R_rows : ∀ pc, g_S (J_R_rows) pc (cd_R_rows pc) := g_chk_ok <|
  List.forall_mem_cons.mpr ⟨ok_R_rows_0,
  fun _ h => absurd h List.not_mem_nil⟩
abbrev J_K_size : g_J := (y_K_size, prog_4_method_4_code, 1, (some .int), (1, 20), [], none)
theorem d_K_size_0 : decode prog_4_method_4_code 0 = .ok (.aload_n 0, 1) := by decide +kernel
theorem d_K_size_1 : decode prog_4_method_4_code 1 = .ok (.getfield 14, 3) := by decide +kernel
theorem d_K_size_4 : decode prog_4_method_4_code 4 = .ok (.invokevirtual 68, 3) := by decide +kernel
theorem d_K_size_7 : decode prog_4_method_4_code 7 = .ok (.ireturn, 1) := by decide +kernel
def cd_K_size_0 : Nat → g_T := g_tab [(0, tr_ald 0 1), (1, tr_get 5 0 4), (4, tr_cV J_I_size 0 0 7), (7, tr_ri)]
set_option maxRecDepth 100000 in
theorem ok_K_size_0 : ∀ pc, g_S (J_K_size) pc (cd_K_size_0 pc) := g_tab_ok <|
  List.forall_mem_cons.mpr ⟨so_aload_n d_K_size_0 rfl rfl,
  List.forall_mem_cons.mpr ⟨so_get d_K_size_1 (rfl : vwCl[5]? = some (R_K, F_K, 9)) (Nat.le_of_ble_eq_true rfl) i_K w_1_186 rfl,
  List.forall_mem_cons.mpr ⟨so_cV g_good d_K_size_4 ⟨w_2_28, (Nat.le_of_ble_eq_true rfl), (Nat.le_of_ble_eq_true rfl), w_1_2, ⟨by decide, by decide⟩, by decide +kernel⟩ (rfl : vwCl[0]? = some (R_I, F_I, 2)) w_2_54 w_2_26 w_2_27 rfl,
  List.forall_mem_cons.mpr ⟨so_iret d_K_size_7 rfl,
  fun _ h => absurd h List.not_mem_nil⟩⟩⟩⟩
def cd_K_size : Nat → g_T := g_chk [(7, cd_K_size_0)]
theorem ok_K_size : ∀ pc, g_S (J_K_size) pc (cd_K_size pc) := g_chk_ok <|
  List.forall_mem_cons.mpr ⟨ok_K_size_0,
  fun _ h => absurd h List.not_mem_nil⟩
abbrev J_R_notKept : g_J := (y_R_notKept, prog_9_method_7_code, 1, (some .int), (0, 0), [], none)
theorem d_R_notKept_0 : decode prog_9_method_7_code 0 = .ok (.aload_n 0, 1) := by decide +kernel
theorem d_R_notKept_1 : decode prog_9_method_7_code 1 = .ok (.getfield 64, 3) := by decide +kernel
theorem d_R_notKept_4 : decode prog_9_method_7_code 4 = .ok (.ireturn, 1) := by decide +kernel
def cd_R_notKept_0 : Nat → g_T := g_tab [(0, tr_ald 0 1), (1, tr_get 8 5 4), (4, tr_ri)]
set_option maxRecDepth 100000 in
theorem ok_R_notKept_0 : ∀ pc, g_S (J_R_notKept) pc (cd_R_notKept_0 pc) := g_tab_ok <|
  List.forall_mem_cons.mpr ⟨so_aload_n d_R_notKept_0 rfl rfl,
  List.forall_mem_cons.mpr ⟨so_get d_R_notKept_1 (rfl : vwCl[8]? = some (R_R, F_R, 6)) (Nat.le_of_ble_eq_true rfl) i_R w_1_219 rfl,
  List.forall_mem_cons.mpr ⟨so_iret d_R_notKept_4 rfl,
  fun _ h => absurd h List.not_mem_nil⟩⟩⟩
def cd_R_notKept : Nat → g_T := g_chk [(4, cd_R_notKept_0)]
theorem ok_R_notKept : ∀ pc, g_S (J_R_notKept) pc (cd_R_notKept pc) := g_chk_ok <|
  List.forall_mem_cons.mpr ⟨ok_R_notKept_0,
  fun _ h => absurd h List.not_mem_nil⟩
abbrev J_K_clear : g_J := (y_K_clear, prog_4_method_2_code, 1, none, (1, 21), [], none)
theorem d_K_clear_0 : decode prog_4_method_2_code 0 = .ok (.aload_n 0, 1) := by decide +kernel
theorem d_K_clear_1 : decode prog_4_method_2_code 1 = .ok (.getfield 14, 3) := by decide +kernel
theorem d_K_clear_4 : decode prog_4_method_2_code 4 = .ok (.iconst 0, 1) := by decide +kernel
theorem d_K_clear_5 : decode prog_4_method_2_code 5 = .ok (.invokevirtual 41, 3) := by decide +kernel
theorem d_K_clear_8 : decode prog_4_method_2_code 8 = .ok (.aload_n 0, 1) := by decide +kernel
theorem d_K_clear_9 : decode prog_4_method_2_code 9 = .ok (.getfield 20, 3) := by decide +kernel
theorem d_K_clear_12 : decode prog_4_method_2_code 12 = .ok (.iconst 0, 1) := by decide +kernel
theorem d_K_clear_13 : decode prog_4_method_2_code 13 = .ok (.invokevirtual 41, 3) := by decide +kernel
theorem d_K_clear_16 : decode prog_4_method_2_code 16 = .ok (.aload_n 0, 1) := by decide +kernel
theorem d_K_clear_17 : decode prog_4_method_2_code 17 = .ok (.getfield 23, 3) := by decide +kernel
theorem d_K_clear_20 : decode prog_4_method_2_code 20 = .ok (.iconst 0, 1) := by decide +kernel
theorem d_K_clear_21 : decode prog_4_method_2_code 21 = .ok (.invokevirtual 41, 3) := by decide +kernel
theorem d_K_clear_24 : decode prog_4_method_2_code 24 = .ok (.aload_n 0, 1) := by decide +kernel
theorem d_K_clear_25 : decode prog_4_method_2_code 25 = .ok (.getfield 26, 3) := by decide +kernel
theorem d_K_clear_28 : decode prog_4_method_2_code 28 = .ok (.iconst 0, 1) := by decide +kernel
theorem d_K_clear_29 : decode prog_4_method_2_code 29 = .ok (.invokevirtual 41, 3) := by decide +kernel
theorem d_K_clear_32 : decode prog_4_method_2_code 32 = .ok (.aload_n 0, 1) := by decide +kernel
theorem d_K_clear_33 : decode prog_4_method_2_code 33 = .ok (.getfield 29, 3) := by decide +kernel
theorem d_K_clear_36 : decode prog_4_method_2_code 36 = .ok (.iconst 0, 1) := by decide +kernel
theorem d_K_clear_37 : decode prog_4_method_2_code 37 = .ok (.invokevirtual 41, 3) := by decide +kernel
theorem d_K_clear_40 : decode prog_4_method_2_code 40 = .ok (.aload_n 0, 1) := by decide +kernel
theorem d_K_clear_41 : decode prog_4_method_2_code 41 = .ok (.getfield 32, 3) := by decide +kernel
theorem d_K_clear_44 : decode prog_4_method_2_code 44 = .ok (.iconst 0, 1) := by decide +kernel
theorem d_K_clear_45 : decode prog_4_method_2_code 45 = .ok (.invokevirtual 41, 3) := by decide +kernel
theorem d_K_clear_48 : decode prog_4_method_2_code 48 = .ok (.aload_n 0, 1) := by decide +kernel
theorem d_K_clear_49 : decode prog_4_method_2_code 49 = .ok (.iconst 0, 1) := by decide +kernel
theorem d_K_clear_50 : decode prog_4_method_2_code 50 = .ok (.putfield 44, 3) := by decide +kernel
theorem d_K_clear_53 : decode prog_4_method_2_code 53 = .ok (.return_, 1) := by decide +kernel
def cd_K_clear_0 : Nat → g_T := g_tab [(0, tr_ald 0 1), (1, tr_get 5 0 4), (4, tr_cst (.int (0)) 5), (5, tr_cV J_I_shorten 0 1 8), (8, tr_ald 0 9), (9, tr_get 5 1 12), (12, tr_cst (.int (0)) 13), (13, tr_cV J_I_shorten 0 1 16), (16, tr_ald 0 17), (17, tr_get 5 2 20), (20, tr_cst (.int (0)) 21), (21, tr_cV J_I_shorten 0 1 24), (24, tr_ald 0 25), (25, tr_get 5 3 28), (28, tr_cst (.int (0)) 29), (29, tr_cV J_I_shorten 0 1 32)]
set_option maxRecDepth 100000 in
theorem ok_K_clear_0 : ∀ pc, g_S (J_K_clear) pc (cd_K_clear_0 pc) := g_tab_ok <|
  List.forall_mem_cons.mpr ⟨so_aload_n d_K_clear_0 rfl rfl,
  List.forall_mem_cons.mpr ⟨so_get d_K_clear_1 (rfl : vwCl[5]? = some (R_K, F_K, 9)) (Nat.le_of_ble_eq_true rfl) i_K w_1_186 rfl,
  List.forall_mem_cons.mpr ⟨so_iconst (by decide) d_K_clear_4 rfl,
  List.forall_mem_cons.mpr ⟨so_cV g_good d_K_clear_5 ⟨w_2_184, (Nat.le_of_ble_eq_true rfl), (Nat.le_of_ble_eq_true rfl), w_1_2, ⟨by decide, by decide⟩, by decide +kernel⟩ (rfl : vwCl[0]? = some (R_I, F_I, 2)) w_3_163 w_2_182 w_2_183 rfl,
  List.forall_mem_cons.mpr ⟨so_aload_n d_K_clear_8 rfl rfl,
  List.forall_mem_cons.mpr ⟨so_get d_K_clear_9 (rfl : vwCl[5]? = some (R_K, F_K, 9)) (Nat.le_of_ble_eq_true rfl) i_K w_1_187 rfl,
  List.forall_mem_cons.mpr ⟨so_iconst (by decide) d_K_clear_12 rfl,
  List.forall_mem_cons.mpr ⟨so_cV g_good d_K_clear_13 ⟨w_2_184, (Nat.le_of_ble_eq_true rfl), (Nat.le_of_ble_eq_true rfl), w_1_2, ⟨by decide, by decide⟩, by decide +kernel⟩ (rfl : vwCl[0]? = some (R_I, F_I, 2)) w_3_163 w_2_182 w_2_183 rfl,
  List.forall_mem_cons.mpr ⟨so_aload_n d_K_clear_16 rfl rfl,
  List.forall_mem_cons.mpr ⟨so_get d_K_clear_17 (rfl : vwCl[5]? = some (R_K, F_K, 9)) (Nat.le_of_ble_eq_true rfl) i_K w_1_188 rfl,
  List.forall_mem_cons.mpr ⟨so_iconst (by decide) d_K_clear_20 rfl,
  List.forall_mem_cons.mpr ⟨so_cV g_good d_K_clear_21 ⟨w_2_184, (Nat.le_of_ble_eq_true rfl), (Nat.le_of_ble_eq_true rfl), w_1_2, ⟨by decide, by decide⟩, by decide +kernel⟩ (rfl : vwCl[0]? = some (R_I, F_I, 2)) w_3_163 w_2_182 w_2_183 rfl,
  List.forall_mem_cons.mpr ⟨so_aload_n d_K_clear_24 rfl rfl,
  List.forall_mem_cons.mpr ⟨so_get d_K_clear_25 (rfl : vwCl[5]? = some (R_K, F_K, 9)) (Nat.le_of_ble_eq_true rfl) i_K w_1_189 rfl,
  List.forall_mem_cons.mpr ⟨so_iconst (by decide) d_K_clear_28 rfl,
  List.forall_mem_cons.mpr ⟨so_cV g_good d_K_clear_29 ⟨w_2_184, (Nat.le_of_ble_eq_true rfl), (Nat.le_of_ble_eq_true rfl), w_1_2, ⟨by decide, by decide⟩, by decide +kernel⟩ (rfl : vwCl[0]? = some (R_I, F_I, 2)) w_3_163 w_2_182 w_2_183 rfl,
  fun _ h => absurd h List.not_mem_nil⟩⟩⟩⟩⟩⟩⟩⟩⟩⟩⟩⟩⟩⟩⟩⟩
def cd_K_clear_1 : Nat → g_T := g_tab [(32, tr_ald 0 33), (33, tr_get 5 4 36), (36, tr_cst (.int (0)) 37), (37, tr_cV J_I_shorten 0 1 40), (40, tr_ald 0 41), (41, tr_get 5 5 44), (44, tr_cst (.int (0)) 45), (45, tr_cV J_I_shorten 0 1 48), (48, tr_ald 0 49), (49, tr_cst (.int (0)) 50), (50, tr_put 5 8 (.boolean) 53), (53, tr_rv)]
set_option maxRecDepth 100000 in
theorem ok_K_clear_1 : ∀ pc, g_S (J_K_clear) pc (cd_K_clear_1 pc) := g_tab_ok <|
  List.forall_mem_cons.mpr ⟨so_aload_n d_K_clear_32 rfl rfl,
  List.forall_mem_cons.mpr ⟨so_get d_K_clear_33 (rfl : vwCl[5]? = some (R_K, F_K, 9)) (Nat.le_of_ble_eq_true rfl) i_K w_1_190 rfl,
  List.forall_mem_cons.mpr ⟨so_iconst (by decide) d_K_clear_36 rfl,
  List.forall_mem_cons.mpr ⟨so_cV g_good d_K_clear_37 ⟨w_2_184, (Nat.le_of_ble_eq_true rfl), (Nat.le_of_ble_eq_true rfl), w_1_2, ⟨by decide, by decide⟩, by decide +kernel⟩ (rfl : vwCl[0]? = some (R_I, F_I, 2)) w_3_163 w_2_182 w_2_183 rfl,
  List.forall_mem_cons.mpr ⟨so_aload_n d_K_clear_40 rfl rfl,
  List.forall_mem_cons.mpr ⟨so_get d_K_clear_41 (rfl : vwCl[5]? = some (R_K, F_K, 9)) (Nat.le_of_ble_eq_true rfl) i_K w_1_191 rfl,
  List.forall_mem_cons.mpr ⟨so_iconst (by decide) d_K_clear_44 rfl,
  List.forall_mem_cons.mpr ⟨so_cV g_good d_K_clear_45 ⟨w_2_184, (Nat.le_of_ble_eq_true rfl), (Nat.le_of_ble_eq_true rfl), w_1_2, ⟨by decide, by decide⟩, by decide +kernel⟩ (rfl : vwCl[0]? = some (R_I, F_I, 2)) w_3_163 w_2_182 w_2_183 rfl,
  List.forall_mem_cons.mpr ⟨so_aload_n d_K_clear_48 rfl rfl,
  List.forall_mem_cons.mpr ⟨so_iconst (by decide) d_K_clear_49 rfl,
  List.forall_mem_cons.mpr ⟨so_put ft_K d_K_clear_50 (rfl : vwCl[5]? = some (R_K, F_K, 9)) (Nat.le_of_ble_eq_true rfl) i_K w_1_194 tk_K n_K rfl rfl rfl,
  List.forall_mem_cons.mpr ⟨so_vret d_K_clear_53 rfl,
  fun _ h => absurd h List.not_mem_nil⟩⟩⟩⟩⟩⟩⟩⟩⟩⟩⟩⟩
def cd_K_clear : Nat → g_T := g_chk [(29, cd_K_clear_0), (53, cd_K_clear_1)]
theorem ok_K_clear : ∀ pc, g_S (J_K_clear) pc (cd_K_clear pc) := g_chk_ok <|
  List.forall_mem_cons.mpr ⟨ok_K_clear_0,
  List.forall_mem_cons.mpr ⟨ok_K_clear_1,
  fun _ h => absurd h List.not_mem_nil⟩⟩
abbrev J_R_clear : g_J := (y_R_clear, prog_9_method_8_code, 1, none, (2, 41), [], none)
theorem d_R_clear_0 : decode prog_9_method_8_code 0 = .ok (.aload_n 0, 1) := by decide +kernel
theorem d_R_clear_1 : decode prog_9_method_8_code 1 = .ok (.getfield 21, 3) := by decide +kernel
theorem d_R_clear_4 : decode prog_9_method_8_code 4 = .ok (.invokevirtual 67, 3) := by decide +kernel
theorem d_R_clear_7 : decode prog_9_method_8_code 7 = .ok (.aload_n 0, 1) := by decide +kernel
theorem d_R_clear_8 : decode prog_9_method_8_code 8 = .ok (.iconst 0, 1) := by decide +kernel
theorem d_R_clear_9 : decode prog_9_method_8_code 9 = .ok (.putfield 61, 3) := by decide +kernel
theorem d_R_clear_12 : decode prog_9_method_8_code 12 = .ok (.aload_n 0, 1) := by decide +kernel
theorem d_R_clear_13 : decode prog_9_method_8_code 13 = .ok (.iconst 0, 1) := by decide +kernel
theorem d_R_clear_14 : decode prog_9_method_8_code 14 = .ok (.putfield 58, 3) := by decide +kernel
theorem d_R_clear_17 : decode prog_9_method_8_code 17 = .ok (.aload_n 0, 1) := by decide +kernel
theorem d_R_clear_18 : decode prog_9_method_8_code 18 = .ok (.iconst 0, 1) := by decide +kernel
theorem d_R_clear_19 : decode prog_9_method_8_code 19 = .ok (.putfield 64, 3) := by decide +kernel
theorem d_R_clear_22 : decode prog_9_method_8_code 22 = .ok (.return_, 1) := by decide +kernel
def cd_R_clear_0 : Nat → g_T := g_tab [(0, tr_ald 0 1), (1, tr_get 8 1 4), (4, tr_cV J_K_clear 5 0 7), (7, tr_ald 0 8), (8, tr_cst (.int (0)) 9), (9, tr_put 8 3 (.int) 12), (12, tr_ald 0 13), (13, tr_cst (.int (0)) 14), (14, tr_put 8 4 (.int) 17), (17, tr_ald 0 18), (18, tr_cst (.int (0)) 19), (19, tr_put 8 5 (.int) 22), (22, tr_rv)]
set_option maxRecDepth 100000 in
theorem ok_R_clear_0 : ∀ pc, g_S (J_R_clear) pc (cd_R_clear_0 pc) := g_tab_ok <|
  List.forall_mem_cons.mpr ⟨so_aload_n d_R_clear_0 rfl rfl,
  List.forall_mem_cons.mpr ⟨so_get d_R_clear_1 (rfl : vwCl[8]? = some (R_R, F_R, 6)) (Nat.le_of_ble_eq_true rfl) i_R w_1_215 rfl,
  List.forall_mem_cons.mpr ⟨so_cV g_good d_R_clear_4 ⟨w_3_162, (Nat.le_of_ble_eq_true rfl), (Nat.le_of_ble_eq_true rfl), w_1_11, ⟨by decide, by decide⟩, by decide +kernel⟩ (rfl : vwCl[5]? = some (R_K, F_K, 9)) w_3_159 w_3_160 w_3_161 rfl,
  List.forall_mem_cons.mpr ⟨so_aload_n d_R_clear_7 rfl rfl,
  List.forall_mem_cons.mpr ⟨so_iconst (by decide) d_R_clear_8 rfl,
  List.forall_mem_cons.mpr ⟨so_put ft_R d_R_clear_9 (rfl : vwCl[8]? = some (R_R, F_R, 6)) (Nat.le_of_ble_eq_true rfl) i_R w_1_217 tk_R n_R rfl rfl rfl,
  List.forall_mem_cons.mpr ⟨so_aload_n d_R_clear_12 rfl rfl,
  List.forall_mem_cons.mpr ⟨so_iconst (by decide) d_R_clear_13 rfl,
  List.forall_mem_cons.mpr ⟨so_put ft_R d_R_clear_14 (rfl : vwCl[8]? = some (R_R, F_R, 6)) (Nat.le_of_ble_eq_true rfl) i_R w_1_218 tk_R n_R rfl rfl rfl,
  List.forall_mem_cons.mpr ⟨so_aload_n d_R_clear_17 rfl rfl,
  List.forall_mem_cons.mpr ⟨so_iconst (by decide) d_R_clear_18 rfl,
  List.forall_mem_cons.mpr ⟨so_put ft_R d_R_clear_19 (rfl : vwCl[8]? = some (R_R, F_R, 6)) (Nat.le_of_ble_eq_true rfl) i_R w_1_219 tk_R n_R rfl rfl rfl,
  List.forall_mem_cons.mpr ⟨so_vret d_R_clear_22 rfl,
  fun _ h => absurd h List.not_mem_nil⟩⟩⟩⟩⟩⟩⟩⟩⟩⟩⟩⟩⟩
def cd_R_clear : Nat → g_T := g_chk [(22, cd_R_clear_0)]
theorem ok_R_clear : ∀ pc, g_S (J_R_clear) pc (cd_R_clear pc) := g_chk_ok <|
  List.forall_mem_cons.mpr ⟨ok_R_clear_0,
  fun _ h => absurd h List.not_mem_nil⟩
abbrev J_R_firstMark : g_J := (y_R_firstMark, prog_9_method_9_code, 3, (some .int), (1, 21), [], none)
theorem d_R_firstMark_0 : decode prog_9_method_9_code 0 = .ok (.iload_n 1, 1) := by decide +kernel
theorem d_R_firstMark_1 : decode prog_9_method_9_code 1 = .ok (.istore_n 2, 1) := by decide +kernel
theorem d_R_firstMark_2 : decode prog_9_method_9_code 2 = .ok (.iload_n 2, 1) := by decide +kernel
theorem d_R_firstMark_3 : decode prog_9_method_9_code 3 = .ok (.aload_n 0, 1) := by decide +kernel
theorem d_R_firstMark_4 : decode prog_9_method_9_code 4 = .ok (.invokevirtual 36, 3) := by decide +kernel
theorem d_R_firstMark_7 : decode prog_9_method_9_code 7 = .ok (.if_icmp .ge 21, 3) := by decide +kernel
theorem d_R_firstMark_10 : decode prog_9_method_9_code 10 = .ok (.aload_n 0, 1) := by decide +kernel
theorem d_R_firstMark_11 : decode prog_9_method_9_code 11 = .ok (.iload_n 2, 1) := by decide +kernel
theorem d_R_firstMark_12 : decode prog_9_method_9_code 12 = .ok (.invokevirtual 42, 3) := by decide +kernel
theorem d_R_firstMark_15 : decode prog_9_method_9_code 15 = .ok (.bipush 126, 2) := by decide +kernel
theorem d_R_firstMark_17 : decode prog_9_method_9_code 17 = .ok (.if_icmp .ne 5, 3) := by decide +kernel
theorem d_R_firstMark_20 : decode prog_9_method_9_code 20 = .ok (.iload_n 2, 1) := by decide +kernel
theorem d_R_firstMark_21 : decode prog_9_method_9_code 21 = .ok (.ireturn, 1) := by decide +kernel
theorem d_R_firstMark_22 : decode prog_9_method_9_code 22 = .ok (.iinc 2 1, 3) := by decide +kernel
theorem d_R_firstMark_25 : decode prog_9_method_9_code 25 = .ok (.goto (-23), 3) := by decide +kernel
theorem d_R_firstMark_28 : decode prog_9_method_9_code 28 = .ok (.aload_n 0, 1) := by decide +kernel
theorem d_R_firstMark_29 : decode prog_9_method_9_code 29 = .ok (.invokevirtual 36, 3) := by decide +kernel
theorem d_R_firstMark_32 : decode prog_9_method_9_code 32 = .ok (.ireturn, 1) := by decide +kernel
def cd_R_firstMark_0 : Nat → g_T := g_tab [(0, tr_ild 1 1), (1, tr_ist 2 2), (2, tr_ild 2 3), (3, tr_ald 0 4), (4, tr_cV J_I_size 0 0 7), (7, tr_if2 (fun x y => y ≤ x) 28 10), (10, tr_ald 0 11), (11, tr_ild 2 12), (12, tr_cV J_I_at 0 1 15), (15, tr_cst (.int (126)) 17), (17, tr_if2 (fun x y => ¬ x = y) 22 20), (20, tr_ild 2 21), (21, tr_ri), (22, tr_inc 2 (1) 25), (25, tr_goto 2), (28, tr_ald 0 29)]
set_option maxRecDepth 100000 in
theorem ok_R_firstMark_0 : ∀ pc, g_S (J_R_firstMark) pc (cd_R_firstMark_0 pc) := g_tab_ok <|
  List.forall_mem_cons.mpr ⟨so_iload_n d_R_firstMark_0 rfl rfl,
  List.forall_mem_cons.mpr ⟨so_istore_n d_R_firstMark_1 rfl (Nat.le_of_ble_eq_true rfl) rfl,
  List.forall_mem_cons.mpr ⟨so_iload_n d_R_firstMark_2 rfl rfl,
  List.forall_mem_cons.mpr ⟨so_aload_n d_R_firstMark_3 rfl rfl,
  List.forall_mem_cons.mpr ⟨so_cV g_good d_R_firstMark_4 ⟨w_2_28, (Nat.le_of_ble_eq_true rfl), (Nat.le_of_ble_eq_true rfl), w_1_2, ⟨by decide, by decide⟩, by decide +kernel⟩ (rfl : vwCl[0]? = some (R_I, F_I, 2)) w_3_167 w_2_26 w_2_27 rfl,
  List.forall_mem_cons.mpr ⟨so_icmp_ge d_R_firstMark_7 (by decide) rfl,
  List.forall_mem_cons.mpr ⟨so_aload_n d_R_firstMark_10 rfl rfl,
  List.forall_mem_cons.mpr ⟨so_iload_n d_R_firstMark_11 rfl rfl,
  List.forall_mem_cons.mpr ⟨so_cV g_good d_R_firstMark_12 ⟨w_2_151, (Nat.le_of_ble_eq_true rfl), (Nat.le_of_ble_eq_true rfl), w_1_2, ⟨by decide, by decide⟩, by decide +kernel⟩ (rfl : vwCl[0]? = some (R_I, F_I, 2)) w_3_168 w_2_149 w_2_150 rfl,
  List.forall_mem_cons.mpr ⟨so_bipush (by decide) d_R_firstMark_15 rfl,
  List.forall_mem_cons.mpr ⟨so_icmp_ne d_R_firstMark_17 (by decide) rfl,
  List.forall_mem_cons.mpr ⟨so_iload_n d_R_firstMark_20 rfl rfl,
  List.forall_mem_cons.mpr ⟨so_iret d_R_firstMark_21 rfl,
  List.forall_mem_cons.mpr ⟨so_iinc d_R_firstMark_22 (by decide) (Nat.le_of_ble_eq_true rfl) rfl,
  List.forall_mem_cons.mpr ⟨so_goto d_R_firstMark_25 (by decide),
  List.forall_mem_cons.mpr ⟨so_aload_n d_R_firstMark_28 rfl rfl,
  fun _ h => absurd h List.not_mem_nil⟩⟩⟩⟩⟩⟩⟩⟩⟩⟩⟩⟩⟩⟩⟩⟩
def cd_R_firstMark_1 : Nat → g_T := g_tab [(29, tr_cV J_I_size 0 0 32), (32, tr_ri)]
set_option maxRecDepth 100000 in
theorem ok_R_firstMark_1 : ∀ pc, g_S (J_R_firstMark) pc (cd_R_firstMark_1 pc) := g_tab_ok <|
  List.forall_mem_cons.mpr ⟨so_cV g_good d_R_firstMark_29 ⟨w_2_28, (Nat.le_of_ble_eq_true rfl), (Nat.le_of_ble_eq_true rfl), w_1_2, ⟨by decide, by decide⟩, by decide +kernel⟩ (rfl : vwCl[0]? = some (R_I, F_I, 2)) w_3_167 w_2_26 w_2_27 rfl,
  List.forall_mem_cons.mpr ⟨so_iret d_R_firstMark_32 rfl,
  fun _ h => absurd h List.not_mem_nil⟩⟩
def cd_R_firstMark : Nat → g_T := g_chk [(28, cd_R_firstMark_0), (32, cd_R_firstMark_1)]
theorem ok_R_firstMark : ∀ pc, g_S (J_R_firstMark) pc (cd_R_firstMark pc) := g_chk_ok <|
  List.forall_mem_cons.mpr ⟨ok_R_firstMark_0,
  List.forall_mem_cons.mpr ⟨ok_R_firstMark_1,
  fun _ h => absurd h List.not_mem_nil⟩⟩
abbrev J_R_isChosen : g_J := (y_R_isChosen, prog_9_method_11_code, 3, (some .boolean), (0, 0), [], none)
theorem d_R_isChosen_0 : decode prog_9_method_11_code 0 = .ok (.iload_n 0, 1) := by decide +kernel
theorem d_R_isChosen_1 : decode prog_9_method_11_code 1 = .ok (.iload_n 1, 1) := by decide +kernel
theorem d_R_isChosen_2 : decode prog_9_method_11_code 2 = .ok (.ishr, 1) := by decide +kernel
theorem d_R_isChosen_3 : decode prog_9_method_11_code 3 = .ok (.iconst 1, 1) := by decide +kernel
theorem d_R_isChosen_4 : decode prog_9_method_11_code 4 = .ok (.iand, 1) := by decide +kernel
theorem d_R_isChosen_5 : decode prog_9_method_11_code 5 = .ok (.iconst 1, 1) := by decide +kernel
theorem d_R_isChosen_6 : decode prog_9_method_11_code 6 = .ok (.if_icmp .ne 18, 3) := by decide +kernel
theorem d_R_isChosen_9 : decode prog_9_method_11_code 9 = .ok (.iload_n 0, 1) := by decide +kernel
theorem d_R_isChosen_10 : decode prog_9_method_11_code 10 = .ok (.iconst 5, 1) := by decide +kernel
theorem d_R_isChosen_11 : decode prog_9_method_11_code 11 = .ok (.iload_n 2, 1) := by decide +kernel
theorem d_R_isChosen_12 : decode prog_9_method_11_code 12 = .ok (.iadd, 1) := by decide +kernel
theorem d_R_isChosen_13 : decode prog_9_method_11_code 13 = .ok (.ishr, 1) := by decide +kernel
theorem d_R_isChosen_14 : decode prog_9_method_11_code 14 = .ok (.iconst 1, 1) := by decide +kernel
theorem d_R_isChosen_15 : decode prog_9_method_11_code 15 = .ok (.iand, 1) := by decide +kernel
theorem d_R_isChosen_16 : decode prog_9_method_11_code 16 = .ok (.iconst 1, 1) := by decide +kernel
theorem d_R_isChosen_17 : decode prog_9_method_11_code 17 = .ok (.if_icmp .ne 7, 3) := by decide +kernel
theorem d_R_isChosen_20 : decode prog_9_method_11_code 20 = .ok (.iconst 1, 1) := by decide +kernel
theorem d_R_isChosen_21 : decode prog_9_method_11_code 21 = .ok (.goto 4, 3) := by decide +kernel
theorem d_R_isChosen_24 : decode prog_9_method_11_code 24 = .ok (.iconst 0, 1) := by decide +kernel
theorem d_R_isChosen_25 : decode prog_9_method_11_code 25 = .ok (.ireturn, 1) := by decide +kernel
def cd_R_isChosen_0 : Nat → g_T := g_tab [(0, tr_ild 0 1), (1, tr_ild 1 2), (2, tr_ii (fun x y => x >>> (y &&& 31)) 3), (3, tr_cst (.int (1)) 4), (4, tr_ii (fun x y => x &&& y) 5), (5, tr_cst (.int (1)) 6), (6, tr_if2 (fun x y => ¬ x = y) 24 9), (9, tr_ild 0 10), (10, tr_cst (.int (5)) 11), (11, tr_ild 2 12), (12, tr_ii (fun x y => x + y) 13), (13, tr_ii (fun x y => x >>> (y &&& 31)) 14), (14, tr_cst (.int (1)) 15), (15, tr_ii (fun x y => x &&& y) 16), (16, tr_cst (.int (1)) 17), (17, tr_if2 (fun x y => ¬ x = y) 24 20)]
set_option maxRecDepth 100000 in
theorem ok_R_isChosen_0 : ∀ pc, g_S (J_R_isChosen) pc (cd_R_isChosen_0 pc) := g_tab_ok <|
  List.forall_mem_cons.mpr ⟨so_iload_n d_R_isChosen_0 rfl rfl,
  List.forall_mem_cons.mpr ⟨so_iload_n d_R_isChosen_1 rfl rfl,
  List.forall_mem_cons.mpr ⟨so_ishr d_R_isChosen_2 rfl,
  List.forall_mem_cons.mpr ⟨so_iconst (by decide) d_R_isChosen_3 rfl,
  List.forall_mem_cons.mpr ⟨so_iand d_R_isChosen_4 rfl,
  List.forall_mem_cons.mpr ⟨so_iconst (by decide) d_R_isChosen_5 rfl,
  List.forall_mem_cons.mpr ⟨so_icmp_ne d_R_isChosen_6 (by decide) rfl,
  List.forall_mem_cons.mpr ⟨so_iload_n d_R_isChosen_9 rfl rfl,
  List.forall_mem_cons.mpr ⟨so_iconst (by decide) d_R_isChosen_10 rfl,
  List.forall_mem_cons.mpr ⟨so_iload_n d_R_isChosen_11 rfl rfl,
  List.forall_mem_cons.mpr ⟨so_iadd d_R_isChosen_12 rfl,
  List.forall_mem_cons.mpr ⟨so_ishr d_R_isChosen_13 rfl,
  List.forall_mem_cons.mpr ⟨so_iconst (by decide) d_R_isChosen_14 rfl,
  List.forall_mem_cons.mpr ⟨so_iand d_R_isChosen_15 rfl,
  List.forall_mem_cons.mpr ⟨so_iconst (by decide) d_R_isChosen_16 rfl,
  List.forall_mem_cons.mpr ⟨so_icmp_ne d_R_isChosen_17 (by decide) rfl,
  fun _ h => absurd h List.not_mem_nil⟩⟩⟩⟩⟩⟩⟩⟩⟩⟩⟩⟩⟩⟩⟩⟩
def cd_R_isChosen_1 : Nat → g_T := g_tab [(20, tr_cst (.int (1)) 21), (21, tr_goto 25), (24, tr_cst (.int (0)) 25), (25, tr_rz)]
set_option maxRecDepth 100000 in
theorem ok_R_isChosen_1 : ∀ pc, g_S (J_R_isChosen) pc (cd_R_isChosen_1 pc) := g_tab_ok <|
  List.forall_mem_cons.mpr ⟨so_iconst (by decide) d_R_isChosen_20 rfl,
  List.forall_mem_cons.mpr ⟨so_goto d_R_isChosen_21 (by decide),
  List.forall_mem_cons.mpr ⟨so_iconst (by decide) d_R_isChosen_24 rfl,
  List.forall_mem_cons.mpr ⟨so_zret d_R_isChosen_25 rfl,
  fun _ h => absurd h List.not_mem_nil⟩⟩⟩⟩
def cd_R_isChosen : Nat → g_T := g_chk [(17, cd_R_isChosen_0), (25, cd_R_isChosen_1)]
theorem ok_R_isChosen : ∀ pc, g_S (J_R_isChosen) pc (cd_R_isChosen pc) := g_chk_ok <|
  List.forall_mem_cons.mpr ⟨ok_R_isChosen_0,
  List.forall_mem_cons.mpr ⟨ok_R_isChosen_1,
  fun _ h => absurd h List.not_mem_nil⟩⟩
abbrev J_K_add : g_J := (y_K_add, prog_4_method_3_code, 5, (some .boolean), (2, 42), [], none)
theorem d_K_add_0 : decode prog_4_method_3_code 0 = .ok (.aload_n 0, 1) := by decide +kernel
theorem d_K_add_1 : decode prog_4_method_3_code 1 = .ok (.getfield 14, 3) := by decide +kernel
theorem d_K_add_4 : decode prog_4_method_3_code 4 = .ok (.aload_n 1, 1) := by decide +kernel
theorem d_K_add_5 : decode prog_4_method_3_code 5 = .ok (.iload_n 2, 1) := by decide +kernel
theorem d_K_add_6 : decode prog_4_method_3_code 6 = .ok (.invokevirtual 48, 3) := by decide +kernel
theorem d_K_add_9 : decode prog_4_method_3_code 9 = .ok (.invokevirtual 54, 3) := by decide +kernel
theorem d_K_add_12 : decode prog_4_method_3_code 12 = .ok (.ifCond .eq 74, 3) := by decide +kernel
theorem d_K_add_15 : decode prog_4_method_3_code 15 = .ok (.aload_n 0, 1) := by decide +kernel
theorem d_K_add_16 : decode prog_4_method_3_code 16 = .ok (.getfield 20, 3) := by decide +kernel
theorem d_K_add_19 : decode prog_4_method_3_code 19 = .ok (.aload_n 1, 1) := by decide +kernel
theorem d_K_add_20 : decode prog_4_method_3_code 20 = .ok (.iload_n 2, 1) := by decide +kernel
theorem d_K_add_21 : decode prog_4_method_3_code 21 = .ok (.invokevirtual 58, 3) := by decide +kernel
theorem d_K_add_24 : decode prog_4_method_3_code 24 = .ok (.invokevirtual 54, 3) := by decide +kernel
theorem d_K_add_27 : decode prog_4_method_3_code 27 = .ok (.ifCond .eq 59, 3) := by decide +kernel
theorem d_K_add_30 : decode prog_4_method_3_code 30 = .ok (.aload_n 0, 1) := by decide +kernel
theorem d_K_add_31 : decode prog_4_method_3_code 31 = .ok (.getfield 23, 3) := by decide +kernel
theorem d_K_add_34 : decode prog_4_method_3_code 34 = .ok (.aload_n 1, 1) := by decide +kernel
theorem d_K_add_35 : decode prog_4_method_3_code 35 = .ok (.iload_n 2, 1) := by decide +kernel
theorem d_K_add_36 : decode prog_4_method_3_code 36 = .ok (.invokevirtual 61, 3) := by decide +kernel
theorem d_K_add_39 : decode prog_4_method_3_code 39 = .ok (.invokevirtual 54, 3) := by decide +kernel
theorem d_K_add_42 : decode prog_4_method_3_code 42 = .ok (.ifCond .eq 44, 3) := by decide +kernel
theorem d_K_add_45 : decode prog_4_method_3_code 45 = .ok (.aload_n 0, 1) := by decide +kernel
theorem d_K_add_46 : decode prog_4_method_3_code 46 = .ok (.getfield 26, 3) := by decide +kernel
theorem d_K_add_49 : decode prog_4_method_3_code 49 = .ok (.aload_n 1, 1) := by decide +kernel
theorem d_K_add_50 : decode prog_4_method_3_code 50 = .ok (.invokevirtual 64, 3) := by decide +kernel
theorem d_K_add_53 : decode prog_4_method_3_code 53 = .ok (.invokevirtual 54, 3) := by decide +kernel
theorem d_K_add_56 : decode prog_4_method_3_code 56 = .ok (.ifCond .eq 30, 3) := by decide +kernel
theorem d_K_add_59 : decode prog_4_method_3_code 59 = .ok (.aload_n 0, 1) := by decide +kernel
theorem d_K_add_60 : decode prog_4_method_3_code 60 = .ok (.getfield 29, 3) := by decide +kernel
theorem d_K_add_63 : decode prog_4_method_3_code 63 = .ok (.iload_n 3, 1) := by decide +kernel
theorem d_K_add_64 : decode prog_4_method_3_code 64 = .ok (.invokevirtual 54, 3) := by decide +kernel
theorem d_K_add_67 : decode prog_4_method_3_code 67 = .ok (.ifCond .eq 19, 3) := by decide +kernel
theorem d_K_add_70 : decode prog_4_method_3_code 70 = .ok (.aload_n 0, 1) := by decide +kernel
theorem d_K_add_71 : decode prog_4_method_3_code 71 = .ok (.getfield 32, 3) := by decide +kernel
theorem d_K_add_74 : decode prog_4_method_3_code 74 = .ok (.iload 4, 2) := by decide +kernel
theorem d_K_add_76 : decode prog_4_method_3_code 76 = .ok (.invokevirtual 54, 3) := by decide +kernel
theorem d_K_add_79 : decode prog_4_method_3_code 79 = .ok (.ifCond .eq 7, 3) := by decide +kernel
theorem d_K_add_82 : decode prog_4_method_3_code 82 = .ok (.iconst 1, 1) := by decide +kernel
theorem d_K_add_83 : decode prog_4_method_3_code 83 = .ok (.goto 4, 3) := by decide +kernel
theorem d_K_add_86 : decode prog_4_method_3_code 86 = .ok (.iconst 0, 1) := by decide +kernel
theorem d_K_add_87 : decode prog_4_method_3_code 87 = .ok (.ireturn, 1) := by decide +kernel
def cd_K_add_0 : Nat → g_T := g_tab [(0, tr_ald 0 1), (1, tr_get 5 0 4), (4, tr_ald 1 5), (5, tr_ild 2 6), (6, tr_cV J_B_kind 2 1 9), (9, tr_cV J_I_add 0 1 12), (12, tr_if1 (fun x => x = 0) 86 15), (15, tr_ald 0 16), (16, tr_get 5 1 19), (19, tr_ald 1 20), (20, tr_ild 2 21), (21, tr_cV J_B_a 2 1 24), (24, tr_cV J_I_add 0 1 27), (27, tr_if1 (fun x => x = 0) 86 30), (30, tr_ald 0 31), (31, tr_get 5 2 34)]
set_option maxRecDepth 100000 in
theorem ok_K_add_0 : ∀ pc, g_S (J_K_add) pc (cd_K_add_0 pc) := g_tab_ok <|
  List.forall_mem_cons.mpr ⟨so_aload_n d_K_add_0 rfl rfl,
  List.forall_mem_cons.mpr ⟨so_get d_K_add_1 (rfl : vwCl[5]? = some (R_K, F_K, 9)) (Nat.le_of_ble_eq_true rfl) i_K w_1_186 rfl,
  List.forall_mem_cons.mpr ⟨so_aload_n d_K_add_4 rfl rfl,
  List.forall_mem_cons.mpr ⟨so_iload_n d_K_add_5 rfl rfl,
  List.forall_mem_cons.mpr ⟨so_cV g_good d_K_add_6 ⟨w_2_215, (Nat.le_of_ble_eq_true rfl), (Nat.le_of_ble_eq_true rfl), w_1_4, ⟨by decide, by decide⟩, by decide +kernel⟩ (rfl : vwCl[2]? = some (R_B, F_B, 5)) w_4_42 w_2_213 w_2_214 rfl,
  List.forall_mem_cons.mpr ⟨so_cV g_good d_K_add_9 ⟨w_1_47, (Nat.le_of_ble_eq_true rfl), (Nat.le_of_ble_eq_true rfl), w_1_2, ⟨by decide, by decide⟩, by decide +kernel⟩ (rfl : vwCl[0]? = some (R_I, F_I, 2)) w_4_43 w_1_45 w_1_46 rfl,
  List.forall_mem_cons.mpr ⟨so_if_eq d_K_add_12 (by decide) rfl,
  List.forall_mem_cons.mpr ⟨so_aload_n d_K_add_15 rfl rfl,
  List.forall_mem_cons.mpr ⟨so_get d_K_add_16 (rfl : vwCl[5]? = some (R_K, F_K, 9)) (Nat.le_of_ble_eq_true rfl) i_K w_1_187 rfl,
  List.forall_mem_cons.mpr ⟨so_aload_n d_K_add_19 rfl rfl,
  List.forall_mem_cons.mpr ⟨so_iload_n d_K_add_20 rfl rfl,
  List.forall_mem_cons.mpr ⟨so_cV g_good d_K_add_21 ⟨w_2_228, (Nat.le_of_ble_eq_true rfl), (Nat.le_of_ble_eq_true rfl), w_1_4, ⟨by decide, by decide⟩, by decide +kernel⟩ (rfl : vwCl[2]? = some (R_B, F_B, 5)) w_4_44 w_2_226 w_2_227 rfl,
  List.forall_mem_cons.mpr ⟨so_cV g_good d_K_add_24 ⟨w_1_47, (Nat.le_of_ble_eq_true rfl), (Nat.le_of_ble_eq_true rfl), w_1_2, ⟨by decide, by decide⟩, by decide +kernel⟩ (rfl : vwCl[0]? = some (R_I, F_I, 2)) w_4_43 w_1_45 w_1_46 rfl,
  List.forall_mem_cons.mpr ⟨so_if_eq d_K_add_27 (by decide) rfl,
  List.forall_mem_cons.mpr ⟨so_aload_n d_K_add_30 rfl rfl,
  List.forall_mem_cons.mpr ⟨so_get d_K_add_31 (rfl : vwCl[5]? = some (R_K, F_K, 9)) (Nat.le_of_ble_eq_true rfl) i_K w_1_188 rfl,
  fun _ h => absurd h List.not_mem_nil⟩⟩⟩⟩⟩⟩⟩⟩⟩⟩⟩⟩⟩⟩⟩⟩
def cd_K_add_1 : Nat → g_T := g_tab [(34, tr_ald 1 35), (35, tr_ild 2 36), (36, tr_cV J_B_b 2 1 39), (39, tr_cV J_I_add 0 1 42), (42, tr_if1 (fun x => x = 0) 86 45), (45, tr_ald 0 46), (46, tr_get 5 3 49), (49, tr_ald 1 50), (50, tr_cV J_B_owner 2 0 53), (53, tr_cV J_I_add 0 1 56), (56, tr_if1 (fun x => x = 0) 86 59), (59, tr_ald 0 60), (60, tr_get 5 4 63), (63, tr_ild 3 64), (64, tr_cV J_I_add 0 1 67), (67, tr_if1 (fun x => x = 0) 86 70)]
set_option maxRecDepth 100000 in
theorem ok_K_add_1 : ∀ pc, g_S (J_K_add) pc (cd_K_add_1 pc) := g_tab_ok <|
  List.forall_mem_cons.mpr ⟨so_aload_n d_K_add_34 rfl rfl,
  List.forall_mem_cons.mpr ⟨so_iload_n d_K_add_35 rfl rfl,
  List.forall_mem_cons.mpr ⟨so_cV g_good d_K_add_36 ⟨w_2_232, (Nat.le_of_ble_eq_true rfl), (Nat.le_of_ble_eq_true rfl), w_1_4, ⟨by decide, by decide⟩, by decide +kernel⟩ (rfl : vwCl[2]? = some (R_B, F_B, 5)) w_4_45 w_2_230 w_2_231 rfl,
  List.forall_mem_cons.mpr ⟨so_cV g_good d_K_add_39 ⟨w_1_47, (Nat.le_of_ble_eq_true rfl), (Nat.le_of_ble_eq_true rfl), w_1_2, ⟨by decide, by decide⟩, by decide +kernel⟩ (rfl : vwCl[0]? = some (R_I, F_I, 2)) w_4_43 w_1_45 w_1_46 rfl,
  List.forall_mem_cons.mpr ⟨so_if_eq d_K_add_42 (by decide) rfl,
  List.forall_mem_cons.mpr ⟨so_aload_n d_K_add_45 rfl rfl,
  List.forall_mem_cons.mpr ⟨so_get d_K_add_46 (rfl : vwCl[5]? = some (R_K, F_K, 9)) (Nat.le_of_ble_eq_true rfl) i_K w_1_189 rfl,
  List.forall_mem_cons.mpr ⟨so_aload_n d_K_add_49 rfl rfl,
  List.forall_mem_cons.mpr ⟨so_cV g_good d_K_add_50 ⟨w_2_205, (Nat.le_of_ble_eq_true rfl), (Nat.le_of_ble_eq_true rfl), w_1_4, ⟨by decide, by decide⟩, by decide +kernel⟩ (rfl : vwCl[2]? = some (R_B, F_B, 5)) w_4_46 w_2_203 w_2_204 rfl,
  List.forall_mem_cons.mpr ⟨so_cV g_good d_K_add_53 ⟨w_1_47, (Nat.le_of_ble_eq_true rfl), (Nat.le_of_ble_eq_true rfl), w_1_2, ⟨by decide, by decide⟩, by decide +kernel⟩ (rfl : vwCl[0]? = some (R_I, F_I, 2)) w_4_43 w_1_45 w_1_46 rfl,
  List.forall_mem_cons.mpr ⟨so_if_eq d_K_add_56 (by decide) rfl,
  List.forall_mem_cons.mpr ⟨so_aload_n d_K_add_59 rfl rfl,
  List.forall_mem_cons.mpr ⟨so_get d_K_add_60 (rfl : vwCl[5]? = some (R_K, F_K, 9)) (Nat.le_of_ble_eq_true rfl) i_K w_1_190 rfl,
  List.forall_mem_cons.mpr ⟨so_iload_n d_K_add_63 rfl rfl,
  List.forall_mem_cons.mpr ⟨so_cV g_good d_K_add_64 ⟨w_1_47, (Nat.le_of_ble_eq_true rfl), (Nat.le_of_ble_eq_true rfl), w_1_2, ⟨by decide, by decide⟩, by decide +kernel⟩ (rfl : vwCl[0]? = some (R_I, F_I, 2)) w_4_43 w_1_45 w_1_46 rfl,
  List.forall_mem_cons.mpr ⟨so_if_eq d_K_add_67 (by decide) rfl,
  fun _ h => absurd h List.not_mem_nil⟩⟩⟩⟩⟩⟩⟩⟩⟩⟩⟩⟩⟩⟩⟩⟩
def cd_K_add_2 : Nat → g_T := g_tab [(70, tr_ald 0 71), (71, tr_get 5 5 74), (74, tr_ild 4 76), (76, tr_cV J_I_add 0 1 79), (79, tr_if1 (fun x => x = 0) 86 82), (82, tr_cst (.int (1)) 83), (83, tr_goto 87), (86, tr_cst (.int (0)) 87), (87, tr_rz)]
set_option maxRecDepth 100000 in
theorem ok_K_add_2 : ∀ pc, g_S (J_K_add) pc (cd_K_add_2 pc) := g_tab_ok <|
  List.forall_mem_cons.mpr ⟨so_aload_n d_K_add_70 rfl rfl,
  List.forall_mem_cons.mpr ⟨so_get d_K_add_71 (rfl : vwCl[5]? = some (R_K, F_K, 9)) (Nat.le_of_ble_eq_true rfl) i_K w_1_191 rfl,
  List.forall_mem_cons.mpr ⟨so_iload d_K_add_74 rfl,
  List.forall_mem_cons.mpr ⟨so_cV g_good d_K_add_76 ⟨w_1_47, (Nat.le_of_ble_eq_true rfl), (Nat.le_of_ble_eq_true rfl), w_1_2, ⟨by decide, by decide⟩, by decide +kernel⟩ (rfl : vwCl[0]? = some (R_I, F_I, 2)) w_4_43 w_1_45 w_1_46 rfl,
  List.forall_mem_cons.mpr ⟨so_if_eq d_K_add_79 (by decide) rfl,
  List.forall_mem_cons.mpr ⟨so_iconst (by decide) d_K_add_82 rfl,
  List.forall_mem_cons.mpr ⟨so_goto d_K_add_83 (by decide),
  List.forall_mem_cons.mpr ⟨so_iconst (by decide) d_K_add_86 rfl,
  List.forall_mem_cons.mpr ⟨so_zret d_K_add_87 rfl,
  fun _ h => absurd h List.not_mem_nil⟩⟩⟩⟩⟩⟩⟩⟩⟩
def cd_K_add : Nat → g_T := g_chk [(31, cd_K_add_0), (67, cd_K_add_1), (87, cd_K_add_2)]
theorem ok_K_add : ∀ pc, g_S (J_K_add) pc (cd_K_add pc) := g_chk_ok <|
  List.forall_mem_cons.mpr ⟨ok_K_add_0,
  List.forall_mem_cons.mpr ⟨ok_K_add_1,
  List.forall_mem_cons.mpr ⟨ok_K_add_2,
  fun _ h => absurd h List.not_mem_nil⟩⟩⟩
abbrev J_R_keepRows : g_J := (y_R_keepRows, prog_9_method_10_code, 5, none, (3, 66), [], none)
theorem d_R_keepRows_0 : decode prog_9_method_10_code 0 = .ok (.aload_n 1, 1) := by decide +kernel
theorem d_R_keepRows_1 : decode prog_9_method_10_code 1 = .ok (.invokevirtual 68, 3) := by decide +kernel
theorem d_R_keepRows_4 : decode prog_9_method_10_code 4 = .ok (.istore_n 3, 1) := by decide +kernel
theorem d_R_keepRows_5 : decode prog_9_method_10_code 5 = .ok (.iconst 0, 1) := by decide +kernel
theorem d_R_keepRows_6 : decode prog_9_method_10_code 6 = .ok (.istore 4, 2) := by decide +kernel
theorem d_R_keepRows_8 : decode prog_9_method_10_code 8 = .ok (.iload 4, 2) := by decide +kernel
theorem d_R_keepRows_10 : decode prog_9_method_10_code 10 = .ok (.aload_n 1, 1) := by decide +kernel
theorem d_R_keepRows_11 : decode prog_9_method_10_code 11 = .ok (.invokevirtual 73, 3) := by decide +kernel
theorem d_R_keepRows_14 : decode prog_9_method_10_code 14 = .ok (.if_icmp .ge 71, 3) := by decide +kernel
theorem d_R_keepRows_17 : decode prog_9_method_10_code 17 = .ok (.aload_n 1, 1) := by decide +kernel
theorem d_R_keepRows_18 : decode prog_9_method_10_code 18 = .ok (.iload 4, 2) := by decide +kernel
theorem d_R_keepRows_20 : decode prog_9_method_10_code 20 = .ok (.invokevirtual 74, 3) := by decide +kernel
theorem d_R_keepRows_23 : decode prog_9_method_10_code 23 = .ok (.iconst 4, 1) := by decide +kernel
theorem d_R_keepRows_24 : decode prog_9_method_10_code 24 = .ok (.if_icmp .ne 10, 3) := by decide +kernel
theorem d_R_keepRows_27 : decode prog_9_method_10_code 27 = .ok (.aload_n 1, 1) := by decide +kernel
theorem d_R_keepRows_28 : decode prog_9_method_10_code 28 = .ok (.iload 4, 2) := by decide +kernel
theorem d_R_keepRows_30 : decode prog_9_method_10_code 30 = .ok (.invokevirtual 77, 3) := by decide +kernel
theorem d_R_keepRows_33 : decode prog_9_method_10_code 33 = .ok (.istore_n 3, 1) := by decide +kernel
theorem d_R_keepRows_34 : decode prog_9_method_10_code 34 = .ok (.iload_n 2, 1) := by decide +kernel
theorem d_R_keepRows_35 : decode prog_9_method_10_code 35 = .ok (.aload_n 1, 1) := by decide +kernel
theorem d_R_keepRows_36 : decode prog_9_method_10_code 36 = .ok (.iload 4, 2) := by decide +kernel
theorem d_R_keepRows_38 : decode prog_9_method_10_code 38 = .ok (.invokevirtual 74, 3) := by decide +kernel
theorem d_R_keepRows_41 : decode prog_9_method_10_code 41 = .ok (.aload_n 1, 1) := by decide +kernel
theorem d_R_keepRows_42 : decode prog_9_method_10_code 42 = .ok (.invokevirtual 80, 3) := by decide +kernel
theorem d_R_keepRows_45 : decode prog_9_method_10_code 45 = .ok (.invokestatic 83, 3) := by decide +kernel
theorem d_R_keepRows_48 : decode prog_9_method_10_code 48 = .ok (.ifCond .eq 21, 3) := by decide +kernel
theorem d_R_keepRows_51 : decode prog_9_method_10_code 51 = .ok (.aload_n 0, 1) := by decide +kernel
theorem d_R_keepRows_52 : decode prog_9_method_10_code 52 = .ok (.getfield 21, 3) := by decide +kernel
theorem d_R_keepRows_55 : decode prog_9_method_10_code 55 = .ok (.aload_n 1, 1) := by decide +kernel
theorem d_R_keepRows_56 : decode prog_9_method_10_code 56 = .ok (.iload 4, 2) := by decide +kernel
theorem d_R_keepRows_58 : decode prog_9_method_10_code 58 = .ok (.iload_n 3, 1) := by decide +kernel
theorem d_R_keepRows_59 : decode prog_9_method_10_code 59 = .ok (.aload_n 0, 1) := by decide +kernel
theorem d_R_keepRows_60 : decode prog_9_method_10_code 60 = .ok (.getfield 61, 3) := by decide +kernel
theorem d_R_keepRows_63 : decode prog_9_method_10_code 63 = .ok (.invokevirtual 87, 3) := by decide +kernel
theorem d_R_keepRows_66 : decode prog_9_method_10_code 66 = .ok (.ifCond .ne 13, 3) := by decide +kernel
theorem d_R_keepRows_69 : decode prog_9_method_10_code 69 = .ok (.aload_n 0, 1) := by decide +kernel
theorem d_R_keepRows_70 : decode prog_9_method_10_code 70 = .ok (.dup, 1) := by decide +kernel
theorem d_R_keepRows_71 : decode prog_9_method_10_code 71 = .ok (.getfield 64, 3) := by decide +kernel
theorem d_R_keepRows_74 : decode prog_9_method_10_code 74 = .ok (.iconst 1, 1) := by decide +kernel
theorem d_R_keepRows_75 : decode prog_9_method_10_code 75 = .ok (.iadd, 1) := by decide +kernel
theorem d_R_keepRows_76 : decode prog_9_method_10_code 76 = .ok (.putfield 64, 3) := by decide +kernel
theorem d_R_keepRows_79 : decode prog_9_method_10_code 79 = .ok (.iinc 4 1, 3) := by decide +kernel
theorem d_R_keepRows_82 : decode prog_9_method_10_code 82 = .ok (.goto (-74), 3) := by decide +kernel
theorem d_R_keepRows_85 : decode prog_9_method_10_code 85 = .ok (.aload_n 0, 1) := by decide +kernel
theorem d_R_keepRows_86 : decode prog_9_method_10_code 86 = .ok (.dup, 1) := by decide +kernel
theorem d_R_keepRows_87 : decode prog_9_method_10_code 87 = .ok (.getfield 61, 3) := by decide +kernel
theorem d_R_keepRows_90 : decode prog_9_method_10_code 90 = .ok (.iconst 1, 1) := by decide +kernel
theorem d_R_keepRows_91 : decode prog_9_method_10_code 91 = .ok (.iadd, 1) := by decide +kernel
theorem d_R_keepRows_92 : decode prog_9_method_10_code 92 = .ok (.putfield 61, 3) := by decide +kernel
theorem d_R_keepRows_95 : decode prog_9_method_10_code 95 = .ok (.return_, 1) := by decide +kernel
def cd_R_keepRows_0 : Nat → g_T := g_tab [(0, tr_ald 1 1), (1, tr_cV J_B_time 2 0 4), (4, tr_ist 3 5), (5, tr_cst (.int (0)) 6), (6, tr_ist 4 8), (8, tr_ild 4 10), (10, tr_ald 1 11), (11, tr_cV J_B_size 2 0 14), (14, tr_if2 (fun x y => y ≤ x) 85 17), (17, tr_ald 1 18), (18, tr_ild 4 20), (20, tr_cV J_B_kind 2 1 23), (23, tr_cst (.int (4)) 24), (24, tr_if2 (fun x y => ¬ x = y) 34 27), (27, tr_ald 1 28), (28, tr_ild 4 30)]
set_option maxRecDepth 100000 in
theorem ok_R_keepRows_0 : ∀ pc, g_S (J_R_keepRows) pc (cd_R_keepRows_0 pc) := g_tab_ok <|
  List.forall_mem_cons.mpr ⟨so_aload_n d_R_keepRows_0 rfl rfl,
  List.forall_mem_cons.mpr ⟨so_cV g_good d_R_keepRows_1 ⟨w_2_188, (Nat.le_of_ble_eq_true rfl), (Nat.le_of_ble_eq_true rfl), w_1_4, ⟨by decide, by decide⟩, by decide +kernel⟩ (rfl : vwCl[2]? = some (R_B, F_B, 5)) w_4_30 w_2_186 w_2_187 rfl,
  List.forall_mem_cons.mpr ⟨so_istore_n d_R_keepRows_4 rfl (Nat.le_of_ble_eq_true rfl) rfl,
  List.forall_mem_cons.mpr ⟨so_iconst (by decide) d_R_keepRows_5 rfl,
  List.forall_mem_cons.mpr ⟨so_istore d_R_keepRows_6 (Nat.le_of_ble_eq_true rfl) rfl,
  List.forall_mem_cons.mpr ⟨so_iload d_R_keepRows_8 rfl,
  List.forall_mem_cons.mpr ⟨so_aload_n d_R_keepRows_10 rfl rfl,
  List.forall_mem_cons.mpr ⟨so_cV g_good d_R_keepRows_11 ⟨w_2_32, (Nat.le_of_ble_eq_true rfl), (Nat.le_of_ble_eq_true rfl), w_1_4, ⟨by decide, by decide⟩, by decide +kernel⟩ (rfl : vwCl[2]? = some (R_B, F_B, 5)) w_4_31 w_2_30 w_2_31 rfl,
  List.forall_mem_cons.mpr ⟨so_icmp_ge d_R_keepRows_14 (by decide) rfl,
  List.forall_mem_cons.mpr ⟨so_aload_n d_R_keepRows_17 rfl rfl,
  List.forall_mem_cons.mpr ⟨so_iload d_R_keepRows_18 rfl,
  List.forall_mem_cons.mpr ⟨so_cV g_good d_R_keepRows_20 ⟨w_2_215, (Nat.le_of_ble_eq_true rfl), (Nat.le_of_ble_eq_true rfl), w_1_4, ⟨by decide, by decide⟩, by decide +kernel⟩ (rfl : vwCl[2]? = some (R_B, F_B, 5)) w_4_32 w_2_213 w_2_214 rfl,
  List.forall_mem_cons.mpr ⟨so_iconst (by decide) d_R_keepRows_23 rfl,
  List.forall_mem_cons.mpr ⟨so_icmp_ne d_R_keepRows_24 (by decide) rfl,
  List.forall_mem_cons.mpr ⟨so_aload_n d_R_keepRows_27 rfl rfl,
  List.forall_mem_cons.mpr ⟨so_iload d_R_keepRows_28 rfl,
  fun _ h => absurd h List.not_mem_nil⟩⟩⟩⟩⟩⟩⟩⟩⟩⟩⟩⟩⟩⟩⟩⟩
def cd_R_keepRows_1 : Nat → g_T := g_tab [(30, tr_cV J_B_a 2 1 33), (33, tr_ist 3 34), (34, tr_ild 2 35), (35, tr_ald 1 36), (36, tr_ild 4 38), (38, tr_cV J_B_kind 2 1 41), (41, tr_ald 1 42), (42, tr_cV J_B_owner 2 0 45), (45, tr_cS J_R_isChosen 3 48), (48, tr_if1 (fun x => x = 0) 69 51), (51, tr_ald 0 52), (52, tr_get 8 1 55), (55, tr_ald 1 56), (56, tr_ild 4 58), (58, tr_ild 3 59), (59, tr_ald 0 60)]
set_option maxRecDepth 100000 in
theorem ok_R_keepRows_1 : ∀ pc, g_S (J_R_keepRows) pc (cd_R_keepRows_1 pc) := g_tab_ok <|
  List.forall_mem_cons.mpr ⟨so_cV g_good d_R_keepRows_30 ⟨w_2_228, (Nat.le_of_ble_eq_true rfl), (Nat.le_of_ble_eq_true rfl), w_1_4, ⟨by decide, by decide⟩, by decide +kernel⟩ (rfl : vwCl[2]? = some (R_B, F_B, 5)) w_4_33 w_2_226 w_2_227 rfl,
  List.forall_mem_cons.mpr ⟨so_istore_n d_R_keepRows_33 rfl (Nat.le_of_ble_eq_true rfl) rfl,
  List.forall_mem_cons.mpr ⟨so_iload_n d_R_keepRows_34 rfl rfl,
  List.forall_mem_cons.mpr ⟨so_aload_n d_R_keepRows_35 rfl rfl,
  List.forall_mem_cons.mpr ⟨so_iload d_R_keepRows_36 rfl,
  List.forall_mem_cons.mpr ⟨so_cV g_good d_R_keepRows_38 ⟨w_2_215, (Nat.le_of_ble_eq_true rfl), (Nat.le_of_ble_eq_true rfl), w_1_4, ⟨by decide, by decide⟩, by decide +kernel⟩ (rfl : vwCl[2]? = some (R_B, F_B, 5)) w_4_32 w_2_213 w_2_214 rfl,
  List.forall_mem_cons.mpr ⟨so_aload_n d_R_keepRows_41 rfl rfl,
  List.forall_mem_cons.mpr ⟨so_cV g_good d_R_keepRows_42 ⟨w_2_205, (Nat.le_of_ble_eq_true rfl), (Nat.le_of_ble_eq_true rfl), w_1_4, ⟨by decide, by decide⟩, by decide +kernel⟩ (rfl : vwCl[2]? = some (R_B, F_B, 5)) w_4_34 w_2_203 w_2_204 rfl,
  List.forall_mem_cons.mpr ⟨so_cS g_good d_R_keepRows_45 ⟨w_4_37, (Nat.le_of_ble_eq_true rfl), (Nat.le_of_ble_eq_true rfl), w_1_9, ⟨by decide, by decide⟩, by decide +kernel⟩ w_4_35 w_4_36 rfl,
  List.forall_mem_cons.mpr ⟨so_if_eq d_R_keepRows_48 (by decide) rfl,
  List.forall_mem_cons.mpr ⟨so_aload_n d_R_keepRows_51 rfl rfl,
  List.forall_mem_cons.mpr ⟨so_get d_R_keepRows_52 (rfl : vwCl[8]? = some (R_R, F_R, 6)) (Nat.le_of_ble_eq_true rfl) i_R w_1_215 rfl,
  List.forall_mem_cons.mpr ⟨so_aload_n d_R_keepRows_55 rfl rfl,
  List.forall_mem_cons.mpr ⟨so_iload d_R_keepRows_56 rfl,
  List.forall_mem_cons.mpr ⟨so_iload_n d_R_keepRows_58 rfl rfl,
  List.forall_mem_cons.mpr ⟨so_aload_n d_R_keepRows_59 rfl rfl,
  fun _ h => absurd h List.not_mem_nil⟩⟩⟩⟩⟩⟩⟩⟩⟩⟩⟩⟩⟩⟩⟩⟩
def cd_R_keepRows_2 : Nat → g_T := g_tab [(60, tr_get 8 3 63), (63, tr_cV J_K_add 5 4 66), (66, tr_if1 (fun x => ¬ x = 0) 79 69), (69, tr_ald 0 70), (70, tr_dup 71), (71, tr_get 8 5 74), (74, tr_cst (.int (1)) 75), (75, tr_ii (fun x y => x + y) 76), (76, tr_put 8 5 (.int) 79), (79, tr_inc 4 (1) 82), (82, tr_goto 8), (85, tr_ald 0 86), (86, tr_dup 87), (87, tr_get 8 3 90), (90, tr_cst (.int (1)) 91), (91, tr_ii (fun x y => x + y) 92)]
set_option maxRecDepth 100000 in
theorem ok_R_keepRows_2 : ∀ pc, g_S (J_R_keepRows) pc (cd_R_keepRows_2 pc) := g_tab_ok <|
  List.forall_mem_cons.mpr ⟨so_get d_R_keepRows_60 (rfl : vwCl[8]? = some (R_R, F_R, 6)) (Nat.le_of_ble_eq_true rfl) i_R w_1_217 rfl,
  List.forall_mem_cons.mpr ⟨so_cV g_good d_R_keepRows_63 ⟨w_4_41, (Nat.le_of_ble_eq_true rfl), (Nat.le_of_ble_eq_true rfl), w_1_11, ⟨by decide, by decide⟩, by decide +kernel⟩ (rfl : vwCl[5]? = some (R_K, F_K, 9)) w_4_38 w_4_39 w_4_40 rfl,
  List.forall_mem_cons.mpr ⟨so_if_ne d_R_keepRows_66 (by decide) rfl,
  List.forall_mem_cons.mpr ⟨so_aload_n d_R_keepRows_69 rfl rfl,
  List.forall_mem_cons.mpr ⟨so_dup d_R_keepRows_70 rfl,
  List.forall_mem_cons.mpr ⟨so_get d_R_keepRows_71 (rfl : vwCl[8]? = some (R_R, F_R, 6)) (Nat.le_of_ble_eq_true rfl) i_R w_1_219 rfl,
  List.forall_mem_cons.mpr ⟨so_iconst (by decide) d_R_keepRows_74 rfl,
  List.forall_mem_cons.mpr ⟨so_iadd d_R_keepRows_75 rfl,
  List.forall_mem_cons.mpr ⟨so_put ft_R d_R_keepRows_76 (rfl : vwCl[8]? = some (R_R, F_R, 6)) (Nat.le_of_ble_eq_true rfl) i_R w_1_219 tk_R n_R rfl rfl rfl,
  List.forall_mem_cons.mpr ⟨so_iinc d_R_keepRows_79 (by decide) (Nat.le_of_ble_eq_true rfl) rfl,
  List.forall_mem_cons.mpr ⟨so_goto d_R_keepRows_82 (by decide),
  List.forall_mem_cons.mpr ⟨so_aload_n d_R_keepRows_85 rfl rfl,
  List.forall_mem_cons.mpr ⟨so_dup d_R_keepRows_86 rfl,
  List.forall_mem_cons.mpr ⟨so_get d_R_keepRows_87 (rfl : vwCl[8]? = some (R_R, F_R, 6)) (Nat.le_of_ble_eq_true rfl) i_R w_1_217 rfl,
  List.forall_mem_cons.mpr ⟨so_iconst (by decide) d_R_keepRows_90 rfl,
  List.forall_mem_cons.mpr ⟨so_iadd d_R_keepRows_91 rfl,
  fun _ h => absurd h List.not_mem_nil⟩⟩⟩⟩⟩⟩⟩⟩⟩⟩⟩⟩⟩⟩⟩⟩
def cd_R_keepRows_3 : Nat → g_T := g_tab [(92, tr_put 8 3 (.int) 95), (95, tr_rv)]
set_option maxRecDepth 100000 in
theorem ok_R_keepRows_3 : ∀ pc, g_S (J_R_keepRows) pc (cd_R_keepRows_3 pc) := g_tab_ok <|
  List.forall_mem_cons.mpr ⟨so_put ft_R d_R_keepRows_92 (rfl : vwCl[8]? = some (R_R, F_R, 6)) (Nat.le_of_ble_eq_true rfl) i_R w_1_217 tk_R n_R rfl rfl rfl,
  List.forall_mem_cons.mpr ⟨so_vret d_R_keepRows_95 rfl,
  fun _ h => absurd h List.not_mem_nil⟩⟩
def cd_R_keepRows : Nat → g_T := g_chk [(28, cd_R_keepRows_0), (59, cd_R_keepRows_1), (91, cd_R_keepRows_2), (95, cd_R_keepRows_3)]
theorem ok_R_keepRows : ∀ pc, g_S (J_R_keepRows) pc (cd_R_keepRows pc) := g_chk_ok <|
  List.forall_mem_cons.mpr ⟨ok_R_keepRows_0,
  List.forall_mem_cons.mpr ⟨ok_R_keepRows_1,
  List.forall_mem_cons.mpr ⟨ok_R_keepRows_2,
  List.forall_mem_cons.mpr ⟨ok_R_keepRows_3,
  fun _ h => absurd h List.not_mem_nil⟩⟩⟩⟩
abbrev J_R_readFrom : g_J := (y_R_readFrom, prog_9_method_2_code, 7, none, (5, 124), [], none)
theorem d_R_readFrom_0 : decode prog_9_method_2_code 0 = .ok (.aload_n 0, 1) := by decide +kernel
theorem d_R_readFrom_1 : decode prog_9_method_2_code 1 = .ok (.invokevirtual 25, 3) := by decide +kernel
theorem d_R_readFrom_4 : decode prog_9_method_2_code 4 = .ok (.aload_n 1, 1) := by decide +kernel
theorem d_R_readFrom_5 : decode prog_9_method_2_code 5 = .ok (.iload_n 2, 1) := by decide +kernel
theorem d_R_readFrom_6 : decode prog_9_method_2_code 6 = .ok (.invokestatic 28, 3) := by decide +kernel
theorem d_R_readFrom_9 : decode prog_9_method_2_code 9 = .ok (.istore 4, 2) := by decide +kernel
theorem d_R_readFrom_11 : decode prog_9_method_2_code 11 = .ok (.aload_n 0, 1) := by decide +kernel
theorem d_R_readFrom_12 : decode prog_9_method_2_code 12 = .ok (.iload 4, 2) := by decide +kernel
theorem d_R_readFrom_14 : decode prog_9_method_2_code 14 = .ok (.iload_n 2, 1) := by decide +kernel
theorem d_R_readFrom_15 : decode prog_9_method_2_code 15 = .ok (.isub, 1) := by decide +kernel
theorem d_R_readFrom_16 : decode prog_9_method_2_code 16 = .ok (.putfield 32, 3) := by decide +kernel
theorem d_R_readFrom_19 : decode prog_9_method_2_code 19 = .ok (.iload 4, 2) := by decide +kernel
theorem d_R_readFrom_21 : decode prog_9_method_2_code 21 = .ok (.iconst 1, 1) := by decide +kernel
theorem d_R_readFrom_22 : decode prog_9_method_2_code 22 = .ok (.iadd, 1) := by decide +kernel
theorem d_R_readFrom_23 : decode prog_9_method_2_code 23 = .ok (.istore 5, 2) := by decide +kernel
theorem d_R_readFrom_25 : decode prog_9_method_2_code 25 = .ok (.iload 5, 2) := by decide +kernel
theorem d_R_readFrom_27 : decode prog_9_method_2_code 27 = .ok (.istore 6, 2) := by decide +kernel
theorem d_R_readFrom_29 : decode prog_9_method_2_code 29 = .ok (.iload 6, 2) := by decide +kernel
theorem d_R_readFrom_31 : decode prog_9_method_2_code 31 = .ok (.aload_n 1, 1) := by decide +kernel
theorem d_R_readFrom_32 : decode prog_9_method_2_code 32 = .ok (.invokevirtual 36, 3) := by decide +kernel
theorem d_R_readFrom_35 : decode prog_9_method_2_code 35 = .ok (.if_icmp .gt 75, 3) := by decide +kernel
theorem d_R_readFrom_38 : decode prog_9_method_2_code 38 = .ok (.iload 6, 2) := by decide +kernel
theorem d_R_readFrom_40 : decode prog_9_method_2_code 40 = .ok (.aload_n 1, 1) := by decide +kernel
theorem d_R_readFrom_41 : decode prog_9_method_2_code 41 = .ok (.invokevirtual 36, 3) := by decide +kernel
theorem d_R_readFrom_44 : decode prog_9_method_2_code 44 = .ok (.if_icmp .eq 14, 3) := by decide +kernel
theorem d_R_readFrom_47 : decode prog_9_method_2_code 47 = .ok (.aload_n 1, 1) := by decide +kernel
theorem d_R_readFrom_48 : decode prog_9_method_2_code 48 = .ok (.iload 6, 2) := by decide +kernel
theorem d_R_readFrom_50 : decode prog_9_method_2_code 50 = .ok (.invokevirtual 42, 3) := by decide +kernel
theorem d_R_readFrom_53 : decode prog_9_method_2_code 53 = .ok (.bipush 126, 2) := by decide +kernel
theorem d_R_readFrom_55 : decode prog_9_method_2_code 55 = .ok (.if_icmp .ne 49, 3) := by decide +kernel
theorem d_R_readFrom_58 : decode prog_9_method_2_code 58 = .ok (.aload_n 0, 1) := by decide +kernel
theorem d_R_readFrom_59 : decode prog_9_method_2_code 59 = .ok (.getfield 12, 3) := by decide +kernel
theorem d_R_readFrom_62 : decode prog_9_method_2_code 62 = .ok (.aload_n 1, 1) := by decide +kernel
theorem d_R_readFrom_63 : decode prog_9_method_2_code 63 = .ok (.iload 5, 2) := by decide +kernel
theorem d_R_readFrom_65 : decode prog_9_method_2_code 65 = .ok (.iload 6, 2) := by decide +kernel
theorem d_R_readFrom_67 : decode prog_9_method_2_code 67 = .ok (.invokevirtual 46, 3) := by decide +kernel
theorem d_R_readFrom_70 : decode prog_9_method_2_code 70 = .ok (.ifCond .eq 18, 3) := by decide +kernel
theorem d_R_readFrom_73 : decode prog_9_method_2_code 73 = .ok (.aload_n 0, 1) := by decide +kernel
theorem d_R_readFrom_74 : decode prog_9_method_2_code 74 = .ok (.aload_n 0, 1) := by decide +kernel
theorem d_R_readFrom_75 : decode prog_9_method_2_code 75 = .ok (.getfield 12, 3) := by decide +kernel
theorem d_R_readFrom_78 : decode prog_9_method_2_code 78 = .ok (.invokevirtual 50, 3) := by decide +kernel
theorem d_R_readFrom_81 : decode prog_9_method_2_code 81 = .ok (.iload_n 3, 1) := by decide +kernel
theorem d_R_readFrom_82 : decode prog_9_method_2_code 82 = .ok (.invokevirtual 54, 3) := by decide +kernel
theorem d_R_readFrom_85 : decode prog_9_method_2_code 85 = .ok (.goto 13, 3) := by decide +kernel
theorem d_R_readFrom_88 : decode prog_9_method_2_code 88 = .ok (.aload_n 0, 1) := by decide +kernel
theorem d_R_readFrom_89 : decode prog_9_method_2_code 89 = .ok (.dup, 1) := by decide +kernel
theorem d_R_readFrom_90 : decode prog_9_method_2_code 90 = .ok (.getfield 58, 3) := by decide +kernel
theorem d_R_readFrom_93 : decode prog_9_method_2_code 93 = .ok (.iconst 1, 1) := by decide +kernel
theorem d_R_readFrom_94 : decode prog_9_method_2_code 94 = .ok (.iadd, 1) := by decide +kernel
theorem d_R_readFrom_95 : decode prog_9_method_2_code 95 = .ok (.putfield 58, 3) := by decide +kernel
theorem d_R_readFrom_98 : decode prog_9_method_2_code 98 = .ok (.iload 6, 2) := by decide +kernel
theorem d_R_readFrom_100 : decode prog_9_method_2_code 100 = .ok (.iconst 1, 1) := by decide +kernel
theorem d_R_readFrom_101 : decode prog_9_method_2_code 101 = .ok (.iadd, 1) := by decide +kernel
theorem d_R_readFrom_102 : decode prog_9_method_2_code 102 = .ok (.istore 5, 2) := by decide +kernel
theorem d_R_readFrom_104 : decode prog_9_method_2_code 104 = .ok (.iinc 6 1, 3) := by decide +kernel
theorem d_R_readFrom_107 : decode prog_9_method_2_code 107 = .ok (.goto (-78), 3) := by decide +kernel
theorem d_R_readFrom_110 : decode prog_9_method_2_code 110 = .ok (.return_, 1) := by decide +kernel
def cd_R_readFrom_0 : Nat → g_T := g_tab [(0, tr_ald 0 1), (1, tr_cV J_R_clear 8 0 4), (4, tr_ald 1 5), (5, tr_ild 2 6), (6, tr_cS J_R_firstMark 2 9), (9, tr_ist 4 11), (11, tr_ald 0 12), (12, tr_ild 4 14), (14, tr_ild 2 15), (15, tr_ii (fun x y => x - y) 16), (16, tr_put 8 2 (.int) 19), (19, tr_ild 4 21), (21, tr_cst (.int (1)) 22), (22, tr_ii (fun x y => x + y) 23), (23, tr_ist 5 25), (25, tr_ild 5 27)]
set_option maxRecDepth 100000 in
theorem ok_R_readFrom_0 : ∀ pc, g_S (J_R_readFrom) pc (cd_R_readFrom_0 pc) := g_tab_ok <|
  List.forall_mem_cons.mpr ⟨so_aload_n d_R_readFrom_0 rfl rfl,
  List.forall_mem_cons.mpr ⟨so_cV g_good d_R_readFrom_1 ⟨w_3_158, (Nat.le_of_ble_eq_true rfl), (Nat.le_of_ble_eq_true rfl), w_1_9, ⟨by decide, by decide⟩, by decide +kernel⟩ (rfl : vwCl[8]? = some (R_R, F_R, 6)) w_3_155 w_3_157 w_p11 rfl,
  List.forall_mem_cons.mpr ⟨so_aload_n d_R_readFrom_4 rfl rfl,
  List.forall_mem_cons.mpr ⟨so_iload_n d_R_readFrom_5 rfl rfl,
  List.forall_mem_cons.mpr ⟨so_cS g_good d_R_readFrom_6 ⟨w_3_166, (Nat.le_of_ble_eq_true rfl), (Nat.le_of_ble_eq_true rfl), w_1_9, ⟨by decide, by decide⟩, by decide +kernel⟩ w_3_164 w_3_165 rfl,
  List.forall_mem_cons.mpr ⟨so_istore d_R_readFrom_9 (Nat.le_of_ble_eq_true rfl) rfl,
  List.forall_mem_cons.mpr ⟨so_aload_n d_R_readFrom_11 rfl rfl,
  List.forall_mem_cons.mpr ⟨so_iload d_R_readFrom_12 rfl,
  List.forall_mem_cons.mpr ⟨so_iload_n d_R_readFrom_14 rfl rfl,
  List.forall_mem_cons.mpr ⟨so_isub d_R_readFrom_15 rfl,
  List.forall_mem_cons.mpr ⟨so_put ft_R d_R_readFrom_16 (rfl : vwCl[8]? = some (R_R, F_R, 6)) (Nat.le_of_ble_eq_true rfl) i_R w_1_216 tk_R n_R rfl rfl rfl,
  List.forall_mem_cons.mpr ⟨so_iload d_R_readFrom_19 rfl,
  List.forall_mem_cons.mpr ⟨so_iconst (by decide) d_R_readFrom_21 rfl,
  List.forall_mem_cons.mpr ⟨so_iadd d_R_readFrom_22 rfl,
  List.forall_mem_cons.mpr ⟨so_istore d_R_readFrom_23 (Nat.le_of_ble_eq_true rfl) rfl,
  List.forall_mem_cons.mpr ⟨so_iload d_R_readFrom_25 rfl,
  fun _ h => absurd h List.not_mem_nil⟩⟩⟩⟩⟩⟩⟩⟩⟩⟩⟩⟩⟩⟩⟩⟩
def cd_R_readFrom_1 : Nat → g_T := g_tab [(27, tr_ist 6 29), (29, tr_ild 6 31), (31, tr_ald 1 32), (32, tr_cV J_I_size 0 0 35), (35, tr_if2 (fun x y => y < x) 110 38), (38, tr_ild 6 40), (40, tr_ald 1 41), (41, tr_cV J_I_size 0 0 44), (44, tr_if2 (fun x y => x = y) 58 47), (47, tr_ald 1 48), (48, tr_ild 6 50), (50, tr_cV J_I_at 0 1 53), (53, tr_cst (.int (126)) 55), (55, tr_if2 (fun x y => ¬ x = y) 104 58), (58, tr_ald 0 59), (59, tr_get 8 0 62)]
set_option maxRecDepth 100000 in
theorem ok_R_readFrom_1 : ∀ pc, g_S (J_R_readFrom) pc (cd_R_readFrom_1 pc) := g_tab_ok <|
  List.forall_mem_cons.mpr ⟨so_istore d_R_readFrom_27 (Nat.le_of_ble_eq_true rfl) rfl,
  List.forall_mem_cons.mpr ⟨so_iload d_R_readFrom_29 rfl,
  List.forall_mem_cons.mpr ⟨so_aload_n d_R_readFrom_31 rfl rfl,
  List.forall_mem_cons.mpr ⟨so_cV g_good d_R_readFrom_32 ⟨w_2_28, (Nat.le_of_ble_eq_true rfl), (Nat.le_of_ble_eq_true rfl), w_1_2, ⟨by decide, by decide⟩, by decide +kernel⟩ (rfl : vwCl[0]? = some (R_I, F_I, 2)) w_3_167 w_2_26 w_2_27 rfl,
  List.forall_mem_cons.mpr ⟨so_icmp_gt d_R_readFrom_35 (by decide) rfl,
  List.forall_mem_cons.mpr ⟨so_iload d_R_readFrom_38 rfl,
  List.forall_mem_cons.mpr ⟨so_aload_n d_R_readFrom_40 rfl rfl,
  List.forall_mem_cons.mpr ⟨so_cV g_good d_R_readFrom_41 ⟨w_2_28, (Nat.le_of_ble_eq_true rfl), (Nat.le_of_ble_eq_true rfl), w_1_2, ⟨by decide, by decide⟩, by decide +kernel⟩ (rfl : vwCl[0]? = some (R_I, F_I, 2)) w_3_167 w_2_26 w_2_27 rfl,
  List.forall_mem_cons.mpr ⟨so_icmp_eq d_R_readFrom_44 (by decide) rfl,
  List.forall_mem_cons.mpr ⟨so_aload_n d_R_readFrom_47 rfl rfl,
  List.forall_mem_cons.mpr ⟨so_iload d_R_readFrom_48 rfl,
  List.forall_mem_cons.mpr ⟨so_cV g_good d_R_readFrom_50 ⟨w_2_151, (Nat.le_of_ble_eq_true rfl), (Nat.le_of_ble_eq_true rfl), w_1_2, ⟨by decide, by decide⟩, by decide +kernel⟩ (rfl : vwCl[0]? = some (R_I, F_I, 2)) w_3_168 w_2_149 w_2_150 rfl,
  List.forall_mem_cons.mpr ⟨so_bipush (by decide) d_R_readFrom_53 rfl,
  List.forall_mem_cons.mpr ⟨so_icmp_ne d_R_readFrom_55 (by decide) rfl,
  List.forall_mem_cons.mpr ⟨so_aload_n d_R_readFrom_58 rfl rfl,
  List.forall_mem_cons.mpr ⟨so_get d_R_readFrom_59 (rfl : vwCl[8]? = some (R_R, F_R, 6)) (Nat.le_of_ble_eq_true rfl) i_R w_1_214 rfl,
  fun _ h => absurd h List.not_mem_nil⟩⟩⟩⟩⟩⟩⟩⟩⟩⟩⟩⟩⟩⟩⟩⟩
def cd_R_readFrom_2 : Nat → g_T := g_tab [(62, tr_ald 1 63), (63, tr_ild 5 65), (65, tr_ild 6 67), (67, tr_cV J_U_unpack 7 3 70), (70, tr_if1 (fun x => x = 0) 88 73), (73, tr_ald 0 74), (74, tr_ald 0 75), (75, tr_get 8 0 78), (78, tr_cV J_U_block 7 0 81), (81, tr_ild 3 82), (82, tr_cV J_R_keepRows 8 2 85), (85, tr_goto 98), (88, tr_ald 0 89), (89, tr_dup 90), (90, tr_get 8 4 93), (93, tr_cst (.int (1)) 94)]
set_option maxRecDepth 100000 in
theorem ok_R_readFrom_2 : ∀ pc, g_S (J_R_readFrom) pc (cd_R_readFrom_2 pc) := g_tab_ok <|
  List.forall_mem_cons.mpr ⟨so_aload_n d_R_readFrom_62 rfl rfl,
  List.forall_mem_cons.mpr ⟨so_iload d_R_readFrom_63 rfl,
  List.forall_mem_cons.mpr ⟨so_iload d_R_readFrom_65 rfl,
  List.forall_mem_cons.mpr ⟨so_cV g_good d_R_readFrom_67 ⟨w_3_172, (Nat.le_of_ble_eq_true rfl), (Nat.le_of_ble_eq_true rfl), w_1_10, ⟨by decide, by decide⟩, by decide +kernel⟩ (rfl : vwCl[7]? = some (R_U, F_U, 4)) w_3_169 w_3_170 w_3_171 rfl,
  List.forall_mem_cons.mpr ⟨so_if_eq d_R_readFrom_70 (by decide) rfl,
  List.forall_mem_cons.mpr ⟨so_aload_n d_R_readFrom_73 rfl rfl,
  List.forall_mem_cons.mpr ⟨so_aload_n d_R_readFrom_74 rfl rfl,
  List.forall_mem_cons.mpr ⟨so_get d_R_readFrom_75 (rfl : vwCl[8]? = some (R_R, F_R, 6)) (Nat.le_of_ble_eq_true rfl) i_R w_1_214 rfl,
  List.forall_mem_cons.mpr ⟨so_cV g_good d_R_readFrom_78 ⟨w_4_25, (Nat.le_of_ble_eq_true rfl), (Nat.le_of_ble_eq_true rfl), w_1_10, ⟨by decide, by decide⟩, by decide +kernel⟩ (rfl : vwCl[7]? = some (R_U, F_U, 4)) w_4_22 w_4_23 w_4_24 rfl,
  List.forall_mem_cons.mpr ⟨so_iload_n d_R_readFrom_81 rfl rfl,
  List.forall_mem_cons.mpr ⟨so_cV g_good d_R_readFrom_82 ⟨w_4_29, (Nat.le_of_ble_eq_true rfl), (Nat.le_of_ble_eq_true rfl), w_1_9, ⟨by decide, by decide⟩, by decide +kernel⟩ (rfl : vwCl[8]? = some (R_R, F_R, 6)) w_4_26 w_4_28 w_p23 rfl,
  List.forall_mem_cons.mpr ⟨so_goto d_R_readFrom_85 (by decide),
  List.forall_mem_cons.mpr ⟨so_aload_n d_R_readFrom_88 rfl rfl,
  List.forall_mem_cons.mpr ⟨so_dup d_R_readFrom_89 rfl,
  List.forall_mem_cons.mpr ⟨so_get d_R_readFrom_90 (rfl : vwCl[8]? = some (R_R, F_R, 6)) (Nat.le_of_ble_eq_true rfl) i_R w_1_218 rfl,
  List.forall_mem_cons.mpr ⟨so_iconst (by decide) d_R_readFrom_93 rfl,
  fun _ h => absurd h List.not_mem_nil⟩⟩⟩⟩⟩⟩⟩⟩⟩⟩⟩⟩⟩⟩⟩⟩
def cd_R_readFrom_3 : Nat → g_T := g_tab [(94, tr_ii (fun x y => x + y) 95), (95, tr_put 8 4 (.int) 98), (98, tr_ild 6 100), (100, tr_cst (.int (1)) 101), (101, tr_ii (fun x y => x + y) 102), (102, tr_ist 5 104), (104, tr_inc 6 (1) 107), (107, tr_goto 29), (110, tr_rv)]
set_option maxRecDepth 100000 in
theorem ok_R_readFrom_3 : ∀ pc, g_S (J_R_readFrom) pc (cd_R_readFrom_3 pc) := g_tab_ok <|
  List.forall_mem_cons.mpr ⟨so_iadd d_R_readFrom_94 rfl,
  List.forall_mem_cons.mpr ⟨so_put ft_R d_R_readFrom_95 (rfl : vwCl[8]? = some (R_R, F_R, 6)) (Nat.le_of_ble_eq_true rfl) i_R w_1_218 tk_R n_R rfl rfl rfl,
  List.forall_mem_cons.mpr ⟨so_iload d_R_readFrom_98 rfl,
  List.forall_mem_cons.mpr ⟨so_iconst (by decide) d_R_readFrom_100 rfl,
  List.forall_mem_cons.mpr ⟨so_iadd d_R_readFrom_101 rfl,
  List.forall_mem_cons.mpr ⟨so_istore d_R_readFrom_102 (Nat.le_of_ble_eq_true rfl) rfl,
  List.forall_mem_cons.mpr ⟨so_iinc d_R_readFrom_104 (by decide) (Nat.le_of_ble_eq_true rfl) rfl,
  List.forall_mem_cons.mpr ⟨so_goto d_R_readFrom_107 (by decide),
  List.forall_mem_cons.mpr ⟨so_vret d_R_readFrom_110 rfl,
  fun _ h => absurd h List.not_mem_nil⟩⟩⟩⟩⟩⟩⟩⟩⟩
def cd_R_readFrom : Nat → g_T := g_chk [(25, cd_R_readFrom_0), (59, cd_R_readFrom_1), (93, cd_R_readFrom_2), (110, cd_R_readFrom_3)]
theorem ok_R_readFrom : ∀ pc, g_S (J_R_readFrom) pc (cd_R_readFrom pc) := g_chk_ok <|
  List.forall_mem_cons.mpr ⟨ok_R_readFrom_0,
  List.forall_mem_cons.mpr ⟨ok_R_readFrom_1,
  List.forall_mem_cons.mpr ⟨ok_R_readFrom_2,
  List.forall_mem_cons.mpr ⟨ok_R_readFrom_3,
  fun _ h => absurd h List.not_mem_nil⟩⟩⟩⟩
abbrev J_K_has : g_J := (y_K_has, prog_4_method_5_code, 3, (some .boolean), (1, 21), [], none)
theorem d_K_has_0 : decode prog_4_method_5_code 0 = .ok (.aload_n 0, 1) := by decide +kernel
theorem d_K_has_1 : decode prog_4_method_5_code 1 = .ok (.getfield 14, 3) := by decide +kernel
theorem d_K_has_4 : decode prog_4_method_5_code 4 = .ok (.iload_n 1, 1) := by decide +kernel
theorem d_K_has_5 : decode prog_4_method_5_code 5 = .ok (.invokevirtual 71, 3) := by decide +kernel
theorem d_K_has_8 : decode prog_4_method_5_code 8 = .ok (.ifCond .eq 17, 3) := by decide +kernel
theorem d_K_has_11 : decode prog_4_method_5_code 11 = .ok (.iload_n 2, 1) := by decide +kernel
theorem d_K_has_12 : decode prog_4_method_5_code 12 = .ok (.ifCond .lt 13, 3) := by decide +kernel
theorem d_K_has_15 : decode prog_4_method_5_code 15 = .ok (.iload_n 2, 1) := by decide +kernel
theorem d_K_has_16 : decode prog_4_method_5_code 16 = .ok (.bipush 6, 2) := by decide +kernel
theorem d_K_has_18 : decode prog_4_method_5_code 18 = .ok (.if_icmp .ge 7, 3) := by decide +kernel
theorem d_K_has_21 : decode prog_4_method_5_code 21 = .ok (.iconst 1, 1) := by decide +kernel
theorem d_K_has_22 : decode prog_4_method_5_code 22 = .ok (.goto 4, 3) := by decide +kernel
theorem d_K_has_25 : decode prog_4_method_5_code 25 = .ok (.iconst 0, 1) := by decide +kernel
theorem d_K_has_26 : decode prog_4_method_5_code 26 = .ok (.ireturn, 1) := by decide +kernel
def cd_K_has_0 : Nat → g_T := g_tab [(0, tr_ald 0 1), (1, tr_get 5 0 4), (4, tr_ild 1 5), (5, tr_cV J_I_has 0 1 8), (8, tr_if1 (fun x => x = 0) 25 11), (11, tr_ild 2 12), (12, tr_if1 (fun x => x < 0) 25 15), (15, tr_ild 2 16), (16, tr_cst (.int (6)) 18), (18, tr_if2 (fun x y => y ≤ x) 25 21), (21, tr_cst (.int (1)) 22), (22, tr_goto 26), (25, tr_cst (.int (0)) 26), (26, tr_rz)]
set_option maxRecDepth 100000 in
theorem ok_K_has_0 : ∀ pc, g_S (J_K_has) pc (cd_K_has_0 pc) := g_tab_ok <|
  List.forall_mem_cons.mpr ⟨so_aload_n d_K_has_0 rfl rfl,
  List.forall_mem_cons.mpr ⟨so_get d_K_has_1 (rfl : vwCl[5]? = some (R_K, F_K, 9)) (Nat.le_of_ble_eq_true rfl) i_K w_1_186 rfl,
  List.forall_mem_cons.mpr ⟨so_iload_n d_K_has_4 rfl rfl,
  List.forall_mem_cons.mpr ⟨so_cV g_good d_K_has_5 ⟨w_3_107, (Nat.le_of_ble_eq_true rfl), (Nat.le_of_ble_eq_true rfl), w_1_2, ⟨by decide, by decide⟩, by decide +kernel⟩ (rfl : vwCl[0]? = some (R_I, F_I, 2)) w_4_58 w_3_105 w_3_106 rfl,
  List.forall_mem_cons.mpr ⟨so_if_eq d_K_has_8 (by decide) rfl,
  List.forall_mem_cons.mpr ⟨so_iload_n d_K_has_11 rfl rfl,
  List.forall_mem_cons.mpr ⟨so_if_lt d_K_has_12 (by decide) rfl,
  List.forall_mem_cons.mpr ⟨so_iload_n d_K_has_15 rfl rfl,
  List.forall_mem_cons.mpr ⟨so_bipush (by decide) d_K_has_16 rfl,
  List.forall_mem_cons.mpr ⟨so_icmp_ge d_K_has_18 (by decide) rfl,
  List.forall_mem_cons.mpr ⟨so_iconst (by decide) d_K_has_21 rfl,
  List.forall_mem_cons.mpr ⟨so_goto d_K_has_22 (by decide),
  List.forall_mem_cons.mpr ⟨so_iconst (by decide) d_K_has_25 rfl,
  List.forall_mem_cons.mpr ⟨so_zret d_K_has_26 rfl,
  fun _ h => absurd h List.not_mem_nil⟩⟩⟩⟩⟩⟩⟩⟩⟩⟩⟩⟩⟩⟩
def cd_K_has : Nat → g_T := g_chk [(26, cd_K_has_0)]
theorem ok_K_has : ∀ pc, g_S (J_K_has) pc (cd_K_has pc) := g_chk_ok <|
  List.forall_mem_cons.mpr ⟨ok_K_has_0,
  fun _ h => absurd h List.not_mem_nil⟩
abbrev J_K_at : g_J := (y_K_at, prog_4_method_6_code, 3, (some .int), (1, 21), [], none)
theorem d_K_at_0 : decode prog_4_method_6_code 0 = .ok (.iload_n 2, 1) := by decide +kernel
theorem d_K_at_1 : decode prog_4_method_6_code 1 = .ok (.tableswitch 93 0 5 #[39, 48, 57, 66, 75, 84], 39) := by decide +kernel
theorem d_K_at_40 : decode prog_4_method_6_code 40 = .ok (.aload_n 0, 1) := by decide +kernel
theorem d_K_at_41 : decode prog_4_method_6_code 41 = .ok (.getfield 14, 3) := by decide +kernel
theorem d_K_at_44 : decode prog_4_method_6_code 44 = .ok (.iload_n 1, 1) := by decide +kernel
theorem d_K_at_45 : decode prog_4_method_6_code 45 = .ok (.invokevirtual 74, 3) := by decide +kernel
theorem d_K_at_48 : decode prog_4_method_6_code 48 = .ok (.ireturn, 1) := by decide +kernel
theorem d_K_at_49 : decode prog_4_method_6_code 49 = .ok (.aload_n 0, 1) := by decide +kernel
theorem d_K_at_50 : decode prog_4_method_6_code 50 = .ok (.getfield 20, 3) := by decide +kernel
theorem d_K_at_53 : decode prog_4_method_6_code 53 = .ok (.iload_n 1, 1) := by decide +kernel
theorem d_K_at_54 : decode prog_4_method_6_code 54 = .ok (.invokevirtual 74, 3) := by decide +kernel
theorem d_K_at_57 : decode prog_4_method_6_code 57 = .ok (.ireturn, 1) := by decide +kernel
theorem d_K_at_58 : decode prog_4_method_6_code 58 = .ok (.aload_n 0, 1) := by decide +kernel
theorem d_K_at_59 : decode prog_4_method_6_code 59 = .ok (.getfield 23, 3) := by decide +kernel
theorem d_K_at_62 : decode prog_4_method_6_code 62 = .ok (.iload_n 1, 1) := by decide +kernel
theorem d_K_at_63 : decode prog_4_method_6_code 63 = .ok (.invokevirtual 74, 3) := by decide +kernel
theorem d_K_at_66 : decode prog_4_method_6_code 66 = .ok (.ireturn, 1) := by decide +kernel
theorem d_K_at_67 : decode prog_4_method_6_code 67 = .ok (.aload_n 0, 1) := by decide +kernel
theorem d_K_at_68 : decode prog_4_method_6_code 68 = .ok (.getfield 26, 3) := by decide +kernel
theorem d_K_at_71 : decode prog_4_method_6_code 71 = .ok (.iload_n 1, 1) := by decide +kernel
theorem d_K_at_72 : decode prog_4_method_6_code 72 = .ok (.invokevirtual 74, 3) := by decide +kernel
theorem d_K_at_75 : decode prog_4_method_6_code 75 = .ok (.ireturn, 1) := by decide +kernel
theorem d_K_at_76 : decode prog_4_method_6_code 76 = .ok (.aload_n 0, 1) := by decide +kernel
theorem d_K_at_77 : decode prog_4_method_6_code 77 = .ok (.getfield 29, 3) := by decide +kernel
theorem d_K_at_80 : decode prog_4_method_6_code 80 = .ok (.iload_n 1, 1) := by decide +kernel
theorem d_K_at_81 : decode prog_4_method_6_code 81 = .ok (.invokevirtual 74, 3) := by decide +kernel
theorem d_K_at_84 : decode prog_4_method_6_code 84 = .ok (.ireturn, 1) := by decide +kernel
theorem d_K_at_85 : decode prog_4_method_6_code 85 = .ok (.aload_n 0, 1) := by decide +kernel
theorem d_K_at_86 : decode prog_4_method_6_code 86 = .ok (.getfield 32, 3) := by decide +kernel
theorem d_K_at_89 : decode prog_4_method_6_code 89 = .ok (.iload_n 1, 1) := by decide +kernel
theorem d_K_at_90 : decode prog_4_method_6_code 90 = .ok (.invokevirtual 74, 3) := by decide +kernel
theorem d_K_at_93 : decode prog_4_method_6_code 93 = .ok (.ireturn, 1) := by decide +kernel
theorem d_K_at_94 : decode prog_4_method_6_code 94 = .ok (.iconst (-1), 1) := by decide +kernel
theorem d_K_at_95 : decode prog_4_method_6_code 95 = .ok (.ireturn, 1) := by decide +kernel
def cd_K_at_0 : Nat → g_T := g_tab [(0, tr_ild 2 1), (1, tr_sw [(0, 40), (1, 49), (2, 58), (3, 67), (4, 76), (5, 85)] 94), (40, tr_ald 0 41), (41, tr_get 5 0 44), (44, tr_ild 1 45), (45, tr_cV J_I_at 0 1 48), (48, tr_ri), (49, tr_ald 0 50), (50, tr_get 5 1 53), (53, tr_ild 1 54), (54, tr_cV J_I_at 0 1 57), (57, tr_ri), (58, tr_ald 0 59), (59, tr_get 5 2 62), (62, tr_ild 1 63), (63, tr_cV J_I_at 0 1 66)]
set_option maxRecDepth 100000 in
theorem ok_K_at_0 : ∀ pc, g_S (J_K_at) pc (cd_K_at_0 pc) := g_tab_ok <|
  List.forall_mem_cons.mpr ⟨so_iload_n d_K_at_0 rfl rfl,
  List.forall_mem_cons.mpr ⟨so_tsw d_K_at_1 (by decide) (by decide) (by decide) (by decide),
  List.forall_mem_cons.mpr ⟨so_aload_n d_K_at_40 rfl rfl,
  List.forall_mem_cons.mpr ⟨so_get d_K_at_41 (rfl : vwCl[5]? = some (R_K, F_K, 9)) (Nat.le_of_ble_eq_true rfl) i_K w_1_186 rfl,
  List.forall_mem_cons.mpr ⟨so_iload_n d_K_at_44 rfl rfl,
  List.forall_mem_cons.mpr ⟨so_cV g_good d_K_at_45 ⟨w_2_151, (Nat.le_of_ble_eq_true rfl), (Nat.le_of_ble_eq_true rfl), w_1_2, ⟨by decide, by decide⟩, by decide +kernel⟩ (rfl : vwCl[0]? = some (R_I, F_I, 2)) w_4_64 w_2_149 w_2_150 rfl,
  List.forall_mem_cons.mpr ⟨so_iret d_K_at_48 rfl,
  List.forall_mem_cons.mpr ⟨so_aload_n d_K_at_49 rfl rfl,
  List.forall_mem_cons.mpr ⟨so_get d_K_at_50 (rfl : vwCl[5]? = some (R_K, F_K, 9)) (Nat.le_of_ble_eq_true rfl) i_K w_1_187 rfl,
  List.forall_mem_cons.mpr ⟨so_iload_n d_K_at_53 rfl rfl,
  List.forall_mem_cons.mpr ⟨so_cV g_good d_K_at_54 ⟨w_2_151, (Nat.le_of_ble_eq_true rfl), (Nat.le_of_ble_eq_true rfl), w_1_2, ⟨by decide, by decide⟩, by decide +kernel⟩ (rfl : vwCl[0]? = some (R_I, F_I, 2)) w_4_64 w_2_149 w_2_150 rfl,
  List.forall_mem_cons.mpr ⟨so_iret d_K_at_57 rfl,
  List.forall_mem_cons.mpr ⟨so_aload_n d_K_at_58 rfl rfl,
  List.forall_mem_cons.mpr ⟨so_get d_K_at_59 (rfl : vwCl[5]? = some (R_K, F_K, 9)) (Nat.le_of_ble_eq_true rfl) i_K w_1_188 rfl,
  List.forall_mem_cons.mpr ⟨so_iload_n d_K_at_62 rfl rfl,
  List.forall_mem_cons.mpr ⟨so_cV g_good d_K_at_63 ⟨w_2_151, (Nat.le_of_ble_eq_true rfl), (Nat.le_of_ble_eq_true rfl), w_1_2, ⟨by decide, by decide⟩, by decide +kernel⟩ (rfl : vwCl[0]? = some (R_I, F_I, 2)) w_4_64 w_2_149 w_2_150 rfl,
  fun _ h => absurd h List.not_mem_nil⟩⟩⟩⟩⟩⟩⟩⟩⟩⟩⟩⟩⟩⟩⟩⟩
def cd_K_at_1 : Nat → g_T := g_tab [(66, tr_ri), (67, tr_ald 0 68), (68, tr_get 5 3 71), (71, tr_ild 1 72), (72, tr_cV J_I_at 0 1 75), (75, tr_ri), (76, tr_ald 0 77), (77, tr_get 5 4 80), (80, tr_ild 1 81), (81, tr_cV J_I_at 0 1 84), (84, tr_ri), (85, tr_ald 0 86), (86, tr_get 5 5 89), (89, tr_ild 1 90), (90, tr_cV J_I_at 0 1 93), (93, tr_ri)]
set_option maxRecDepth 100000 in
theorem ok_K_at_1 : ∀ pc, g_S (J_K_at) pc (cd_K_at_1 pc) := g_tab_ok <|
  List.forall_mem_cons.mpr ⟨so_iret d_K_at_66 rfl,
  List.forall_mem_cons.mpr ⟨so_aload_n d_K_at_67 rfl rfl,
  List.forall_mem_cons.mpr ⟨so_get d_K_at_68 (rfl : vwCl[5]? = some (R_K, F_K, 9)) (Nat.le_of_ble_eq_true rfl) i_K w_1_189 rfl,
  List.forall_mem_cons.mpr ⟨so_iload_n d_K_at_71 rfl rfl,
  List.forall_mem_cons.mpr ⟨so_cV g_good d_K_at_72 ⟨w_2_151, (Nat.le_of_ble_eq_true rfl), (Nat.le_of_ble_eq_true rfl), w_1_2, ⟨by decide, by decide⟩, by decide +kernel⟩ (rfl : vwCl[0]? = some (R_I, F_I, 2)) w_4_64 w_2_149 w_2_150 rfl,
  List.forall_mem_cons.mpr ⟨so_iret d_K_at_75 rfl,
  List.forall_mem_cons.mpr ⟨so_aload_n d_K_at_76 rfl rfl,
  List.forall_mem_cons.mpr ⟨so_get d_K_at_77 (rfl : vwCl[5]? = some (R_K, F_K, 9)) (Nat.le_of_ble_eq_true rfl) i_K w_1_190 rfl,
  List.forall_mem_cons.mpr ⟨so_iload_n d_K_at_80 rfl rfl,
  List.forall_mem_cons.mpr ⟨so_cV g_good d_K_at_81 ⟨w_2_151, (Nat.le_of_ble_eq_true rfl), (Nat.le_of_ble_eq_true rfl), w_1_2, ⟨by decide, by decide⟩, by decide +kernel⟩ (rfl : vwCl[0]? = some (R_I, F_I, 2)) w_4_64 w_2_149 w_2_150 rfl,
  List.forall_mem_cons.mpr ⟨so_iret d_K_at_84 rfl,
  List.forall_mem_cons.mpr ⟨so_aload_n d_K_at_85 rfl rfl,
  List.forall_mem_cons.mpr ⟨so_get d_K_at_86 (rfl : vwCl[5]? = some (R_K, F_K, 9)) (Nat.le_of_ble_eq_true rfl) i_K w_1_191 rfl,
  List.forall_mem_cons.mpr ⟨so_iload_n d_K_at_89 rfl rfl,
  List.forall_mem_cons.mpr ⟨so_cV g_good d_K_at_90 ⟨w_2_151, (Nat.le_of_ble_eq_true rfl), (Nat.le_of_ble_eq_true rfl), w_1_2, ⟨by decide, by decide⟩, by decide +kernel⟩ (rfl : vwCl[0]? = some (R_I, F_I, 2)) w_4_64 w_2_149 w_2_150 rfl,
  List.forall_mem_cons.mpr ⟨so_iret d_K_at_93 rfl,
  fun _ h => absurd h List.not_mem_nil⟩⟩⟩⟩⟩⟩⟩⟩⟩⟩⟩⟩⟩⟩⟩⟩
def cd_K_at_2 : Nat → g_T := g_tab [(94, tr_cst (.int (-1)) 95), (95, tr_ri)]
set_option maxRecDepth 100000 in
theorem ok_K_at_2 : ∀ pc, g_S (J_K_at) pc (cd_K_at_2 pc) := g_tab_ok <|
  List.forall_mem_cons.mpr ⟨so_iconst (by decide) d_K_at_94 rfl,
  List.forall_mem_cons.mpr ⟨so_iret d_K_at_95 rfl,
  fun _ h => absurd h List.not_mem_nil⟩⟩
def cd_K_at : Nat → g_T := g_chk [(63, cd_K_at_0), (93, cd_K_at_1), (95, cd_K_at_2)]
theorem ok_K_at : ∀ pc, g_S (J_K_at) pc (cd_K_at pc) := g_chk_ok <|
  List.forall_mem_cons.mpr ⟨ok_K_at_0,
  List.forall_mem_cons.mpr ⟨ok_K_at_1,
  List.forall_mem_cons.mpr ⟨ok_K_at_2,
  fun _ h => absurd h List.not_mem_nil⟩⟩⟩
abbrev J_K_goesBefore : g_J := (y_K_goesBefore, prog_4_method_10_code, 3, (some .boolean), (1, 21), [], none)
theorem d_K_goesBefore_0 : decode prog_4_method_10_code 0 = .ok (.aload_n 0, 1) := by decide +kernel
theorem d_K_goesBefore_1 : decode prog_4_method_10_code 1 = .ok (.getfield 29, 3) := by decide +kernel
theorem d_K_goesBefore_4 : decode prog_4_method_10_code 4 = .ok (.iload_n 1, 1) := by decide +kernel
theorem d_K_goesBefore_5 : decode prog_4_method_10_code 5 = .ok (.invokevirtual 74, 3) := by decide +kernel
theorem d_K_goesBefore_8 : decode prog_4_method_10_code 8 = .ok (.aload_n 0, 1) := by decide +kernel
theorem d_K_goesBefore_9 : decode prog_4_method_10_code 9 = .ok (.getfield 29, 3) := by decide +kernel
theorem d_K_goesBefore_12 : decode prog_4_method_10_code 12 = .ok (.iload_n 2, 1) := by decide +kernel
theorem d_K_goesBefore_13 : decode prog_4_method_10_code 13 = .ok (.invokevirtual 74, 3) := by decide +kernel
theorem d_K_goesBefore_16 : decode prog_4_method_10_code 16 = .ok (.if_icmp .eq 28, 3) := by decide +kernel
theorem d_K_goesBefore_19 : decode prog_4_method_10_code 19 = .ok (.aload_n 0, 1) := by decide +kernel
theorem d_K_goesBefore_20 : decode prog_4_method_10_code 20 = .ok (.getfield 29, 3) := by decide +kernel
theorem d_K_goesBefore_23 : decode prog_4_method_10_code 23 = .ok (.iload_n 1, 1) := by decide +kernel
theorem d_K_goesBefore_24 : decode prog_4_method_10_code 24 = .ok (.invokevirtual 74, 3) := by decide +kernel
theorem d_K_goesBefore_27 : decode prog_4_method_10_code 27 = .ok (.aload_n 0, 1) := by decide +kernel
theorem d_K_goesBefore_28 : decode prog_4_method_10_code 28 = .ok (.getfield 29, 3) := by decide +kernel
theorem d_K_goesBefore_31 : decode prog_4_method_10_code 31 = .ok (.iload_n 2, 1) := by decide +kernel
theorem d_K_goesBefore_32 : decode prog_4_method_10_code 32 = .ok (.invokevirtual 74, 3) := by decide +kernel
theorem d_K_goesBefore_35 : decode prog_4_method_10_code 35 = .ok (.if_icmp .ge 7, 3) := by decide +kernel
theorem d_K_goesBefore_38 : decode prog_4_method_10_code 38 = .ok (.iconst 1, 1) := by decide +kernel
theorem d_K_goesBefore_39 : decode prog_4_method_10_code 39 = .ok (.goto 4, 3) := by decide +kernel
theorem d_K_goesBefore_42 : decode prog_4_method_10_code 42 = .ok (.iconst 0, 1) := by decide +kernel
theorem d_K_goesBefore_43 : decode prog_4_method_10_code 43 = .ok (.ireturn, 1) := by decide +kernel
theorem d_K_goesBefore_44 : decode prog_4_method_10_code 44 = .ok (.aload_n 0, 1) := by decide +kernel
theorem d_K_goesBefore_45 : decode prog_4_method_10_code 45 = .ok (.getfield 26, 3) := by decide +kernel
theorem d_K_goesBefore_48 : decode prog_4_method_10_code 48 = .ok (.iload_n 1, 1) := by decide +kernel
theorem d_K_goesBefore_49 : decode prog_4_method_10_code 49 = .ok (.invokevirtual 74, 3) := by decide +kernel
theorem d_K_goesBefore_52 : decode prog_4_method_10_code 52 = .ok (.aload_n 0, 1) := by decide +kernel
theorem d_K_goesBefore_53 : decode prog_4_method_10_code 53 = .ok (.getfield 26, 3) := by decide +kernel
theorem d_K_goesBefore_56 : decode prog_4_method_10_code 56 = .ok (.iload_n 2, 1) := by decide +kernel
theorem d_K_goesBefore_57 : decode prog_4_method_10_code 57 = .ok (.invokevirtual 74, 3) := by decide +kernel
theorem d_K_goesBefore_60 : decode prog_4_method_10_code 60 = .ok (.if_icmp .ge 7, 3) := by decide +kernel
theorem d_K_goesBefore_63 : decode prog_4_method_10_code 63 = .ok (.iconst 1, 1) := by decide +kernel
theorem d_K_goesBefore_64 : decode prog_4_method_10_code 64 = .ok (.goto 4, 3) := by decide +kernel
theorem d_K_goesBefore_67 : decode prog_4_method_10_code 67 = .ok (.iconst 0, 1) := by decide +kernel
theorem d_K_goesBefore_68 : decode prog_4_method_10_code 68 = .ok (.ireturn, 1) := by decide +kernel
def cd_K_goesBefore_0 : Nat → g_T := g_tab [(0, tr_ald 0 1), (1, tr_get 5 4 4), (4, tr_ild 1 5), (5, tr_cV J_I_at 0 1 8), (8, tr_ald 0 9), (9, tr_get 5 4 12), (12, tr_ild 2 13), (13, tr_cV J_I_at 0 1 16), (16, tr_if2 (fun x y => x = y) 44 19), (19, tr_ald 0 20), (20, tr_get 5 4 23), (23, tr_ild 1 24), (24, tr_cV J_I_at 0 1 27), (27, tr_ald 0 28), (28, tr_get 5 4 31), (31, tr_ild 2 32)]
set_option maxRecDepth 100000 in
theorem ok_K_goesBefore_0 : ∀ pc, g_S (J_K_goesBefore) pc (cd_K_goesBefore_0 pc) := g_tab_ok <|
  List.forall_mem_cons.mpr ⟨so_aload_n d_K_goesBefore_0 rfl rfl,
  List.forall_mem_cons.mpr ⟨so_get d_K_goesBefore_1 (rfl : vwCl[5]? = some (R_K, F_K, 9)) (Nat.le_of_ble_eq_true rfl) i_K w_1_190 rfl,
  List.forall_mem_cons.mpr ⟨so_iload_n d_K_goesBefore_4 rfl rfl,
  List.forall_mem_cons.mpr ⟨so_cV g_good d_K_goesBefore_5 ⟨w_2_151, (Nat.le_of_ble_eq_true rfl), (Nat.le_of_ble_eq_true rfl), w_1_2, ⟨by decide, by decide⟩, by decide +kernel⟩ (rfl : vwCl[0]? = some (R_I, F_I, 2)) w_4_64 w_2_149 w_2_150 rfl,
  List.forall_mem_cons.mpr ⟨so_aload_n d_K_goesBefore_8 rfl rfl,
  List.forall_mem_cons.mpr ⟨so_get d_K_goesBefore_9 (rfl : vwCl[5]? = some (R_K, F_K, 9)) (Nat.le_of_ble_eq_true rfl) i_K w_1_190 rfl,
  List.forall_mem_cons.mpr ⟨so_iload_n d_K_goesBefore_12 rfl rfl,
  List.forall_mem_cons.mpr ⟨so_cV g_good d_K_goesBefore_13 ⟨w_2_151, (Nat.le_of_ble_eq_true rfl), (Nat.le_of_ble_eq_true rfl), w_1_2, ⟨by decide, by decide⟩, by decide +kernel⟩ (rfl : vwCl[0]? = some (R_I, F_I, 2)) w_4_64 w_2_149 w_2_150 rfl,
  List.forall_mem_cons.mpr ⟨so_icmp_eq d_K_goesBefore_16 (by decide) rfl,
  List.forall_mem_cons.mpr ⟨so_aload_n d_K_goesBefore_19 rfl rfl,
  List.forall_mem_cons.mpr ⟨so_get d_K_goesBefore_20 (rfl : vwCl[5]? = some (R_K, F_K, 9)) (Nat.le_of_ble_eq_true rfl) i_K w_1_190 rfl,
  List.forall_mem_cons.mpr ⟨so_iload_n d_K_goesBefore_23 rfl rfl,
  List.forall_mem_cons.mpr ⟨so_cV g_good d_K_goesBefore_24 ⟨w_2_151, (Nat.le_of_ble_eq_true rfl), (Nat.le_of_ble_eq_true rfl), w_1_2, ⟨by decide, by decide⟩, by decide +kernel⟩ (rfl : vwCl[0]? = some (R_I, F_I, 2)) w_4_64 w_2_149 w_2_150 rfl,
  List.forall_mem_cons.mpr ⟨so_aload_n d_K_goesBefore_27 rfl rfl,
  List.forall_mem_cons.mpr ⟨so_get d_K_goesBefore_28 (rfl : vwCl[5]? = some (R_K, F_K, 9)) (Nat.le_of_ble_eq_true rfl) i_K w_1_190 rfl,
  List.forall_mem_cons.mpr ⟨so_iload_n d_K_goesBefore_31 rfl rfl,
  fun _ h => absurd h List.not_mem_nil⟩⟩⟩⟩⟩⟩⟩⟩⟩⟩⟩⟩⟩⟩⟩⟩
def cd_K_goesBefore_1 : Nat → g_T := g_tab [(32, tr_cV J_I_at 0 1 35), (35, tr_if2 (fun x y => y ≤ x) 42 38), (38, tr_cst (.int (1)) 39), (39, tr_goto 43), (42, tr_cst (.int (0)) 43), (43, tr_rz), (44, tr_ald 0 45), (45, tr_get 5 3 48), (48, tr_ild 1 49), (49, tr_cV J_I_at 0 1 52), (52, tr_ald 0 53), (53, tr_get 5 3 56), (56, tr_ild 2 57), (57, tr_cV J_I_at 0 1 60), (60, tr_if2 (fun x y => y ≤ x) 67 63), (63, tr_cst (.int (1)) 64)]
set_option maxRecDepth 100000 in
theorem ok_K_goesBefore_1 : ∀ pc, g_S (J_K_goesBefore) pc (cd_K_goesBefore_1 pc) := g_tab_ok <|
  List.forall_mem_cons.mpr ⟨so_cV g_good d_K_goesBefore_32 ⟨w_2_151, (Nat.le_of_ble_eq_true rfl), (Nat.le_of_ble_eq_true rfl), w_1_2, ⟨by decide, by decide⟩, by decide +kernel⟩ (rfl : vwCl[0]? = some (R_I, F_I, 2)) w_4_64 w_2_149 w_2_150 rfl,
  List.forall_mem_cons.mpr ⟨so_icmp_ge d_K_goesBefore_35 (by decide) rfl,
  List.forall_mem_cons.mpr ⟨so_iconst (by decide) d_K_goesBefore_38 rfl,
  List.forall_mem_cons.mpr ⟨so_goto d_K_goesBefore_39 (by decide),
  List.forall_mem_cons.mpr ⟨so_iconst (by decide) d_K_goesBefore_42 rfl,
  List.forall_mem_cons.mpr ⟨so_zret d_K_goesBefore_43 rfl,
  List.forall_mem_cons.mpr ⟨so_aload_n d_K_goesBefore_44 rfl rfl,
  List.forall_mem_cons.mpr ⟨so_get d_K_goesBefore_45 (rfl : vwCl[5]? = some (R_K, F_K, 9)) (Nat.le_of_ble_eq_true rfl) i_K w_1_189 rfl,
  List.forall_mem_cons.mpr ⟨so_iload_n d_K_goesBefore_48 rfl rfl,
  List.forall_mem_cons.mpr ⟨so_cV g_good d_K_goesBefore_49 ⟨w_2_151, (Nat.le_of_ble_eq_true rfl), (Nat.le_of_ble_eq_true rfl), w_1_2, ⟨by decide, by decide⟩, by decide +kernel⟩ (rfl : vwCl[0]? = some (R_I, F_I, 2)) w_4_64 w_2_149 w_2_150 rfl,
  List.forall_mem_cons.mpr ⟨so_aload_n d_K_goesBefore_52 rfl rfl,
  List.forall_mem_cons.mpr ⟨so_get d_K_goesBefore_53 (rfl : vwCl[5]? = some (R_K, F_K, 9)) (Nat.le_of_ble_eq_true rfl) i_K w_1_189 rfl,
  List.forall_mem_cons.mpr ⟨so_iload_n d_K_goesBefore_56 rfl rfl,
  List.forall_mem_cons.mpr ⟨so_cV g_good d_K_goesBefore_57 ⟨w_2_151, (Nat.le_of_ble_eq_true rfl), (Nat.le_of_ble_eq_true rfl), w_1_2, ⟨by decide, by decide⟩, by decide +kernel⟩ (rfl : vwCl[0]? = some (R_I, F_I, 2)) w_4_64 w_2_149 w_2_150 rfl,
  List.forall_mem_cons.mpr ⟨so_icmp_ge d_K_goesBefore_60 (by decide) rfl,
  List.forall_mem_cons.mpr ⟨so_iconst (by decide) d_K_goesBefore_63 rfl,
  fun _ h => absurd h List.not_mem_nil⟩⟩⟩⟩⟩⟩⟩⟩⟩⟩⟩⟩⟩⟩⟩⟩
def cd_K_goesBefore_2 : Nat → g_T := g_tab [(64, tr_goto 68), (67, tr_cst (.int (0)) 68), (68, tr_rz)]
set_option maxRecDepth 100000 in
theorem ok_K_goesBefore_2 : ∀ pc, g_S (J_K_goesBefore) pc (cd_K_goesBefore_2 pc) := g_tab_ok <|
  List.forall_mem_cons.mpr ⟨so_goto d_K_goesBefore_64 (by decide),
  List.forall_mem_cons.mpr ⟨so_iconst (by decide) d_K_goesBefore_67 rfl,
  List.forall_mem_cons.mpr ⟨so_zret d_K_goesBefore_68 rfl,
  fun _ h => absurd h List.not_mem_nil⟩⟩⟩
def cd_K_goesBefore : Nat → g_T := g_chk [(31, cd_K_goesBefore_0), (63, cd_K_goesBefore_1), (68, cd_K_goesBefore_2)]
theorem ok_K_goesBefore : ∀ pc, g_S (J_K_goesBefore) pc (cd_K_goesBefore pc) := g_chk_ok <|
  List.forall_mem_cons.mpr ⟨ok_K_goesBefore_0,
  List.forall_mem_cons.mpr ⟨ok_K_goesBefore_1,
  List.forall_mem_cons.mpr ⟨ok_K_goesBefore_2,
  fun _ h => absurd h List.not_mem_nil⟩⟩⟩
abbrev J_K_joinRuns : g_J := (y_K_joinRuns, prog_4_method_9_code, 8, none, (2, 43), [], none)
theorem d_K_joinRuns_0 : decode prog_4_method_9_code 0 = .ok (.iload_n 1, 1) := by decide +kernel
theorem d_K_joinRuns_1 : decode prog_4_method_9_code 1 = .ok (.istore 4, 2) := by decide +kernel
theorem d_K_joinRuns_3 : decode prog_4_method_9_code 3 = .ok (.iload_n 2, 1) := by decide +kernel
theorem d_K_joinRuns_4 : decode prog_4_method_9_code 4 = .ok (.istore 5, 2) := by decide +kernel
theorem d_K_joinRuns_6 : decode prog_4_method_9_code 6 = .ok (.iload_n 1, 1) := by decide +kernel
theorem d_K_joinRuns_7 : decode prog_4_method_9_code 7 = .ok (.istore 6, 2) := by decide +kernel
theorem d_K_joinRuns_9 : decode prog_4_method_9_code 9 = .ok (.iload 6, 2) := by decide +kernel
theorem d_K_joinRuns_11 : decode prog_4_method_9_code 11 = .ok (.iload_n 3, 1) := by decide +kernel
theorem d_K_joinRuns_12 : decode prog_4_method_9_code 12 = .ok (.if_icmp .ge 94, 3) := by decide +kernel
theorem d_K_joinRuns_15 : decode prog_4_method_9_code 15 = .ok (.iload 4, 2) := by decide +kernel
theorem d_K_joinRuns_17 : decode prog_4_method_9_code 17 = .ok (.iload_n 2, 1) := by decide +kernel
theorem d_K_joinRuns_18 : decode prog_4_method_9_code 18 = .ok (.if_icmp .ge 38, 3) := by decide +kernel
theorem d_K_joinRuns_21 : decode prog_4_method_9_code 21 = .ok (.iload 5, 2) := by decide +kernel
theorem d_K_joinRuns_23 : decode prog_4_method_9_code 23 = .ok (.iload_n 3, 1) := by decide +kernel
theorem d_K_joinRuns_24 : decode prog_4_method_9_code 24 = .ok (.if_icmp .ge 28, 3) := by decide +kernel
theorem d_K_joinRuns_27 : decode prog_4_method_9_code 27 = .ok (.aload_n 0, 1) := by decide +kernel
theorem d_K_joinRuns_28 : decode prog_4_method_9_code 28 = .ok (.aload_n 0, 1) := by decide +kernel
theorem d_K_joinRuns_29 : decode prog_4_method_9_code 29 = .ok (.getfield 35, 3) := by decide +kernel
theorem d_K_joinRuns_32 : decode prog_4_method_9_code 32 = .ok (.iload 5, 2) := by decide +kernel
theorem d_K_joinRuns_34 : decode prog_4_method_9_code 34 = .ok (.invokevirtual 74, 3) := by decide +kernel
theorem d_K_joinRuns_37 : decode prog_4_method_9_code 37 = .ok (.aload_n 0, 1) := by decide +kernel
theorem d_K_joinRuns_38 : decode prog_4_method_9_code 38 = .ok (.getfield 35, 3) := by decide +kernel
theorem d_K_joinRuns_41 : decode prog_4_method_9_code 41 = .ok (.iload 4, 2) := by decide +kernel
theorem d_K_joinRuns_43 : decode prog_4_method_9_code 43 = .ok (.invokevirtual 74, 3) := by decide +kernel
theorem d_K_joinRuns_46 : decode prog_4_method_9_code 46 = .ok (.invokevirtual 91, 3) := by decide +kernel
theorem d_K_joinRuns_49 : decode prog_4_method_9_code 49 = .ok (.ifCond .ne 7, 3) := by decide +kernel
theorem d_K_joinRuns_52 : decode prog_4_method_9_code 52 = .ok (.iconst 1, 1) := by decide +kernel
theorem d_K_joinRuns_53 : decode prog_4_method_9_code 53 = .ok (.goto 4, 3) := by decide +kernel
theorem d_K_joinRuns_56 : decode prog_4_method_9_code 56 = .ok (.iconst 0, 1) := by decide +kernel
theorem d_K_joinRuns_57 : decode prog_4_method_9_code 57 = .ok (.istore 7, 2) := by decide +kernel
theorem d_K_joinRuns_59 : decode prog_4_method_9_code 59 = .ok (.aload_n 0, 1) := by decide +kernel
theorem d_K_joinRuns_60 : decode prog_4_method_9_code 60 = .ok (.getfield 38, 3) := by decide +kernel
theorem d_K_joinRuns_63 : decode prog_4_method_9_code 63 = .ok (.aload_n 0, 1) := by decide +kernel
theorem d_K_joinRuns_64 : decode prog_4_method_9_code 64 = .ok (.getfield 35, 3) := by decide +kernel
theorem d_K_joinRuns_67 : decode prog_4_method_9_code 67 = .ok (.iload 7, 2) := by decide +kernel
theorem d_K_joinRuns_69 : decode prog_4_method_9_code 69 = .ok (.ifCond .eq 8, 3) := by decide +kernel
theorem d_K_joinRuns_72 : decode prog_4_method_9_code 72 = .ok (.iload 4, 2) := by decide +kernel
theorem d_K_joinRuns_74 : decode prog_4_method_9_code 74 = .ok (.goto 5, 3) := by decide +kernel
theorem d_K_joinRuns_77 : decode prog_4_method_9_code 77 = .ok (.iload 5, 2) := by decide +kernel
theorem d_K_joinRuns_79 : decode prog_4_method_9_code 79 = .ok (.invokevirtual 74, 3) := by decide +kernel
theorem d_K_joinRuns_82 : decode prog_4_method_9_code 82 = .ok (.invokevirtual 54, 3) := by decide +kernel
theorem d_K_joinRuns_85 : decode prog_4_method_9_code 85 = .ok (.pop, 1) := by decide +kernel
theorem d_K_joinRuns_86 : decode prog_4_method_9_code 86 = .ok (.iload 7, 2) := by decide +kernel
theorem d_K_joinRuns_88 : decode prog_4_method_9_code 88 = .ok (.ifCond .eq 9, 3) := by decide +kernel
theorem d_K_joinRuns_91 : decode prog_4_method_9_code 91 = .ok (.iinc 4 1, 3) := by decide +kernel
theorem d_K_joinRuns_94 : decode prog_4_method_9_code 94 = .ok (.goto 6, 3) := by decide +kernel
theorem d_K_joinRuns_97 : decode prog_4_method_9_code 97 = .ok (.iinc 5 1, 3) := by decide +kernel
theorem d_K_joinRuns_100 : decode prog_4_method_9_code 100 = .ok (.iinc 6 1, 3) := by decide +kernel
theorem d_K_joinRuns_103 : decode prog_4_method_9_code 103 = .ok (.goto (-94), 3) := by decide +kernel
theorem d_K_joinRuns_106 : decode prog_4_method_9_code 106 = .ok (.return_, 1) := by decide +kernel
def cd_K_joinRuns_0 : Nat → g_T := g_tab [(0, tr_ild 1 1), (1, tr_ist 4 3), (3, tr_ild 2 4), (4, tr_ist 5 6), (6, tr_ild 1 7), (7, tr_ist 6 9), (9, tr_ild 6 11), (11, tr_ild 3 12), (12, tr_if2 (fun x y => y ≤ x) 106 15), (15, tr_ild 4 17), (17, tr_ild 2 18), (18, tr_if2 (fun x y => y ≤ x) 56 21), (21, tr_ild 5 23), (23, tr_ild 3 24), (24, tr_if2 (fun x y => y ≤ x) 52 27), (27, tr_ald 0 28)]
set_option maxRecDepth 100000 in
theorem ok_K_joinRuns_0 : ∀ pc, g_S (J_K_joinRuns) pc (cd_K_joinRuns_0 pc) := g_tab_ok <|
  List.forall_mem_cons.mpr ⟨so_iload_n d_K_joinRuns_0 rfl rfl,
  List.forall_mem_cons.mpr ⟨so_istore d_K_joinRuns_1 (Nat.le_of_ble_eq_true rfl) rfl,
  List.forall_mem_cons.mpr ⟨so_iload_n d_K_joinRuns_3 rfl rfl,
  List.forall_mem_cons.mpr ⟨so_istore d_K_joinRuns_4 (Nat.le_of_ble_eq_true rfl) rfl,
  List.forall_mem_cons.mpr ⟨so_iload_n d_K_joinRuns_6 rfl rfl,
  List.forall_mem_cons.mpr ⟨so_istore d_K_joinRuns_7 (Nat.le_of_ble_eq_true rfl) rfl,
  List.forall_mem_cons.mpr ⟨so_iload d_K_joinRuns_9 rfl,
  List.forall_mem_cons.mpr ⟨so_iload_n d_K_joinRuns_11 rfl rfl,
  List.forall_mem_cons.mpr ⟨so_icmp_ge d_K_joinRuns_12 (by decide) rfl,
  List.forall_mem_cons.mpr ⟨so_iload d_K_joinRuns_15 rfl,
  List.forall_mem_cons.mpr ⟨so_iload_n d_K_joinRuns_17 rfl rfl,
  List.forall_mem_cons.mpr ⟨so_icmp_ge d_K_joinRuns_18 (by decide) rfl,
  List.forall_mem_cons.mpr ⟨so_iload d_K_joinRuns_21 rfl,
  List.forall_mem_cons.mpr ⟨so_iload_n d_K_joinRuns_23 rfl rfl,
  List.forall_mem_cons.mpr ⟨so_icmp_ge d_K_joinRuns_24 (by decide) rfl,
  List.forall_mem_cons.mpr ⟨so_aload_n d_K_joinRuns_27 rfl rfl,
  fun _ h => absurd h List.not_mem_nil⟩⟩⟩⟩⟩⟩⟩⟩⟩⟩⟩⟩⟩⟩⟩⟩
def cd_K_joinRuns_1 : Nat → g_T := g_tab [(28, tr_ald 0 29), (29, tr_get 5 6 32), (32, tr_ild 5 34), (34, tr_cV J_I_at 0 1 37), (37, tr_ald 0 38), (38, tr_get 5 6 41), (41, tr_ild 4 43), (43, tr_cV J_I_at 0 1 46), (46, tr_cV J_K_goesBefore 5 2 49), (49, tr_if1 (fun x => ¬ x = 0) 56 52), (52, tr_cst (.int (1)) 53), (53, tr_goto 57), (56, tr_cst (.int (0)) 57), (57, tr_ist 7 59), (59, tr_ald 0 60), (60, tr_get 5 7 63)]
set_option maxRecDepth 100000 in
theorem ok_K_joinRuns_1 : ∀ pc, g_S (J_K_joinRuns) pc (cd_K_joinRuns_1 pc) := g_tab_ok <|
  List.forall_mem_cons.mpr ⟨so_aload_n d_K_joinRuns_28 rfl rfl,
  List.forall_mem_cons.mpr ⟨so_get d_K_joinRuns_29 (rfl : vwCl[5]? = some (R_K, F_K, 9)) (Nat.le_of_ble_eq_true rfl) i_K w_1_192 rfl,
  List.forall_mem_cons.mpr ⟨so_iload d_K_joinRuns_32 rfl,
  List.forall_mem_cons.mpr ⟨so_cV g_good d_K_joinRuns_34 ⟨w_2_151, (Nat.le_of_ble_eq_true rfl), (Nat.le_of_ble_eq_true rfl), w_1_2, ⟨by decide, by decide⟩, by decide +kernel⟩ (rfl : vwCl[0]? = some (R_I, F_I, 2)) w_4_64 w_2_149 w_2_150 rfl,
  List.forall_mem_cons.mpr ⟨so_aload_n d_K_joinRuns_37 rfl rfl,
  List.forall_mem_cons.mpr ⟨so_get d_K_joinRuns_38 (rfl : vwCl[5]? = some (R_K, F_K, 9)) (Nat.le_of_ble_eq_true rfl) i_K w_1_192 rfl,
  List.forall_mem_cons.mpr ⟨so_iload d_K_joinRuns_41 rfl,
  List.forall_mem_cons.mpr ⟨so_cV g_good d_K_joinRuns_43 ⟨w_2_151, (Nat.le_of_ble_eq_true rfl), (Nat.le_of_ble_eq_true rfl), w_1_2, ⟨by decide, by decide⟩, by decide +kernel⟩ (rfl : vwCl[0]? = some (R_I, F_I, 2)) w_4_64 w_2_149 w_2_150 rfl,
  List.forall_mem_cons.mpr ⟨so_cV g_good d_K_joinRuns_46 ⟨w_4_91, (Nat.le_of_ble_eq_true rfl), (Nat.le_of_ble_eq_true rfl), w_1_11, ⟨by decide, by decide⟩, by decide +kernel⟩ (rfl : vwCl[5]? = some (R_K, F_K, 9)) w_4_88 w_4_90 w_p26 rfl,
  List.forall_mem_cons.mpr ⟨so_if_ne d_K_joinRuns_49 (by decide) rfl,
  List.forall_mem_cons.mpr ⟨so_iconst (by decide) d_K_joinRuns_52 rfl,
  List.forall_mem_cons.mpr ⟨so_goto d_K_joinRuns_53 (by decide),
  List.forall_mem_cons.mpr ⟨so_iconst (by decide) d_K_joinRuns_56 rfl,
  List.forall_mem_cons.mpr ⟨so_istore d_K_joinRuns_57 (Nat.le_of_ble_eq_true rfl) rfl,
  List.forall_mem_cons.mpr ⟨so_aload_n d_K_joinRuns_59 rfl rfl,
  List.forall_mem_cons.mpr ⟨so_get d_K_joinRuns_60 (rfl : vwCl[5]? = some (R_K, F_K, 9)) (Nat.le_of_ble_eq_true rfl) i_K w_1_193 rfl,
  fun _ h => absurd h List.not_mem_nil⟩⟩⟩⟩⟩⟩⟩⟩⟩⟩⟩⟩⟩⟩⟩⟩
def cd_K_joinRuns_2 : Nat → g_T := g_tab [(63, tr_ald 0 64), (64, tr_get 5 6 67), (67, tr_ild 7 69), (69, tr_if1 (fun x => x = 0) 77 72), (72, tr_ild 4 74), (74, tr_goto 79), (77, tr_ild 5 79), (79, tr_cV J_I_at 0 1 82), (82, tr_cV J_I_add 0 1 85), (85, tr_pop 86), (86, tr_ild 7 88), (88, tr_if1 (fun x => x = 0) 97 91), (91, tr_inc 4 (1) 94), (94, tr_goto 100), (97, tr_inc 5 (1) 100), (100, tr_inc 6 (1) 103)]
set_option maxRecDepth 100000 in
theorem ok_K_joinRuns_2 : ∀ pc, g_S (J_K_joinRuns) pc (cd_K_joinRuns_2 pc) := g_tab_ok <|
  List.forall_mem_cons.mpr ⟨so_aload_n d_K_joinRuns_63 rfl rfl,
  List.forall_mem_cons.mpr ⟨so_get d_K_joinRuns_64 (rfl : vwCl[5]? = some (R_K, F_K, 9)) (Nat.le_of_ble_eq_true rfl) i_K w_1_192 rfl,
  List.forall_mem_cons.mpr ⟨so_iload d_K_joinRuns_67 rfl,
  List.forall_mem_cons.mpr ⟨so_if_eq d_K_joinRuns_69 (by decide) rfl,
  List.forall_mem_cons.mpr ⟨so_iload d_K_joinRuns_72 rfl,
  List.forall_mem_cons.mpr ⟨so_goto d_K_joinRuns_74 (by decide),
  List.forall_mem_cons.mpr ⟨so_iload d_K_joinRuns_77 rfl,
  List.forall_mem_cons.mpr ⟨so_cV g_good d_K_joinRuns_79 ⟨w_2_151, (Nat.le_of_ble_eq_true rfl), (Nat.le_of_ble_eq_true rfl), w_1_2, ⟨by decide, by decide⟩, by decide +kernel⟩ (rfl : vwCl[0]? = some (R_I, F_I, 2)) w_4_64 w_2_149 w_2_150 rfl,
  List.forall_mem_cons.mpr ⟨so_cV g_good d_K_joinRuns_82 ⟨w_1_47, (Nat.le_of_ble_eq_true rfl), (Nat.le_of_ble_eq_true rfl), w_1_2, ⟨by decide, by decide⟩, by decide +kernel⟩ (rfl : vwCl[0]? = some (R_I, F_I, 2)) w_4_43 w_1_45 w_1_46 rfl,
  List.forall_mem_cons.mpr ⟨so_pop d_K_joinRuns_85 rfl,
  List.forall_mem_cons.mpr ⟨so_iload d_K_joinRuns_86 rfl,
  List.forall_mem_cons.mpr ⟨so_if_eq d_K_joinRuns_88 (by decide) rfl,
  List.forall_mem_cons.mpr ⟨so_iinc d_K_joinRuns_91 (by decide) (Nat.le_of_ble_eq_true rfl) rfl,
  List.forall_mem_cons.mpr ⟨so_goto d_K_joinRuns_94 (by decide),
  List.forall_mem_cons.mpr ⟨so_iinc d_K_joinRuns_97 (by decide) (Nat.le_of_ble_eq_true rfl) rfl,
  List.forall_mem_cons.mpr ⟨so_iinc d_K_joinRuns_100 (by decide) (Nat.le_of_ble_eq_true rfl) rfl,
  fun _ h => absurd h List.not_mem_nil⟩⟩⟩⟩⟩⟩⟩⟩⟩⟩⟩⟩⟩⟩⟩⟩
def cd_K_joinRuns_3 : Nat → g_T := g_tab [(103, tr_goto 9), (106, tr_rv)]
set_option maxRecDepth 100000 in
theorem ok_K_joinRuns_3 : ∀ pc, g_S (J_K_joinRuns) pc (cd_K_joinRuns_3 pc) := g_tab_ok <|
  List.forall_mem_cons.mpr ⟨so_goto d_K_joinRuns_103 (by decide),
  List.forall_mem_cons.mpr ⟨so_vret d_K_joinRuns_106 rfl,
  fun _ h => absurd h List.not_mem_nil⟩⟩
def cd_K_joinRuns : Nat → g_T := g_chk [(27, cd_K_joinRuns_0), (60, cd_K_joinRuns_1), (100, cd_K_joinRuns_2), (106, cd_K_joinRuns_3)]
theorem ok_K_joinRuns : ∀ pc, g_S (J_K_joinRuns) pc (cd_K_joinRuns pc) := g_chk_ok <|
  List.forall_mem_cons.mpr ⟨ok_K_joinRuns_0,
  List.forall_mem_cons.mpr ⟨ok_K_joinRuns_1,
  List.forall_mem_cons.mpr ⟨ok_K_joinRuns_2,
  List.forall_mem_cons.mpr ⟨ok_K_joinRuns_3,
  fun _ h => absurd h List.not_mem_nil⟩⟩⟩⟩
abbrev J_K_putInOrder : g_J := (y_K_putInOrder, prog_4_method_8_code, 3, none, (3, 70), [], none)
theorem d_K_putInOrder_0 : decode prog_4_method_8_code 0 = .ok (.aload_n 0, 1) := by decide +kernel
theorem d_K_putInOrder_1 : decode prog_4_method_8_code 1 = .ok (.getfield 35, 3) := by decide +kernel
theorem d_K_putInOrder_4 : decode prog_4_method_8_code 4 = .ok (.iconst 0, 1) := by decide +kernel
theorem d_K_putInOrder_5 : decode prog_4_method_8_code 5 = .ok (.invokevirtual 41, 3) := by decide +kernel
theorem d_K_putInOrder_8 : decode prog_4_method_8_code 8 = .ok (.iconst 0, 1) := by decide +kernel
theorem d_K_putInOrder_9 : decode prog_4_method_8_code 9 = .ok (.istore_n 1, 1) := by decide +kernel
theorem d_K_putInOrder_10 : decode prog_4_method_8_code 10 = .ok (.iload_n 1, 1) := by decide +kernel
theorem d_K_putInOrder_11 : decode prog_4_method_8_code 11 = .ok (.aload_n 0, 1) := by decide +kernel
theorem d_K_putInOrder_12 : decode prog_4_method_8_code 12 = .ok (.invokevirtual 80, 3) := by decide +kernel
theorem d_K_putInOrder_15 : decode prog_4_method_8_code 15 = .ok (.if_icmp .ge 18, 3) := by decide +kernel
theorem d_K_putInOrder_18 : decode prog_4_method_8_code 18 = .ok (.aload_n 0, 1) := by decide +kernel
theorem d_K_putInOrder_19 : decode prog_4_method_8_code 19 = .ok (.getfield 35, 3) := by decide +kernel
theorem d_K_putInOrder_22 : decode prog_4_method_8_code 22 = .ok (.iload_n 1, 1) := by decide +kernel
theorem d_K_putInOrder_23 : decode prog_4_method_8_code 23 = .ok (.invokevirtual 54, 3) := by decide +kernel
theorem d_K_putInOrder_26 : decode prog_4_method_8_code 26 = .ok (.pop, 1) := by decide +kernel
theorem d_K_putInOrder_27 : decode prog_4_method_8_code 27 = .ok (.iinc 1 1, 3) := by decide +kernel
theorem d_K_putInOrder_30 : decode prog_4_method_8_code 30 = .ok (.goto (-20), 3) := by decide +kernel
theorem d_K_putInOrder_33 : decode prog_4_method_8_code 33 = .ok (.iconst 1, 1) := by decide +kernel
theorem d_K_putInOrder_34 : decode prog_4_method_8_code 34 = .ok (.istore_n 1, 1) := by decide +kernel
theorem d_K_putInOrder_35 : decode prog_4_method_8_code 35 = .ok (.iload_n 1, 1) := by decide +kernel
theorem d_K_putInOrder_36 : decode prog_4_method_8_code 36 = .ok (.aload_n 0, 1) := by decide +kernel
theorem d_K_putInOrder_37 : decode prog_4_method_8_code 37 = .ok (.invokevirtual 80, 3) := by decide +kernel
theorem d_K_putInOrder_40 : decode prog_4_method_8_code 40 = .ok (.if_icmp .ge 82, 3) := by decide +kernel
theorem d_K_putInOrder_43 : decode prog_4_method_8_code 43 = .ok (.aload_n 0, 1) := by decide +kernel
theorem d_K_putInOrder_44 : decode prog_4_method_8_code 44 = .ok (.getfield 38, 3) := by decide +kernel
theorem d_K_putInOrder_47 : decode prog_4_method_8_code 47 = .ok (.iconst 0, 1) := by decide +kernel
theorem d_K_putInOrder_48 : decode prog_4_method_8_code 48 = .ok (.invokevirtual 41, 3) := by decide +kernel
theorem d_K_putInOrder_51 : decode prog_4_method_8_code 51 = .ok (.iconst 0, 1) := by decide +kernel
theorem d_K_putInOrder_52 : decode prog_4_method_8_code 52 = .ok (.istore_n 2, 1) := by decide +kernel
theorem d_K_putInOrder_53 : decode prog_4_method_8_code 53 = .ok (.iload_n 2, 1) := by decide +kernel
theorem d_K_putInOrder_54 : decode prog_4_method_8_code 54 = .ok (.aload_n 0, 1) := by decide +kernel
theorem d_K_putInOrder_55 : decode prog_4_method_8_code 55 = .ok (.invokevirtual 80, 3) := by decide +kernel
theorem d_K_putInOrder_58 : decode prog_4_method_8_code 58 = .ok (.if_icmp .ge 39, 3) := by decide +kernel
theorem d_K_putInOrder_61 : decode prog_4_method_8_code 61 = .ok (.aload_n 0, 1) := by decide +kernel
theorem d_K_putInOrder_62 : decode prog_4_method_8_code 62 = .ok (.iload_n 2, 1) := by decide +kernel
theorem d_K_putInOrder_63 : decode prog_4_method_8_code 63 = .ok (.iload_n 2, 1) := by decide +kernel
theorem d_K_putInOrder_64 : decode prog_4_method_8_code 64 = .ok (.iload_n 1, 1) := by decide +kernel
theorem d_K_putInOrder_65 : decode prog_4_method_8_code 65 = .ok (.iadd, 1) := by decide +kernel
theorem d_K_putInOrder_66 : decode prog_4_method_8_code 66 = .ok (.aload_n 0, 1) := by decide +kernel
theorem d_K_putInOrder_67 : decode prog_4_method_8_code 67 = .ok (.invokevirtual 80, 3) := by decide +kernel
theorem d_K_putInOrder_70 : decode prog_4_method_8_code 70 = .ok (.invokestatic 81, 3) := by decide +kernel
theorem d_K_putInOrder_73 : decode prog_4_method_8_code 73 = .ok (.iload_n 2, 1) := by decide +kernel
theorem d_K_putInOrder_74 : decode prog_4_method_8_code 74 = .ok (.iconst 2, 1) := by decide +kernel
theorem d_K_putInOrder_75 : decode prog_4_method_8_code 75 = .ok (.iload_n 1, 1) := by decide +kernel
theorem d_K_putInOrder_76 : decode prog_4_method_8_code 76 = .ok (.imul, 1) := by decide +kernel
theorem d_K_putInOrder_77 : decode prog_4_method_8_code 77 = .ok (.iadd, 1) := by decide +kernel
theorem d_K_putInOrder_78 : decode prog_4_method_8_code 78 = .ok (.aload_n 0, 1) := by decide +kernel
theorem d_K_putInOrder_79 : decode prog_4_method_8_code 79 = .ok (.invokevirtual 80, 3) := by decide +kernel
theorem d_K_putInOrder_82 : decode prog_4_method_8_code 82 = .ok (.invokestatic 81, 3) := by decide +kernel
theorem d_K_putInOrder_85 : decode prog_4_method_8_code 85 = .ok (.invokevirtual 87, 3) := by decide +kernel
theorem d_K_putInOrder_88 : decode prog_4_method_8_code 88 = .ok (.iload_n 2, 1) := by decide +kernel
theorem d_K_putInOrder_89 : decode prog_4_method_8_code 89 = .ok (.iconst 2, 1) := by decide +kernel
theorem d_K_putInOrder_90 : decode prog_4_method_8_code 90 = .ok (.iload_n 1, 1) := by decide +kernel
theorem d_K_putInOrder_91 : decode prog_4_method_8_code 91 = .ok (.imul, 1) := by decide +kernel
theorem d_K_putInOrder_92 : decode prog_4_method_8_code 92 = .ok (.iadd, 1) := by decide +kernel
theorem d_K_putInOrder_93 : decode prog_4_method_8_code 93 = .ok (.istore_n 2, 1) := by decide +kernel
theorem d_K_putInOrder_94 : decode prog_4_method_8_code 94 = .ok (.goto (-41), 3) := by decide +kernel
theorem d_K_putInOrder_97 : decode prog_4_method_8_code 97 = .ok (.aload_n 0, 1) := by decide +kernel
theorem d_K_putInOrder_98 : decode prog_4_method_8_code 98 = .ok (.getfield 38, 3) := by decide +kernel
theorem d_K_putInOrder_101 : decode prog_4_method_8_code 101 = .ok (.astore_n 2, 1) := by decide +kernel
theorem d_K_putInOrder_102 : decode prog_4_method_8_code 102 = .ok (.aload_n 0, 1) := by decide +kernel
theorem d_K_putInOrder_103 : decode prog_4_method_8_code 103 = .ok (.aload_n 0, 1) := by decide +kernel
theorem d_K_putInOrder_104 : decode prog_4_method_8_code 104 = .ok (.getfield 35, 3) := by decide +kernel
theorem d_K_putInOrder_107 : decode prog_4_method_8_code 107 = .ok (.putfield 38, 3) := by decide +kernel
theorem d_K_putInOrder_110 : decode prog_4_method_8_code 110 = .ok (.aload_n 0, 1) := by decide +kernel
theorem d_K_putInOrder_111 : decode prog_4_method_8_code 111 = .ok (.aload_n 2, 1) := by decide +kernel
theorem d_K_putInOrder_112 : decode prog_4_method_8_code 112 = .ok (.putfield 35, 3) := by decide +kernel
theorem d_K_putInOrder_115 : decode prog_4_method_8_code 115 = .ok (.iload_n 1, 1) := by decide +kernel
theorem d_K_putInOrder_116 : decode prog_4_method_8_code 116 = .ok (.iconst 2, 1) := by decide +kernel
theorem d_K_putInOrder_117 : decode prog_4_method_8_code 117 = .ok (.imul, 1) := by decide +kernel
theorem d_K_putInOrder_118 : decode prog_4_method_8_code 118 = .ok (.istore_n 1, 1) := by decide +kernel
theorem d_K_putInOrder_119 : decode prog_4_method_8_code 119 = .ok (.goto (-84), 3) := by decide +kernel
theorem d_K_putInOrder_122 : decode prog_4_method_8_code 122 = .ok (.return_, 1) := by decide +kernel
def cd_K_putInOrder_0 : Nat → g_T := g_tab [(0, tr_ald 0 1), (1, tr_get 5 6 4), (4, tr_cst (.int (0)) 5), (5, tr_cV J_I_shorten 0 1 8), (8, tr_cst (.int (0)) 9), (9, tr_ist 1 10), (10, tr_ild 1 11), (11, tr_ald 0 12), (12, tr_cV J_K_size 5 0 15), (15, tr_if2 (fun x y => y ≤ x) 33 18), (18, tr_ald 0 19), (19, tr_get 5 6 22), (22, tr_ild 1 23), (23, tr_cV J_I_add 0 1 26), (26, tr_pop 27), (27, tr_inc 1 (1) 30)]
set_option maxRecDepth 100000 in
theorem ok_K_putInOrder_0 : ∀ pc, g_S (J_K_putInOrder) pc (cd_K_putInOrder_0 pc) := g_tab_ok <|
  List.forall_mem_cons.mpr ⟨so_aload_n d_K_putInOrder_0 rfl rfl,
  List.forall_mem_cons.mpr ⟨so_get d_K_putInOrder_1 (rfl : vwCl[5]? = some (R_K, F_K, 9)) (Nat.le_of_ble_eq_true rfl) i_K w_1_192 rfl,
  List.forall_mem_cons.mpr ⟨so_iconst (by decide) d_K_putInOrder_4 rfl,
  List.forall_mem_cons.mpr ⟨so_cV g_good d_K_putInOrder_5 ⟨w_2_184, (Nat.le_of_ble_eq_true rfl), (Nat.le_of_ble_eq_true rfl), w_1_2, ⟨by decide, by decide⟩, by decide +kernel⟩ (rfl : vwCl[0]? = some (R_I, F_I, 2)) w_3_163 w_2_182 w_2_183 rfl,
  List.forall_mem_cons.mpr ⟨so_iconst (by decide) d_K_putInOrder_8 rfl,
  List.forall_mem_cons.mpr ⟨so_istore_n d_K_putInOrder_9 rfl (Nat.le_of_ble_eq_true rfl) rfl,
  List.forall_mem_cons.mpr ⟨so_iload_n d_K_putInOrder_10 rfl rfl,
  List.forall_mem_cons.mpr ⟨so_aload_n d_K_putInOrder_11 rfl rfl,
  List.forall_mem_cons.mpr ⟨so_cV g_good d_K_putInOrder_12 ⟨w_2_53, (Nat.le_of_ble_eq_true rfl), (Nat.le_of_ble_eq_true rfl), w_1_11, ⟨by decide, by decide⟩, by decide +kernel⟩ (rfl : vwCl[5]? = some (R_K, F_K, 9)) w_4_80 w_2_51 w_2_52 rfl,
  List.forall_mem_cons.mpr ⟨so_icmp_ge d_K_putInOrder_15 (by decide) rfl,
  List.forall_mem_cons.mpr ⟨so_aload_n d_K_putInOrder_18 rfl rfl,
  List.forall_mem_cons.mpr ⟨so_get d_K_putInOrder_19 (rfl : vwCl[5]? = some (R_K, F_K, 9)) (Nat.le_of_ble_eq_true rfl) i_K w_1_192 rfl,
  List.forall_mem_cons.mpr ⟨so_iload_n d_K_putInOrder_22 rfl rfl,
  List.forall_mem_cons.mpr ⟨so_cV g_good d_K_putInOrder_23 ⟨w_1_47, (Nat.le_of_ble_eq_true rfl), (Nat.le_of_ble_eq_true rfl), w_1_2, ⟨by decide, by decide⟩, by decide +kernel⟩ (rfl : vwCl[0]? = some (R_I, F_I, 2)) w_4_43 w_1_45 w_1_46 rfl,
  List.forall_mem_cons.mpr ⟨so_pop d_K_putInOrder_26 rfl,
  List.forall_mem_cons.mpr ⟨so_iinc d_K_putInOrder_27 (by decide) (Nat.le_of_ble_eq_true rfl) rfl,
  fun _ h => absurd h List.not_mem_nil⟩⟩⟩⟩⟩⟩⟩⟩⟩⟩⟩⟩⟩⟩⟩⟩
def cd_K_putInOrder_1 : Nat → g_T := g_tab [(30, tr_goto 10), (33, tr_cst (.int (1)) 34), (34, tr_ist 1 35), (35, tr_ild 1 36), (36, tr_ald 0 37), (37, tr_cV J_K_size 5 0 40), (40, tr_if2 (fun x y => y ≤ x) 122 43), (43, tr_ald 0 44), (44, tr_get 5 7 47), (47, tr_cst (.int (0)) 48), (48, tr_cV J_I_shorten 0 1 51), (51, tr_cst (.int (0)) 52), (52, tr_ist 2 53), (53, tr_ild 2 54), (54, tr_ald 0 55), (55, tr_cV J_K_size 5 0 58)]
set_option maxRecDepth 100000 in
theorem ok_K_putInOrder_1 : ∀ pc, g_S (J_K_putInOrder) pc (cd_K_putInOrder_1 pc) := g_tab_ok <|
  List.forall_mem_cons.mpr ⟨so_goto d_K_putInOrder_30 (by decide),
  List.forall_mem_cons.mpr ⟨so_iconst (by decide) d_K_putInOrder_33 rfl,
  List.forall_mem_cons.mpr ⟨so_istore_n d_K_putInOrder_34 rfl (Nat.le_of_ble_eq_true rfl) rfl,
  List.forall_mem_cons.mpr ⟨so_iload_n d_K_putInOrder_35 rfl rfl,
  List.forall_mem_cons.mpr ⟨so_aload_n d_K_putInOrder_36 rfl rfl,
  List.forall_mem_cons.mpr ⟨so_cV g_good d_K_putInOrder_37 ⟨w_2_53, (Nat.le_of_ble_eq_true rfl), (Nat.le_of_ble_eq_true rfl), w_1_11, ⟨by decide, by decide⟩, by decide +kernel⟩ (rfl : vwCl[5]? = some (R_K, F_K, 9)) w_4_80 w_2_51 w_2_52 rfl,
  List.forall_mem_cons.mpr ⟨so_icmp_ge d_K_putInOrder_40 (by decide) rfl,
  List.forall_mem_cons.mpr ⟨so_aload_n d_K_putInOrder_43 rfl rfl,
  List.forall_mem_cons.mpr ⟨so_get d_K_putInOrder_44 (rfl : vwCl[5]? = some (R_K, F_K, 9)) (Nat.le_of_ble_eq_true rfl) i_K w_1_193 rfl,
  List.forall_mem_cons.mpr ⟨so_iconst (by decide) d_K_putInOrder_47 rfl,
  List.forall_mem_cons.mpr ⟨so_cV g_good d_K_putInOrder_48 ⟨w_2_184, (Nat.le_of_ble_eq_true rfl), (Nat.le_of_ble_eq_true rfl), w_1_2, ⟨by decide, by decide⟩, by decide +kernel⟩ (rfl : vwCl[0]? = some (R_I, F_I, 2)) w_3_163 w_2_182 w_2_183 rfl,
  List.forall_mem_cons.mpr ⟨so_iconst (by decide) d_K_putInOrder_51 rfl,
  List.forall_mem_cons.mpr ⟨so_istore_n d_K_putInOrder_52 rfl (Nat.le_of_ble_eq_true rfl) rfl,
  List.forall_mem_cons.mpr ⟨so_iload_n d_K_putInOrder_53 rfl rfl,
  List.forall_mem_cons.mpr ⟨so_aload_n d_K_putInOrder_54 rfl rfl,
  List.forall_mem_cons.mpr ⟨so_cV g_good d_K_putInOrder_55 ⟨w_2_53, (Nat.le_of_ble_eq_true rfl), (Nat.le_of_ble_eq_true rfl), w_1_11, ⟨by decide, by decide⟩, by decide +kernel⟩ (rfl : vwCl[5]? = some (R_K, F_K, 9)) w_4_80 w_2_51 w_2_52 rfl,
  fun _ h => absurd h List.not_mem_nil⟩⟩⟩⟩⟩⟩⟩⟩⟩⟩⟩⟩⟩⟩⟩⟩
def cd_K_putInOrder_2 : Nat → g_T := g_tab [(58, tr_if2 (fun x y => y ≤ x) 97 61), (61, tr_ald 0 62), (62, tr_ild 2 63), (63, tr_ild 2 64), (64, tr_ild 1 65), (65, tr_ii (fun x y => x + y) 66), (66, tr_ald 0 67), (67, tr_cV J_K_size 5 0 70), (70, tr_mn 73), (73, tr_ild 2 74), (74, tr_cst (.int (2)) 75), (75, tr_ild 1 76), (76, tr_ii (fun x y => x * y) 77), (77, tr_ii (fun x y => x + y) 78), (78, tr_ald 0 79), (79, tr_cV J_K_size 5 0 82)]
set_option maxRecDepth 100000 in
theorem ok_K_putInOrder_2 : ∀ pc, g_S (J_K_putInOrder) pc (cd_K_putInOrder_2 pc) := g_tab_ok <|
  List.forall_mem_cons.mpr ⟨so_icmp_ge d_K_putInOrder_58 (by decide) rfl,
  List.forall_mem_cons.mpr ⟨so_aload_n d_K_putInOrder_61 rfl rfl,
  List.forall_mem_cons.mpr ⟨so_iload_n d_K_putInOrder_62 rfl rfl,
  List.forall_mem_cons.mpr ⟨so_iload_n d_K_putInOrder_63 rfl rfl,
  List.forall_mem_cons.mpr ⟨so_iload_n d_K_putInOrder_64 rfl rfl,
  List.forall_mem_cons.mpr ⟨so_iadd d_K_putInOrder_65 rfl,
  List.forall_mem_cons.mpr ⟨so_aload_n d_K_putInOrder_66 rfl rfl,
  List.forall_mem_cons.mpr ⟨so_cV g_good d_K_putInOrder_67 ⟨w_2_53, (Nat.le_of_ble_eq_true rfl), (Nat.le_of_ble_eq_true rfl), w_1_11, ⟨by decide, by decide⟩, by decide +kernel⟩ (rfl : vwCl[5]? = some (R_K, F_K, 9)) w_4_80 w_2_51 w_2_52 rfl,
  List.forall_mem_cons.mpr ⟨so_mn d_K_putInOrder_70 w_4_81 w_4_82 w_1_3 w_4_83 ⟨(Nat.le_of_ble_eq_true rfl), (Nat.le_of_ble_eq_true rfl)⟩ rfl,
  List.forall_mem_cons.mpr ⟨so_iload_n d_K_putInOrder_73 rfl rfl,
  List.forall_mem_cons.mpr ⟨so_iconst (by decide) d_K_putInOrder_74 rfl,
  List.forall_mem_cons.mpr ⟨so_iload_n d_K_putInOrder_75 rfl rfl,
  List.forall_mem_cons.mpr ⟨so_imul d_K_putInOrder_76 rfl,
  List.forall_mem_cons.mpr ⟨so_iadd d_K_putInOrder_77 rfl,
  List.forall_mem_cons.mpr ⟨so_aload_n d_K_putInOrder_78 rfl rfl,
  List.forall_mem_cons.mpr ⟨so_cV g_good d_K_putInOrder_79 ⟨w_2_53, (Nat.le_of_ble_eq_true rfl), (Nat.le_of_ble_eq_true rfl), w_1_11, ⟨by decide, by decide⟩, by decide +kernel⟩ (rfl : vwCl[5]? = some (R_K, F_K, 9)) w_4_80 w_2_51 w_2_52 rfl,
  fun _ h => absurd h List.not_mem_nil⟩⟩⟩⟩⟩⟩⟩⟩⟩⟩⟩⟩⟩⟩⟩⟩
def cd_K_putInOrder_3 : Nat → g_T := g_tab [(82, tr_mn 85), (85, tr_cV J_K_joinRuns 5 3 88), (88, tr_ild 2 89), (89, tr_cst (.int (2)) 90), (90, tr_ild 1 91), (91, tr_ii (fun x y => x * y) 92), (92, tr_ii (fun x y => x + y) 93), (93, tr_ist 2 94), (94, tr_goto 53), (97, tr_ald 0 98), (98, tr_get 5 7 101), (101, tr_ast 2 102), (102, tr_ald 0 103), (103, tr_ald 0 104), (104, tr_get 5 6 107), (107, tr_put 5 7 (.object "TracePacks$Ints") 110)]
set_option maxRecDepth 100000 in
theorem ok_K_putInOrder_3 : ∀ pc, g_S (J_K_putInOrder) pc (cd_K_putInOrder_3 pc) := g_tab_ok <|
  List.forall_mem_cons.mpr ⟨so_mn d_K_putInOrder_82 w_4_81 w_4_82 w_1_3 w_4_83 ⟨(Nat.le_of_ble_eq_true rfl), (Nat.le_of_ble_eq_true rfl)⟩ rfl,
  List.forall_mem_cons.mpr ⟨so_cV g_good d_K_putInOrder_85 ⟨w_4_87, (Nat.le_of_ble_eq_true rfl), (Nat.le_of_ble_eq_true rfl), w_1_11, ⟨by decide, by decide⟩, by decide +kernel⟩ (rfl : vwCl[5]? = some (R_K, F_K, 9)) w_4_84 w_4_86 w_p25 rfl,
  List.forall_mem_cons.mpr ⟨so_iload_n d_K_putInOrder_88 rfl rfl,
  List.forall_mem_cons.mpr ⟨so_iconst (by decide) d_K_putInOrder_89 rfl,
  List.forall_mem_cons.mpr ⟨so_iload_n d_K_putInOrder_90 rfl rfl,
  List.forall_mem_cons.mpr ⟨so_imul d_K_putInOrder_91 rfl,
  List.forall_mem_cons.mpr ⟨so_iadd d_K_putInOrder_92 rfl,
  List.forall_mem_cons.mpr ⟨so_istore_n d_K_putInOrder_93 rfl (Nat.le_of_ble_eq_true rfl) rfl,
  List.forall_mem_cons.mpr ⟨so_goto d_K_putInOrder_94 (by decide),
  List.forall_mem_cons.mpr ⟨so_aload_n d_K_putInOrder_97 rfl rfl,
  List.forall_mem_cons.mpr ⟨so_get d_K_putInOrder_98 (rfl : vwCl[5]? = some (R_K, F_K, 9)) (Nat.le_of_ble_eq_true rfl) i_K w_1_193 rfl,
  List.forall_mem_cons.mpr ⟨so_astore_n d_K_putInOrder_101 rfl (Nat.le_of_ble_eq_true rfl) rfl,
  List.forall_mem_cons.mpr ⟨so_aload_n d_K_putInOrder_102 rfl rfl,
  List.forall_mem_cons.mpr ⟨so_aload_n d_K_putInOrder_103 rfl rfl,
  List.forall_mem_cons.mpr ⟨so_get d_K_putInOrder_104 (rfl : vwCl[5]? = some (R_K, F_K, 9)) (Nat.le_of_ble_eq_true rfl) i_K w_1_192 rfl,
  List.forall_mem_cons.mpr ⟨so_put ft_K d_K_putInOrder_107 (rfl : vwCl[5]? = some (R_K, F_K, 9)) (Nat.le_of_ble_eq_true rfl) i_K w_1_193 tk_K n_K rfl rfl rfl,
  fun _ h => absurd h List.not_mem_nil⟩⟩⟩⟩⟩⟩⟩⟩⟩⟩⟩⟩⟩⟩⟩⟩
def cd_K_putInOrder_4 : Nat → g_T := g_tab [(110, tr_ald 0 111), (111, tr_ald 2 112), (112, tr_put 5 6 (.object "TracePacks$Ints") 115), (115, tr_ild 1 116), (116, tr_cst (.int (2)) 117), (117, tr_ii (fun x y => x * y) 118), (118, tr_ist 1 119), (119, tr_goto 35), (122, tr_rv)]
set_option maxRecDepth 100000 in
theorem ok_K_putInOrder_4 : ∀ pc, g_S (J_K_putInOrder) pc (cd_K_putInOrder_4 pc) := g_tab_ok <|
  List.forall_mem_cons.mpr ⟨so_aload_n d_K_putInOrder_110 rfl rfl,
  List.forall_mem_cons.mpr ⟨so_aload_n d_K_putInOrder_111 rfl rfl,
  List.forall_mem_cons.mpr ⟨so_put ft_K d_K_putInOrder_112 (rfl : vwCl[5]? = some (R_K, F_K, 9)) (Nat.le_of_ble_eq_true rfl) i_K w_1_192 tk_K n_K rfl rfl rfl,
  List.forall_mem_cons.mpr ⟨so_iload_n d_K_putInOrder_115 rfl rfl,
  List.forall_mem_cons.mpr ⟨so_iconst (by decide) d_K_putInOrder_116 rfl,
  List.forall_mem_cons.mpr ⟨so_imul d_K_putInOrder_117 rfl,
  List.forall_mem_cons.mpr ⟨so_istore_n d_K_putInOrder_118 rfl (Nat.le_of_ble_eq_true rfl) rfl,
  List.forall_mem_cons.mpr ⟨so_goto d_K_putInOrder_119 (by decide),
  List.forall_mem_cons.mpr ⟨so_vret d_K_putInOrder_122 rfl,
  fun _ h => absurd h List.not_mem_nil⟩⟩⟩⟩⟩⟩⟩⟩⟩
def cd_K_putInOrder : Nat → g_T := g_chk [(27, cd_K_putInOrder_0), (55, cd_K_putInOrder_1), (79, cd_K_putInOrder_2), (107, cd_K_putInOrder_3), (122, cd_K_putInOrder_4)]
theorem ok_K_putInOrder : ∀ pc, g_S (J_K_putInOrder) pc (cd_K_putInOrder pc) := g_chk_ok <|
  List.forall_mem_cons.mpr ⟨ok_K_putInOrder_0,
  List.forall_mem_cons.mpr ⟨ok_K_putInOrder_1,
  List.forall_mem_cons.mpr ⟨ok_K_putInOrder_2,
  List.forall_mem_cons.mpr ⟨ok_K_putInOrder_3,
  List.forall_mem_cons.mpr ⟨ok_K_putInOrder_4,
  fun _ h => absurd h List.not_mem_nil⟩⟩⟩⟩⟩
abbrev J_K_byTime : g_J := (y_K_byTime, prog_4_method_7_code, 2, (some .int), (4, 92), [], none)
theorem d_K_byTime_0 : decode prog_4_method_7_code 0 = .ok (.aload_n 0, 1) := by decide +kernel
theorem d_K_byTime_1 : decode prog_4_method_7_code 1 = .ok (.getfield 44, 3) := by decide +kernel
theorem d_K_byTime_4 : decode prog_4_method_7_code 4 = .ok (.ifCond .ne 12, 3) := by decide +kernel
theorem d_K_byTime_7 : decode prog_4_method_7_code 7 = .ok (.aload_n 0, 1) := by decide +kernel
theorem d_K_byTime_8 : decode prog_4_method_7_code 8 = .ok (.invokevirtual 77, 3) := by decide +kernel
theorem d_K_byTime_11 : decode prog_4_method_7_code 11 = .ok (.aload_n 0, 1) := by decide +kernel
theorem d_K_byTime_12 : decode prog_4_method_7_code 12 = .ok (.iconst 1, 1) := by decide +kernel
theorem d_K_byTime_13 : decode prog_4_method_7_code 13 = .ok (.putfield 44, 3) := by decide +kernel
theorem d_K_byTime_16 : decode prog_4_method_7_code 16 = .ok (.aload_n 0, 1) := by decide +kernel
theorem d_K_byTime_17 : decode prog_4_method_7_code 17 = .ok (.getfield 35, 3) := by decide +kernel
theorem d_K_byTime_20 : decode prog_4_method_7_code 20 = .ok (.iload_n 1, 1) := by decide +kernel
theorem d_K_byTime_21 : decode prog_4_method_7_code 21 = .ok (.invokevirtual 74, 3) := by decide +kernel
theorem d_K_byTime_24 : decode prog_4_method_7_code 24 = .ok (.ireturn, 1) := by decide +kernel
def cd_K_byTime_0 : Nat → g_T := g_tab [(0, tr_ald 0 1), (1, tr_get 5 8 4), (4, tr_if1 (fun x => ¬ x = 0) 16 7), (7, tr_ald 0 8), (8, tr_cV J_K_putInOrder 5 0 11), (11, tr_ald 0 12), (12, tr_cst (.int (1)) 13), (13, tr_put 5 8 (.boolean) 16), (16, tr_ald 0 17), (17, tr_get 5 6 20), (20, tr_ild 1 21), (21, tr_cV J_I_at 0 1 24), (24, tr_ri)]
set_option maxRecDepth 100000 in
theorem ok_K_byTime_0 : ∀ pc, g_S (J_K_byTime) pc (cd_K_byTime_0 pc) := g_tab_ok <|
  List.forall_mem_cons.mpr ⟨so_aload_n d_K_byTime_0 rfl rfl,
  List.forall_mem_cons.mpr ⟨so_get d_K_byTime_1 (rfl : vwCl[5]? = some (R_K, F_K, 9)) (Nat.le_of_ble_eq_true rfl) i_K w_1_194 rfl,
  List.forall_mem_cons.mpr ⟨so_if_ne d_K_byTime_4 (by decide) rfl,
  List.forall_mem_cons.mpr ⟨so_aload_n d_K_byTime_7 rfl rfl,
  List.forall_mem_cons.mpr ⟨so_cV g_good d_K_byTime_8 ⟨w_4_79, (Nat.le_of_ble_eq_true rfl), (Nat.le_of_ble_eq_true rfl), w_1_11, ⟨by decide, by decide⟩, by decide +kernel⟩ (rfl : vwCl[5]? = some (R_K, F_K, 9)) w_4_76 w_4_78 w_p24 rfl,
  List.forall_mem_cons.mpr ⟨so_aload_n d_K_byTime_11 rfl rfl,
  List.forall_mem_cons.mpr ⟨so_iconst (by decide) d_K_byTime_12 rfl,
  List.forall_mem_cons.mpr ⟨so_put ft_K d_K_byTime_13 (rfl : vwCl[5]? = some (R_K, F_K, 9)) (Nat.le_of_ble_eq_true rfl) i_K w_1_194 tk_K n_K rfl rfl rfl,
  List.forall_mem_cons.mpr ⟨so_aload_n d_K_byTime_16 rfl rfl,
  List.forall_mem_cons.mpr ⟨so_get d_K_byTime_17 (rfl : vwCl[5]? = some (R_K, F_K, 9)) (Nat.le_of_ble_eq_true rfl) i_K w_1_192 rfl,
  List.forall_mem_cons.mpr ⟨so_iload_n d_K_byTime_20 rfl rfl,
  List.forall_mem_cons.mpr ⟨so_cV g_good d_K_byTime_21 ⟨w_2_151, (Nat.le_of_ble_eq_true rfl), (Nat.le_of_ble_eq_true rfl), w_1_2, ⟨by decide, by decide⟩, by decide +kernel⟩ (rfl : vwCl[0]? = some (R_I, F_I, 2)) w_4_64 w_2_149 w_2_150 rfl,
  List.forall_mem_cons.mpr ⟨so_iret d_K_byTime_24 rfl,
  fun _ h => absurd h List.not_mem_nil⟩⟩⟩⟩⟩⟩⟩⟩⟩⟩⟩⟩⟩
def cd_K_byTime : Nat → g_T := g_chk [(24, cd_K_byTime_0)]
theorem ok_K_byTime : ∀ pc, g_S (J_K_byTime) pc (cd_K_byTime pc) := g_chk_ok <|
  List.forall_mem_cons.mpr ⟨ok_K_byTime_0,
  fun _ h => absurd h List.not_mem_nil⟩
