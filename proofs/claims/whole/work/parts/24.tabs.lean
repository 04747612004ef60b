/-! tables, by program (wip/whole/gen/mkt.py Z) -/
abbrev J_Z_init : g_J := (y_Z_init, prog_12_method_1_code, 1, none, (1, 24), [], none)
theorem d_Z_init_0 : decode prog_12_method_1_code 0 = .ok (.aload_n 0, 1) := by decide +kernel
theorem d_Z_init_1 : decode prog_12_method_1_code 1 = .ok (.invokespecial 1, 3) := by decide +kernel
theorem d_Z_init_4 : decode prog_12_method_1_code 4 = .ok (.aload_n 0, 1) := by decide +kernel
theorem d_Z_init_5 : decode prog_12_method_1_code 5 = .ok (.sipush 16384, 3) := by decide +kernel
theorem d_Z_init_8 : decode prog_12_method_1_code 8 = .ok (.newarray .byte, 2) := by decide +kernel
theorem d_Z_init_10 : decode prog_12_method_1_code 10 = .ok (.putfield 7, 3) := by decide +kernel
theorem d_Z_init_13 : decode prog_12_method_1_code 13 = .ok (.aload_n 0, 1) := by decide +kernel
theorem d_Z_init_14 : decode prog_12_method_1_code 14 = .ok (.iconst 4, 1) := by decide +kernel
theorem d_Z_init_15 : decode prog_12_method_1_code 15 = .ok (.newarray .int, 2) := by decide +kernel
theorem d_Z_init_17 : decode prog_12_method_1_code 17 = .ok (.putfield 13, 3) := by decide +kernel
theorem d_Z_init_20 : decode prog_12_method_1_code 20 = .ok (.aload_n 0, 1) := by decide +kernel
theorem d_Z_init_21 : decode prog_12_method_1_code 21 = .ok (.bipush 100, 2) := by decide +kernel
theorem d_Z_init_23 : decode prog_12_method_1_code 23 = .ok (.newarray .int, 2) := by decide +kernel
theorem d_Z_init_25 : decode prog_12_method_1_code 25 = .ok (.putfield 17, 3) := by decide +kernel
theorem d_Z_init_28 : decode prog_12_method_1_code 28 = .ok (.aload_n 0, 1) := by decide +kernel
theorem d_Z_init_29 : decode prog_12_method_1_code 29 = .ok (.bipush 100, 2) := by decide +kernel
theorem d_Z_init_31 : decode prog_12_method_1_code 31 = .ok (.newarray .int, 2) := by decide +kernel
theorem d_Z_init_33 : decode prog_12_method_1_code 33 = .ok (.putfield 20, 3) := by decide +kernel
theorem d_Z_init_36 : decode prog_12_method_1_code 36 = .ok (.aload_n 0, 1) := by decide +kernel
theorem d_Z_init_37 : decode prog_12_method_1_code 37 = .ok (.bipush 100, 2) := by decide +kernel
theorem d_Z_init_39 : decode prog_12_method_1_code 39 = .ok (.newarray .int, 2) := by decide +kernel
theorem d_Z_init_41 : decode prog_12_method_1_code 41 = .ok (.putfield 23, 3) := by decide +kernel
theorem d_Z_init_44 : decode prog_12_method_1_code 44 = .ok (.aload_n 0, 1) := by decide +kernel
theorem d_Z_init_45 : decode prog_12_method_1_code 45 = .ok (.bipush 31, 2) := by decide +kernel
theorem d_Z_init_47 : decode prog_12_method_1_code 47 = .ok (.putfield 26, 3) := by decide +kernel
theorem d_Z_init_50 : decode prog_12_method_1_code 50 = .ok (.aload_n 0, 1) := by decide +kernel
theorem d_Z_init_51 : decode prog_12_method_1_code 51 = .ok (.bipush 15, 2) := by decide +kernel
theorem d_Z_init_53 : decode prog_12_method_1_code 53 = .ok (.putfield 30, 3) := by decide +kernel
theorem d_Z_init_56 : decode prog_12_method_1_code 56 = .ok (.aload_n 0, 1) := by decide +kernel
theorem d_Z_init_57 : decode prog_12_method_1_code 57 = .ok (.sipush 16400, 3) := by decide +kernel
theorem d_Z_init_60 : decode prog_12_method_1_code 60 = .ok (.newarray .int, 2) := by decide +kernel
theorem d_Z_init_62 : decode prog_12_method_1_code 62 = .ok (.putfield 33, 3) := by decide +kernel
theorem d_Z_init_65 : decode prog_12_method_1_code 65 = .ok (.aload_n 0, 1) := by decide +kernel
theorem d_Z_init_66 : decode prog_12_method_1_code 66 = .ok (.bipush 9, 2) := by decide +kernel
theorem d_Z_init_68 : decode prog_12_method_1_code 68 = .ok (.newarray .int, 2) := by decide +kernel
theorem d_Z_init_70 : decode prog_12_method_1_code 70 = .ok (.putfield 36, 3) := by decide +kernel
theorem d_Z_init_73 : decode prog_12_method_1_code 73 = .ok (.aload_n 0, 1) := by decide +kernel
theorem d_Z_init_74 : decode prog_12_method_1_code 74 = .ok (.sipush 2000, 3) := by decide +kernel
theorem d_Z_init_77 : decode prog_12_method_1_code 77 = .ok (.newarray .int, 2) := by decide +kernel
theorem d_Z_init_79 : decode prog_12_method_1_code 79 = .ok (.putfield 39, 3) := by decide +kernel
theorem d_Z_init_82 : decode prog_12_method_1_code 82 = .ok (.aload_n 0, 1) := by decide +kernel
theorem d_Z_init_83 : decode prog_12_method_1_code 83 = .ok (.sipush 2000, 3) := by decide +kernel
theorem d_Z_init_86 : decode prog_12_method_1_code 86 = .ok (.newarray .int, 2) := by decide +kernel
theorem d_Z_init_88 : decode prog_12_method_1_code 88 = .ok (.putfield 42, 3) := by decide +kernel
theorem d_Z_init_91 : decode prog_12_method_1_code 91 = .ok (.aload_n 0, 1) := by decide +kernel
theorem d_Z_init_92 : decode prog_12_method_1_code 92 = .ok (.sipush 2000, 3) := by decide +kernel
theorem d_Z_init_95 : decode prog_12_method_1_code 95 = .ok (.newarray .int, 2) := by decide +kernel
theorem d_Z_init_97 : decode prog_12_method_1_code 97 = .ok (.putfield 45, 3) := by decide +kernel
theorem d_Z_init_100 : decode prog_12_method_1_code 100 = .ok (.aload_n 0, 1) := by decide +kernel
theorem d_Z_init_101 : decode prog_12_method_1_code 101 = .ok (.sipush 2000, 3) := by decide +kernel
theorem d_Z_init_104 : decode prog_12_method_1_code 104 = .ok (.newarray .int, 2) := by decide +kernel
theorem d_Z_init_106 : decode prog_12_method_1_code 106 = .ok (.putfield 48, 3) := by decide +kernel
theorem d_Z_init_109 : decode prog_12_method_1_code 109 = .ok (.aload_n 0, 1) := by decide +kernel
theorem d_Z_init_110 : decode prog_12_method_1_code 110 = .ok (.sipush 2000, 3) := by decide +kernel
theorem d_Z_init_113 : decode prog_12_method_1_code 113 = .ok (.newarray .int, 2) := by decide +kernel
theorem d_Z_init_115 : decode prog_12_method_1_code 115 = .ok (.putfield 51, 3) := by decide +kernel
theorem d_Z_init_118 : decode prog_12_method_1_code 118 = .ok (.aload_n 0, 1) := by decide +kernel
theorem d_Z_init_119 : decode prog_12_method_1_code 119 = .ok (.sipush 2000, 3) := by decide +kernel
theorem d_Z_init_122 : decode prog_12_method_1_code 122 = .ok (.newarray .int, 2) := by decide +kernel
theorem d_Z_init_124 : decode prog_12_method_1_code 124 = .ok (.putfield 54, 3) := by decide +kernel
theorem d_Z_init_127 : decode prog_12_method_1_code 127 = .ok (.aload_n 0, 1) := by decide +kernel
theorem d_Z_init_128 : decode prog_12_method_1_code 128 = .ok (.bipush 110, 2) := by decide +kernel
theorem d_Z_init_130 : decode prog_12_method_1_code 130 = .ok (.newarray .int, 2) := by decide +kernel
theorem d_Z_init_132 : decode prog_12_method_1_code 132 = .ok (.putfield 57, 3) := by decide +kernel
theorem d_Z_init_135 : decode prog_12_method_1_code 135 = .ok (.aload_n 0, 1) := by decide +kernel
theorem d_Z_init_136 : decode prog_12_method_1_code 136 = .ok (.bipush 110, 2) := by decide +kernel
theorem d_Z_init_138 : decode prog_12_method_1_code 138 = .ok (.newarray .int, 2) := by decide +kernel
theorem d_Z_init_140 : decode prog_12_method_1_code 140 = .ok (.putfield 60, 3) := by decide +kernel
theorem d_Z_init_143 : decode prog_12_method_1_code 143 = .ok (.aload_n 0, 1) := by decide +kernel
theorem d_Z_init_144 : decode prog_12_method_1_code 144 = .ok (.bipush 110, 2) := by decide +kernel
theorem d_Z_init_146 : decode prog_12_method_1_code 146 = .ok (.newarray .int, 2) := by decide +kernel
theorem d_Z_init_148 : decode prog_12_method_1_code 148 = .ok (.putfield 63, 3) := by decide +kernel
theorem d_Z_init_151 : decode prog_12_method_1_code 151 = .ok (.aload_n 0, 1) := by decide +kernel
theorem d_Z_init_152 : decode prog_12_method_1_code 152 = .ok (.bipush 110, 2) := by decide +kernel
theorem d_Z_init_154 : decode prog_12_method_1_code 154 = .ok (.newarray .int, 2) := by decide +kernel
theorem d_Z_init_156 : decode prog_12_method_1_code 156 = .ok (.putfield 66, 3) := by decide +kernel
theorem d_Z_init_159 : decode prog_12_method_1_code 159 = .ok (.return_, 1) := by decide +kernel
def cd_Z_init_0 : Nat → g_T := g_tab [(0, tr_ald 0 1), (1, tr_oi 4), (4, tr_ald 0 5), (5, tr_cst (.int (16384)) 8), (8, tr_nab 10), (10, tr_put 10 2 (.array .byte) 13), (13, tr_ald 0 14), (14, tr_cst (.int (4)) 15), (15, tr_nai 17), (17, tr_put 10 4 (.array .int) 20), (20, tr_ald 0 21), (21, tr_cst (.int (100)) 23), (23, tr_nai 25), (25, tr_put 10 8 (.array .int) 28), (28, tr_ald 0 29), (29, tr_cst (.int (100)) 31)]
set_option maxRecDepth 100000 in
theorem ok_Z_init_0 : ∀ pc, g_S (J_Z_init) pc (cd_Z_init_0 pc) := g_tab_ok <|
  List.forall_mem_cons.mpr ⟨so_aload_n d_Z_init_0 rfl rfl,
  List.forall_mem_cons.mpr ⟨so_oi d_Z_init_1 w_4_97 w_1_25 w_1_26 ⟨(Nat.le_of_ble_eq_true rfl), (Nat.le_of_ble_eq_true rfl)⟩ rfl,
  List.forall_mem_cons.mpr ⟨so_aload_n d_Z_init_4 rfl rfl,
  List.forall_mem_cons.mpr ⟨so_sipush (by decide) d_Z_init_5 rfl,
  List.forall_mem_cons.mpr ⟨so_newab d_Z_init_8 w_2_134 rfl,
  List.forall_mem_cons.mpr ⟨so_putF ft_Z d_Z_init_10 (rfl : vwCl[10]? = some (R_Z, F_Z, 40)) (Nat.le_of_ble_eq_true rfl) i_Z w_4_100 tk_Z n_Z rfl rfl rfl rfl rfl,
  List.forall_mem_cons.mpr ⟨so_aload_n d_Z_init_13 rfl rfl,
  List.forall_mem_cons.mpr ⟨so_iconst (by decide) d_Z_init_14 rfl,
  List.forall_mem_cons.mpr ⟨so_newai d_Z_init_15 w_1_43 rfl,
  List.forall_mem_cons.mpr ⟨so_putF ft_Z d_Z_init_17 (rfl : vwCl[10]? = some (R_Z, F_Z, 40)) (Nat.le_of_ble_eq_true rfl) i_Z w_4_102 tk_Z n_Z rfl rfl rfl rfl rfl,
  List.forall_mem_cons.mpr ⟨so_aload_n d_Z_init_20 rfl rfl,
  List.forall_mem_cons.mpr ⟨so_bipush (by decide) d_Z_init_21 rfl,
  List.forall_mem_cons.mpr ⟨so_newai d_Z_init_23 w_1_43 rfl,
  List.forall_mem_cons.mpr ⟨so_putF ft_Z d_Z_init_25 (rfl : vwCl[10]? = some (R_Z, F_Z, 40)) (Nat.le_of_ble_eq_true rfl) i_Z w_4_106 tk_Z n_Z rfl rfl rfl rfl rfl,
  List.forall_mem_cons.mpr ⟨so_aload_n d_Z_init_28 rfl rfl,
  List.forall_mem_cons.mpr ⟨so_bipush (by decide) d_Z_init_29 rfl,
  fun _ h => absurd h List.not_mem_nil⟩⟩⟩⟩⟩⟩⟩⟩⟩⟩⟩⟩⟩⟩⟩⟩
def cd_Z_init_1 : Nat → g_T := g_tab [(31, tr_nai 33), (33, tr_put 10 9 (.array .int) 36), (36, tr_ald 0 37), (37, tr_cst (.int (100)) 39), (39, tr_nai 41), (41, tr_put 10 10 (.array .int) 44), (44, tr_ald 0 45), (45, tr_cst (.int (31)) 47), (47, tr_put 10 13 (.int) 50), (50, tr_ald 0 51), (51, tr_cst (.int (15)) 53), (53, tr_put 10 14 (.int) 56), (56, tr_ald 0 57), (57, tr_cst (.int (16400)) 60), (60, tr_nai 62), (62, tr_put 10 16 (.array .int) 65)]
set_option maxRecDepth 100000 in
theorem ok_Z_init_1 : ∀ pc, g_S (J_Z_init) pc (cd_Z_init_1 pc) := g_tab_ok <|
  List.forall_mem_cons.mpr ⟨so_newai d_Z_init_31 w_1_43 rfl,
  List.forall_mem_cons.mpr ⟨so_putF ft_Z d_Z_init_33 (rfl : vwCl[10]? = some (R_Z, F_Z, 40)) (Nat.le_of_ble_eq_true rfl) i_Z w_4_107 tk_Z n_Z rfl rfl rfl rfl rfl,
  List.forall_mem_cons.mpr ⟨so_aload_n d_Z_init_36 rfl rfl,
  List.forall_mem_cons.mpr ⟨so_bipush (by decide) d_Z_init_37 rfl,
  List.forall_mem_cons.mpr ⟨so_newai d_Z_init_39 w_1_43 rfl,
  List.forall_mem_cons.mpr ⟨so_putF ft_Z d_Z_init_41 (rfl : vwCl[10]? = some (R_Z, F_Z, 40)) (Nat.le_of_ble_eq_true rfl) i_Z w_4_108 tk_Z n_Z rfl rfl rfl rfl rfl,
  List.forall_mem_cons.mpr ⟨so_aload_n d_Z_init_44 rfl rfl,
  List.forall_mem_cons.mpr ⟨so_bipush (by decide) d_Z_init_45 rfl,
  List.forall_mem_cons.mpr ⟨so_put ft_Z d_Z_init_47 (rfl : vwCl[10]? = some (R_Z, F_Z, 40)) (Nat.le_of_ble_eq_true rfl) i_Z w_4_111 tk_Z n_Z rfl rfl rfl,
  List.forall_mem_cons.mpr ⟨so_aload_n d_Z_init_50 rfl rfl,
  List.forall_mem_cons.mpr ⟨so_bipush (by decide) d_Z_init_51 rfl,
  List.forall_mem_cons.mpr ⟨so_put ft_Z d_Z_init_53 (rfl : vwCl[10]? = some (R_Z, F_Z, 40)) (Nat.le_of_ble_eq_true rfl) i_Z w_4_112 tk_Z n_Z rfl rfl rfl,
  List.forall_mem_cons.mpr ⟨so_aload_n d_Z_init_56 rfl rfl,
  List.forall_mem_cons.mpr ⟨so_sipush (by decide) d_Z_init_57 rfl,
  List.forall_mem_cons.mpr ⟨so_newai d_Z_init_60 w_1_43 rfl,
  List.forall_mem_cons.mpr ⟨so_putF ft_Z d_Z_init_62 (rfl : vwCl[10]? = some (R_Z, F_Z, 40)) (Nat.le_of_ble_eq_true rfl) i_Z w_4_114 tk_Z n_Z rfl rfl rfl rfl rfl,
  fun _ h => absurd h List.not_mem_nil⟩⟩⟩⟩⟩⟩⟩⟩⟩⟩⟩⟩⟩⟩⟩⟩
def cd_Z_init_2 : Nat → g_T := g_tab [(65, tr_ald 0 66), (66, tr_cst (.int (9)) 68), (68, tr_nai 70), (70, tr_put 10 20 (.array .int) 73), (73, tr_ald 0 74), (74, tr_cst (.int (2000)) 77), (77, tr_nai 79), (79, tr_put 10 26 (.array .int) 82), (82, tr_ald 0 83), (83, tr_cst (.int (2000)) 86), (86, tr_nai 88), (88, tr_put 10 27 (.array .int) 91), (91, tr_ald 0 92), (92, tr_cst (.int (2000)) 95), (95, tr_nai 97), (97, tr_put 10 28 (.array .int) 100)]
set_option maxRecDepth 100000 in
theorem ok_Z_init_2 : ∀ pc, g_S (J_Z_init) pc (cd_Z_init_2 pc) := g_tab_ok <|
  List.forall_mem_cons.mpr ⟨so_aload_n d_Z_init_65 rfl rfl,
  List.forall_mem_cons.mpr ⟨so_bipush (by decide) d_Z_init_66 rfl,
  List.forall_mem_cons.mpr ⟨so_newai d_Z_init_68 w_1_43 rfl,
  List.forall_mem_cons.mpr ⟨so_putF ft_Z d_Z_init_70 (rfl : vwCl[10]? = some (R_Z, F_Z, 40)) (Nat.le_of_ble_eq_true rfl) i_Z w_4_118 tk_Z n_Z rfl rfl rfl rfl rfl,
  List.forall_mem_cons.mpr ⟨so_aload_n d_Z_init_73 rfl rfl,
  List.forall_mem_cons.mpr ⟨so_sipush (by decide) d_Z_init_74 rfl,
  List.forall_mem_cons.mpr ⟨so_newai d_Z_init_77 w_1_43 rfl,
  List.forall_mem_cons.mpr ⟨so_putF ft_Z d_Z_init_79 (rfl : vwCl[10]? = some (R_Z, F_Z, 40)) (Nat.le_of_ble_eq_true rfl) i_Z w_4_124 tk_Z n_Z rfl rfl rfl rfl rfl,
  List.forall_mem_cons.mpr ⟨so_aload_n d_Z_init_82 rfl rfl,
  List.forall_mem_cons.mpr ⟨so_sipush (by decide) d_Z_init_83 rfl,
  List.forall_mem_cons.mpr ⟨so_newai d_Z_init_86 w_1_43 rfl,
  List.forall_mem_cons.mpr ⟨so_putF ft_Z d_Z_init_88 (rfl : vwCl[10]? = some (R_Z, F_Z, 40)) (Nat.le_of_ble_eq_true rfl) i_Z w_4_125 tk_Z n_Z rfl rfl rfl rfl rfl,
  List.forall_mem_cons.mpr ⟨so_aload_n d_Z_init_91 rfl rfl,
  List.forall_mem_cons.mpr ⟨so_sipush (by decide) d_Z_init_92 rfl,
  List.forall_mem_cons.mpr ⟨so_newai d_Z_init_95 w_1_43 rfl,
  List.forall_mem_cons.mpr ⟨so_putF ft_Z d_Z_init_97 (rfl : vwCl[10]? = some (R_Z, F_Z, 40)) (Nat.le_of_ble_eq_true rfl) i_Z w_4_126 tk_Z n_Z rfl rfl rfl rfl rfl,
  fun _ h => absurd h List.not_mem_nil⟩⟩⟩⟩⟩⟩⟩⟩⟩⟩⟩⟩⟩⟩⟩⟩
def cd_Z_init_3 : Nat → g_T := g_tab [(100, tr_ald 0 101), (101, tr_cst (.int (2000)) 104), (104, tr_nai 106), (106, tr_put 10 29 (.array .int) 109), (109, tr_ald 0 110), (110, tr_cst (.int (2000)) 113), (113, tr_nai 115), (115, tr_put 10 30 (.array .int) 118), (118, tr_ald 0 119), (119, tr_cst (.int (2000)) 122), (122, tr_nai 124), (124, tr_put 10 31 (.array .int) 127), (127, tr_ald 0 128), (128, tr_cst (.int (110)) 130), (130, tr_nai 132), (132, tr_put 10 32 (.array .int) 135)]
set_option maxRecDepth 100000 in
theorem ok_Z_init_3 : ∀ pc, g_S (J_Z_init) pc (cd_Z_init_3 pc) := g_tab_ok <|
  List.forall_mem_cons.mpr ⟨so_aload_n d_Z_init_100 rfl rfl,
  List.forall_mem_cons.mpr ⟨so_sipush (by decide) d_Z_init_101 rfl,
  List.forall_mem_cons.mpr ⟨so_newai d_Z_init_104 w_1_43 rfl,
  List.forall_mem_cons.mpr ⟨so_putF ft_Z d_Z_init_106 (rfl : vwCl[10]? = some (R_Z, F_Z, 40)) (Nat.le_of_ble_eq_true rfl) i_Z w_4_127 tk_Z n_Z rfl rfl rfl rfl rfl,
  List.forall_mem_cons.mpr ⟨so_aload_n d_Z_init_109 rfl rfl,
  List.forall_mem_cons.mpr ⟨so_sipush (by decide) d_Z_init_110 rfl,
  List.forall_mem_cons.mpr ⟨so_newai d_Z_init_113 w_1_43 rfl,
  List.forall_mem_cons.mpr ⟨so_putF ft_Z d_Z_init_115 (rfl : vwCl[10]? = some (R_Z, F_Z, 40)) (Nat.le_of_ble_eq_true rfl) i_Z w_4_128 tk_Z n_Z rfl rfl rfl rfl rfl,
  List.forall_mem_cons.mpr ⟨so_aload_n d_Z_init_118 rfl rfl,
  List.forall_mem_cons.mpr ⟨so_sipush (by decide) d_Z_init_119 rfl,
  List.forall_mem_cons.mpr ⟨so_newai d_Z_init_122 w_1_43 rfl,
  List.forall_mem_cons.mpr ⟨so_putF ft_Z d_Z_init_124 (rfl : vwCl[10]? = some (R_Z, F_Z, 40)) (Nat.le_of_ble_eq_true rfl) i_Z w_4_129 tk_Z n_Z rfl rfl rfl rfl rfl,
  List.forall_mem_cons.mpr ⟨so_aload_n d_Z_init_127 rfl rfl,
  List.forall_mem_cons.mpr ⟨so_bipush (by decide) d_Z_init_128 rfl,
  List.forall_mem_cons.mpr ⟨so_newai d_Z_init_130 w_1_43 rfl,
  List.forall_mem_cons.mpr ⟨so_putF ft_Z d_Z_init_132 (rfl : vwCl[10]? = some (R_Z, F_Z, 40)) (Nat.le_of_ble_eq_true rfl) i_Z w_4_130 tk_Z n_Z rfl rfl rfl rfl rfl,
  fun _ h => absurd h List.not_mem_nil⟩⟩⟩⟩⟩⟩⟩⟩⟩⟩⟩⟩⟩⟩⟩⟩
def cd_Z_init_4 : Nat → g_T := g_tab [(135, tr_ald 0 136), (136, tr_cst (.int (110)) 138), (138, tr_nai 140), (140, tr_put 10 33 (.array .int) 143), (143, tr_ald 0 144), (144, tr_cst (.int (110)) 146), (146, tr_nai 148), (148, tr_put 10 34 (.array .int) 151), (151, tr_ald 0 152), (152, tr_cst (.int (110)) 154), (154, tr_nai 156), (156, tr_put 10 35 (.array .int) 159), (159, tr_rv)]
set_option maxRecDepth 100000 in
theorem ok_Z_init_4 : ∀ pc, g_S (J_Z_init) pc (cd_Z_init_4 pc) := g_tab_ok <|
  List.forall_mem_cons.mpr ⟨so_aload_n d_Z_init_135 rfl rfl,
  List.forall_mem_cons.mpr ⟨so_bipush (by decide) d_Z_init_136 rfl,
  List.forall_mem_cons.mpr ⟨so_newai d_Z_init_138 w_1_43 rfl,
  List.forall_mem_cons.mpr ⟨so_putF ft_Z d_Z_init_140 (rfl : vwCl[10]? = some (R_Z, F_Z, 40)) (Nat.le_of_ble_eq_true rfl) i_Z w_4_131 tk_Z n_Z rfl rfl rfl rfl rfl,
  List.forall_mem_cons.mpr ⟨so_aload_n d_Z_init_143 rfl rfl,
  List.forall_mem_cons.mpr ⟨so_bipush (by decide) d_Z_init_144 rfl,
  List.forall_mem_cons.mpr ⟨so_newai d_Z_init_146 w_1_43 rfl,
  List.forall_mem_cons.mpr ⟨so_putF ft_Z d_Z_init_148 (rfl : vwCl[10]? = some (R_Z, F_Z, 40)) (Nat.le_of_ble_eq_true rfl) i_Z w_4_132 tk_Z n_Z rfl rfl rfl rfl rfl,
  List.forall_mem_cons.mpr ⟨so_aload_n d_Z_init_151 rfl rfl,
  List.forall_mem_cons.mpr ⟨so_bipush (by decide) d_Z_init_152 rfl,
  List.forall_mem_cons.mpr ⟨so_newai d_Z_init_154 w_1_43 rfl,
  List.forall_mem_cons.mpr ⟨so_putF ft_Z d_Z_init_156 (rfl : vwCl[10]? = some (R_Z, F_Z, 40)) (Nat.le_of_ble_eq_true rfl) i_Z w_4_133 tk_Z n_Z rfl rfl rfl rfl rfl,
  List.forall_mem_cons.mpr ⟨so_vret d_Z_init_159 rfl,
  fun _ h => absurd h List.not_mem_nil⟩⟩⟩⟩⟩⟩⟩⟩⟩⟩⟩⟩⟩
def cd_Z_init : Nat → g_T := g_chk [(29, cd_Z_init_0), (62, cd_Z_init_1), (97, cd_Z_init_2), (132, cd_Z_init_3), (159, cd_Z_init_4)]
theorem ok_Z_init : ∀ pc, g_S (J_Z_init) pc (cd_Z_init pc) := g_chk_ok <|
  List.forall_mem_cons.mpr ⟨ok_Z_init_0,
  List.forall_mem_cons.mpr ⟨ok_Z_init_1,
  List.forall_mem_cons.mpr ⟨ok_Z_init_2,
  List.forall_mem_cons.mpr ⟨ok_Z_init_3,
  List.forall_mem_cons.mpr ⟨ok_Z_init_4,
  fun _ h => absurd h List.not_mem_nil⟩⟩⟩⟩⟩
abbrev J_Z_thrown : g_J := (y_Z_thrown, prog_12_method_2_code, 1, (some .int), (0, 0), [], none)
theorem d_Z_thrown_0 : decode prog_12_method_2_code 0 = .ok (.aload_n 0, 1) := by decide +kernel
theorem d_Z_thrown_1 : decode prog_12_method_2_code 1 = .ok (.getfield 69, 3) := by decide +kernel
theorem d_Z_thrown_4 : decode prog_12_method_2_code 4 = .ok (.ireturn, 1) := by decide +kernel
def cd_Z_thrown_0 : Nat → g_T := g_tab [(0, tr_ald 0 1), (1, tr_get 10 0 4), (4, tr_ri)]
set_option maxRecDepth 100000 in
theorem ok_Z_thrown_0 : ∀ pc, g_S (J_Z_thrown) pc (cd_Z_thrown_0 pc) := g_tab_ok <|
  List.forall_mem_cons.mpr ⟨so_aload_n d_Z_thrown_0 rfl rfl,
  List.forall_mem_cons.mpr ⟨so_get d_Z_thrown_1 (rfl : vwCl[10]? = some (R_Z, F_Z, 40)) (Nat.le_of_ble_eq_true rfl) i_Z w_4_98 rfl,
  List.forall_mem_cons.mpr ⟨so_iret d_Z_thrown_4 rfl,
  fun _ h => absurd h List.not_mem_nil⟩⟩⟩
def cd_Z_thrown : Nat → g_T := g_chk [(4, cd_Z_thrown_0)]
theorem ok_Z_thrown : ∀ pc, g_S (J_Z_thrown) pc (cd_Z_thrown pc) := g_chk_ok <|
  List.forall_mem_cons.mpr ⟨ok_Z_thrown_0,
  fun _ h => absurd h List.not_mem_nil⟩
abbrev J_Z_within : g_J := (y_Z_within, prog_12_method_4_code, 6, (some .boolean), (0, 0), [], none)
theorem d_Z_within_0 : decode prog_12_method_4_code 0 = .ok (.lload_n 0, 1) := by decide +kernel
theorem d_Z_within_1 : decode prog_12_method_4_code 1 = .ok (.lload_n 2, 1) := by decide +kernel
theorem d_Z_within_2 : decode prog_12_method_4_code 2 = .ok (.lcmp, 1) := by decide +kernel
theorem d_Z_within_3 : decode prog_12_method_4_code 3 = .ok (.ifCond .lt 14, 3) := by decide +kernel
theorem d_Z_within_6 : decode prog_12_method_4_code 6 = .ok (.lload_n 0, 1) := by decide +kernel
theorem d_Z_within_7 : decode prog_12_method_4_code 7 = .ok (.lload 4, 2) := by decide +kernel
theorem d_Z_within_9 : decode prog_12_method_4_code 9 = .ok (.lcmp, 1) := by decide +kernel
theorem d_Z_within_10 : decode prog_12_method_4_code 10 = .ok (.ifCond .gt 7, 3) := by decide +kernel
theorem d_Z_within_13 : decode prog_12_method_4_code 13 = .ok (.iconst 1, 1) := by decide +kernel
theorem d_Z_within_14 : decode prog_12_method_4_code 14 = .ok (.goto 4, 3) := by decide +kernel
theorem d_Z_within_17 : decode prog_12_method_4_code 17 = .ok (.iconst 0, 1) := by decide +kernel
theorem d_Z_within_18 : decode prog_12_method_4_code 18 = .ok (.ireturn, 1) := by decide +kernel
def cd_Z_within_0 : Nat → g_T := g_tab [(0, tr_lld 0 1), (1, tr_lld 2 2), (2, tr_lcmp 3), (3, tr_if1 (fun x => x < 0) 17 6), (6, tr_lld 0 7), (7, tr_lld 4 9), (9, tr_lcmp 10), (10, tr_if1 (fun x => 0 < x) 17 13), (13, tr_cst (.int (1)) 14), (14, tr_goto 18), (17, tr_cst (.int (0)) 18), (18, tr_rz)]
set_option maxRecDepth 100000 in
theorem ok_Z_within_0 : ∀ pc, g_S (J_Z_within) pc (cd_Z_within_0 pc) := g_tab_ok <|
  List.forall_mem_cons.mpr ⟨so_lload_n d_Z_within_0 rfl rfl,
  List.forall_mem_cons.mpr ⟨so_lload_n d_Z_within_1 rfl rfl,
  List.forall_mem_cons.mpr ⟨so_lcmp d_Z_within_2 rfl,
  List.forall_mem_cons.mpr ⟨so_if_lt d_Z_within_3 (by decide) rfl,
  List.forall_mem_cons.mpr ⟨so_lload_n d_Z_within_6 rfl rfl,
  List.forall_mem_cons.mpr ⟨so_lload d_Z_within_7 rfl,
  List.forall_mem_cons.mpr ⟨so_lcmp d_Z_within_9 rfl,
  List.forall_mem_cons.mpr ⟨so_if_gt d_Z_within_10 (by decide) rfl,
  List.forall_mem_cons.mpr ⟨so_iconst (by decide) d_Z_within_13 rfl,
  List.forall_mem_cons.mpr ⟨so_goto d_Z_within_14 (by decide),
  List.forall_mem_cons.mpr ⟨so_iconst (by decide) d_Z_within_17 rfl,
  List.forall_mem_cons.mpr ⟨so_zret d_Z_within_18 rfl,
  fun _ h => absurd h List.not_mem_nil⟩⟩⟩⟩⟩⟩⟩⟩⟩⟩⟩⟩
def cd_Z_within : Nat → g_T := g_chk [(18, cd_Z_within_0)]
theorem ok_Z_within : ∀ pc, g_S (J_Z_within) pc (cd_Z_within pc) := g_chk_ok <|
  List.forall_mem_cons.mpr ⟨ok_Z_within_0,
  fun _ h => absurd h List.not_mem_nil⟩
abbrev J_Z_fail : g_J := (y_Z_fail, prog_12_method_3_code, 2, (some .int), (0, 0), [], none)
theorem d_Z_fail_0 : decode prog_12_method_3_code 0 = .ok (.aload_n 0, 1) := by decide +kernel
theorem d_Z_fail_1 : decode prog_12_method_3_code 1 = .ok (.iload_n 1, 1) := by decide +kernel
theorem d_Z_fail_2 : decode prog_12_method_3_code 2 = .ok (.putfield 69, 3) := by decide +kernel
theorem d_Z_fail_5 : decode prog_12_method_3_code 5 = .ok (.iconst 0, 1) := by decide +kernel
theorem d_Z_fail_6 : decode prog_12_method_3_code 6 = .ok (.ireturn, 1) := by decide +kernel
def cd_Z_fail_0 : Nat → g_T := g_tab [(0, tr_ald 0 1), (1, tr_ild 1 2), (2, tr_put 10 0 (.int) 5), (5, tr_cst (.int (0)) 6), (6, tr_ri)]
set_option maxRecDepth 100000 in
theorem ok_Z_fail_0 : ∀ pc, g_S (J_Z_fail) pc (cd_Z_fail_0 pc) := g_tab_ok <|
  List.forall_mem_cons.mpr ⟨so_aload_n d_Z_fail_0 rfl rfl,
  List.forall_mem_cons.mpr ⟨so_iload_n d_Z_fail_1 rfl rfl,
  List.forall_mem_cons.mpr ⟨so_put ft_Z d_Z_fail_2 (rfl : vwCl[10]? = some (R_Z, F_Z, 40)) (Nat.le_of_ble_eq_true rfl) i_Z w_4_98 tk_Z n_Z rfl rfl rfl,
  List.forall_mem_cons.mpr ⟨so_iconst (by decide) d_Z_fail_5 rfl,
  List.forall_mem_cons.mpr ⟨so_iret d_Z_fail_6 rfl,
  fun _ h => absurd h List.not_mem_nil⟩⟩⟩⟩⟩
def cd_Z_fail : Nat → g_T := g_chk [(6, cd_Z_fail_0)]
theorem ok_Z_fail : ∀ pc, g_S (J_Z_fail) pc (cd_Z_fail pc) := g_chk_ok <|
  List.forall_mem_cons.mpr ⟨ok_Z_fail_0,
  fun _ h => absurd h List.not_mem_nil⟩
abbrev J_Z_thread : g_J := (y_Z_thread, prog_12_method_5_code, 3, (some .int), (1, 25), [], none)
theorem d_Z_thread_0 : decode prog_12_method_5_code 0 = .ok (.aload_n 0, 1) := by decide +kernel
theorem d_Z_thread_1 : decode prog_12_method_5_code 1 = .ok (.iconst 0, 1) := by decide +kernel
theorem d_Z_thread_2 : decode prog_12_method_5_code 2 = .ok (.putfield 69, 3) := by decide +kernel
theorem d_Z_thread_5 : decode prog_12_method_5_code 5 = .ok (.iload_n 1, 1) := by decide +kernel
theorem d_Z_thread_6 : decode prog_12_method_5_code 6 = .ok (.i2l, 1) := by decide +kernel
theorem d_Z_thread_7 : decode prog_12_method_5_code 7 = .ok (.lconst 0, 1) := by decide +kernel
theorem d_Z_thread_8 : decode prog_12_method_5_code 8 = .ok (.ldc2_w 72, 3) := by decide +kernel
theorem d_Z_thread_11 : decode prog_12_method_5_code 11 = .ok (.invokestatic 74, 3) := by decide +kernel
theorem d_Z_thread_14 : decode prog_12_method_5_code 14 = .ok (.ifCond .ne 9, 3) := by decide +kernel
theorem d_Z_thread_17 : decode prog_12_method_5_code 17 = .ok (.aload_n 0, 1) := by decide +kernel
theorem d_Z_thread_18 : decode prog_12_method_5_code 18 = .ok (.iconst 1, 1) := by decide +kernel
theorem d_Z_thread_19 : decode prog_12_method_5_code 19 = .ok (.invokevirtual 78, 3) := by decide +kernel
theorem d_Z_thread_22 : decode prog_12_method_5_code 22 = .ok (.ireturn, 1) := by decide +kernel
theorem d_Z_thread_23 : decode prog_12_method_5_code 23 = .ok (.aload_n 0, 1) := by decide +kernel
theorem d_Z_thread_24 : decode prog_12_method_5_code 24 = .ok (.getfield 82, 3) := by decide +kernel
theorem d_Z_thread_27 : decode prog_12_method_5_code 27 = .ok (.istore_n 2, 1) := by decide +kernel
theorem d_Z_thread_28 : decode prog_12_method_5_code 28 = .ok (.aload_n 0, 1) := by decide +kernel
theorem d_Z_thread_29 : decode prog_12_method_5_code 29 = .ok (.iload_n 1, 1) := by decide +kernel
theorem d_Z_thread_30 : decode prog_12_method_5_code 30 = .ok (.putfield 82, 3) := by decide +kernel
theorem d_Z_thread_33 : decode prog_12_method_5_code 33 = .ok (.iload_n 2, 1) := by decide +kernel
theorem d_Z_thread_34 : decode prog_12_method_5_code 34 = .ok (.ireturn, 1) := by decide +kernel
def cd_Z_thread_0 : Nat → g_T := g_tab [(0, tr_ald 0 1), (1, tr_cst (.int (0)) 2), (2, tr_put 10 0 (.int) 5), (5, tr_ild 1 6), (6, tr_i2l 7), (7, tr_cst (.long (0)) 8), (8, tr_cst (.long (3)) 11), (11, tr_cS J_Z_within 3 14), (14, tr_if1 (fun x => ¬ x = 0) 23 17), (17, tr_ald 0 18), (18, tr_cst (.int (1)) 19), (19, tr_cV J_Z_fail 10 1 22), (22, tr_ri), (23, tr_ald 0 24), (24, tr_get 10 3 27), (27, tr_ist 2 28)]
set_option maxRecDepth 100000 in
theorem ok_Z_thread_0 : ∀ pc, g_S (J_Z_thread) pc (cd_Z_thread_0 pc) := g_tab_ok <|
  List.forall_mem_cons.mpr ⟨so_aload_n d_Z_thread_0 rfl rfl,
  List.forall_mem_cons.mpr ⟨so_iconst (by decide) d_Z_thread_1 rfl,
  List.forall_mem_cons.mpr ⟨so_put ft_Z d_Z_thread_2 (rfl : vwCl[10]? = some (R_Z, F_Z, 40)) (Nat.le_of_ble_eq_true rfl) i_Z w_4_98 tk_Z n_Z rfl rfl rfl,
  List.forall_mem_cons.mpr ⟨so_iload_n d_Z_thread_5 rfl rfl,
  List.forall_mem_cons.mpr ⟨so_i2l d_Z_thread_6 rfl,
  List.forall_mem_cons.mpr ⟨so_lconst (by decide) d_Z_thread_7 rfl,
  List.forall_mem_cons.mpr ⟨so_ldc2 w_4_227 d_Z_thread_8 rfl,
  List.forall_mem_cons.mpr ⟨so_cS g_good d_Z_thread_11 ⟨w_4_230, (Nat.le_of_ble_eq_true rfl), (Nat.le_of_ble_eq_true rfl), w_1_12, ⟨by decide, by decide⟩, by decide +kernel⟩ w_4_228 w_4_229 rfl,
  List.forall_mem_cons.mpr ⟨so_if_ne d_Z_thread_14 (by decide) rfl,
  List.forall_mem_cons.mpr ⟨so_aload_n d_Z_thread_17 rfl rfl,
  List.forall_mem_cons.mpr ⟨so_iconst (by decide) d_Z_thread_18 rfl,
  List.forall_mem_cons.mpr ⟨so_cV g_good d_Z_thread_19 ⟨w_4_234, (Nat.le_of_ble_eq_true rfl), (Nat.le_of_ble_eq_true rfl), w_1_12, ⟨by decide, by decide⟩, by decide +kernel⟩ (rfl : vwCl[10]? = some (R_Z, F_Z, 40)) w_4_231 w_4_233 w_p27 rfl,
  List.forall_mem_cons.mpr ⟨so_iret d_Z_thread_22 rfl,
  List.forall_mem_cons.mpr ⟨so_aload_n d_Z_thread_23 rfl rfl,
  List.forall_mem_cons.mpr ⟨so_get d_Z_thread_24 (rfl : vwCl[10]? = some (R_Z, F_Z, 40)) (Nat.le_of_ble_eq_true rfl) i_Z w_4_101 rfl,
  List.forall_mem_cons.mpr ⟨so_istore_n d_Z_thread_27 rfl (Nat.le_of_ble_eq_true rfl) rfl,
  fun _ h => absurd h List.not_mem_nil⟩⟩⟩⟩⟩⟩⟩⟩⟩⟩⟩⟩⟩⟩⟩⟩
def cd_Z_thread_1 : Nat → g_T := g_tab [(28, tr_ald 0 29), (29, tr_ild 1 30), (30, tr_put 10 3 (.int) 33), (33, tr_ild 2 34), (34, tr_ri)]
set_option maxRecDepth 100000 in
theorem ok_Z_thread_1 : ∀ pc, g_S (J_Z_thread) pc (cd_Z_thread_1 pc) := g_tab_ok <|
  List.forall_mem_cons.mpr ⟨so_aload_n d_Z_thread_28 rfl rfl,
  List.forall_mem_cons.mpr ⟨so_iload_n d_Z_thread_29 rfl rfl,
  List.forall_mem_cons.mpr ⟨so_put ft_Z d_Z_thread_30 (rfl : vwCl[10]? = some (R_Z, F_Z, 40)) (Nat.le_of_ble_eq_true rfl) i_Z w_4_101 tk_Z n_Z rfl rfl rfl,
  List.forall_mem_cons.mpr ⟨so_iload_n d_Z_thread_33 rfl rfl,
  List.forall_mem_cons.mpr ⟨so_iret d_Z_thread_34 rfl,
  fun _ h => absurd h List.not_mem_nil⟩⟩⟩⟩⟩
def cd_Z_thread : Nat → g_T := g_chk [(27, cd_Z_thread_0), (34, cd_Z_thread_1)]
theorem ok_Z_thread : ∀ pc, g_S (J_Z_thread) pc (cd_Z_thread pc) := g_chk_ok <|
  List.forall_mem_cons.mpr ⟨ok_Z_thread_0,
  List.forall_mem_cons.mpr ⟨ok_Z_thread_1,
  fun _ h => absurd h List.not_mem_nil⟩⟩
abbrev J_Z_say : g_J := (y_Z_say, prog_12_method_6_code, 2, none, (0, 0), [], none)
theorem d_Z_say_0 : decode prog_12_method_6_code 0 = .ok (.aload_n 0, 1) := by decide +kernel
theorem d_Z_say_1 : decode prog_12_method_6_code 1 = .ok (.getfield 33, 3) := by decide +kernel
theorem d_Z_say_4 : decode prog_12_method_6_code 4 = .ok (.aload_n 0, 1) := by decide +kernel
theorem d_Z_say_5 : decode prog_12_method_6_code 5 = .ok (.getfield 85, 3) := by decide +kernel
theorem d_Z_say_8 : decode prog_12_method_6_code 8 = .ok (.iload_n 1, 1) := by decide +kernel
theorem d_Z_say_9 : decode prog_12_method_6_code 9 = .ok (.sipush 255, 3) := by decide +kernel
theorem d_Z_say_12 : decode prog_12_method_6_code 12 = .ok (.iand, 1) := by decide +kernel
theorem d_Z_say_13 : decode prog_12_method_6_code 13 = .ok (.iastore, 1) := by decide +kernel
theorem d_Z_say_14 : decode prog_12_method_6_code 14 = .ok (.aload_n 0, 1) := by decide +kernel
theorem d_Z_say_15 : decode prog_12_method_6_code 15 = .ok (.dup, 1) := by decide +kernel
theorem d_Z_say_16 : decode prog_12_method_6_code 16 = .ok (.getfield 85, 3) := by decide +kernel
theorem d_Z_say_19 : decode prog_12_method_6_code 19 = .ok (.iconst 1, 1) := by decide +kernel
theorem d_Z_say_20 : decode prog_12_method_6_code 20 = .ok (.iadd, 1) := by decide +kernel
theorem d_Z_say_21 : decode prog_12_method_6_code 21 = .ok (.putfield 85, 3) := by decide +kernel
theorem d_Z_say_24 : decode prog_12_method_6_code 24 = .ok (.return_, 1) := by decide +kernel
def cd_Z_say_0 : Nat → g_T := g_tab [(0, tr_ald 0 1), (1, tr_get 10 16 4), (4, tr_ald 0 5), (5, tr_get 10 15 8), (8, tr_ild 1 9), (9, tr_cst (.int (255)) 12), (12, tr_ii (fun x y => x &&& y) 13), (13, tr_ias 14), (14, tr_ald 0 15), (15, tr_dup 16), (16, tr_get 10 15 19), (19, tr_cst (.int (1)) 20), (20, tr_ii (fun x y => x + y) 21), (21, tr_put 10 15 (.int) 24), (24, tr_rv)]
set_option maxRecDepth 100000 in
theorem ok_Z_say_0 : ∀ pc, g_S (J_Z_say) pc (cd_Z_say_0 pc) := g_tab_ok <|
  List.forall_mem_cons.mpr ⟨so_aload_n d_Z_say_0 rfl rfl,
  List.forall_mem_cons.mpr ⟨so_get d_Z_say_1 (rfl : vwCl[10]? = some (R_Z, F_Z, 40)) (Nat.le_of_ble_eq_true rfl) i_Z w_4_114 rfl,
  List.forall_mem_cons.mpr ⟨so_aload_n d_Z_say_4 rfl rfl,
  List.forall_mem_cons.mpr ⟨so_get d_Z_say_5 (rfl : vwCl[10]? = some (R_Z, F_Z, 40)) (Nat.le_of_ble_eq_true rfl) i_Z w_4_113 rfl,
  List.forall_mem_cons.mpr ⟨so_iload_n d_Z_say_8 rfl rfl,
  List.forall_mem_cons.mpr ⟨so_sipush (by decide) d_Z_say_9 rfl,
  List.forall_mem_cons.mpr ⟨so_iand d_Z_say_12 rfl,
  List.forall_mem_cons.mpr ⟨so_iastore d_Z_say_13 rfl,
  List.forall_mem_cons.mpr ⟨so_aload_n d_Z_say_14 rfl rfl,
  List.forall_mem_cons.mpr ⟨so_dup d_Z_say_15 rfl,
  List.forall_mem_cons.mpr ⟨so_get d_Z_say_16 (rfl : vwCl[10]? = some (R_Z, F_Z, 40)) (Nat.le_of_ble_eq_true rfl) i_Z w_4_113 rfl,
  List.forall_mem_cons.mpr ⟨so_iconst (by decide) d_Z_say_19 rfl,
  List.forall_mem_cons.mpr ⟨so_iadd d_Z_say_20 rfl,
  List.forall_mem_cons.mpr ⟨so_put ft_Z d_Z_say_21 (rfl : vwCl[10]? = some (R_Z, F_Z, 40)) (Nat.le_of_ble_eq_true rfl) i_Z w_4_113 tk_Z n_Z rfl rfl rfl,
  List.forall_mem_cons.mpr ⟨so_vret d_Z_say_24 rfl,
  fun _ h => absurd h List.not_mem_nil⟩⟩⟩⟩⟩⟩⟩⟩⟩⟩⟩⟩⟩⟩⟩
def cd_Z_say : Nat → g_T := g_chk [(24, cd_Z_say_0)]
theorem ok_Z_say : ∀ pc, g_S (J_Z_say) pc (cd_Z_say pc) := g_chk_ok <|
  List.forall_mem_cons.mpr ⟨ok_Z_say_0,
  fun _ h => absurd h List.not_mem_nil⟩
abbrev J_Z_sayFour : g_J := (y_Z_sayFour, prog_12_method_9_code, 3, none, (1, 21), [], none)
theorem d_Z_sayFour_0 : decode prog_12_method_9_code 0 = .ok (.iconst 3, 1) := by decide +kernel
theorem d_Z_sayFour_1 : decode prog_12_method_9_code 1 = .ok (.istore_n 2, 1) := by decide +kernel
theorem d_Z_sayFour_2 : decode prog_12_method_9_code 2 = .ok (.iload_n 2, 1) := by decide +kernel
theorem d_Z_sayFour_3 : decode prog_12_method_9_code 3 = .ok (.ifCond .lt 19, 3) := by decide +kernel
theorem d_Z_sayFour_6 : decode prog_12_method_9_code 6 = .ok (.aload_n 0, 1) := by decide +kernel
theorem d_Z_sayFour_7 : decode prog_12_method_9_code 7 = .ok (.iload_n 1, 1) := by decide +kernel
theorem d_Z_sayFour_8 : decode prog_12_method_9_code 8 = .ok (.bipush 8, 2) := by decide +kernel
theorem d_Z_sayFour_10 : decode prog_12_method_9_code 10 = .ok (.iload_n 2, 1) := by decide +kernel
theorem d_Z_sayFour_11 : decode prog_12_method_9_code 11 = .ok (.imul, 1) := by decide +kernel
theorem d_Z_sayFour_12 : decode prog_12_method_9_code 12 = .ok (.ishr, 1) := by decide +kernel
theorem d_Z_sayFour_13 : decode prog_12_method_9_code 13 = .ok (.invokevirtual 90, 3) := by decide +kernel
theorem d_Z_sayFour_16 : decode prog_12_method_9_code 16 = .ok (.iinc 2 (-1), 3) := by decide +kernel
theorem d_Z_sayFour_19 : decode prog_12_method_9_code 19 = .ok (.goto (-17), 3) := by decide +kernel
theorem d_Z_sayFour_22 : decode prog_12_method_9_code 22 = .ok (.return_, 1) := by decide +kernel
def cd_Z_sayFour_0 : Nat → g_T := g_tab [(0, tr_cst (.int (3)) 1), (1, tr_ist 2 2), (2, tr_ild 2 3), (3, tr_if1 (fun x => x < 0) 22 6), (6, tr_ald 0 7), (7, tr_ild 1 8), (8, tr_cst (.int (8)) 10), (10, tr_ild 2 11), (11, tr_ii (fun x y => x * y) 12), (12, tr_ii (fun x y => x >>> (y &&& 31)) 13), (13, tr_cV J_Z_say 10 1 16), (16, tr_inc 2 (-1) 19), (19, tr_goto 2), (22, tr_rv)]
set_option maxRecDepth 100000 in
theorem ok_Z_sayFour_0 : ∀ pc, g_S (J_Z_sayFour) pc (cd_Z_sayFour_0 pc) := g_tab_ok <|
  List.forall_mem_cons.mpr ⟨so_iconst (by decide) d_Z_sayFour_0 rfl,
  List.forall_mem_cons.mpr ⟨so_istore_n d_Z_sayFour_1 rfl (Nat.le_of_ble_eq_true rfl) rfl,
  List.forall_mem_cons.mpr ⟨so_iload_n d_Z_sayFour_2 rfl rfl,
  List.forall_mem_cons.mpr ⟨so_if_lt d_Z_sayFour_3 (by decide) rfl,
  List.forall_mem_cons.mpr ⟨so_aload_n d_Z_sayFour_6 rfl rfl,
  List.forall_mem_cons.mpr ⟨so_iload_n d_Z_sayFour_7 rfl rfl,
  List.forall_mem_cons.mpr ⟨so_bipush (by decide) d_Z_sayFour_8 rfl,
  List.forall_mem_cons.mpr ⟨so_iload_n d_Z_sayFour_10 rfl rfl,
  List.forall_mem_cons.mpr ⟨so_imul d_Z_sayFour_11 rfl,
  List.forall_mem_cons.mpr ⟨so_ishr d_Z_sayFour_12 rfl,
  List.forall_mem_cons.mpr ⟨so_cV g_good d_Z_sayFour_13 ⟨w_5_11, (Nat.le_of_ble_eq_true rfl), (Nat.le_of_ble_eq_true rfl), w_1_12, ⟨by decide, by decide⟩, by decide +kernel⟩ (rfl : vwCl[10]? = some (R_Z, F_Z, 40)) w_5_8 w_5_10 w_p30 rfl,
  List.forall_mem_cons.mpr ⟨so_iinc d_Z_sayFour_16 (by decide) (Nat.le_of_ble_eq_true rfl) rfl,
  List.forall_mem_cons.mpr ⟨so_goto d_Z_sayFour_19 (by decide),
  List.forall_mem_cons.mpr ⟨so_vret d_Z_sayFour_22 rfl,
  fun _ h => absurd h List.not_mem_nil⟩⟩⟩⟩⟩⟩⟩⟩⟩⟩⟩⟩⟩⟩
def cd_Z_sayFour : Nat → g_T := g_chk [(22, cd_Z_sayFour_0)]
theorem ok_Z_sayFour : ∀ pc, g_S (J_Z_sayFour) pc (cd_Z_sayFour pc) := g_chk_ok <|
  List.forall_mem_cons.mpr ⟨ok_Z_sayFour_0,
  fun _ h => absurd h List.not_mem_nil⟩
abbrev J_Z_sayNumber : g_J := (y_Z_sayNumber, prog_12_method_7_code, 5, none, (1, 21), [], none)
theorem d_Z_sayNumber_0 : decode prog_12_method_7_code 0 = .ok (.lload_n 1, 1) := by decide +kernel
theorem d_Z_sayNumber_1 : decode prog_12_method_7_code 1 = .ok (.lstore_n 3, 1) := by decide +kernel
theorem d_Z_sayNumber_2 : decode prog_12_method_7_code 2 = .ok (.lload_n 3, 1) := by decide +kernel
theorem d_Z_sayNumber_3 : decode prog_12_method_7_code 3 = .ok (.ldc2_w 88, 3) := by decide +kernel
theorem d_Z_sayNumber_6 : decode prog_12_method_7_code 6 = .ok (.lcmp, 1) := by decide +kernel
theorem d_Z_sayNumber_7 : decode prog_12_method_7_code 7 = .ok (.ifCond .le 25, 3) := by decide +kernel
theorem d_Z_sayNumber_10 : decode prog_12_method_7_code 10 = .ok (.aload_n 0, 1) := by decide +kernel
theorem d_Z_sayNumber_11 : decode prog_12_method_7_code 11 = .ok (.lload_n 3, 1) := by decide +kernel
theorem d_Z_sayNumber_12 : decode prog_12_method_7_code 12 = .ok (.ldc2_w 88, 3) := by decide +kernel
theorem d_Z_sayNumber_15 : decode prog_12_method_7_code 15 = .ok (.land, 1) := by decide +kernel
theorem d_Z_sayNumber_16 : decode prog_12_method_7_code 16 = .ok (.l2i, 1) := by decide +kernel
theorem d_Z_sayNumber_17 : decode prog_12_method_7_code 17 = .ok (.sipush 128, 3) := by decide +kernel
theorem d_Z_sayNumber_20 : decode prog_12_method_7_code 20 = .ok (.ior, 1) := by decide +kernel
theorem d_Z_sayNumber_21 : decode prog_12_method_7_code 21 = .ok (.invokevirtual 90, 3) := by decide +kernel
theorem d_Z_sayNumber_24 : decode prog_12_method_7_code 24 = .ok (.lload_n 3, 1) := by decide +kernel
theorem d_Z_sayNumber_25 : decode prog_12_method_7_code 25 = .ok (.bipush 7, 2) := by decide +kernel
theorem d_Z_sayNumber_27 : decode prog_12_method_7_code 27 = .ok (.lshr, 1) := by decide +kernel
theorem d_Z_sayNumber_28 : decode prog_12_method_7_code 28 = .ok (.lstore_n 3, 1) := by decide +kernel
theorem d_Z_sayNumber_29 : decode prog_12_method_7_code 29 = .ok (.goto (-27), 3) := by decide +kernel
theorem d_Z_sayNumber_32 : decode prog_12_method_7_code 32 = .ok (.aload_n 0, 1) := by decide +kernel
theorem d_Z_sayNumber_33 : decode prog_12_method_7_code 33 = .ok (.lload_n 3, 1) := by decide +kernel
theorem d_Z_sayNumber_34 : decode prog_12_method_7_code 34 = .ok (.l2i, 1) := by decide +kernel
theorem d_Z_sayNumber_35 : decode prog_12_method_7_code 35 = .ok (.invokevirtual 90, 3) := by decide +kernel
theorem d_Z_sayNumber_38 : decode prog_12_method_7_code 38 = .ok (.return_, 1) := by decide +kernel
def cd_Z_sayNumber_0 : Nat → g_T := g_tab [(0, tr_lld 1 1), (1, tr_lst 3 2), (2, tr_lld 3 3), (3, tr_cst (.long (127)) 6), (6, tr_lcmp 7), (7, tr_if1 (fun x => x ≤ 0) 32 10), (10, tr_ald 0 11), (11, tr_lld 3 12), (12, tr_cst (.long (127)) 15), (15, tr_ll (fun x y => x &&& y) 16), (16, tr_l2i 17), (17, tr_cst (.int (128)) 20), (20, tr_ii (fun x y => x ||| y) 21), (21, tr_cV J_Z_say 10 1 24), (24, tr_lld 3 25), (25, tr_cst (.int (7)) 27)]
set_option maxRecDepth 100000 in
theorem ok_Z_sayNumber_0 : ∀ pc, g_S (J_Z_sayNumber) pc (cd_Z_sayNumber_0 pc) := g_tab_ok <|
  List.forall_mem_cons.mpr ⟨so_lload_n d_Z_sayNumber_0 rfl rfl,
  List.forall_mem_cons.mpr ⟨so_lstore_n d_Z_sayNumber_1 rfl (Nat.le_of_ble_eq_true rfl) rfl,
  List.forall_mem_cons.mpr ⟨so_lload_n d_Z_sayNumber_2 rfl rfl,
  List.forall_mem_cons.mpr ⟨so_ldc2 w_5_30 d_Z_sayNumber_3 rfl,
  List.forall_mem_cons.mpr ⟨so_lcmp d_Z_sayNumber_6 rfl,
  List.forall_mem_cons.mpr ⟨so_if_le d_Z_sayNumber_7 (by decide) rfl,
  List.forall_mem_cons.mpr ⟨so_aload_n d_Z_sayNumber_10 rfl rfl,
  List.forall_mem_cons.mpr ⟨so_lload_n d_Z_sayNumber_11 rfl rfl,
  List.forall_mem_cons.mpr ⟨so_ldc2 w_5_30 d_Z_sayNumber_12 rfl,
  List.forall_mem_cons.mpr ⟨so_land d_Z_sayNumber_15 rfl,
  List.forall_mem_cons.mpr ⟨so_l2i d_Z_sayNumber_16 rfl,
  List.forall_mem_cons.mpr ⟨so_sipush (by decide) d_Z_sayNumber_17 rfl,
  List.forall_mem_cons.mpr ⟨so_ior d_Z_sayNumber_20 rfl,
  List.forall_mem_cons.mpr ⟨so_cV g_good d_Z_sayNumber_21 ⟨w_5_11, (Nat.le_of_ble_eq_true rfl), (Nat.le_of_ble_eq_true rfl), w_1_12, ⟨by decide, by decide⟩, by decide +kernel⟩ (rfl : vwCl[10]? = some (R_Z, F_Z, 40)) w_5_8 w_5_10 w_p30 rfl,
  List.forall_mem_cons.mpr ⟨so_lload_n d_Z_sayNumber_24 rfl rfl,
  List.forall_mem_cons.mpr ⟨so_bipush (by decide) d_Z_sayNumber_25 rfl,
  fun _ h => absurd h List.not_mem_nil⟩⟩⟩⟩⟩⟩⟩⟩⟩⟩⟩⟩⟩⟩⟩⟩
def cd_Z_sayNumber_1 : Nat → g_T := g_tab [(27, tr_li (fun x y => x >>> (y.toInt64 &&& 63)) 28), (28, tr_lst 3 29), (29, tr_goto 2), (32, tr_ald 0 33), (33, tr_lld 3 34), (34, tr_l2i 35), (35, tr_cV J_Z_say 10 1 38), (38, tr_rv)]
set_option maxRecDepth 100000 in
theorem ok_Z_sayNumber_1 : ∀ pc, g_S (J_Z_sayNumber) pc (cd_Z_sayNumber_1 pc) := g_tab_ok <|
  List.forall_mem_cons.mpr ⟨so_lshr d_Z_sayNumber_27 rfl,
  List.forall_mem_cons.mpr ⟨so_lstore_n d_Z_sayNumber_28 rfl (Nat.le_of_ble_eq_true rfl) rfl,
  List.forall_mem_cons.mpr ⟨so_goto d_Z_sayNumber_29 (by decide),
  List.forall_mem_cons.mpr ⟨so_aload_n d_Z_sayNumber_32 rfl rfl,
  List.forall_mem_cons.mpr ⟨so_lload_n d_Z_sayNumber_33 rfl rfl,
  List.forall_mem_cons.mpr ⟨so_l2i d_Z_sayNumber_34 rfl,
  List.forall_mem_cons.mpr ⟨so_cV g_good d_Z_sayNumber_35 ⟨w_5_11, (Nat.le_of_ble_eq_true rfl), (Nat.le_of_ble_eq_true rfl), w_1_12, ⟨by decide, by decide⟩, by decide +kernel⟩ (rfl : vwCl[10]? = some (R_Z, F_Z, 40)) w_5_8 w_5_10 w_p30 rfl,
  List.forall_mem_cons.mpr ⟨so_vret d_Z_sayNumber_38 rfl,
  fun _ h => absurd h List.not_mem_nil⟩⟩⟩⟩⟩⟩⟩⟩
def cd_Z_sayNumber : Nat → g_T := g_chk [(25, cd_Z_sayNumber_0), (38, cd_Z_sayNumber_1)]
theorem ok_Z_sayNumber : ∀ pc, g_S (J_Z_sayNumber) pc (cd_Z_sayNumber pc) := g_chk_ok <|
  List.forall_mem_cons.mpr ⟨ok_Z_sayNumber_0,
  List.forall_mem_cons.mpr ⟨ok_Z_sayNumber_1,
  fun _ h => absurd h List.not_mem_nil⟩⟩
abbrev J_Z_sayDifference : g_J := (y_Z_sayDifference, prog_12_method_8_code, 2, none, (2, 45), [], none)
theorem d_Z_sayDifference_0 : decode prog_12_method_8_code 0 = .ok (.aload_n 0, 1) := by decide +kernel
theorem d_Z_sayDifference_1 : decode prog_12_method_8_code 1 = .ok (.iload_n 1, 1) := by decide +kernel
theorem d_Z_sayDifference_2 : decode prog_12_method_8_code 2 = .ok (.ifCond .lt 12, 3) := by decide +kernel
theorem d_Z_sayDifference_5 : decode prog_12_method_8_code 5 = .ok (.ldc2_w 94, 3) := by decide +kernel
theorem d_Z_sayDifference_8 : decode prog_12_method_8_code 8 = .ok (.iload_n 1, 1) := by decide +kernel
theorem d_Z_sayDifference_9 : decode prog_12_method_8_code 9 = .ok (.i2l, 1) := by decide +kernel
theorem d_Z_sayDifference_10 : decode prog_12_method_8_code 10 = .ok (.lmul, 1) := by decide +kernel
theorem d_Z_sayDifference_11 : decode prog_12_method_8_code 11 = .ok (.goto 11, 3) := by decide +kernel
theorem d_Z_sayDifference_14 : decode prog_12_method_8_code 14 = .ok (.ldc2_w 96, 3) := by decide +kernel
theorem d_Z_sayDifference_17 : decode prog_12_method_8_code 17 = .ok (.iload_n 1, 1) := by decide +kernel
theorem d_Z_sayDifference_18 : decode prog_12_method_8_code 18 = .ok (.i2l, 1) := by decide +kernel
theorem d_Z_sayDifference_19 : decode prog_12_method_8_code 19 = .ok (.lmul, 1) := by decide +kernel
theorem d_Z_sayDifference_20 : decode prog_12_method_8_code 20 = .ok (.lconst 1, 1) := by decide +kernel
theorem d_Z_sayDifference_21 : decode prog_12_method_8_code 21 = .ok (.lsub, 1) := by decide +kernel
theorem d_Z_sayDifference_22 : decode prog_12_method_8_code 22 = .ok (.invokevirtual 98, 3) := by decide +kernel
theorem d_Z_sayDifference_25 : decode prog_12_method_8_code 25 = .ok (.return_, 1) := by decide +kernel
def cd_Z_sayDifference_0 : Nat → g_T := g_tab [(0, tr_ald 0 1), (1, tr_ild 1 2), (2, tr_if1 (fun x => x < 0) 14 5), (5, tr_cst (.long (2)) 8), (8, tr_ild 1 9), (9, tr_i2l 10), (10, tr_ll (fun x y => x * y) 11), (11, tr_goto 22), (14, tr_cst (.long (-2)) 17), (17, tr_ild 1 18), (18, tr_i2l 19), (19, tr_ll (fun x y => x * y) 20), (20, tr_cst (.long (1)) 21), (21, tr_ll (fun x y => x - y) 22), (22, tr_cV J_Z_sayNumber 10 1 25), (25, tr_rv)]
set_option maxRecDepth 100000 in
theorem ok_Z_sayDifference_0 : ∀ pc, g_S (J_Z_sayDifference) pc (cd_Z_sayDifference_0 pc) := g_tab_ok <|
  List.forall_mem_cons.mpr ⟨so_aload_n d_Z_sayDifference_0 rfl rfl,
  List.forall_mem_cons.mpr ⟨so_iload_n d_Z_sayDifference_1 rfl rfl,
  List.forall_mem_cons.mpr ⟨so_if_lt d_Z_sayDifference_2 (by decide) rfl,
  List.forall_mem_cons.mpr ⟨so_ldc2 w_5_24 d_Z_sayDifference_5 rfl,
  List.forall_mem_cons.mpr ⟨so_iload_n d_Z_sayDifference_8 rfl rfl,
  List.forall_mem_cons.mpr ⟨so_i2l d_Z_sayDifference_9 rfl,
  List.forall_mem_cons.mpr ⟨so_lmul d_Z_sayDifference_10 rfl,
  List.forall_mem_cons.mpr ⟨so_goto d_Z_sayDifference_11 (by decide),
  List.forall_mem_cons.mpr ⟨so_ldc2 w_5_25 d_Z_sayDifference_14 rfl,
  List.forall_mem_cons.mpr ⟨so_iload_n d_Z_sayDifference_17 rfl rfl,
  List.forall_mem_cons.mpr ⟨so_i2l d_Z_sayDifference_18 rfl,
  List.forall_mem_cons.mpr ⟨so_lmul d_Z_sayDifference_19 rfl,
  List.forall_mem_cons.mpr ⟨so_lconst (by decide) d_Z_sayDifference_20 rfl,
  List.forall_mem_cons.mpr ⟨so_lsub d_Z_sayDifference_21 rfl,
  List.forall_mem_cons.mpr ⟨so_cV g_good d_Z_sayDifference_22 ⟨w_5_29, (Nat.le_of_ble_eq_true rfl), (Nat.le_of_ble_eq_true rfl), w_1_12, ⟨by decide, by decide⟩, by decide +kernel⟩ (rfl : vwCl[10]? = some (R_Z, F_Z, 40)) w_5_26 w_5_28 w_p34 rfl,
  List.forall_mem_cons.mpr ⟨so_vret d_Z_sayDifference_25 rfl,
  fun _ h => absurd h List.not_mem_nil⟩⟩⟩⟩⟩⟩⟩⟩⟩⟩⟩⟩⟩⟩⟩⟩
def cd_Z_sayDifference : Nat → g_T := g_chk [(25, cd_Z_sayDifference_0)]
theorem ok_Z_sayDifference : ∀ pc, g_S (J_Z_sayDifference) pc (cd_Z_sayDifference pc) := g_chk_ok <|
  List.forall_mem_cons.mpr ⟨ok_Z_sayDifference_0,
  fun _ h => absurd h List.not_mem_nil⟩
abbrev J_Z_putValue : g_J := (y_Z_putValue, prog_12_method_10_code, 5, (some .int), (0, 0), [], none)
theorem d_Z_putValue_0 : decode prog_12_method_10_code 0 = .ok (.bipush 8, 2) := by decide +kernel
theorem d_Z_putValue_2 : decode prog_12_method_10_code 2 = .ok (.istore_n 2, 1) := by decide +kernel
theorem d_Z_putValue_3 : decode prog_12_method_10_code 3 = .ok (.aload_n 0, 1) := by decide +kernel
theorem d_Z_putValue_4 : decode prog_12_method_10_code 4 = .ok (.getfield 102, 3) := by decide +kernel
theorem d_Z_putValue_7 : decode prog_12_method_10_code 7 = .ok (.iconst 1, 1) := by decide +kernel
theorem d_Z_putValue_8 : decode prog_12_method_10_code 8 = .ok (.isub, 1) := by decide +kernel
theorem d_Z_putValue_9 : decode prog_12_method_10_code 9 = .ok (.istore_n 3, 1) := by decide +kernel
theorem d_Z_putValue_10 : decode prog_12_method_10_code 10 = .ok (.iload_n 3, 1) := by decide +kernel
theorem d_Z_putValue_11 : decode prog_12_method_10_code 11 = .ok (.ifCond .lt 25, 3) := by decide +kernel
theorem d_Z_putValue_14 : decode prog_12_method_10_code 14 = .ok (.aload_n 0, 1) := by decide +kernel
theorem d_Z_putValue_15 : decode prog_12_method_10_code 15 = .ok (.getfield 36, 3) := by decide +kernel
theorem d_Z_putValue_18 : decode prog_12_method_10_code 18 = .ok (.iload_n 3, 1) := by decide +kernel
theorem d_Z_putValue_19 : decode prog_12_method_10_code 19 = .ok (.iaload, 1) := by decide +kernel
theorem d_Z_putValue_20 : decode prog_12_method_10_code 20 = .ok (.iload_n 1, 1) := by decide +kernel
theorem d_Z_putValue_21 : decode prog_12_method_10_code 21 = .ok (.if_icmp .ne 7, 3) := by decide +kernel
theorem d_Z_putValue_24 : decode prog_12_method_10_code 24 = .ok (.iload_n 3, 1) := by decide +kernel
theorem d_Z_putValue_25 : decode prog_12_method_10_code 25 = .ok (.goto 4, 3) := by decide +kernel
theorem d_Z_putValue_28 : decode prog_12_method_10_code 28 = .ok (.iload_n 2, 1) := by decide +kernel
theorem d_Z_putValue_29 : decode prog_12_method_10_code 29 = .ok (.istore_n 2, 1) := by decide +kernel
theorem d_Z_putValue_30 : decode prog_12_method_10_code 30 = .ok (.iinc 3 (-1), 3) := by decide +kernel
theorem d_Z_putValue_33 : decode prog_12_method_10_code 33 = .ok (.goto (-23), 3) := by decide +kernel
theorem d_Z_putValue_36 : decode prog_12_method_10_code 36 = .ok (.iload_n 2, 1) := by decide +kernel
theorem d_Z_putValue_37 : decode prog_12_method_10_code 37 = .ok (.bipush 8, 2) := by decide +kernel
theorem d_Z_putValue_39 : decode prog_12_method_10_code 39 = .ok (.if_icmp .ge 7, 3) := by decide +kernel
theorem d_Z_putValue_42 : decode prog_12_method_10_code 42 = .ok (.iload_n 2, 1) := by decide +kernel
theorem d_Z_putValue_43 : decode prog_12_method_10_code 43 = .ok (.goto 21, 3) := by decide +kernel
theorem d_Z_putValue_46 : decode prog_12_method_10_code 46 = .ok (.aload_n 0, 1) := by decide +kernel
theorem d_Z_putValue_47 : decode prog_12_method_10_code 47 = .ok (.getfield 102, 3) := by decide +kernel
theorem d_Z_putValue_50 : decode prog_12_method_10_code 50 = .ok (.bipush 8, 2) := by decide +kernel
theorem d_Z_putValue_52 : decode prog_12_method_10_code 52 = .ok (.if_icmp .ge 10, 3) := by decide +kernel
theorem d_Z_putValue_55 : decode prog_12_method_10_code 55 = .ok (.aload_n 0, 1) := by decide +kernel
theorem d_Z_putValue_56 : decode prog_12_method_10_code 56 = .ok (.getfield 102, 3) := by decide +kernel
theorem d_Z_putValue_59 : decode prog_12_method_10_code 59 = .ok (.goto 5, 3) := by decide +kernel
theorem d_Z_putValue_62 : decode prog_12_method_10_code 62 = .ok (.bipush 7, 2) := by decide +kernel
theorem d_Z_putValue_64 : decode prog_12_method_10_code 64 = .ok (.istore_n 3, 1) := by decide +kernel
theorem d_Z_putValue_65 : decode prog_12_method_10_code 65 = .ok (.iload_n 3, 1) := by decide +kernel
theorem d_Z_putValue_66 : decode prog_12_method_10_code 66 = .ok (.istore 4, 2) := by decide +kernel
theorem d_Z_putValue_68 : decode prog_12_method_10_code 68 = .ok (.iload 4, 2) := by decide +kernel
theorem d_Z_putValue_70 : decode prog_12_method_10_code 70 = .ok (.ifCond .le 25, 3) := by decide +kernel
theorem d_Z_putValue_73 : decode prog_12_method_10_code 73 = .ok (.aload_n 0, 1) := by decide +kernel
theorem d_Z_putValue_74 : decode prog_12_method_10_code 74 = .ok (.getfield 36, 3) := by decide +kernel
theorem d_Z_putValue_77 : decode prog_12_method_10_code 77 = .ok (.iload 4, 2) := by decide +kernel
theorem d_Z_putValue_79 : decode prog_12_method_10_code 79 = .ok (.aload_n 0, 1) := by decide +kernel
theorem d_Z_putValue_80 : decode prog_12_method_10_code 80 = .ok (.getfield 36, 3) := by decide +kernel
theorem d_Z_putValue_83 : decode prog_12_method_10_code 83 = .ok (.iload 4, 2) := by decide +kernel
theorem d_Z_putValue_85 : decode prog_12_method_10_code 85 = .ok (.iconst 1, 1) := by decide +kernel
theorem d_Z_putValue_86 : decode prog_12_method_10_code 86 = .ok (.isub, 1) := by decide +kernel
theorem d_Z_putValue_87 : decode prog_12_method_10_code 87 = .ok (.iaload, 1) := by decide +kernel
theorem d_Z_putValue_88 : decode prog_12_method_10_code 88 = .ok (.iastore, 1) := by decide +kernel
theorem d_Z_putValue_89 : decode prog_12_method_10_code 89 = .ok (.iinc 4 (-1), 3) := by decide +kernel
theorem d_Z_putValue_92 : decode prog_12_method_10_code 92 = .ok (.goto (-24), 3) := by decide +kernel
theorem d_Z_putValue_95 : decode prog_12_method_10_code 95 = .ok (.aload_n 0, 1) := by decide +kernel
theorem d_Z_putValue_96 : decode prog_12_method_10_code 96 = .ok (.getfield 36, 3) := by decide +kernel
theorem d_Z_putValue_99 : decode prog_12_method_10_code 99 = .ok (.iconst 0, 1) := by decide +kernel
theorem d_Z_putValue_100 : decode prog_12_method_10_code 100 = .ok (.iload_n 1, 1) := by decide +kernel
theorem d_Z_putValue_101 : decode prog_12_method_10_code 101 = .ok (.iastore, 1) := by decide +kernel
theorem d_Z_putValue_102 : decode prog_12_method_10_code 102 = .ok (.aload_n 0, 1) := by decide +kernel
theorem d_Z_putValue_103 : decode prog_12_method_10_code 103 = .ok (.iload_n 2, 1) := by decide +kernel
theorem d_Z_putValue_104 : decode prog_12_method_10_code 104 = .ok (.bipush 8, 2) := by decide +kernel
theorem d_Z_putValue_106 : decode prog_12_method_10_code 106 = .ok (.if_icmp .ne 21, 3) := by decide +kernel
theorem d_Z_putValue_109 : decode prog_12_method_10_code 109 = .ok (.aload_n 0, 1) := by decide +kernel
theorem d_Z_putValue_110 : decode prog_12_method_10_code 110 = .ok (.getfield 102, 3) := by decide +kernel
theorem d_Z_putValue_113 : decode prog_12_method_10_code 113 = .ok (.bipush 8, 2) := by decide +kernel
theorem d_Z_putValue_115 : decode prog_12_method_10_code 115 = .ok (.if_icmp .ge 12, 3) := by decide +kernel
theorem d_Z_putValue_118 : decode prog_12_method_10_code 118 = .ok (.aload_n 0, 1) := by decide +kernel
theorem d_Z_putValue_119 : decode prog_12_method_10_code 119 = .ok (.getfield 102, 3) := by decide +kernel
theorem d_Z_putValue_122 : decode prog_12_method_10_code 122 = .ok (.iconst 1, 1) := by decide +kernel
theorem d_Z_putValue_123 : decode prog_12_method_10_code 123 = .ok (.iadd, 1) := by decide +kernel
theorem d_Z_putValue_124 : decode prog_12_method_10_code 124 = .ok (.goto 7, 3) := by decide +kernel
theorem d_Z_putValue_127 : decode prog_12_method_10_code 127 = .ok (.aload_n 0, 1) := by decide +kernel
theorem d_Z_putValue_128 : decode prog_12_method_10_code 128 = .ok (.getfield 102, 3) := by decide +kernel
theorem d_Z_putValue_131 : decode prog_12_method_10_code 131 = .ok (.putfield 102, 3) := by decide +kernel
theorem d_Z_putValue_134 : decode prog_12_method_10_code 134 = .ok (.iload_n 2, 1) := by decide +kernel
theorem d_Z_putValue_135 : decode prog_12_method_10_code 135 = .ok (.ireturn, 1) := by decide +kernel
def cd_Z_putValue_0 : Nat → g_T := g_tab [(0, tr_cst (.int (8)) 2), (2, tr_ist 2 3), (3, tr_ald 0 4), (4, tr_get 10 19 7), (7, tr_cst (.int (1)) 8), (8, tr_ii (fun x y => x - y) 9), (9, tr_ist 3 10), (10, tr_ild 3 11), (11, tr_if1 (fun x => x < 0) 36 14), (14, tr_ald 0 15), (15, tr_get 10 20 18), (18, tr_ild 3 19), (19, tr_ial 20), (20, tr_ild 1 21), (21, tr_if2 (fun x y => ¬ x = y) 28 24), (24, tr_ild 3 25)]
set_option maxRecDepth 100000 in
theorem ok_Z_putValue_0 : ∀ pc, g_S (J_Z_putValue) pc (cd_Z_putValue_0 pc) := g_tab_ok <|
  List.forall_mem_cons.mpr ⟨so_bipush (by decide) d_Z_putValue_0 rfl,
  List.forall_mem_cons.mpr ⟨so_istore_n d_Z_putValue_2 rfl (Nat.le_of_ble_eq_true rfl) rfl,
  List.forall_mem_cons.mpr ⟨so_aload_n d_Z_putValue_3 rfl rfl,
  List.forall_mem_cons.mpr ⟨so_get d_Z_putValue_4 (rfl : vwCl[10]? = some (R_Z, F_Z, 40)) (Nat.le_of_ble_eq_true rfl) i_Z w_4_117 rfl,
  List.forall_mem_cons.mpr ⟨so_iconst (by decide) d_Z_putValue_7 rfl,
  List.forall_mem_cons.mpr ⟨so_isub d_Z_putValue_8 rfl,
  List.forall_mem_cons.mpr ⟨so_istore_n d_Z_putValue_9 rfl (Nat.le_of_ble_eq_true rfl) rfl,
  List.forall_mem_cons.mpr ⟨so_iload_n d_Z_putValue_10 rfl rfl,
  List.forall_mem_cons.mpr ⟨so_if_lt d_Z_putValue_11 (by decide) rfl,
  List.forall_mem_cons.mpr ⟨so_aload_n d_Z_putValue_14 rfl rfl,
  List.forall_mem_cons.mpr ⟨so_get d_Z_putValue_15 (rfl : vwCl[10]? = some (R_Z, F_Z, 40)) (Nat.le_of_ble_eq_true rfl) i_Z w_4_118 rfl,
  List.forall_mem_cons.mpr ⟨so_iload_n d_Z_putValue_18 rfl rfl,
  List.forall_mem_cons.mpr ⟨so_iaload d_Z_putValue_19 rfl,
  List.forall_mem_cons.mpr ⟨so_iload_n d_Z_putValue_20 rfl rfl,
  List.forall_mem_cons.mpr ⟨so_icmp_ne d_Z_putValue_21 (by decide) rfl,
  List.forall_mem_cons.mpr ⟨so_iload_n d_Z_putValue_24 rfl rfl,
  fun _ h => absurd h List.not_mem_nil⟩⟩⟩⟩⟩⟩⟩⟩⟩⟩⟩⟩⟩⟩⟩⟩
def cd_Z_putValue_1 : Nat → g_T := g_tab [(25, tr_goto 29), (28, tr_ild 2 29), (29, tr_ist 2 30), (30, tr_inc 3 (-1) 33), (33, tr_goto 10), (36, tr_ild 2 37), (37, tr_cst (.int (8)) 39), (39, tr_if2 (fun x y => y ≤ x) 46 42), (42, tr_ild 2 43), (43, tr_goto 64), (46, tr_ald 0 47), (47, tr_get 10 19 50), (50, tr_cst (.int (8)) 52), (52, tr_if2 (fun x y => y ≤ x) 62 55), (55, tr_ald 0 56), (56, tr_get 10 19 59)]
set_option maxRecDepth 100000 in
theorem ok_Z_putValue_1 : ∀ pc, g_S (J_Z_putValue) pc (cd_Z_putValue_1 pc) := g_tab_ok <|
  List.forall_mem_cons.mpr ⟨so_goto d_Z_putValue_25 (by decide),
  List.forall_mem_cons.mpr ⟨so_iload_n d_Z_putValue_28 rfl rfl,
  List.forall_mem_cons.mpr ⟨so_istore_n d_Z_putValue_29 rfl (Nat.le_of_ble_eq_true rfl) rfl,
  List.forall_mem_cons.mpr ⟨so_iinc d_Z_putValue_30 (by decide) (Nat.le_of_ble_eq_true rfl) rfl,
  List.forall_mem_cons.mpr ⟨so_goto d_Z_putValue_33 (by decide),
  List.forall_mem_cons.mpr ⟨so_iload_n d_Z_putValue_36 rfl rfl,
  List.forall_mem_cons.mpr ⟨so_bipush (by decide) d_Z_putValue_37 rfl,
  List.forall_mem_cons.mpr ⟨so_icmp_ge d_Z_putValue_39 (by decide) rfl,
  List.forall_mem_cons.mpr ⟨so_iload_n d_Z_putValue_42 rfl rfl,
  List.forall_mem_cons.mpr ⟨so_goto d_Z_putValue_43 (by decide),
  List.forall_mem_cons.mpr ⟨so_aload_n d_Z_putValue_46 rfl rfl,
  List.forall_mem_cons.mpr ⟨so_get d_Z_putValue_47 (rfl : vwCl[10]? = some (R_Z, F_Z, 40)) (Nat.le_of_ble_eq_true rfl) i_Z w_4_117 rfl,
  List.forall_mem_cons.mpr ⟨so_bipush (by decide) d_Z_putValue_50 rfl,
  List.forall_mem_cons.mpr ⟨so_icmp_ge d_Z_putValue_52 (by decide) rfl,
  List.forall_mem_cons.mpr ⟨so_aload_n d_Z_putValue_55 rfl rfl,
  List.forall_mem_cons.mpr ⟨so_get d_Z_putValue_56 (rfl : vwCl[10]? = some (R_Z, F_Z, 40)) (Nat.le_of_ble_eq_true rfl) i_Z w_4_117 rfl,
  fun _ h => absurd h List.not_mem_nil⟩⟩⟩⟩⟩⟩⟩⟩⟩⟩⟩⟩⟩⟩⟩⟩
def cd_Z_putValue_2 : Nat → g_T := g_tab [(59, tr_goto 64), (62, tr_cst (.int (7)) 64), (64, tr_ist 3 65), (65, tr_ild 3 66), (66, tr_ist 4 68), (68, tr_ild 4 70), (70, tr_if1 (fun x => x ≤ 0) 95 73), (73, tr_ald 0 74), (74, tr_get 10 20 77), (77, tr_ild 4 79), (79, tr_ald 0 80), (80, tr_get 10 20 83), (83, tr_ild 4 85), (85, tr_cst (.int (1)) 86), (86, tr_ii (fun x y => x - y) 87), (87, tr_ial 88)]
set_option maxRecDepth 100000 in
theorem ok_Z_putValue_2 : ∀ pc, g_S (J_Z_putValue) pc (cd_Z_putValue_2 pc) := g_tab_ok <|
  List.forall_mem_cons.mpr ⟨so_goto d_Z_putValue_59 (by decide),
  List.forall_mem_cons.mpr ⟨so_bipush (by decide) d_Z_putValue_62 rfl,
  List.forall_mem_cons.mpr ⟨so_istore_n d_Z_putValue_64 rfl (Nat.le_of_ble_eq_true rfl) rfl,
  List.forall_mem_cons.mpr ⟨so_iload_n d_Z_putValue_65 rfl rfl,
  List.forall_mem_cons.mpr ⟨so_istore d_Z_putValue_66 (Nat.le_of_ble_eq_true rfl) rfl,
  List.forall_mem_cons.mpr ⟨so_iload d_Z_putValue_68 rfl,
  List.forall_mem_cons.mpr ⟨so_if_le d_Z_putValue_70 (by decide) rfl,
  List.forall_mem_cons.mpr ⟨so_aload_n d_Z_putValue_73 rfl rfl,
  List.forall_mem_cons.mpr ⟨so_get d_Z_putValue_74 (rfl : vwCl[10]? = some (R_Z, F_Z, 40)) (Nat.le_of_ble_eq_true rfl) i_Z w_4_118 rfl,
  List.forall_mem_cons.mpr ⟨so_iload d_Z_putValue_77 rfl,
  List.forall_mem_cons.mpr ⟨so_aload_n d_Z_putValue_79 rfl rfl,
  List.forall_mem_cons.mpr ⟨so_get d_Z_putValue_80 (rfl : vwCl[10]? = some (R_Z, F_Z, 40)) (Nat.le_of_ble_eq_true rfl) i_Z w_4_118 rfl,
  List.forall_mem_cons.mpr ⟨so_iload d_Z_putValue_83 rfl,
  List.forall_mem_cons.mpr ⟨so_iconst (by decide) d_Z_putValue_85 rfl,
  List.forall_mem_cons.mpr ⟨so_isub d_Z_putValue_86 rfl,
  List.forall_mem_cons.mpr ⟨so_iaload d_Z_putValue_87 rfl,
  fun _ h => absurd h List.not_mem_nil⟩⟩⟩⟩⟩⟩⟩⟩⟩⟩⟩⟩⟩⟩⟩⟩
def cd_Z_putValue_3 : Nat → g_T := g_tab [(88, tr_ias 89), (89, tr_inc 4 (-1) 92), (92, tr_goto 68), (95, tr_ald 0 96), (96, tr_get 10 20 99), (99, tr_cst (.int (0)) 100), (100, tr_ild 1 101), (101, tr_ias 102), (102, tr_ald 0 103), (103, tr_ild 2 104), (104, tr_cst (.int (8)) 106), (106, tr_if2 (fun x y => ¬ x = y) 127 109), (109, tr_ald 0 110), (110, tr_get 10 19 113), (113, tr_cst (.int (8)) 115), (115, tr_if2 (fun x y => y ≤ x) 127 118)]
set_option maxRecDepth 100000 in
theorem ok_Z_putValue_3 : ∀ pc, g_S (J_Z_putValue) pc (cd_Z_putValue_3 pc) := g_tab_ok <|
  List.forall_mem_cons.mpr ⟨so_iastore d_Z_putValue_88 rfl,
  List.forall_mem_cons.mpr ⟨so_iinc d_Z_putValue_89 (by decide) (Nat.le_of_ble_eq_true rfl) rfl,
  List.forall_mem_cons.mpr ⟨so_goto d_Z_putValue_92 (by decide),
  List.forall_mem_cons.mpr ⟨so_aload_n d_Z_putValue_95 rfl rfl,
  List.forall_mem_cons.mpr ⟨so_get d_Z_putValue_96 (rfl : vwCl[10]? = some (R_Z, F_Z, 40)) (Nat.le_of_ble_eq_true rfl) i_Z w_4_118 rfl,
  List.forall_mem_cons.mpr ⟨so_iconst (by decide) d_Z_putValue_99 rfl,
  List.forall_mem_cons.mpr ⟨so_iload_n d_Z_putValue_100 rfl rfl,
  List.forall_mem_cons.mpr ⟨so_iastore d_Z_putValue_101 rfl,
  List.forall_mem_cons.mpr ⟨so_aload_n d_Z_putValue_102 rfl rfl,
  List.forall_mem_cons.mpr ⟨so_iload_n d_Z_putValue_103 rfl rfl,
  List.forall_mem_cons.mpr ⟨so_bipush (by decide) d_Z_putValue_104 rfl,
  List.forall_mem_cons.mpr ⟨so_icmp_ne d_Z_putValue_106 (by decide) rfl,
  List.forall_mem_cons.mpr ⟨so_aload_n d_Z_putValue_109 rfl rfl,
  List.forall_mem_cons.mpr ⟨so_get d_Z_putValue_110 (rfl : vwCl[10]? = some (R_Z, F_Z, 40)) (Nat.le_of_ble_eq_true rfl) i_Z w_4_117 rfl,
  List.forall_mem_cons.mpr ⟨so_bipush (by decide) d_Z_putValue_113 rfl,
  List.forall_mem_cons.mpr ⟨so_icmp_ge d_Z_putValue_115 (by decide) rfl,
  fun _ h => absurd h List.not_mem_nil⟩⟩⟩⟩⟩⟩⟩⟩⟩⟩⟩⟩⟩⟩⟩⟩
def cd_Z_putValue_4 : Nat → g_T := g_tab [(118, tr_ald 0 119), (119, tr_get 10 19 122), (122, tr_cst (.int (1)) 123), (123, tr_ii (fun x y => x + y) 124), (124, tr_goto 131), (127, tr_ald 0 128), (128, tr_get 10 19 131), (131, tr_put 10 19 (.int) 134), (134, tr_ild 2 135), (135, tr_ri)]
set_option maxRecDepth 100000 in
theorem ok_Z_putValue_4 : ∀ pc, g_S (J_Z_putValue) pc (cd_Z_putValue_4 pc) := g_tab_ok <|
  List.forall_mem_cons.mpr ⟨so_aload_n d_Z_putValue_118 rfl rfl,
  List.forall_mem_cons.mpr ⟨so_get d_Z_putValue_119 (rfl : vwCl[10]? = some (R_Z, F_Z, 40)) (Nat.le_of_ble_eq_true rfl) i_Z w_4_117 rfl,
  List.forall_mem_cons.mpr ⟨so_iconst (by decide) d_Z_putValue_122 rfl,
  List.forall_mem_cons.mpr ⟨so_iadd d_Z_putValue_123 rfl,
  List.forall_mem_cons.mpr ⟨so_goto d_Z_putValue_124 (by decide),
  List.forall_mem_cons.mpr ⟨so_aload_n d_Z_putValue_127 rfl rfl,
  List.forall_mem_cons.mpr ⟨so_get d_Z_putValue_128 (rfl : vwCl[10]? = some (R_Z, F_Z, 40)) (Nat.le_of_ble_eq_true rfl) i_Z w_4_117 rfl,
  List.forall_mem_cons.mpr ⟨so_put ft_Z d_Z_putValue_131 (rfl : vwCl[10]? = some (R_Z, F_Z, 40)) (Nat.le_of_ble_eq_true rfl) i_Z w_4_117 tk_Z n_Z rfl rfl rfl,
  List.forall_mem_cons.mpr ⟨so_iload_n d_Z_putValue_134 rfl rfl,
  List.forall_mem_cons.mpr ⟨so_iret d_Z_putValue_135 rfl,
  fun _ h => absurd h List.not_mem_nil⟩⟩⟩⟩⟩⟩⟩⟩⟩⟩
def cd_Z_putValue : Nat → g_T := g_chk [(24, cd_Z_putValue_0), (56, cd_Z_putValue_1), (87, cd_Z_putValue_2), (115, cd_Z_putValue_3), (135, cd_Z_putValue_4)]
theorem ok_Z_putValue : ∀ pc, g_S (J_Z_putValue) pc (cd_Z_putValue pc) := g_chk_ok <|
  List.forall_mem_cons.mpr ⟨ok_Z_putValue_0,
  List.forall_mem_cons.mpr ⟨ok_Z_putValue_1,
  List.forall_mem_cons.mpr ⟨ok_Z_putValue_2,
  List.forall_mem_cons.mpr ⟨ok_Z_putValue_3,
  List.forall_mem_cons.mpr ⟨ok_Z_putValue_4,
  fun _ h => absurd h List.not_mem_nil⟩⟩⟩⟩⟩
abbrev J_Z_sayRows : g_J := (y_Z_sayRows, prog_12_method_11_code, 11, none, (3, 66), [], none)
theorem d_Z_sayRows_0 : decode prog_12_method_11_code 0 = .ok (.iconst 0, 1) := by decide +kernel
theorem d_Z_sayRows_1 : decode prog_12_method_11_code 1 = .ok (.istore_n 1, 1) := by decide +kernel
theorem d_Z_sayRows_2 : decode prog_12_method_11_code 2 = .ok (.iconst 0, 1) := by decide +kernel
theorem d_Z_sayRows_3 : decode prog_12_method_11_code 3 = .ok (.istore_n 2, 1) := by decide +kernel
theorem d_Z_sayRows_4 : decode prog_12_method_11_code 4 = .ok (.iconst 0, 1) := by decide +kernel
theorem d_Z_sayRows_5 : decode prog_12_method_11_code 5 = .ok (.istore_n 3, 1) := by decide +kernel
theorem d_Z_sayRows_6 : decode prog_12_method_11_code 6 = .ok (.iconst 0, 1) := by decide +kernel
theorem d_Z_sayRows_7 : decode prog_12_method_11_code 7 = .ok (.istore 4, 2) := by decide +kernel
theorem d_Z_sayRows_9 : decode prog_12_method_11_code 9 = .ok (.iconst 0, 1) := by decide +kernel
theorem d_Z_sayRows_10 : decode prog_12_method_11_code 10 = .ok (.istore 5, 2) := by decide +kernel
theorem d_Z_sayRows_12 : decode prog_12_method_11_code 12 = .ok (.aload_n 0, 1) := by decide +kernel
theorem d_Z_sayRows_13 : decode prog_12_method_11_code 13 = .ok (.getfield 105, 3) := by decide +kernel
theorem d_Z_sayRows_16 : decode prog_12_method_11_code 16 = .ok (.istore 6, 2) := by decide +kernel
theorem d_Z_sayRows_18 : decode prog_12_method_11_code 18 = .ok (.aload_n 0, 1) := by decide +kernel
theorem d_Z_sayRows_19 : decode prog_12_method_11_code 19 = .ok (.iconst 0, 1) := by decide +kernel
theorem d_Z_sayRows_20 : decode prog_12_method_11_code 20 = .ok (.putfield 102, 3) := by decide +kernel
theorem d_Z_sayRows_23 : decode prog_12_method_11_code 23 = .ok (.iconst 0, 1) := by decide +kernel
theorem d_Z_sayRows_24 : decode prog_12_method_11_code 24 = .ok (.istore 7, 2) := by decide +kernel
theorem d_Z_sayRows_26 : decode prog_12_method_11_code 26 = .ok (.iload 7, 2) := by decide +kernel
theorem d_Z_sayRows_28 : decode prog_12_method_11_code 28 = .ok (.aload_n 0, 1) := by decide +kernel
theorem d_Z_sayRows_29 : decode prog_12_method_11_code 29 = .ok (.getfield 108, 3) := by decide +kernel
theorem d_Z_sayRows_32 : decode prog_12_method_11_code 32 = .ok (.if_icmp .ge 333, 3) := by decide +kernel
theorem d_Z_sayRows_35 : decode prog_12_method_11_code 35 = .ok (.aload_n 0, 1) := by decide +kernel
theorem d_Z_sayRows_36 : decode prog_12_method_11_code 36 = .ok (.getfield 20, 3) := by decide +kernel
theorem d_Z_sayRows_39 : decode prog_12_method_11_code 39 = .ok (.iload 7, 2) := by decide +kernel
theorem d_Z_sayRows_41 : decode prog_12_method_11_code 41 = .ok (.iaload, 1) := by decide +kernel
theorem d_Z_sayRows_42 : decode prog_12_method_11_code 42 = .ok (.istore 8, 2) := by decide +kernel
theorem d_Z_sayRows_44 : decode prog_12_method_11_code 44 = .ok (.aload_n 0, 1) := by decide +kernel
theorem d_Z_sayRows_45 : decode prog_12_method_11_code 45 = .ok (.getfield 17, 3) := by decide +kernel
theorem d_Z_sayRows_48 : decode prog_12_method_11_code 48 = .ok (.iload 7, 2) := by decide +kernel
theorem d_Z_sayRows_50 : decode prog_12_method_11_code 50 = .ok (.iaload, 1) := by decide +kernel
theorem d_Z_sayRows_51 : decode prog_12_method_11_code 51 = .ok (.ifCond .ne 81, 3) := by decide +kernel
theorem d_Z_sayRows_54 : decode prog_12_method_11_code 54 = .ok (.iconst 1, 1) := by decide +kernel
theorem d_Z_sayRows_55 : decode prog_12_method_11_code 55 = .ok (.istore 9, 2) := by decide +kernel
theorem d_Z_sayRows_57 : decode prog_12_method_11_code 57 = .ok (.iconst 0, 1) := by decide +kernel
theorem d_Z_sayRows_58 : decode prog_12_method_11_code 58 = .ok (.istore 10, 2) := by decide +kernel
theorem d_Z_sayRows_60 : decode prog_12_method_11_code 60 = .ok (.iload 10, 2) := by decide +kernel
theorem d_Z_sayRows_62 : decode prog_12_method_11_code 62 = .ok (.iconst 4, 1) := by decide +kernel
theorem d_Z_sayRows_63 : decode prog_12_method_11_code 63 = .ok (.if_icmp .ge 51, 3) := by decide +kernel
theorem d_Z_sayRows_66 : decode prog_12_method_11_code 66 = .ok (.iload 7, 2) := by decide +kernel
theorem d_Z_sayRows_68 : decode prog_12_method_11_code 68 = .ok (.iload 10, 2) := by decide +kernel
theorem d_Z_sayRows_70 : decode prog_12_method_11_code 70 = .ok (.iadd, 1) := by decide +kernel
theorem d_Z_sayRows_71 : decode prog_12_method_11_code 71 = .ok (.aload_n 0, 1) := by decide +kernel
theorem d_Z_sayRows_72 : decode prog_12_method_11_code 72 = .ok (.getfield 108, 3) := by decide +kernel
theorem d_Z_sayRows_75 : decode prog_12_method_11_code 75 = .ok (.if_icmp .ge 39, 3) := by decide +kernel
theorem d_Z_sayRows_78 : decode prog_12_method_11_code 78 = .ok (.aload_n 0, 1) := by decide +kernel
theorem d_Z_sayRows_79 : decode prog_12_method_11_code 79 = .ok (.getfield 17, 3) := by decide +kernel
theorem d_Z_sayRows_82 : decode prog_12_method_11_code 82 = .ok (.iload 7, 2) := by decide +kernel
theorem d_Z_sayRows_84 : decode prog_12_method_11_code 84 = .ok (.iload 10, 2) := by decide +kernel
theorem d_Z_sayRows_86 : decode prog_12_method_11_code 86 = .ok (.iadd, 1) := by decide +kernel
theorem d_Z_sayRows_87 : decode prog_12_method_11_code 87 = .ok (.iaload, 1) := by decide +kernel
theorem d_Z_sayRows_88 : decode prog_12_method_11_code 88 = .ok (.ifCond .ne 26, 3) := by decide +kernel
theorem d_Z_sayRows_91 : decode prog_12_method_11_code 91 = .ok (.iconst 2, 1) := by decide +kernel
theorem d_Z_sayRows_92 : decode prog_12_method_11_code 92 = .ok (.iload 9, 2) := by decide +kernel
theorem d_Z_sayRows_94 : decode prog_12_method_11_code 94 = .ok (.imul, 1) := by decide +kernel
theorem d_Z_sayRows_95 : decode prog_12_method_11_code 95 = .ok (.aload_n 0, 1) := by decide +kernel
theorem d_Z_sayRows_96 : decode prog_12_method_11_code 96 = .ok (.getfield 20, 3) := by decide +kernel
theorem d_Z_sayRows_99 : decode prog_12_method_11_code 99 = .ok (.iload 7, 2) := by decide +kernel
theorem d_Z_sayRows_101 : decode prog_12_method_11_code 101 = .ok (.iload 10, 2) := by decide +kernel
theorem d_Z_sayRows_103 : decode prog_12_method_11_code 103 = .ok (.iadd, 1) := by decide +kernel
theorem d_Z_sayRows_104 : decode prog_12_method_11_code 104 = .ok (.iaload, 1) := by decide +kernel
theorem d_Z_sayRows_105 : decode prog_12_method_11_code 105 = .ok (.iadd, 1) := by decide +kernel
theorem d_Z_sayRows_106 : decode prog_12_method_11_code 106 = .ok (.istore 9, 2) := by decide +kernel
theorem d_Z_sayRows_108 : decode prog_12_method_11_code 108 = .ok (.iinc 10 1, 3) := by decide +kernel
theorem d_Z_sayRows_111 : decode prog_12_method_11_code 111 = .ok (.goto (-51), 3) := by decide +kernel
theorem d_Z_sayRows_114 : decode prog_12_method_11_code 114 = .ok (.aload_n 0, 1) := by decide +kernel
theorem d_Z_sayRows_115 : decode prog_12_method_11_code 115 = .ok (.iload 9, 2) := by decide +kernel
theorem d_Z_sayRows_117 : decode prog_12_method_11_code 117 = .ok (.invokevirtual 90, 3) := by decide +kernel
theorem d_Z_sayRows_120 : decode prog_12_method_11_code 120 = .ok (.iload 7, 2) := by decide +kernel
theorem d_Z_sayRows_122 : decode prog_12_method_11_code 122 = .ok (.iload 10, 2) := by decide +kernel
theorem d_Z_sayRows_124 : decode prog_12_method_11_code 124 = .ok (.iconst 1, 1) := by decide +kernel
theorem d_Z_sayRows_125 : decode prog_12_method_11_code 125 = .ok (.isub, 1) := by decide +kernel
theorem d_Z_sayRows_126 : decode prog_12_method_11_code 126 = .ok (.iadd, 1) := by decide +kernel
theorem d_Z_sayRows_127 : decode prog_12_method_11_code 127 = .ok (.istore 7, 2) := by decide +kernel
theorem d_Z_sayRows_129 : decode prog_12_method_11_code 129 = .ok (.goto 230, 3) := by decide +kernel
theorem d_Z_sayRows_132 : decode prog_12_method_11_code 132 = .ok (.aload_n 0, 1) := by decide +kernel
theorem d_Z_sayRows_133 : decode prog_12_method_11_code 133 = .ok (.getfield 17, 3) := by decide +kernel
theorem d_Z_sayRows_136 : decode prog_12_method_11_code 136 = .ok (.iload 7, 2) := by decide +kernel
theorem d_Z_sayRows_138 : decode prog_12_method_11_code 138 = .ok (.iaload, 1) := by decide +kernel
theorem d_Z_sayRows_139 : decode prog_12_method_11_code 139 = .ok (.iconst 1, 1) := by decide +kernel
theorem d_Z_sayRows_140 : decode prog_12_method_11_code 140 = .ok (.if_icmp .ne 23, 3) := by decide +kernel
theorem d_Z_sayRows_143 : decode prog_12_method_11_code 143 = .ok (.aload_n 0, 1) := by decide +kernel
theorem d_Z_sayRows_144 : decode prog_12_method_11_code 144 = .ok (.bipush 32, 2) := by decide +kernel
theorem d_Z_sayRows_146 : decode prog_12_method_11_code 146 = .ok (.invokevirtual 90, 3) := by decide +kernel
theorem d_Z_sayRows_149 : decode prog_12_method_11_code 149 = .ok (.aload_n 0, 1) := by decide +kernel
theorem d_Z_sayRows_150 : decode prog_12_method_11_code 150 = .ok (.iload 8, 2) := by decide +kernel
theorem d_Z_sayRows_152 : decode prog_12_method_11_code 152 = .ok (.iload_n 1, 1) := by decide +kernel
theorem d_Z_sayRows_153 : decode prog_12_method_11_code 153 = .ok (.isub, 1) := by decide +kernel
theorem d_Z_sayRows_154 : decode prog_12_method_11_code 154 = .ok (.invokevirtual 111, 3) := by decide +kernel
theorem d_Z_sayRows_157 : decode prog_12_method_11_code 157 = .ok (.iload 8, 2) := by decide +kernel
theorem d_Z_sayRows_159 : decode prog_12_method_11_code 159 = .ok (.istore_n 1, 1) := by decide +kernel
theorem d_Z_sayRows_160 : decode prog_12_method_11_code 160 = .ok (.goto 199, 3) := by decide +kernel
theorem d_Z_sayRows_163 : decode prog_12_method_11_code 163 = .ok (.aload_n 0, 1) := by decide +kernel
theorem d_Z_sayRows_164 : decode prog_12_method_11_code 164 = .ok (.getfield 17, 3) := by decide +kernel
theorem d_Z_sayRows_167 : decode prog_12_method_11_code 167 = .ok (.iload 7, 2) := by decide +kernel
theorem d_Z_sayRows_169 : decode prog_12_method_11_code 169 = .ok (.iaload, 1) := by decide +kernel
theorem d_Z_sayRows_170 : decode prog_12_method_11_code 170 = .ok (.iconst 2, 1) := by decide +kernel
theorem d_Z_sayRows_171 : decode prog_12_method_11_code 171 = .ok (.if_icmp .ne 58, 3) := by decide +kernel
theorem d_Z_sayRows_174 : decode prog_12_method_11_code 174 = .ok (.iload 8, 2) := by decide +kernel
theorem d_Z_sayRows_176 : decode prog_12_method_11_code 176 = .ok (.iload_n 2, 1) := by decide +kernel
theorem d_Z_sayRows_177 : decode prog_12_method_11_code 177 = .ok (.isub, 1) := by decide +kernel
theorem d_Z_sayRows_178 : decode prog_12_method_11_code 178 = .ok (.iload_n 3, 1) := by decide +kernel
theorem d_Z_sayRows_179 : decode prog_12_method_11_code 179 = .ok (.if_icmp .ne 7, 3) := by decide +kernel
theorem d_Z_sayRows_182 : decode prog_12_method_11_code 182 = .ok (.iconst 1, 1) := by decide +kernel
theorem d_Z_sayRows_183 : decode prog_12_method_11_code 183 = .ok (.goto 4, 3) := by decide +kernel
theorem d_Z_sayRows_186 : decode prog_12_method_11_code 186 = .ok (.iconst 0, 1) := by decide +kernel
theorem d_Z_sayRows_187 : decode prog_12_method_11_code 187 = .ok (.istore 9, 2) := by decide +kernel
theorem d_Z_sayRows_189 : decode prog_12_method_11_code 189 = .ok (.aload_n 0, 1) := by decide +kernel
theorem d_Z_sayRows_190 : decode prog_12_method_11_code 190 = .ok (.iload 9, 2) := by decide +kernel
theorem d_Z_sayRows_192 : decode prog_12_method_11_code 192 = .ok (.ifCond .eq 8, 3) := by decide +kernel
theorem d_Z_sayRows_195 : decode prog_12_method_11_code 195 = .ok (.bipush 64, 2) := by decide +kernel
theorem d_Z_sayRows_197 : decode prog_12_method_11_code 197 = .ok (.goto 5, 3) := by decide +kernel
theorem d_Z_sayRows_200 : decode prog_12_method_11_code 200 = .ok (.bipush 65, 2) := by decide +kernel
theorem d_Z_sayRows_202 : decode prog_12_method_11_code 202 = .ok (.invokevirtual 90, 3) := by decide +kernel
theorem d_Z_sayRows_205 : decode prog_12_method_11_code 205 = .ok (.iload 9, 2) := by decide +kernel
theorem d_Z_sayRows_207 : decode prog_12_method_11_code 207 = .ok (.ifCond .ne 11, 3) := by decide +kernel
theorem d_Z_sayRows_210 : decode prog_12_method_11_code 210 = .ok (.aload_n 0, 1) := by decide +kernel
theorem d_Z_sayRows_211 : decode prog_12_method_11_code 211 = .ok (.iload 8, 2) := by decide +kernel
theorem d_Z_sayRows_213 : decode prog_12_method_11_code 213 = .ok (.iload_n 2, 1) := by decide +kernel
theorem d_Z_sayRows_214 : decode prog_12_method_11_code 214 = .ok (.isub, 1) := by decide +kernel
theorem d_Z_sayRows_215 : decode prog_12_method_11_code 215 = .ok (.invokevirtual 111, 3) := by decide +kernel
theorem d_Z_sayRows_218 : decode prog_12_method_11_code 218 = .ok (.iload 8, 2) := by decide +kernel
theorem d_Z_sayRows_220 : decode prog_12_method_11_code 220 = .ok (.iload_n 2, 1) := by decide +kernel
theorem d_Z_sayRows_221 : decode prog_12_method_11_code 221 = .ok (.isub, 1) := by decide +kernel
theorem d_Z_sayRows_222 : decode prog_12_method_11_code 222 = .ok (.istore_n 3, 1) := by decide +kernel
theorem d_Z_sayRows_223 : decode prog_12_method_11_code 223 = .ok (.iload 8, 2) := by decide +kernel
theorem d_Z_sayRows_225 : decode prog_12_method_11_code 225 = .ok (.istore_n 2, 1) := by decide +kernel
theorem d_Z_sayRows_226 : decode prog_12_method_11_code 226 = .ok (.goto 133, 3) := by decide +kernel
theorem d_Z_sayRows_229 : decode prog_12_method_11_code 229 = .ok (.aload_n 0, 1) := by decide +kernel
theorem d_Z_sayRows_230 : decode prog_12_method_11_code 230 = .ok (.getfield 17, 3) := by decide +kernel
theorem d_Z_sayRows_233 : decode prog_12_method_11_code 233 = .ok (.iload 7, 2) := by decide +kernel
theorem d_Z_sayRows_235 : decode prog_12_method_11_code 235 = .ok (.iaload, 1) := by decide +kernel
theorem d_Z_sayRows_236 : decode prog_12_method_11_code 236 = .ok (.iconst 3, 1) := by decide +kernel
theorem d_Z_sayRows_237 : decode prog_12_method_11_code 237 = .ok (.if_icmp .ne 100, 3) := by decide +kernel
theorem d_Z_sayRows_240 : decode prog_12_method_11_code 240 = .ok (.iload 8, 2) := by decide +kernel
theorem d_Z_sayRows_242 : decode prog_12_method_11_code 242 = .ok (.iload 4, 2) := by decide +kernel
theorem d_Z_sayRows_244 : decode prog_12_method_11_code 244 = .ok (.isub, 1) := by decide +kernel
theorem d_Z_sayRows_245 : decode prog_12_method_11_code 245 = .ok (.iload 5, 2) := by decide +kernel
theorem d_Z_sayRows_247 : decode prog_12_method_11_code 247 = .ok (.if_icmp .ne 7, 3) := by decide +kernel
theorem d_Z_sayRows_250 : decode prog_12_method_11_code 250 = .ok (.iconst 1, 1) := by decide +kernel
theorem d_Z_sayRows_251 : decode prog_12_method_11_code 251 = .ok (.goto 4, 3) := by decide +kernel
theorem d_Z_sayRows_254 : decode prog_12_method_11_code 254 = .ok (.iconst 0, 1) := by decide +kernel
theorem d_Z_sayRows_255 : decode prog_12_method_11_code 255 = .ok (.istore 9, 2) := by decide +kernel
theorem d_Z_sayRows_257 : decode prog_12_method_11_code 257 = .ok (.aload_n 0, 1) := by decide +kernel
theorem d_Z_sayRows_258 : decode prog_12_method_11_code 258 = .ok (.aload_n 0, 1) := by decide +kernel
theorem d_Z_sayRows_259 : decode prog_12_method_11_code 259 = .ok (.getfield 23, 3) := by decide +kernel
theorem d_Z_sayRows_262 : decode prog_12_method_11_code 262 = .ok (.iload 7, 2) := by decide +kernel
theorem d_Z_sayRows_264 : decode prog_12_method_11_code 264 = .ok (.iaload, 1) := by decide +kernel
theorem d_Z_sayRows_265 : decode prog_12_method_11_code 265 = .ok (.invokevirtual 114, 3) := by decide +kernel
theorem d_Z_sayRows_268 : decode prog_12_method_11_code 268 = .ok (.istore 10, 2) := by decide +kernel
theorem d_Z_sayRows_270 : decode prog_12_method_11_code 270 = .ok (.aload_n 0, 1) := by decide +kernel
theorem d_Z_sayRows_271 : decode prog_12_method_11_code 271 = .ok (.bipush 96, 2) := by decide +kernel
theorem d_Z_sayRows_273 : decode prog_12_method_11_code 273 = .ok (.iload 9, 2) := by decide +kernel
theorem d_Z_sayRows_275 : decode prog_12_method_11_code 275 = .ok (.ifCond .eq 7, 3) := by decide +kernel
theorem d_Z_sayRows_278 : decode prog_12_method_11_code 278 = .ok (.iconst 0, 1) := by decide +kernel
theorem d_Z_sayRows_279 : decode prog_12_method_11_code 279 = .ok (.goto 5, 3) := by decide +kernel
theorem d_Z_sayRows_282 : decode prog_12_method_11_code 282 = .ok (.bipush 16, 2) := by decide +kernel
theorem d_Z_sayRows_284 : decode prog_12_method_11_code 284 = .ok (.iadd, 1) := by decide +kernel
theorem d_Z_sayRows_285 : decode prog_12_method_11_code 285 = .ok (.iload 10, 2) := by decide +kernel
theorem d_Z_sayRows_287 : decode prog_12_method_11_code 287 = .ok (.iadd, 1) := by decide +kernel
theorem d_Z_sayRows_288 : decode prog_12_method_11_code 288 = .ok (.invokevirtual 90, 3) := by decide +kernel
theorem d_Z_sayRows_291 : decode prog_12_method_11_code 291 = .ok (.iload 9, 2) := by decide +kernel
theorem d_Z_sayRows_293 : decode prog_12_method_11_code 293 = .ok (.ifCond .ne 12, 3) := by decide +kernel
theorem d_Z_sayRows_296 : decode prog_12_method_11_code 296 = .ok (.aload_n 0, 1) := by decide +kernel
theorem d_Z_sayRows_297 : decode prog_12_method_11_code 297 = .ok (.iload 8, 2) := by decide +kernel
theorem d_Z_sayRows_299 : decode prog_12_method_11_code 299 = .ok (.iload 4, 2) := by decide +kernel
theorem d_Z_sayRows_301 : decode prog_12_method_11_code 301 = .ok (.isub, 1) := by decide +kernel
theorem d_Z_sayRows_302 : decode prog_12_method_11_code 302 = .ok (.invokevirtual 111, 3) := by decide +kernel
theorem d_Z_sayRows_305 : decode prog_12_method_11_code 305 = .ok (.iload 10, 2) := by decide +kernel
theorem d_Z_sayRows_307 : decode prog_12_method_11_code 307 = .ok (.bipush 8, 2) := by decide +kernel
theorem d_Z_sayRows_309 : decode prog_12_method_11_code 309 = .ok (.if_icmp .ne 14, 3) := by decide +kernel
theorem d_Z_sayRows_312 : decode prog_12_method_11_code 312 = .ok (.aload_n 0, 1) := by decide +kernel
theorem d_Z_sayRows_313 : decode prog_12_method_11_code 313 = .ok (.aload_n 0, 1) := by decide +kernel
theorem d_Z_sayRows_314 : decode prog_12_method_11_code 314 = .ok (.getfield 23, 3) := by decide +kernel
theorem d_Z_sayRows_317 : decode prog_12_method_11_code 317 = .ok (.iload 7, 2) := by decide +kernel
theorem d_Z_sayRows_319 : decode prog_12_method_11_code 319 = .ok (.iaload, 1) := by decide +kernel
theorem d_Z_sayRows_320 : decode prog_12_method_11_code 320 = .ok (.invokevirtual 117, 3) := by decide +kernel
theorem d_Z_sayRows_323 : decode prog_12_method_11_code 323 = .ok (.iload 8, 2) := by decide +kernel
theorem d_Z_sayRows_325 : decode prog_12_method_11_code 325 = .ok (.iload 4, 2) := by decide +kernel
theorem d_Z_sayRows_327 : decode prog_12_method_11_code 327 = .ok (.isub, 1) := by decide +kernel
theorem d_Z_sayRows_328 : decode prog_12_method_11_code 328 = .ok (.istore 5, 2) := by decide +kernel
theorem d_Z_sayRows_330 : decode prog_12_method_11_code 330 = .ok (.iload 8, 2) := by decide +kernel
theorem d_Z_sayRows_332 : decode prog_12_method_11_code 332 = .ok (.istore 4, 2) := by decide +kernel
theorem d_Z_sayRows_334 : decode prog_12_method_11_code 334 = .ok (.goto 25, 3) := by decide +kernel
theorem d_Z_sayRows_337 : decode prog_12_method_11_code 337 = .ok (.aload_n 0, 1) := by decide +kernel
theorem d_Z_sayRows_338 : decode prog_12_method_11_code 338 = .ok (.sipush 128, 3) := by decide +kernel
theorem d_Z_sayRows_341 : decode prog_12_method_11_code 341 = .ok (.invokevirtual 90, 3) := by decide +kernel
theorem d_Z_sayRows_344 : decode prog_12_method_11_code 344 = .ok (.aload_n 0, 1) := by decide +kernel
theorem d_Z_sayRows_345 : decode prog_12_method_11_code 345 = .ok (.iload 8, 2) := by decide +kernel
theorem d_Z_sayRows_347 : decode prog_12_method_11_code 347 = .ok (.i2l, 1) := by decide +kernel
theorem d_Z_sayRows_348 : decode prog_12_method_11_code 348 = .ok (.iload 6, 2) := by decide +kernel
theorem d_Z_sayRows_350 : decode prog_12_method_11_code 350 = .ok (.i2l, 1) := by decide +kernel
theorem d_Z_sayRows_351 : decode prog_12_method_11_code 351 = .ok (.lsub, 1) := by decide +kernel
theorem d_Z_sayRows_352 : decode prog_12_method_11_code 352 = .ok (.invokevirtual 98, 3) := by decide +kernel
theorem d_Z_sayRows_355 : decode prog_12_method_11_code 355 = .ok (.iload 8, 2) := by decide +kernel
theorem d_Z_sayRows_357 : decode prog_12_method_11_code 357 = .ok (.istore 6, 2) := by decide +kernel
theorem d_Z_sayRows_359 : decode prog_12_method_11_code 359 = .ok (.iinc 7 1, 3) := by decide +kernel
theorem d_Z_sayRows_362 : decode prog_12_method_11_code 362 = .ok (.goto (-336), 3) := by decide +kernel
theorem d_Z_sayRows_365 : decode prog_12_method_11_code 365 = .ok (.return_, 1) := by decide +kernel
def cd_Z_sayRows_0 : Nat → g_T := g_tab [(0, tr_cst (.int (0)) 1), (1, tr_ist 1 2), (2, tr_cst (.int (0)) 3), (3, tr_ist 2 4), (4, tr_cst (.int (0)) 5), (5, tr_ist 3 6), (6, tr_cst (.int (0)) 7), (7, tr_ist 4 9), (9, tr_cst (.int (0)) 10), (10, tr_ist 5 12), (12, tr_ald 0 13), (13, tr_get 10 7 16), (16, tr_ist 6 18), (18, tr_ald 0 19), (19, tr_cst (.int (0)) 20), (20, tr_put 10 19 (.int) 23)]
set_option maxRecDepth 100000 in
theorem ok_Z_sayRows_0 : ∀ pc, g_S (J_Z_sayRows) pc (cd_Z_sayRows_0 pc) := g_tab_ok <|
  List.forall_mem_cons.mpr ⟨so_iconst (by decide) d_Z_sayRows_0 rfl,
  List.forall_mem_cons.mpr ⟨so_istore_n d_Z_sayRows_1 rfl (Nat.le_of_ble_eq_true rfl) rfl,
  List.forall_mem_cons.mpr ⟨so_iconst (by decide) d_Z_sayRows_2 rfl,
  List.forall_mem_cons.mpr ⟨so_istore_n d_Z_sayRows_3 rfl (Nat.le_of_ble_eq_true rfl) rfl,
  List.forall_mem_cons.mpr ⟨so_iconst (by decide) d_Z_sayRows_4 rfl,
  List.forall_mem_cons.mpr ⟨so_istore_n d_Z_sayRows_5 rfl (Nat.le_of_ble_eq_true rfl) rfl,
  List.forall_mem_cons.mpr ⟨so_iconst (by decide) d_Z_sayRows_6 rfl,
  List.forall_mem_cons.mpr ⟨so_istore d_Z_sayRows_7 (Nat.le_of_ble_eq_true rfl) rfl,
  List.forall_mem_cons.mpr ⟨so_iconst (by decide) d_Z_sayRows_9 rfl,
  List.forall_mem_cons.mpr ⟨so_istore d_Z_sayRows_10 (Nat.le_of_ble_eq_true rfl) rfl,
  List.forall_mem_cons.mpr ⟨so_aload_n d_Z_sayRows_12 rfl rfl,
  List.forall_mem_cons.mpr ⟨so_get d_Z_sayRows_13 (rfl : vwCl[10]? = some (R_Z, F_Z, 40)) (Nat.le_of_ble_eq_true rfl) i_Z w_4_105 rfl,
  List.forall_mem_cons.mpr ⟨so_istore d_Z_sayRows_16 (Nat.le_of_ble_eq_true rfl) rfl,
  List.forall_mem_cons.mpr ⟨so_aload_n d_Z_sayRows_18 rfl rfl,
  List.forall_mem_cons.mpr ⟨so_iconst (by decide) d_Z_sayRows_19 rfl,
  List.forall_mem_cons.mpr ⟨so_put ft_Z d_Z_sayRows_20 (rfl : vwCl[10]? = some (R_Z, F_Z, 40)) (Nat.le_of_ble_eq_true rfl) i_Z w_4_117 tk_Z n_Z rfl rfl rfl,
  fun _ h => absurd h List.not_mem_nil⟩⟩⟩⟩⟩⟩⟩⟩⟩⟩⟩⟩⟩⟩⟩⟩
def cd_Z_sayRows_1 : Nat → g_T := g_tab [(23, tr_cst (.int (0)) 24), (24, tr_ist 7 26), (26, tr_ild 7 28), (28, tr_ald 0 29), (29, tr_get 10 5 32), (32, tr_if2 (fun x y => y ≤ x) 365 35), (35, tr_ald 0 36), (36, tr_get 10 9 39), (39, tr_ild 7 41), (41, tr_ial 42), (42, tr_ist 8 44), (44, tr_ald 0 45), (45, tr_get 10 8 48), (48, tr_ild 7 50), (50, tr_ial 51), (51, tr_if1 (fun x => ¬ x = 0) 132 54)]
set_option maxRecDepth 100000 in
theorem ok_Z_sayRows_1 : ∀ pc, g_S (J_Z_sayRows) pc (cd_Z_sayRows_1 pc) := g_tab_ok <|
  List.forall_mem_cons.mpr ⟨so_iconst (by decide) d_Z_sayRows_23 rfl,
  List.forall_mem_cons.mpr ⟨so_istore d_Z_sayRows_24 (Nat.le_of_ble_eq_true rfl) rfl,
  List.forall_mem_cons.mpr ⟨so_iload d_Z_sayRows_26 rfl,
  List.forall_mem_cons.mpr ⟨so_aload_n d_Z_sayRows_28 rfl rfl,
  List.forall_mem_cons.mpr ⟨so_get d_Z_sayRows_29 (rfl : vwCl[10]? = some (R_Z, F_Z, 40)) (Nat.le_of_ble_eq_true rfl) i_Z w_4_103 rfl,
  List.forall_mem_cons.mpr ⟨so_icmp_ge d_Z_sayRows_32 (by decide) rfl,
  List.forall_mem_cons.mpr ⟨so_aload_n d_Z_sayRows_35 rfl rfl,
  List.forall_mem_cons.mpr ⟨so_get d_Z_sayRows_36 (rfl : vwCl[10]? = some (R_Z, F_Z, 40)) (Nat.le_of_ble_eq_true rfl) i_Z w_4_107 rfl,
  List.forall_mem_cons.mpr ⟨so_iload d_Z_sayRows_39 rfl,
  List.forall_mem_cons.mpr ⟨so_iaload d_Z_sayRows_41 rfl,
  List.forall_mem_cons.mpr ⟨so_istore d_Z_sayRows_42 (Nat.le_of_ble_eq_true rfl) rfl,
  List.forall_mem_cons.mpr ⟨so_aload_n d_Z_sayRows_44 rfl rfl,
  List.forall_mem_cons.mpr ⟨so_get d_Z_sayRows_45 (rfl : vwCl[10]? = some (R_Z, F_Z, 40)) (Nat.le_of_ble_eq_true rfl) i_Z w_4_106 rfl,
  List.forall_mem_cons.mpr ⟨so_iload d_Z_sayRows_48 rfl,
  List.forall_mem_cons.mpr ⟨so_iaload d_Z_sayRows_50 rfl,
  List.forall_mem_cons.mpr ⟨so_if_ne d_Z_sayRows_51 (by decide) rfl,
  fun _ h => absurd h List.not_mem_nil⟩⟩⟩⟩⟩⟩⟩⟩⟩⟩⟩⟩⟩⟩⟩⟩
def cd_Z_sayRows_2 : Nat → g_T := g_tab [(54, tr_cst (.int (1)) 55), (55, tr_ist 9 57), (57, tr_cst (.int (0)) 58), (58, tr_ist 10 60), (60, tr_ild 10 62), (62, tr_cst (.int (4)) 63), (63, tr_if2 (fun x y => y ≤ x) 114 66), (66, tr_ild 7 68), (68, tr_ild 10 70), (70, tr_ii (fun x y => x + y) 71), (71, tr_ald 0 72), (72, tr_get 10 5 75), (75, tr_if2 (fun x y => y ≤ x) 114 78), (78, tr_ald 0 79), (79, tr_get 10 8 82), (82, tr_ild 7 84)]
set_option maxRecDepth 100000 in
theorem ok_Z_sayRows_2 : ∀ pc, g_S (J_Z_sayRows) pc (cd_Z_sayRows_2 pc) := g_tab_ok <|
  List.forall_mem_cons.mpr ⟨so_iconst (by decide) d_Z_sayRows_54 rfl,
  List.forall_mem_cons.mpr ⟨so_istore d_Z_sayRows_55 (Nat.le_of_ble_eq_true rfl) rfl,
  List.forall_mem_cons.mpr ⟨so_iconst (by decide) d_Z_sayRows_57 rfl,
  List.forall_mem_cons.mpr ⟨so_istore d_Z_sayRows_58 (Nat.le_of_ble_eq_true rfl) rfl,
  List.forall_mem_cons.mpr ⟨so_iload d_Z_sayRows_60 rfl,
  List.forall_mem_cons.mpr ⟨so_iconst (by decide) d_Z_sayRows_62 rfl,
  List.forall_mem_cons.mpr ⟨so_icmp_ge d_Z_sayRows_63 (by decide) rfl,
  List.forall_mem_cons.mpr ⟨so_iload d_Z_sayRows_66 rfl,
  List.forall_mem_cons.mpr ⟨so_iload d_Z_sayRows_68 rfl,
  List.forall_mem_cons.mpr ⟨so_iadd d_Z_sayRows_70 rfl,
  List.forall_mem_cons.mpr ⟨so_aload_n d_Z_sayRows_71 rfl rfl,
  List.forall_mem_cons.mpr ⟨so_get d_Z_sayRows_72 (rfl : vwCl[10]? = some (R_Z, F_Z, 40)) (Nat.le_of_ble_eq_true rfl) i_Z w_4_103 rfl,
  List.forall_mem_cons.mpr ⟨so_icmp_ge d_Z_sayRows_75 (by decide) rfl,
  List.forall_mem_cons.mpr ⟨so_aload_n d_Z_sayRows_78 rfl rfl,
  List.forall_mem_cons.mpr ⟨so_get d_Z_sayRows_79 (rfl : vwCl[10]? = some (R_Z, F_Z, 40)) (Nat.le_of_ble_eq_true rfl) i_Z w_4_106 rfl,
  List.forall_mem_cons.mpr ⟨so_iload d_Z_sayRows_82 rfl,
  fun _ h => absurd h List.not_mem_nil⟩⟩⟩⟩⟩⟩⟩⟩⟩⟩⟩⟩⟩⟩⟩⟩
def cd_Z_sayRows_3 : Nat → g_T := g_tab [(84, tr_ild 10 86), (86, tr_ii (fun x y => x + y) 87), (87, tr_ial 88), (88, tr_if1 (fun x => ¬ x = 0) 114 91), (91, tr_cst (.int (2)) 92), (92, tr_ild 9 94), (94, tr_ii (fun x y => x * y) 95), (95, tr_ald 0 96), (96, tr_get 10 9 99), (99, tr_ild 7 101), (101, tr_ild 10 103), (103, tr_ii (fun x y => x + y) 104), (104, tr_ial 105), (105, tr_ii (fun x y => x + y) 106), (106, tr_ist 9 108), (108, tr_inc 10 (1) 111)]
set_option maxRecDepth 100000 in
theorem ok_Z_sayRows_3 : ∀ pc, g_S (J_Z_sayRows) pc (cd_Z_sayRows_3 pc) := g_tab_ok <|
  List.forall_mem_cons.mpr ⟨so_iload d_Z_sayRows_84 rfl,
  List.forall_mem_cons.mpr ⟨so_iadd d_Z_sayRows_86 rfl,
  List.forall_mem_cons.mpr ⟨so_iaload d_Z_sayRows_87 rfl,
  List.forall_mem_cons.mpr ⟨so_if_ne d_Z_sayRows_88 (by decide) rfl,
  List.forall_mem_cons.mpr ⟨so_iconst (by decide) d_Z_sayRows_91 rfl,
  List.forall_mem_cons.mpr ⟨so_iload d_Z_sayRows_92 rfl,
  List.forall_mem_cons.mpr ⟨so_imul d_Z_sayRows_94 rfl,
  List.forall_mem_cons.mpr ⟨so_aload_n d_Z_sayRows_95 rfl rfl,
  List.forall_mem_cons.mpr ⟨so_get d_Z_sayRows_96 (rfl : vwCl[10]? = some (R_Z, F_Z, 40)) (Nat.le_of_ble_eq_true rfl) i_Z w_4_107 rfl,
  List.forall_mem_cons.mpr ⟨so_iload d_Z_sayRows_99 rfl,
  List.forall_mem_cons.mpr ⟨so_iload d_Z_sayRows_101 rfl,
  List.forall_mem_cons.mpr ⟨so_iadd d_Z_sayRows_103 rfl,
  List.forall_mem_cons.mpr ⟨so_iaload d_Z_sayRows_104 rfl,
  List.forall_mem_cons.mpr ⟨so_iadd d_Z_sayRows_105 rfl,
  List.forall_mem_cons.mpr ⟨so_istore d_Z_sayRows_106 (Nat.le_of_ble_eq_true rfl) rfl,
  List.forall_mem_cons.mpr ⟨so_iinc d_Z_sayRows_108 (by decide) (Nat.le_of_ble_eq_true rfl) rfl,
  fun _ h => absurd h List.not_mem_nil⟩⟩⟩⟩⟩⟩⟩⟩⟩⟩⟩⟩⟩⟩⟩⟩
def cd_Z_sayRows_4 : Nat → g_T := g_tab [(111, tr_goto 60), (114, tr_ald 0 115), (115, tr_ild 9 117), (117, tr_cV J_Z_say 10 1 120), (120, tr_ild 7 122), (122, tr_ild 10 124), (124, tr_cst (.int (1)) 125), (125, tr_ii (fun x y => x - y) 126), (126, tr_ii (fun x y => x + y) 127), (127, tr_ist 7 129), (129, tr_goto 359), (132, tr_ald 0 133), (133, tr_get 10 8 136), (136, tr_ild 7 138), (138, tr_ial 139), (139, tr_cst (.int (1)) 140)]
set_option maxRecDepth 100000 in
theorem ok_Z_sayRows_4 : ∀ pc, g_S (J_Z_sayRows) pc (cd_Z_sayRows_4 pc) := g_tab_ok <|
  List.forall_mem_cons.mpr ⟨so_goto d_Z_sayRows_111 (by decide),
  List.forall_mem_cons.mpr ⟨so_aload_n d_Z_sayRows_114 rfl rfl,
  List.forall_mem_cons.mpr ⟨so_iload d_Z_sayRows_115 rfl,
  List.forall_mem_cons.mpr ⟨so_cV g_good d_Z_sayRows_117 ⟨w_5_11, (Nat.le_of_ble_eq_true rfl), (Nat.le_of_ble_eq_true rfl), w_1_12, ⟨by decide, by decide⟩, by decide +kernel⟩ (rfl : vwCl[10]? = some (R_Z, F_Z, 40)) w_5_8 w_5_10 w_p30 rfl,
  List.forall_mem_cons.mpr ⟨so_iload d_Z_sayRows_120 rfl,
  List.forall_mem_cons.mpr ⟨so_iload d_Z_sayRows_122 rfl,
  List.forall_mem_cons.mpr ⟨so_iconst (by decide) d_Z_sayRows_124 rfl,
  List.forall_mem_cons.mpr ⟨so_isub d_Z_sayRows_125 rfl,
  List.forall_mem_cons.mpr ⟨so_iadd d_Z_sayRows_126 rfl,
  List.forall_mem_cons.mpr ⟨so_istore d_Z_sayRows_127 (Nat.le_of_ble_eq_true rfl) rfl,
  List.forall_mem_cons.mpr ⟨so_goto d_Z_sayRows_129 (by decide),
  List.forall_mem_cons.mpr ⟨so_aload_n d_Z_sayRows_132 rfl rfl,
  List.forall_mem_cons.mpr ⟨so_get d_Z_sayRows_133 (rfl : vwCl[10]? = some (R_Z, F_Z, 40)) (Nat.le_of_ble_eq_true rfl) i_Z w_4_106 rfl,
  List.forall_mem_cons.mpr ⟨so_iload d_Z_sayRows_136 rfl,
  List.forall_mem_cons.mpr ⟨so_iaload d_Z_sayRows_138 rfl,
  List.forall_mem_cons.mpr ⟨so_iconst (by decide) d_Z_sayRows_139 rfl,
  fun _ h => absurd h List.not_mem_nil⟩⟩⟩⟩⟩⟩⟩⟩⟩⟩⟩⟩⟩⟩⟩⟩
def cd_Z_sayRows_5 : Nat → g_T := g_tab [(140, tr_if2 (fun x y => ¬ x = y) 163 143), (143, tr_ald 0 144), (144, tr_cst (.int (32)) 146), (146, tr_cV J_Z_say 10 1 149), (149, tr_ald 0 150), (150, tr_ild 8 152), (152, tr_ild 1 153), (153, tr_ii (fun x y => x - y) 154), (154, tr_cV J_Z_sayDifference 10 1 157), (157, tr_ild 8 159), (159, tr_ist 1 160), (160, tr_goto 359), (163, tr_ald 0 164), (164, tr_get 10 8 167), (167, tr_ild 7 169), (169, tr_ial 170)]
set_option maxRecDepth 100000 in
theorem ok_Z_sayRows_5 : ∀ pc, g_S (J_Z_sayRows) pc (cd_Z_sayRows_5 pc) := g_tab_ok <|
  List.forall_mem_cons.mpr ⟨so_icmp_ne d_Z_sayRows_140 (by decide) rfl,
  List.forall_mem_cons.mpr ⟨so_aload_n d_Z_sayRows_143 rfl rfl,
  List.forall_mem_cons.mpr ⟨so_bipush (by decide) d_Z_sayRows_144 rfl,
  List.forall_mem_cons.mpr ⟨so_cV g_good d_Z_sayRows_146 ⟨w_5_11, (Nat.le_of_ble_eq_true rfl), (Nat.le_of_ble_eq_true rfl), w_1_12, ⟨by decide, by decide⟩, by decide +kernel⟩ (rfl : vwCl[10]? = some (R_Z, F_Z, 40)) w_5_8 w_5_10 w_p30 rfl,
  List.forall_mem_cons.mpr ⟨so_aload_n d_Z_sayRows_149 rfl rfl,
  List.forall_mem_cons.mpr ⟨so_iload d_Z_sayRows_150 rfl,
  List.forall_mem_cons.mpr ⟨so_iload_n d_Z_sayRows_152 rfl rfl,
  List.forall_mem_cons.mpr ⟨so_isub d_Z_sayRows_153 rfl,
  List.forall_mem_cons.mpr ⟨so_cV g_good d_Z_sayRows_154 ⟨w_5_23, (Nat.le_of_ble_eq_true rfl), (Nat.le_of_ble_eq_true rfl), w_1_12, ⟨by decide, by decide⟩, by decide +kernel⟩ (rfl : vwCl[10]? = some (R_Z, F_Z, 40)) w_5_20 w_5_22 w_p33 rfl,
  List.forall_mem_cons.mpr ⟨so_iload d_Z_sayRows_157 rfl,
  List.forall_mem_cons.mpr ⟨so_istore_n d_Z_sayRows_159 rfl (Nat.le_of_ble_eq_true rfl) rfl,
  List.forall_mem_cons.mpr ⟨so_goto d_Z_sayRows_160 (by decide),
  List.forall_mem_cons.mpr ⟨so_aload_n d_Z_sayRows_163 rfl rfl,
  List.forall_mem_cons.mpr ⟨so_get d_Z_sayRows_164 (rfl : vwCl[10]? = some (R_Z, F_Z, 40)) (Nat.le_of_ble_eq_true rfl) i_Z w_4_106 rfl,
  List.forall_mem_cons.mpr ⟨so_iload d_Z_sayRows_167 rfl,
  List.forall_mem_cons.mpr ⟨so_iaload d_Z_sayRows_169 rfl,
  fun _ h => absurd h List.not_mem_nil⟩⟩⟩⟩⟩⟩⟩⟩⟩⟩⟩⟩⟩⟩⟩⟩
def cd_Z_sayRows_6 : Nat → g_T := g_tab [(170, tr_cst (.int (2)) 171), (171, tr_if2 (fun x y => ¬ x = y) 229 174), (174, tr_ild 8 176), (176, tr_ild 2 177), (177, tr_ii (fun x y => x - y) 178), (178, tr_ild 3 179), (179, tr_if2 (fun x y => ¬ x = y) 186 182), (182, tr_cst (.int (1)) 183), (183, tr_goto 187), (186, tr_cst (.int (0)) 187), (187, tr_ist 9 189), (189, tr_ald 0 190), (190, tr_ild 9 192), (192, tr_if1 (fun x => x = 0) 200 195), (195, tr_cst (.int (64)) 197), (197, tr_goto 202)]
set_option maxRecDepth 100000 in
theorem ok_Z_sayRows_6 : ∀ pc, g_S (J_Z_sayRows) pc (cd_Z_sayRows_6 pc) := g_tab_ok <|
  List.forall_mem_cons.mpr ⟨so_iconst (by decide) d_Z_sayRows_170 rfl,
  List.forall_mem_cons.mpr ⟨so_icmp_ne d_Z_sayRows_171 (by decide) rfl,
  List.forall_mem_cons.mpr ⟨so_iload d_Z_sayRows_174 rfl,
  List.forall_mem_cons.mpr ⟨so_iload_n d_Z_sayRows_176 rfl rfl,
  List.forall_mem_cons.mpr ⟨so_isub d_Z_sayRows_177 rfl,
  List.forall_mem_cons.mpr ⟨so_iload_n d_Z_sayRows_178 rfl rfl,
  List.forall_mem_cons.mpr ⟨so_icmp_ne d_Z_sayRows_179 (by decide) rfl,
  List.forall_mem_cons.mpr ⟨so_iconst (by decide) d_Z_sayRows_182 rfl,
  List.forall_mem_cons.mpr ⟨so_goto d_Z_sayRows_183 (by decide),
  List.forall_mem_cons.mpr ⟨so_iconst (by decide) d_Z_sayRows_186 rfl,
  List.forall_mem_cons.mpr ⟨so_istore d_Z_sayRows_187 (Nat.le_of_ble_eq_true rfl) rfl,
  List.forall_mem_cons.mpr ⟨so_aload_n d_Z_sayRows_189 rfl rfl,
  List.forall_mem_cons.mpr ⟨so_iload d_Z_sayRows_190 rfl,
  List.forall_mem_cons.mpr ⟨so_if_eq d_Z_sayRows_192 (by decide) rfl,
  List.forall_mem_cons.mpr ⟨so_bipush (by decide) d_Z_sayRows_195 rfl,
  List.forall_mem_cons.mpr ⟨so_goto d_Z_sayRows_197 (by decide),
  fun _ h => absurd h List.not_mem_nil⟩⟩⟩⟩⟩⟩⟩⟩⟩⟩⟩⟩⟩⟩⟩⟩
def cd_Z_sayRows_7 : Nat → g_T := g_tab [(200, tr_cst (.int (65)) 202), (202, tr_cV J_Z_say 10 1 205), (205, tr_ild 9 207), (207, tr_if1 (fun x => ¬ x = 0) 218 210), (210, tr_ald 0 211), (211, tr_ild 8 213), (213, tr_ild 2 214), (214, tr_ii (fun x y => x - y) 215), (215, tr_cV J_Z_sayDifference 10 1 218), (218, tr_ild 8 220), (220, tr_ild 2 221), (221, tr_ii (fun x y => x - y) 222), (222, tr_ist 3 223), (223, tr_ild 8 225), (225, tr_ist 2 226), (226, tr_goto 359)]
set_option maxRecDepth 100000 in
theorem ok_Z_sayRows_7 : ∀ pc, g_S (J_Z_sayRows) pc (cd_Z_sayRows_7 pc) := g_tab_ok <|
  List.forall_mem_cons.mpr ⟨so_bipush (by decide) d_Z_sayRows_200 rfl,
  List.forall_mem_cons.mpr ⟨so_cV g_good d_Z_sayRows_202 ⟨w_5_11, (Nat.le_of_ble_eq_true rfl), (Nat.le_of_ble_eq_true rfl), w_1_12, ⟨by decide, by decide⟩, by decide +kernel⟩ (rfl : vwCl[10]? = some (R_Z, F_Z, 40)) w_5_8 w_5_10 w_p30 rfl,
  List.forall_mem_cons.mpr ⟨so_iload d_Z_sayRows_205 rfl,
  List.forall_mem_cons.mpr ⟨so_if_ne d_Z_sayRows_207 (by decide) rfl,
  List.forall_mem_cons.mpr ⟨so_aload_n d_Z_sayRows_210 rfl rfl,
  List.forall_mem_cons.mpr ⟨so_iload d_Z_sayRows_211 rfl,
  List.forall_mem_cons.mpr ⟨so_iload_n d_Z_sayRows_213 rfl rfl,
  List.forall_mem_cons.mpr ⟨so_isub d_Z_sayRows_214 rfl,
  List.forall_mem_cons.mpr ⟨so_cV g_good d_Z_sayRows_215 ⟨w_5_23, (Nat.le_of_ble_eq_true rfl), (Nat.le_of_ble_eq_true rfl), w_1_12, ⟨by decide, by decide⟩, by decide +kernel⟩ (rfl : vwCl[10]? = some (R_Z, F_Z, 40)) w_5_20 w_5_22 w_p33 rfl,
  List.forall_mem_cons.mpr ⟨so_iload d_Z_sayRows_218 rfl,
  List.forall_mem_cons.mpr ⟨so_iload_n d_Z_sayRows_220 rfl rfl,
  List.forall_mem_cons.mpr ⟨so_isub d_Z_sayRows_221 rfl,
  List.forall_mem_cons.mpr ⟨so_istore_n d_Z_sayRows_222 rfl (Nat.le_of_ble_eq_true rfl) rfl,
  List.forall_mem_cons.mpr ⟨so_iload d_Z_sayRows_223 rfl,
  List.forall_mem_cons.mpr ⟨so_istore_n d_Z_sayRows_225 rfl (Nat.le_of_ble_eq_true rfl) rfl,
  List.forall_mem_cons.mpr ⟨so_goto d_Z_sayRows_226 (by decide),
  fun _ h => absurd h List.not_mem_nil⟩⟩⟩⟩⟩⟩⟩⟩⟩⟩⟩⟩⟩⟩⟩⟩
def cd_Z_sayRows_8 : Nat → g_T := g_tab [(229, tr_ald 0 230), (230, tr_get 10 8 233), (233, tr_ild 7 235), (235, tr_ial 236), (236, tr_cst (.int (3)) 237), (237, tr_if2 (fun x y => ¬ x = y) 337 240), (240, tr_ild 8 242), (242, tr_ild 4 244), (244, tr_ii (fun x y => x - y) 245), (245, tr_ild 5 247), (247, tr_if2 (fun x y => ¬ x = y) 254 250), (250, tr_cst (.int (1)) 251), (251, tr_goto 255), (254, tr_cst (.int (0)) 255), (255, tr_ist 9 257), (257, tr_ald 0 258)]
set_option maxRecDepth 100000 in
theorem ok_Z_sayRows_8 : ∀ pc, g_S (J_Z_sayRows) pc (cd_Z_sayRows_8 pc) := g_tab_ok <|
  List.forall_mem_cons.mpr ⟨so_aload_n d_Z_sayRows_229 rfl rfl,
  List.forall_mem_cons.mpr ⟨so_get d_Z_sayRows_230 (rfl : vwCl[10]? = some (R_Z, F_Z, 40)) (Nat.le_of_ble_eq_true rfl) i_Z w_4_106 rfl,
  List.forall_mem_cons.mpr ⟨so_iload d_Z_sayRows_233 rfl,
  List.forall_mem_cons.mpr ⟨so_iaload d_Z_sayRows_235 rfl,
  List.forall_mem_cons.mpr ⟨so_iconst (by decide) d_Z_sayRows_236 rfl,
  List.forall_mem_cons.mpr ⟨so_icmp_ne d_Z_sayRows_237 (by decide) rfl,
  List.forall_mem_cons.mpr ⟨so_iload d_Z_sayRows_240 rfl,
  List.forall_mem_cons.mpr ⟨so_iload d_Z_sayRows_242 rfl,
  List.forall_mem_cons.mpr ⟨so_isub d_Z_sayRows_244 rfl,
  List.forall_mem_cons.mpr ⟨so_iload d_Z_sayRows_245 rfl,
  List.forall_mem_cons.mpr ⟨so_icmp_ne d_Z_sayRows_247 (by decide) rfl,
  List.forall_mem_cons.mpr ⟨so_iconst (by decide) d_Z_sayRows_250 rfl,
  List.forall_mem_cons.mpr ⟨so_goto d_Z_sayRows_251 (by decide),
  List.forall_mem_cons.mpr ⟨so_iconst (by decide) d_Z_sayRows_254 rfl,
  List.forall_mem_cons.mpr ⟨so_istore d_Z_sayRows_255 (Nat.le_of_ble_eq_true rfl) rfl,
  List.forall_mem_cons.mpr ⟨so_aload_n d_Z_sayRows_257 rfl rfl,
  fun _ h => absurd h List.not_mem_nil⟩⟩⟩⟩⟩⟩⟩⟩⟩⟩⟩⟩⟩⟩⟩⟩
def cd_Z_sayRows_9 : Nat → g_T := g_tab [(258, tr_ald 0 259), (259, tr_get 10 10 262), (262, tr_ild 7 264), (264, tr_ial 265), (265, tr_cV J_Z_putValue 10 1 268), (268, tr_ist 10 270), (270, tr_ald 0 271), (271, tr_cst (.int (96)) 273), (273, tr_ild 9 275), (275, tr_if1 (fun x => x = 0) 282 278), (278, tr_cst (.int (0)) 279), (279, tr_goto 284), (282, tr_cst (.int (16)) 284), (284, tr_ii (fun x y => x + y) 285), (285, tr_ild 10 287), (287, tr_ii (fun x y => x + y) 288)]
set_option maxRecDepth 100000 in
theorem ok_Z_sayRows_9 : ∀ pc, g_S (J_Z_sayRows) pc (cd_Z_sayRows_9 pc) := g_tab_ok <|
  List.forall_mem_cons.mpr ⟨so_aload_n d_Z_sayRows_258 rfl rfl,
  List.forall_mem_cons.mpr ⟨so_get d_Z_sayRows_259 (rfl : vwCl[10]? = some (R_Z, F_Z, 40)) (Nat.le_of_ble_eq_true rfl) i_Z w_4_108 rfl,
  List.forall_mem_cons.mpr ⟨so_iload d_Z_sayRows_262 rfl,
  List.forall_mem_cons.mpr ⟨so_iaload d_Z_sayRows_264 rfl,
  List.forall_mem_cons.mpr ⟨so_cV g_good d_Z_sayRows_265 ⟨w_5_34, (Nat.le_of_ble_eq_true rfl), (Nat.le_of_ble_eq_true rfl), w_1_12, ⟨by decide, by decide⟩, by decide +kernel⟩ (rfl : vwCl[10]? = some (R_Z, F_Z, 40)) w_5_31 w_5_33 w_p35 rfl,
  List.forall_mem_cons.mpr ⟨so_istore d_Z_sayRows_268 (Nat.le_of_ble_eq_true rfl) rfl,
  List.forall_mem_cons.mpr ⟨so_aload_n d_Z_sayRows_270 rfl rfl,
  List.forall_mem_cons.mpr ⟨so_bipush (by decide) d_Z_sayRows_271 rfl,
  List.forall_mem_cons.mpr ⟨so_iload d_Z_sayRows_273 rfl,
  List.forall_mem_cons.mpr ⟨so_if_eq d_Z_sayRows_275 (by decide) rfl,
  List.forall_mem_cons.mpr ⟨so_iconst (by decide) d_Z_sayRows_278 rfl,
  List.forall_mem_cons.mpr ⟨so_goto d_Z_sayRows_279 (by decide),
  List.forall_mem_cons.mpr ⟨so_bipush (by decide) d_Z_sayRows_282 rfl,
  List.forall_mem_cons.mpr ⟨so_iadd d_Z_sayRows_284 rfl,
  List.forall_mem_cons.mpr ⟨so_iload d_Z_sayRows_285 rfl,
  List.forall_mem_cons.mpr ⟨so_iadd d_Z_sayRows_287 rfl,
  fun _ h => absurd h List.not_mem_nil⟩⟩⟩⟩⟩⟩⟩⟩⟩⟩⟩⟩⟩⟩⟩⟩
def cd_Z_sayRows_10 : Nat → g_T := g_tab [(288, tr_cV J_Z_say 10 1 291), (291, tr_ild 9 293), (293, tr_if1 (fun x => ¬ x = 0) 305 296), (296, tr_ald 0 297), (297, tr_ild 8 299), (299, tr_ild 4 301), (301, tr_ii (fun x y => x - y) 302), (302, tr_cV J_Z_sayDifference 10 1 305), (305, tr_ild 10 307), (307, tr_cst (.int (8)) 309), (309, tr_if2 (fun x y => ¬ x = y) 323 312), (312, tr_ald 0 313), (313, tr_ald 0 314), (314, tr_get 10 10 317), (317, tr_ild 7 319), (319, tr_ial 320)]
set_option maxRecDepth 100000 in
theorem ok_Z_sayRows_10 : ∀ pc, g_S (J_Z_sayRows) pc (cd_Z_sayRows_10 pc) := g_tab_ok <|
  List.forall_mem_cons.mpr ⟨so_cV g_good d_Z_sayRows_288 ⟨w_5_11, (Nat.le_of_ble_eq_true rfl), (Nat.le_of_ble_eq_true rfl), w_1_12, ⟨by decide, by decide⟩, by decide +kernel⟩ (rfl : vwCl[10]? = some (R_Z, F_Z, 40)) w_5_8 w_5_10 w_p30 rfl,
  List.forall_mem_cons.mpr ⟨so_iload d_Z_sayRows_291 rfl,
  List.forall_mem_cons.mpr ⟨so_if_ne d_Z_sayRows_293 (by decide) rfl,
  List.forall_mem_cons.mpr ⟨so_aload_n d_Z_sayRows_296 rfl rfl,
  List.forall_mem_cons.mpr ⟨so_iload d_Z_sayRows_297 rfl,
  List.forall_mem_cons.mpr ⟨so_iload d_Z_sayRows_299 rfl,
  List.forall_mem_cons.mpr ⟨so_isub d_Z_sayRows_301 rfl,
  List.forall_mem_cons.mpr ⟨so_cV g_good d_Z_sayRows_302 ⟨w_5_23, (Nat.le_of_ble_eq_true rfl), (Nat.le_of_ble_eq_true rfl), w_1_12, ⟨by decide, by decide⟩, by decide +kernel⟩ (rfl : vwCl[10]? = some (R_Z, F_Z, 40)) w_5_20 w_5_22 w_p33 rfl,
  List.forall_mem_cons.mpr ⟨so_iload d_Z_sayRows_305 rfl,
  List.forall_mem_cons.mpr ⟨so_bipush (by decide) d_Z_sayRows_307 rfl,
  List.forall_mem_cons.mpr ⟨so_icmp_ne d_Z_sayRows_309 (by decide) rfl,
  List.forall_mem_cons.mpr ⟨so_aload_n d_Z_sayRows_312 rfl rfl,
  List.forall_mem_cons.mpr ⟨so_aload_n d_Z_sayRows_313 rfl rfl,
  List.forall_mem_cons.mpr ⟨so_get d_Z_sayRows_314 (rfl : vwCl[10]? = some (R_Z, F_Z, 40)) (Nat.le_of_ble_eq_true rfl) i_Z w_4_108 rfl,
  List.forall_mem_cons.mpr ⟨so_iload d_Z_sayRows_317 rfl,
  List.forall_mem_cons.mpr ⟨so_iaload d_Z_sayRows_319 rfl,
  fun _ h => absurd h List.not_mem_nil⟩⟩⟩⟩⟩⟩⟩⟩⟩⟩⟩⟩⟩⟩⟩⟩
def cd_Z_sayRows_11 : Nat → g_T := g_tab [(320, tr_cV J_Z_sayFour 10 1 323), (323, tr_ild 8 325), (325, tr_ild 4 327), (327, tr_ii (fun x y => x - y) 328), (328, tr_ist 5 330), (330, tr_ild 8 332), (332, tr_ist 4 334), (334, tr_goto 359), (337, tr_ald 0 338), (338, tr_cst (.int (128)) 341), (341, tr_cV J_Z_say 10 1 344), (344, tr_ald 0 345), (345, tr_ild 8 347), (347, tr_i2l 348), (348, tr_ild 6 350), (350, tr_i2l 351)]
set_option maxRecDepth 100000 in
theorem ok_Z_sayRows_11 : ∀ pc, g_S (J_Z_sayRows) pc (cd_Z_sayRows_11 pc) := g_tab_ok <|
  List.forall_mem_cons.mpr ⟨so_cV g_good d_Z_sayRows_320 ⟨w_5_15, (Nat.le_of_ble_eq_true rfl), (Nat.le_of_ble_eq_true rfl), w_1_12, ⟨by decide, by decide⟩, by decide +kernel⟩ (rfl : vwCl[10]? = some (R_Z, F_Z, 40)) w_5_12 w_5_14 w_p31 rfl,
  List.forall_mem_cons.mpr ⟨so_iload d_Z_sayRows_323 rfl,
  List.forall_mem_cons.mpr ⟨so_iload d_Z_sayRows_325 rfl,
  List.forall_mem_cons.mpr ⟨so_isub d_Z_sayRows_327 rfl,
  List.forall_mem_cons.mpr ⟨so_istore d_Z_sayRows_328 (Nat.le_of_ble_eq_true rfl) rfl,
  List.forall_mem_cons.mpr ⟨so_iload d_Z_sayRows_330 rfl,
  List.forall_mem_cons.mpr ⟨so_istore d_Z_sayRows_332 (Nat.le_of_ble_eq_true rfl) rfl,
  List.forall_mem_cons.mpr ⟨so_goto d_Z_sayRows_334 (by decide),
  List.forall_mem_cons.mpr ⟨so_aload_n d_Z_sayRows_337 rfl rfl,
  List.forall_mem_cons.mpr ⟨so_sipush (by decide) d_Z_sayRows_338 rfl,
  List.forall_mem_cons.mpr ⟨so_cV g_good d_Z_sayRows_341 ⟨w_5_11, (Nat.le_of_ble_eq_true rfl), (Nat.le_of_ble_eq_true rfl), w_1_12, ⟨by decide, by decide⟩, by decide +kernel⟩ (rfl : vwCl[10]? = some (R_Z, F_Z, 40)) w_5_8 w_5_10 w_p30 rfl,
  List.forall_mem_cons.mpr ⟨so_aload_n d_Z_sayRows_344 rfl rfl,
  List.forall_mem_cons.mpr ⟨so_iload d_Z_sayRows_345 rfl,
  List.forall_mem_cons.mpr ⟨so_i2l d_Z_sayRows_347 rfl,
  List.forall_mem_cons.mpr ⟨so_iload d_Z_sayRows_348 rfl,
  List.forall_mem_cons.mpr ⟨so_i2l d_Z_sayRows_350 rfl,
  fun _ h => absurd h List.not_mem_nil⟩⟩⟩⟩⟩⟩⟩⟩⟩⟩⟩⟩⟩⟩⟩⟩
def cd_Z_sayRows_12 : Nat → g_T := g_tab [(351, tr_ll (fun x y => x - y) 352), (352, tr_cV J_Z_sayNumber 10 1 355), (355, tr_ild 8 357), (357, tr_ist 6 359), (359, tr_inc 7 (1) 362), (362, tr_goto 26), (365, tr_rv)]
set_option maxRecDepth 100000 in
theorem ok_Z_sayRows_12 : ∀ pc, g_S (J_Z_sayRows) pc (cd_Z_sayRows_12 pc) := g_tab_ok <|
  List.forall_mem_cons.mpr ⟨so_lsub d_Z_sayRows_351 rfl,
  List.forall_mem_cons.mpr ⟨so_cV g_good d_Z_sayRows_352 ⟨w_5_29, (Nat.le_of_ble_eq_true rfl), (Nat.le_of_ble_eq_true rfl), w_1_12, ⟨by decide, by decide⟩, by decide +kernel⟩ (rfl : vwCl[10]? = some (R_Z, F_Z, 40)) w_5_26 w_5_28 w_p34 rfl,
  List.forall_mem_cons.mpr ⟨so_iload d_Z_sayRows_355 rfl,
  List.forall_mem_cons.mpr ⟨so_istore d_Z_sayRows_357 (Nat.le_of_ble_eq_true rfl) rfl,
  List.forall_mem_cons.mpr ⟨so_iinc d_Z_sayRows_359 (by decide) (Nat.le_of_ble_eq_true rfl) rfl,
  List.forall_mem_cons.mpr ⟨so_goto d_Z_sayRows_362 (by decide),
  List.forall_mem_cons.mpr ⟨so_vret d_Z_sayRows_365 rfl,
  fun _ h => absurd h List.not_mem_nil⟩⟩⟩⟩⟩⟩⟩
def cd_Z_sayRows : Nat → g_T := g_chk [(20, cd_Z_sayRows_0), (51, cd_Z_sayRows_1), (82, cd_Z_sayRows_2), (108, cd_Z_sayRows_3), (139, cd_Z_sayRows_4), (169, cd_Z_sayRows_5), (197, cd_Z_sayRows_6), (226, cd_Z_sayRows_7), (257, cd_Z_sayRows_8), (287, cd_Z_sayRows_9), (319, cd_Z_sayRows_10), (350, cd_Z_sayRows_11), (365, cd_Z_sayRows_12)]
theorem ok_Z_sayRows : ∀ pc, g_S (J_Z_sayRows) pc (cd_Z_sayRows pc) := g_chk_ok <|
  List.forall_mem_cons.mpr ⟨ok_Z_sayRows_0,
  List.forall_mem_cons.mpr ⟨ok_Z_sayRows_1,
  List.forall_mem_cons.mpr ⟨ok_Z_sayRows_2,
  List.forall_mem_cons.mpr ⟨ok_Z_sayRows_3,
  List.forall_mem_cons.mpr ⟨ok_Z_sayRows_4,
  List.forall_mem_cons.mpr ⟨ok_Z_sayRows_5,
  List.forall_mem_cons.mpr ⟨ok_Z_sayRows_6,
  List.forall_mem_cons.mpr ⟨ok_Z_sayRows_7,
  List.forall_mem_cons.mpr ⟨ok_Z_sayRows_8,
  List.forall_mem_cons.mpr ⟨ok_Z_sayRows_9,
  List.forall_mem_cons.mpr ⟨ok_Z_sayRows_10,
  List.forall_mem_cons.mpr ⟨ok_Z_sayRows_11,
  List.forall_mem_cons.mpr ⟨ok_Z_sayRows_12,
  fun _ h => absurd h List.not_mem_nil⟩⟩⟩⟩⟩⟩⟩⟩⟩⟩⟩⟩⟩
abbrev J_Z_sumUp : g_J := (y_Z_sumUp, prog_12_method_12_code, 3, none, (0, 0), [], none)
theorem d_Z_sumUp_0 : decode prog_12_method_12_code 0 = .ok (.aload_n 0, 1) := by decide +kernel
theorem d_Z_sumUp_1 : decode prog_12_method_12_code 1 = .ok (.iconst 0, 1) := by decide +kernel
theorem d_Z_sumUp_2 : decode prog_12_method_12_code 2 = .ok (.putfield 120, 3) := by decide +kernel
theorem d_Z_sumUp_5 : decode prog_12_method_12_code 5 = .ok (.aload_n 0, 1) := by decide +kernel
theorem d_Z_sumUp_6 : decode prog_12_method_12_code 6 = .ok (.iconst 0, 1) := by decide +kernel
theorem d_Z_sumUp_7 : decode prog_12_method_12_code 7 = .ok (.putfield 123, 3) := by decide +kernel
theorem d_Z_sumUp_10 : decode prog_12_method_12_code 10 = .ok (.iconst 0, 1) := by decide +kernel
theorem d_Z_sumUp_11 : decode prog_12_method_12_code 11 = .ok (.istore_n 2, 1) := by decide +kernel
theorem d_Z_sumUp_12 : decode prog_12_method_12_code 12 = .ok (.iload_n 2, 1) := by decide +kernel
theorem d_Z_sumUp_13 : decode prog_12_method_12_code 13 = .ok (.iload_n 1, 1) := by decide +kernel
theorem d_Z_sumUp_14 : decode prog_12_method_12_code 14 = .ok (.if_icmp .ge 45, 3) := by decide +kernel
theorem d_Z_sumUp_17 : decode prog_12_method_12_code 17 = .ok (.aload_n 0, 1) := by decide +kernel
theorem d_Z_sumUp_18 : decode prog_12_method_12_code 18 = .ok (.aload_n 0, 1) := by decide +kernel
theorem d_Z_sumUp_19 : decode prog_12_method_12_code 19 = .ok (.getfield 120, 3) := by decide +kernel
theorem d_Z_sumUp_22 : decode prog_12_method_12_code 22 = .ok (.aload_n 0, 1) := by decide +kernel
theorem d_Z_sumUp_23 : decode prog_12_method_12_code 23 = .ok (.getfield 33, 3) := by decide +kernel
theorem d_Z_sumUp_26 : decode prog_12_method_12_code 26 = .ok (.iload_n 2, 1) := by decide +kernel
theorem d_Z_sumUp_27 : decode prog_12_method_12_code 27 = .ok (.iaload, 1) := by decide +kernel
theorem d_Z_sumUp_28 : decode prog_12_method_12_code 28 = .ok (.iadd, 1) := by decide +kernel
theorem d_Z_sumUp_29 : decode prog_12_method_12_code 29 = .ok (.sipush 255, 3) := by decide +kernel
theorem d_Z_sumUp_32 : decode prog_12_method_12_code 32 = .ok (.irem, 1) := by decide +kernel
theorem d_Z_sumUp_33 : decode prog_12_method_12_code 33 = .ok (.putfield 120, 3) := by decide +kernel
theorem d_Z_sumUp_36 : decode prog_12_method_12_code 36 = .ok (.aload_n 0, 1) := by decide +kernel
theorem d_Z_sumUp_37 : decode prog_12_method_12_code 37 = .ok (.aload_n 0, 1) := by decide +kernel
theorem d_Z_sumUp_38 : decode prog_12_method_12_code 38 = .ok (.getfield 123, 3) := by decide +kernel
theorem d_Z_sumUp_41 : decode prog_12_method_12_code 41 = .ok (.aload_n 0, 1) := by decide +kernel
theorem d_Z_sumUp_42 : decode prog_12_method_12_code 42 = .ok (.getfield 120, 3) := by decide +kernel
theorem d_Z_sumUp_45 : decode prog_12_method_12_code 45 = .ok (.iadd, 1) := by decide +kernel
theorem d_Z_sumUp_46 : decode prog_12_method_12_code 46 = .ok (.sipush 255, 3) := by decide +kernel
theorem d_Z_sumUp_49 : decode prog_12_method_12_code 49 = .ok (.irem, 1) := by decide +kernel
theorem d_Z_sumUp_50 : decode prog_12_method_12_code 50 = .ok (.putfield 123, 3) := by decide +kernel
theorem d_Z_sumUp_53 : decode prog_12_method_12_code 53 = .ok (.iinc 2 1, 3) := by decide +kernel
theorem d_Z_sumUp_56 : decode prog_12_method_12_code 56 = .ok (.goto (-44), 3) := by decide +kernel
theorem d_Z_sumUp_59 : decode prog_12_method_12_code 59 = .ok (.return_, 1) := by decide +kernel
def cd_Z_sumUp_0 : Nat → g_T := g_tab [(0, tr_ald 0 1), (1, tr_cst (.int (0)) 2), (2, tr_put 10 17 (.int) 5), (5, tr_ald 0 6), (6, tr_cst (.int (0)) 7), (7, tr_put 10 18 (.int) 10), (10, tr_cst (.int (0)) 11), (11, tr_ist 2 12), (12, tr_ild 2 13), (13, tr_ild 1 14), (14, tr_if2 (fun x y => y ≤ x) 59 17), (17, tr_ald 0 18), (18, tr_ald 0 19), (19, tr_get 10 17 22), (22, tr_ald 0 23), (23, tr_get 10 16 26)]
set_option maxRecDepth 100000 in
theorem ok_Z_sumUp_0 : ∀ pc, g_S (J_Z_sumUp) pc (cd_Z_sumUp_0 pc) := g_tab_ok <|
  List.forall_mem_cons.mpr ⟨so_aload_n d_Z_sumUp_0 rfl rfl,
  List.forall_mem_cons.mpr ⟨so_iconst (by decide) d_Z_sumUp_1 rfl,
  List.forall_mem_cons.mpr ⟨so_put ft_Z d_Z_sumUp_2 (rfl : vwCl[10]? = some (R_Z, F_Z, 40)) (Nat.le_of_ble_eq_true rfl) i_Z w_4_115 tk_Z n_Z rfl rfl rfl,
  List.forall_mem_cons.mpr ⟨so_aload_n d_Z_sumUp_5 rfl rfl,
  List.forall_mem_cons.mpr ⟨so_iconst (by decide) d_Z_sumUp_6 rfl,
  List.forall_mem_cons.mpr ⟨so_put ft_Z d_Z_sumUp_7 (rfl : vwCl[10]? = some (R_Z, F_Z, 40)) (Nat.le_of_ble_eq_true rfl) i_Z w_4_116 tk_Z n_Z rfl rfl rfl,
  List.forall_mem_cons.mpr ⟨so_iconst (by decide) d_Z_sumUp_10 rfl,
  List.forall_mem_cons.mpr ⟨so_istore_n d_Z_sumUp_11 rfl (Nat.le_of_ble_eq_true rfl) rfl,
  List.forall_mem_cons.mpr ⟨so_iload_n d_Z_sumUp_12 rfl rfl,
  List.forall_mem_cons.mpr ⟨so_iload_n d_Z_sumUp_13 rfl rfl,
  List.forall_mem_cons.mpr ⟨so_icmp_ge d_Z_sumUp_14 (by decide) rfl,
  List.forall_mem_cons.mpr ⟨so_aload_n d_Z_sumUp_17 rfl rfl,
  List.forall_mem_cons.mpr ⟨so_aload_n d_Z_sumUp_18 rfl rfl,
  List.forall_mem_cons.mpr ⟨so_get d_Z_sumUp_19 (rfl : vwCl[10]? = some (R_Z, F_Z, 40)) (Nat.le_of_ble_eq_true rfl) i_Z w_4_115 rfl,
  List.forall_mem_cons.mpr ⟨so_aload_n d_Z_sumUp_22 rfl rfl,
  List.forall_mem_cons.mpr ⟨so_get d_Z_sumUp_23 (rfl : vwCl[10]? = some (R_Z, F_Z, 40)) (Nat.le_of_ble_eq_true rfl) i_Z w_4_114 rfl,
  fun _ h => absurd h List.not_mem_nil⟩⟩⟩⟩⟩⟩⟩⟩⟩⟩⟩⟩⟩⟩⟩⟩
def cd_Z_sumUp_1 : Nat → g_T := g_tab [(26, tr_ild 2 27), (27, tr_ial 28), (28, tr_ii (fun x y => x + y) 29), (29, tr_cst (.int (255)) 32), (32, tr_iz (fun x y => x - x / y * y) 33), (33, tr_put 10 17 (.int) 36), (36, tr_ald 0 37), (37, tr_ald 0 38), (38, tr_get 10 18 41), (41, tr_ald 0 42), (42, tr_get 10 17 45), (45, tr_ii (fun x y => x + y) 46), (46, tr_cst (.int (255)) 49), (49, tr_iz (fun x y => x - x / y * y) 50), (50, tr_put 10 18 (.int) 53), (53, tr_inc 2 (1) 56)]
set_option maxRecDepth 100000 in
theorem ok_Z_sumUp_1 : ∀ pc, g_S (J_Z_sumUp) pc (cd_Z_sumUp_1 pc) := g_tab_ok <|
  List.forall_mem_cons.mpr ⟨so_iload_n d_Z_sumUp_26 rfl rfl,
  List.forall_mem_cons.mpr ⟨so_iaload d_Z_sumUp_27 rfl,
  List.forall_mem_cons.mpr ⟨so_iadd d_Z_sumUp_28 rfl,
  List.forall_mem_cons.mpr ⟨so_sipush (by decide) d_Z_sumUp_29 rfl,
  List.forall_mem_cons.mpr ⟨so_irem d_Z_sumUp_32 rfl,
  List.forall_mem_cons.mpr ⟨so_put ft_Z d_Z_sumUp_33 (rfl : vwCl[10]? = some (R_Z, F_Z, 40)) (Nat.le_of_ble_eq_true rfl) i_Z w_4_115 tk_Z n_Z rfl rfl rfl,
  List.forall_mem_cons.mpr ⟨so_aload_n d_Z_sumUp_36 rfl rfl,
  List.forall_mem_cons.mpr ⟨so_aload_n d_Z_sumUp_37 rfl rfl,
  List.forall_mem_cons.mpr ⟨so_get d_Z_sumUp_38 (rfl : vwCl[10]? = some (R_Z, F_Z, 40)) (Nat.le_of_ble_eq_true rfl) i_Z w_4_116 rfl,
  List.forall_mem_cons.mpr ⟨so_aload_n d_Z_sumUp_41 rfl rfl,
  List.forall_mem_cons.mpr ⟨so_get d_Z_sumUp_42 (rfl : vwCl[10]? = some (R_Z, F_Z, 40)) (Nat.le_of_ble_eq_true rfl) i_Z w_4_115 rfl,
  List.forall_mem_cons.mpr ⟨so_iadd d_Z_sumUp_45 rfl,
  List.forall_mem_cons.mpr ⟨so_sipush (by decide) d_Z_sumUp_46 rfl,
  List.forall_mem_cons.mpr ⟨so_irem d_Z_sumUp_49 rfl,
  List.forall_mem_cons.mpr ⟨so_put ft_Z d_Z_sumUp_50 (rfl : vwCl[10]? = some (R_Z, F_Z, 40)) (Nat.le_of_ble_eq_true rfl) i_Z w_4_116 tk_Z n_Z rfl rfl rfl,
  List.forall_mem_cons.mpr ⟨so_iinc d_Z_sumUp_53 (by decide) (Nat.le_of_ble_eq_true rfl) rfl,
  fun _ h => absurd h List.not_mem_nil⟩⟩⟩⟩⟩⟩⟩⟩⟩⟩⟩⟩⟩⟩⟩⟩
def cd_Z_sumUp_2 : Nat → g_T := g_tab [(56, tr_goto 12), (59, tr_rv)]
set_option maxRecDepth 100000 in
theorem ok_Z_sumUp_2 : ∀ pc, g_S (J_Z_sumUp) pc (cd_Z_sumUp_2 pc) := g_tab_ok <|
  List.forall_mem_cons.mpr ⟨so_goto d_Z_sumUp_56 (by decide),
  List.forall_mem_cons.mpr ⟨so_vret d_Z_sumUp_59 rfl,
  fun _ h => absurd h List.not_mem_nil⟩⟩
def cd_Z_sumUp : Nat → g_T := g_chk [(23, cd_Z_sumUp_0), (53, cd_Z_sumUp_1), (59, cd_Z_sumUp_2)]
theorem ok_Z_sumUp : ∀ pc, g_S (J_Z_sumUp) pc (cd_Z_sumUp pc) := g_chk_ok <|
  List.forall_mem_cons.mpr ⟨ok_Z_sumUp_0,
  List.forall_mem_cons.mpr ⟨ok_Z_sumUp_1,
  List.forall_mem_cons.mpr ⟨ok_Z_sumUp_2,
  fun _ h => absurd h List.not_mem_nil⟩⟩⟩
abbrev J_Z_makeInside : g_J := (y_Z_makeInside, prog_12_method_13_code, 3, none, (4, 96), [], none)
theorem d_Z_makeInside_0 : decode prog_12_method_13_code 0 = .ok (.aload_n 0, 1) := by decide +kernel
theorem d_Z_makeInside_1 : decode prog_12_method_13_code 1 = .ok (.iconst 0, 1) := by decide +kernel
theorem d_Z_makeInside_2 : decode prog_12_method_13_code 2 = .ok (.putfield 85, 3) := by decide +kernel
theorem d_Z_makeInside_5 : decode prog_12_method_13_code 5 = .ok (.aload_n 0, 1) := by decide +kernel
theorem d_Z_makeInside_6 : decode prog_12_method_13_code 6 = .ok (.aload_n 0, 1) := by decide +kernel
theorem d_Z_makeInside_7 : decode prog_12_method_13_code 7 = .ok (.getfield 126, 3) := by decide +kernel
theorem d_Z_makeInside_10 : decode prog_12_method_13_code 10 = .ok (.invokevirtual 90, 3) := by decide +kernel
theorem d_Z_makeInside_13 : decode prog_12_method_13_code 13 = .ok (.aload_n 0, 1) := by decide +kernel
theorem d_Z_makeInside_14 : decode prog_12_method_13_code 14 = .ok (.aload_n 0, 1) := by decide +kernel
theorem d_Z_makeInside_15 : decode prog_12_method_13_code 15 = .ok (.getfield 105, 3) := by decide +kernel
theorem d_Z_makeInside_18 : decode prog_12_method_13_code 18 = .ok (.invokevirtual 117, 3) := by decide +kernel
theorem d_Z_makeInside_21 : decode prog_12_method_13_code 21 = .ok (.aload_n 0, 1) := by decide +kernel
theorem d_Z_makeInside_22 : decode prog_12_method_13_code 22 = .ok (.aload_n 0, 1) := by decide +kernel
theorem d_Z_makeInside_23 : decode prog_12_method_13_code 23 = .ok (.getfield 108, 3) := by decide +kernel
theorem d_Z_makeInside_26 : decode prog_12_method_13_code 26 = .ok (.invokevirtual 90, 3) := by decide +kernel
theorem d_Z_makeInside_29 : decode prog_12_method_13_code 29 = .ok (.aload_n 0, 1) := by decide +kernel
theorem d_Z_makeInside_30 : decode prog_12_method_13_code 30 = .ok (.invokevirtual 129, 3) := by decide +kernel
theorem d_Z_makeInside_33 : decode prog_12_method_13_code 33 = .ok (.aload_n 0, 1) := by decide +kernel
theorem d_Z_makeInside_34 : decode prog_12_method_13_code 34 = .ok (.aload_n 0, 1) := by decide +kernel
theorem d_Z_makeInside_35 : decode prog_12_method_13_code 35 = .ok (.getfield 85, 3) := by decide +kernel
theorem d_Z_makeInside_38 : decode prog_12_method_13_code 38 = .ok (.invokevirtual 132, 3) := by decide +kernel
theorem d_Z_makeInside_41 : decode prog_12_method_13_code 41 = .ok (.aload_n 0, 1) := by decide +kernel
theorem d_Z_makeInside_42 : decode prog_12_method_13_code 42 = .ok (.getfield 120, 3) := by decide +kernel
theorem d_Z_makeInside_45 : decode prog_12_method_13_code 45 = .ok (.istore_n 1, 1) := by decide +kernel
theorem d_Z_makeInside_46 : decode prog_12_method_13_code 46 = .ok (.aload_n 0, 1) := by decide +kernel
theorem d_Z_makeInside_47 : decode prog_12_method_13_code 47 = .ok (.getfield 123, 3) := by decide +kernel
theorem d_Z_makeInside_50 : decode prog_12_method_13_code 50 = .ok (.istore_n 2, 1) := by decide +kernel
theorem d_Z_makeInside_51 : decode prog_12_method_13_code 51 = .ok (.aload_n 0, 1) := by decide +kernel
theorem d_Z_makeInside_52 : decode prog_12_method_13_code 52 = .ok (.iload_n 1, 1) := by decide +kernel
theorem d_Z_makeInside_53 : decode prog_12_method_13_code 53 = .ok (.invokevirtual 90, 3) := by decide +kernel
theorem d_Z_makeInside_56 : decode prog_12_method_13_code 56 = .ok (.aload_n 0, 1) := by decide +kernel
theorem d_Z_makeInside_57 : decode prog_12_method_13_code 57 = .ok (.iload_n 2, 1) := by decide +kernel
theorem d_Z_makeInside_58 : decode prog_12_method_13_code 58 = .ok (.invokevirtual 90, 3) := by decide +kernel
theorem d_Z_makeInside_61 : decode prog_12_method_13_code 61 = .ok (.return_, 1) := by decide +kernel
def cd_Z_makeInside_0 : Nat → g_T := g_tab [(0, tr_ald 0 1), (1, tr_cst (.int (0)) 2), (2, tr_put 10 15 (.int) 5), (5, tr_ald 0 6), (6, tr_ald 0 7), (7, tr_get 10 6 10), (10, tr_cV J_Z_say 10 1 13), (13, tr_ald 0 14), (14, tr_ald 0 15), (15, tr_get 10 7 18), (18, tr_cV J_Z_sayFour 10 1 21), (21, tr_ald 0 22), (22, tr_ald 0 23), (23, tr_get 10 5 26), (26, tr_cV J_Z_say 10 1 29), (29, tr_ald 0 30)]
set_option maxRecDepth 100000 in
theorem ok_Z_makeInside_0 : ∀ pc, g_S (J_Z_makeInside) pc (cd_Z_makeInside_0 pc) := g_tab_ok <|
  List.forall_mem_cons.mpr ⟨so_aload_n d_Z_makeInside_0 rfl rfl,
  List.forall_mem_cons.mpr ⟨so_iconst (by decide) d_Z_makeInside_1 rfl,
  List.forall_mem_cons.mpr ⟨so_put ft_Z d_Z_makeInside_2 (rfl : vwCl[10]? = some (R_Z, F_Z, 40)) (Nat.le_of_ble_eq_true rfl) i_Z w_4_113 tk_Z n_Z rfl rfl rfl,
  List.forall_mem_cons.mpr ⟨so_aload_n d_Z_makeInside_5 rfl rfl,
  List.forall_mem_cons.mpr ⟨so_aload_n d_Z_makeInside_6 rfl rfl,
  List.forall_mem_cons.mpr ⟨so_get d_Z_makeInside_7 (rfl : vwCl[10]? = some (R_Z, F_Z, 40)) (Nat.le_of_ble_eq_true rfl) i_Z w_4_104 rfl,
  List.forall_mem_cons.mpr ⟨so_cV g_good d_Z_makeInside_10 ⟨w_5_11, (Nat.le_of_ble_eq_true rfl), (Nat.le_of_ble_eq_true rfl), w_1_12, ⟨by decide, by decide⟩, by decide +kernel⟩ (rfl : vwCl[10]? = some (R_Z, F_Z, 40)) w_5_8 w_5_10 w_p30 rfl,
  List.forall_mem_cons.mpr ⟨so_aload_n d_Z_makeInside_13 rfl rfl,
  List.forall_mem_cons.mpr ⟨so_aload_n d_Z_makeInside_14 rfl rfl,
  List.forall_mem_cons.mpr ⟨so_get d_Z_makeInside_15 (rfl : vwCl[10]? = some (R_Z, F_Z, 40)) (Nat.le_of_ble_eq_true rfl) i_Z w_4_105 rfl,
  List.forall_mem_cons.mpr ⟨so_cV g_good d_Z_makeInside_18 ⟨w_5_15, (Nat.le_of_ble_eq_true rfl), (Nat.le_of_ble_eq_true rfl), w_1_12, ⟨by decide, by decide⟩, by decide +kernel⟩ (rfl : vwCl[10]? = some (R_Z, F_Z, 40)) w_5_12 w_5_14 w_p31 rfl,
  List.forall_mem_cons.mpr ⟨so_aload_n d_Z_makeInside_21 rfl rfl,
  List.forall_mem_cons.mpr ⟨so_aload_n d_Z_makeInside_22 rfl rfl,
  List.forall_mem_cons.mpr ⟨so_get d_Z_makeInside_23 (rfl : vwCl[10]? = some (R_Z, F_Z, 40)) (Nat.le_of_ble_eq_true rfl) i_Z w_4_103 rfl,
  List.forall_mem_cons.mpr ⟨so_cV g_good d_Z_makeInside_26 ⟨w_5_11, (Nat.le_of_ble_eq_true rfl), (Nat.le_of_ble_eq_true rfl), w_1_12, ⟨by decide, by decide⟩, by decide +kernel⟩ (rfl : vwCl[10]? = some (R_Z, F_Z, 40)) w_5_8 w_5_10 w_p30 rfl,
  List.forall_mem_cons.mpr ⟨so_aload_n d_Z_makeInside_29 rfl rfl,
  fun _ h => absurd h List.not_mem_nil⟩⟩⟩⟩⟩⟩⟩⟩⟩⟩⟩⟩⟩⟩⟩⟩
def cd_Z_makeInside_1 : Nat → g_T := g_tab [(30, tr_cV J_Z_sayRows 10 0 33), (33, tr_ald 0 34), (34, tr_ald 0 35), (35, tr_get 10 15 38), (38, tr_cV J_Z_sumUp 10 1 41), (41, tr_ald 0 42), (42, tr_get 10 17 45), (45, tr_ist 1 46), (46, tr_ald 0 47), (47, tr_get 10 18 50), (50, tr_ist 2 51), (51, tr_ald 0 52), (52, tr_ild 1 53), (53, tr_cV J_Z_say 10 1 56), (56, tr_ald 0 57), (57, tr_ild 2 58)]
set_option maxRecDepth 100000 in
theorem ok_Z_makeInside_1 : ∀ pc, g_S (J_Z_makeInside) pc (cd_Z_makeInside_1 pc) := g_tab_ok <|
  List.forall_mem_cons.mpr ⟨so_cV g_good d_Z_makeInside_30 ⟨w_5_19, (Nat.le_of_ble_eq_true rfl), (Nat.le_of_ble_eq_true rfl), w_1_12, ⟨by decide, by decide⟩, by decide +kernel⟩ (rfl : vwCl[10]? = some (R_Z, F_Z, 40)) w_5_16 w_5_18 w_p32 rfl,
  List.forall_mem_cons.mpr ⟨so_aload_n d_Z_makeInside_33 rfl rfl,
  List.forall_mem_cons.mpr ⟨so_aload_n d_Z_makeInside_34 rfl rfl,
  List.forall_mem_cons.mpr ⟨so_get d_Z_makeInside_35 (rfl : vwCl[10]? = some (R_Z, F_Z, 40)) (Nat.le_of_ble_eq_true rfl) i_Z w_4_113 rfl,
  List.forall_mem_cons.mpr ⟨so_cV g_good d_Z_makeInside_38 ⟨w_5_38, (Nat.le_of_ble_eq_true rfl), (Nat.le_of_ble_eq_true rfl), w_1_12, ⟨by decide, by decide⟩, by decide +kernel⟩ (rfl : vwCl[10]? = some (R_Z, F_Z, 40)) w_5_35 w_5_37 w_p36 rfl,
  List.forall_mem_cons.mpr ⟨so_aload_n d_Z_makeInside_41 rfl rfl,
  List.forall_mem_cons.mpr ⟨so_get d_Z_makeInside_42 (rfl : vwCl[10]? = some (R_Z, F_Z, 40)) (Nat.le_of_ble_eq_true rfl) i_Z w_4_115 rfl,
  List.forall_mem_cons.mpr ⟨so_istore_n d_Z_makeInside_45 rfl (Nat.le_of_ble_eq_true rfl) rfl,
  List.forall_mem_cons.mpr ⟨so_aload_n d_Z_makeInside_46 rfl rfl,
  List.forall_mem_cons.mpr ⟨so_get d_Z_makeInside_47 (rfl : vwCl[10]? = some (R_Z, F_Z, 40)) (Nat.le_of_ble_eq_true rfl) i_Z w_4_116 rfl,
  List.forall_mem_cons.mpr ⟨so_istore_n d_Z_makeInside_50 rfl (Nat.le_of_ble_eq_true rfl) rfl,
  List.forall_mem_cons.mpr ⟨so_aload_n d_Z_makeInside_51 rfl rfl,
  List.forall_mem_cons.mpr ⟨so_iload_n d_Z_makeInside_52 rfl rfl,
  List.forall_mem_cons.mpr ⟨so_cV g_good d_Z_makeInside_53 ⟨w_5_11, (Nat.le_of_ble_eq_true rfl), (Nat.le_of_ble_eq_true rfl), w_1_12, ⟨by decide, by decide⟩, by decide +kernel⟩ (rfl : vwCl[10]? = some (R_Z, F_Z, 40)) w_5_8 w_5_10 w_p30 rfl,
  List.forall_mem_cons.mpr ⟨so_aload_n d_Z_makeInside_56 rfl rfl,
  List.forall_mem_cons.mpr ⟨so_iload_n d_Z_makeInside_57 rfl rfl,
  fun _ h => absurd h List.not_mem_nil⟩⟩⟩⟩⟩⟩⟩⟩⟩⟩⟩⟩⟩⟩⟩⟩
def cd_Z_makeInside_2 : Nat → g_T := g_tab [(58, tr_cV J_Z_say 10 1 61), (61, tr_rv)]
set_option maxRecDepth 100000 in
theorem ok_Z_makeInside_2 : ∀ pc, g_S (J_Z_makeInside) pc (cd_Z_makeInside_2 pc) := g_tab_ok <|
  List.forall_mem_cons.mpr ⟨so_cV g_good d_Z_makeInside_58 ⟨w_5_11, (Nat.le_of_ble_eq_true rfl), (Nat.le_of_ble_eq_true rfl), w_1_12, ⟨by decide, by decide⟩, by decide +kernel⟩ (rfl : vwCl[10]? = some (R_Z, F_Z, 40)) w_5_8 w_5_10 w_p30 rfl,
  List.forall_mem_cons.mpr ⟨so_vret d_Z_makeInside_61 rfl,
  fun _ h => absurd h List.not_mem_nil⟩⟩
def cd_Z_makeInside : Nat → g_T := g_chk [(29, cd_Z_makeInside_0), (57, cd_Z_makeInside_1), (61, cd_Z_makeInside_2)]
theorem ok_Z_makeInside : ∀ pc, g_S (J_Z_makeInside) pc (cd_Z_makeInside pc) := g_chk_ok <|
  List.forall_mem_cons.mpr ⟨ok_Z_makeInside_0,
  List.forall_mem_cons.mpr ⟨ok_Z_makeInside_1,
  List.forall_mem_cons.mpr ⟨ok_Z_makeInside_2,
  fun _ h => absurd h List.not_mem_nil⟩⟩⟩
abbrev J_Z_isShielded : g_J := (y_Z_isShielded, prog_12_method_14_code, 1, (some .boolean), (0, 0), [], none)
theorem d_Z_isShielded_0 : decode prog_12_method_14_code 0 = .ok (.iload_n 0, 1) := by decide +kernel
theorem d_Z_isShielded_1 : decode prog_12_method_14_code 1 = .ok (.bipush 126, 2) := by decide +kernel
theorem d_Z_isShielded_3 : decode prog_12_method_14_code 3 = .ok (.if_icmp .eq 9, 3) := by decide +kernel
theorem d_Z_isShielded_6 : decode prog_12_method_14_code 6 = .ok (.iload_n 0, 1) := by decide +kernel
theorem d_Z_isShielded_7 : decode prog_12_method_14_code 7 = .ok (.bipush 125, 2) := by decide +kernel
theorem d_Z_isShielded_9 : decode prog_12_method_14_code 9 = .ok (.if_icmp .ne 7, 3) := by decide +kernel
theorem d_Z_isShielded_12 : decode prog_12_method_14_code 12 = .ok (.iconst 1, 1) := by decide +kernel
theorem d_Z_isShielded_13 : decode prog_12_method_14_code 13 = .ok (.goto 4, 3) := by decide +kernel
theorem d_Z_isShielded_16 : decode prog_12_method_14_code 16 = .ok (.iconst 0, 1) := by decide +kernel
theorem d_Z_isShielded_17 : decode prog_12_method_14_code 17 = .ok (.ireturn, 1) := by decide +kernel
def cd_Z_isShielded_0 : Nat → g_T := g_tab [(0, tr_ild 0 1), (1, tr_cst (.int (126)) 3), (3, tr_if2 (fun x y => x = y) 12 6), (6, tr_ild 0 7), (7, tr_cst (.int (125)) 9), (9, tr_if2 (fun x y => ¬ x = y) 16 12), (12, tr_cst (.int (1)) 13), (13, tr_goto 17), (16, tr_cst (.int (0)) 17), (17, tr_rz)]
set_option maxRecDepth 100000 in
theorem ok_Z_isShielded_0 : ∀ pc, g_S (J_Z_isShielded) pc (cd_Z_isShielded_0 pc) := g_tab_ok <|
  List.forall_mem_cons.mpr ⟨so_iload_n d_Z_isShielded_0 rfl rfl,
  List.forall_mem_cons.mpr ⟨so_bipush (by decide) d_Z_isShielded_1 rfl,
  List.forall_mem_cons.mpr ⟨so_icmp_eq d_Z_isShielded_3 (by decide) rfl,
  List.forall_mem_cons.mpr ⟨so_iload_n d_Z_isShielded_6 rfl rfl,
  List.forall_mem_cons.mpr ⟨so_bipush (by decide) d_Z_isShielded_7 rfl,
  List.forall_mem_cons.mpr ⟨so_icmp_ne d_Z_isShielded_9 (by decide) rfl,
  List.forall_mem_cons.mpr ⟨so_iconst (by decide) d_Z_isShielded_12 rfl,
  List.forall_mem_cons.mpr ⟨so_goto d_Z_isShielded_13 (by decide),
  List.forall_mem_cons.mpr ⟨so_iconst (by decide) d_Z_isShielded_16 rfl,
  List.forall_mem_cons.mpr ⟨so_zret d_Z_isShielded_17 rfl,
  fun _ h => absurd h List.not_mem_nil⟩⟩⟩⟩⟩⟩⟩⟩⟩⟩
def cd_Z_isShielded : Nat → g_T := g_chk [(17, cd_Z_isShielded_0)]
theorem ok_Z_isShielded : ∀ pc, g_S (J_Z_isShielded) pc (cd_Z_isShielded pc) := g_chk_ok <|
  List.forall_mem_cons.mpr ⟨ok_Z_isShielded_0,
  fun _ h => absurd h List.not_mem_nil⟩
abbrev J_Z_putByte : g_J := (y_Z_putByte, prog_12_method_16_code, 2, none, (0, 0), [], none)
theorem d_Z_putByte_0 : decode prog_12_method_16_code 0 = .ok (.aload_n 0, 1) := by decide +kernel
theorem d_Z_putByte_1 : decode prog_12_method_16_code 1 = .ok (.getfield 7, 3) := by decide +kernel
theorem d_Z_putByte_4 : decode prog_12_method_16_code 4 = .ok (.aload_n 0, 1) := by decide +kernel
theorem d_Z_putByte_5 : decode prog_12_method_16_code 5 = .ok (.getfield 142, 3) := by decide +kernel
theorem d_Z_putByte_8 : decode prog_12_method_16_code 8 = .ok (.iload_n 1, 1) := by decide +kernel
theorem d_Z_putByte_9 : decode prog_12_method_16_code 9 = .ok (.i2b, 1) := by decide +kernel
theorem d_Z_putByte_10 : decode prog_12_method_16_code 10 = .ok (.bastore, 1) := by decide +kernel
theorem d_Z_putByte_11 : decode prog_12_method_16_code 11 = .ok (.aload_n 0, 1) := by decide +kernel
theorem d_Z_putByte_12 : decode prog_12_method_16_code 12 = .ok (.dup, 1) := by decide +kernel
theorem d_Z_putByte_13 : decode prog_12_method_16_code 13 = .ok (.getfield 142, 3) := by decide +kernel
theorem d_Z_putByte_16 : decode prog_12_method_16_code 16 = .ok (.iconst 1, 1) := by decide +kernel
theorem d_Z_putByte_17 : decode prog_12_method_16_code 17 = .ok (.iadd, 1) := by decide +kernel
theorem d_Z_putByte_18 : decode prog_12_method_16_code 18 = .ok (.putfield 142, 3) := by decide +kernel
theorem d_Z_putByte_21 : decode prog_12_method_16_code 21 = .ok (.return_, 1) := by decide +kernel
def cd_Z_putByte_0 : Nat → g_T := g_tab [(0, tr_ald 0 1), (1, tr_get 10 2 4), (4, tr_ald 0 5), (5, tr_get 10 1 8), (8, tr_ild 1 9), (9, tr_i2b 10), (10, tr_bas 11), (11, tr_ald 0 12), (12, tr_dup 13), (13, tr_get 10 1 16), (16, tr_cst (.int (1)) 17), (17, tr_ii (fun x y => x + y) 18), (18, tr_put 10 1 (.int) 21), (21, tr_rv)]
set_option maxRecDepth 100000 in
theorem ok_Z_putByte_0 : ∀ pc, g_S (J_Z_putByte) pc (cd_Z_putByte_0 pc) := g_tab_ok <|
  List.forall_mem_cons.mpr ⟨so_aload_n d_Z_putByte_0 rfl rfl,
  List.forall_mem_cons.mpr ⟨so_get d_Z_putByte_1 (rfl : vwCl[10]? = some (R_Z, F_Z, 40)) (Nat.le_of_ble_eq_true rfl) i_Z w_4_100 rfl,
  List.forall_mem_cons.mpr ⟨so_aload_n d_Z_putByte_4 rfl rfl,
  List.forall_mem_cons.mpr ⟨so_get d_Z_putByte_5 (rfl : vwCl[10]? = some (R_Z, F_Z, 40)) (Nat.le_of_ble_eq_true rfl) i_Z w_4_99 rfl,
  List.forall_mem_cons.mpr ⟨so_iload_n d_Z_putByte_8 rfl rfl,
  List.forall_mem_cons.mpr ⟨so_i2b d_Z_putByte_9 rfl,
  List.forall_mem_cons.mpr ⟨so_bastore d_Z_putByte_10 rfl,
  List.forall_mem_cons.mpr ⟨so_aload_n d_Z_putByte_11 rfl rfl,
  List.forall_mem_cons.mpr ⟨so_dup d_Z_putByte_12 rfl,
  List.forall_mem_cons.mpr ⟨so_get d_Z_putByte_13 (rfl : vwCl[10]? = some (R_Z, F_Z, 40)) (Nat.le_of_ble_eq_true rfl) i_Z w_4_99 rfl,
  List.forall_mem_cons.mpr ⟨so_iconst (by decide) d_Z_putByte_16 rfl,
  List.forall_mem_cons.mpr ⟨so_iadd d_Z_putByte_17 rfl,
  List.forall_mem_cons.mpr ⟨so_put ft_Z d_Z_putByte_18 (rfl : vwCl[10]? = some (R_Z, F_Z, 40)) (Nat.le_of_ble_eq_true rfl) i_Z w_4_99 tk_Z n_Z rfl rfl rfl,
  List.forall_mem_cons.mpr ⟨so_vret d_Z_putByte_21 rfl,
  fun _ h => absurd h List.not_mem_nil⟩⟩⟩⟩⟩⟩⟩⟩⟩⟩⟩⟩⟩⟩
def cd_Z_putByte : Nat → g_T := g_chk [(21, cd_Z_putByte_0)]
theorem ok_Z_putByte : ∀ pc, g_S (J_Z_putByte) pc (cd_Z_putByte pc) := g_chk_ok <|
  List.forall_mem_cons.mpr ⟨ok_Z_putByte_0,
  fun _ h => absurd h List.not_mem_nil⟩
abbrev J_Z_close : g_J := (y_Z_close, prog_12_method_15_code, 3, (some .boolean), (5, 118), [], none)
theorem d_Z_close_0 : decode prog_12_method_15_code 0 = .ok (.aload_n 0, 1) := by decide +kernel
theorem d_Z_close_1 : decode prog_12_method_15_code 1 = .ok (.getfield 108, 3) := by decide +kernel
theorem d_Z_close_4 : decode prog_12_method_15_code 4 = .ok (.ifCond .ne 5, 3) := by decide +kernel
theorem d_Z_close_7 : decode prog_12_method_15_code 7 = .ok (.iconst 1, 1) := by decide +kernel
theorem d_Z_close_8 : decode prog_12_method_15_code 8 = .ok (.ireturn, 1) := by decide +kernel
theorem d_Z_close_9 : decode prog_12_method_15_code 9 = .ok (.aload_n 0, 1) := by decide +kernel
theorem d_Z_close_10 : decode prog_12_method_15_code 10 = .ok (.invokevirtual 135, 3) := by decide +kernel
theorem d_Z_close_13 : decode prog_12_method_15_code 13 = .ok (.iconst 1, 1) := by decide +kernel
theorem d_Z_close_14 : decode prog_12_method_15_code 14 = .ok (.istore_n 1, 1) := by decide +kernel
theorem d_Z_close_15 : decode prog_12_method_15_code 15 = .ok (.iconst 0, 1) := by decide +kernel
theorem d_Z_close_16 : decode prog_12_method_15_code 16 = .ok (.istore_n 2, 1) := by decide +kernel
theorem d_Z_close_17 : decode prog_12_method_15_code 17 = .ok (.iload_n 2, 1) := by decide +kernel
theorem d_Z_close_18 : decode prog_12_method_15_code 18 = .ok (.aload_n 0, 1) := by decide +kernel
theorem d_Z_close_19 : decode prog_12_method_15_code 19 = .ok (.getfield 85, 3) := by decide +kernel
theorem d_Z_close_22 : decode prog_12_method_15_code 22 = .ok (.if_icmp .ge 29, 3) := by decide +kernel
theorem d_Z_close_25 : decode prog_12_method_15_code 25 = .ok (.iload_n 1, 1) := by decide +kernel
theorem d_Z_close_26 : decode prog_12_method_15_code 26 = .ok (.aload_n 0, 1) := by decide +kernel
theorem d_Z_close_27 : decode prog_12_method_15_code 27 = .ok (.getfield 33, 3) := by decide +kernel
theorem d_Z_close_30 : decode prog_12_method_15_code 30 = .ok (.iload_n 2, 1) := by decide +kernel
theorem d_Z_close_31 : decode prog_12_method_15_code 31 = .ok (.iaload, 1) := by decide +kernel
theorem d_Z_close_32 : decode prog_12_method_15_code 32 = .ok (.invokestatic 138, 3) := by decide +kernel
theorem d_Z_close_35 : decode prog_12_method_15_code 35 = .ok (.ifCond .eq 7, 3) := by decide +kernel
theorem d_Z_close_38 : decode prog_12_method_15_code 38 = .ok (.iconst 2, 1) := by decide +kernel
theorem d_Z_close_39 : decode prog_12_method_15_code 39 = .ok (.goto 4, 3) := by decide +kernel
theorem d_Z_close_42 : decode prog_12_method_15_code 42 = .ok (.iconst 1, 1) := by decide +kernel
theorem d_Z_close_43 : decode prog_12_method_15_code 43 = .ok (.iadd, 1) := by decide +kernel
theorem d_Z_close_44 : decode prog_12_method_15_code 44 = .ok (.istore_n 1, 1) := by decide +kernel
theorem d_Z_close_45 : decode prog_12_method_15_code 45 = .ok (.iinc 2 1, 3) := by decide +kernel
theorem d_Z_close_48 : decode prog_12_method_15_code 48 = .ok (.goto (-31), 3) := by decide +kernel
theorem d_Z_close_51 : decode prog_12_method_15_code 51 = .ok (.aload_n 0, 1) := by decide +kernel
theorem d_Z_close_52 : decode prog_12_method_15_code 52 = .ok (.getfield 142, 3) := by decide +kernel
theorem d_Z_close_55 : decode prog_12_method_15_code 55 = .ok (.iload_n 1, 1) := by decide +kernel
theorem d_Z_close_56 : decode prog_12_method_15_code 56 = .ok (.iadd, 1) := by decide +kernel
theorem d_Z_close_57 : decode prog_12_method_15_code 57 = .ok (.sipush 16384, 3) := by decide +kernel
theorem d_Z_close_60 : decode prog_12_method_15_code 60 = .ok (.if_icmp .le 5, 3) := by decide +kernel
theorem d_Z_close_63 : decode prog_12_method_15_code 63 = .ok (.iconst 0, 1) := by decide +kernel
theorem d_Z_close_64 : decode prog_12_method_15_code 64 = .ok (.ireturn, 1) := by decide +kernel
theorem d_Z_close_65 : decode prog_12_method_15_code 65 = .ok (.aload_n 0, 1) := by decide +kernel
theorem d_Z_close_66 : decode prog_12_method_15_code 66 = .ok (.bipush 126, 2) := by decide +kernel
theorem d_Z_close_68 : decode prog_12_method_15_code 68 = .ok (.invokevirtual 145, 3) := by decide +kernel
theorem d_Z_close_71 : decode prog_12_method_15_code 71 = .ok (.iconst 0, 1) := by decide +kernel
theorem d_Z_close_72 : decode prog_12_method_15_code 72 = .ok (.istore_n 2, 1) := by decide +kernel
theorem d_Z_close_73 : decode prog_12_method_15_code 73 = .ok (.iload_n 2, 1) := by decide +kernel
theorem d_Z_close_74 : decode prog_12_method_15_code 74 = .ok (.aload_n 0, 1) := by decide +kernel
theorem d_Z_close_75 : decode prog_12_method_15_code 75 = .ok (.getfield 85, 3) := by decide +kernel
theorem d_Z_close_78 : decode prog_12_method_15_code 78 = .ok (.if_icmp .ge 62, 3) := by decide +kernel
theorem d_Z_close_81 : decode prog_12_method_15_code 81 = .ok (.aload_n 0, 1) := by decide +kernel
theorem d_Z_close_82 : decode prog_12_method_15_code 82 = .ok (.getfield 33, 3) := by decide +kernel
theorem d_Z_close_85 : decode prog_12_method_15_code 85 = .ok (.iload_n 2, 1) := by decide +kernel
theorem d_Z_close_86 : decode prog_12_method_15_code 86 = .ok (.iaload, 1) := by decide +kernel
theorem d_Z_close_87 : decode prog_12_method_15_code 87 = .ok (.invokestatic 138, 3) := by decide +kernel
theorem d_Z_close_90 : decode prog_12_method_15_code 90 = .ok (.ifCond .eq 34, 3) := by decide +kernel
theorem d_Z_close_93 : decode prog_12_method_15_code 93 = .ok (.aload_n 0, 1) := by decide +kernel
theorem d_Z_close_94 : decode prog_12_method_15_code 94 = .ok (.bipush 125, 2) := by decide +kernel
theorem d_Z_close_96 : decode prog_12_method_15_code 96 = .ok (.invokevirtual 145, 3) := by decide +kernel
theorem d_Z_close_99 : decode prog_12_method_15_code 99 = .ok (.aload_n 0, 1) := by decide +kernel
theorem d_Z_close_100 : decode prog_12_method_15_code 100 = .ok (.aload_n 0, 1) := by decide +kernel
theorem d_Z_close_101 : decode prog_12_method_15_code 101 = .ok (.getfield 33, 3) := by decide +kernel
theorem d_Z_close_104 : decode prog_12_method_15_code 104 = .ok (.iload_n 2, 1) := by decide +kernel
theorem d_Z_close_105 : decode prog_12_method_15_code 105 = .ok (.iaload, 1) := by decide +kernel
theorem d_Z_close_106 : decode prog_12_method_15_code 106 = .ok (.bipush 126, 2) := by decide +kernel
theorem d_Z_close_108 : decode prog_12_method_15_code 108 = .ok (.if_icmp .ne 8, 3) := by decide +kernel
theorem d_Z_close_111 : decode prog_12_method_15_code 111 = .ok (.bipush 94, 2) := by decide +kernel
theorem d_Z_close_113 : decode prog_12_method_15_code 113 = .ok (.goto 5, 3) := by decide +kernel
theorem d_Z_close_116 : decode prog_12_method_15_code 116 = .ok (.bipush 93, 2) := by decide +kernel
theorem d_Z_close_118 : decode prog_12_method_15_code 118 = .ok (.invokevirtual 145, 3) := by decide +kernel
theorem d_Z_close_121 : decode prog_12_method_15_code 121 = .ok (.goto 13, 3) := by decide +kernel
theorem d_Z_close_124 : decode prog_12_method_15_code 124 = .ok (.aload_n 0, 1) := by decide +kernel
theorem d_Z_close_125 : decode prog_12_method_15_code 125 = .ok (.aload_n 0, 1) := by decide +kernel
theorem d_Z_close_126 : decode prog_12_method_15_code 126 = .ok (.getfield 33, 3) := by decide +kernel
theorem d_Z_close_129 : decode prog_12_method_15_code 129 = .ok (.iload_n 2, 1) := by decide +kernel
theorem d_Z_close_130 : decode prog_12_method_15_code 130 = .ok (.iaload, 1) := by decide +kernel
theorem d_Z_close_131 : decode prog_12_method_15_code 131 = .ok (.invokevirtual 145, 3) := by decide +kernel
theorem d_Z_close_134 : decode prog_12_method_15_code 134 = .ok (.iinc 2 1, 3) := by decide +kernel
theorem d_Z_close_137 : decode prog_12_method_15_code 137 = .ok (.goto (-64), 3) := by decide +kernel
theorem d_Z_close_140 : decode prog_12_method_15_code 140 = .ok (.aload_n 0, 1) := by decide +kernel
theorem d_Z_close_141 : decode prog_12_method_15_code 141 = .ok (.iconst 0, 1) := by decide +kernel
theorem d_Z_close_142 : decode prog_12_method_15_code 142 = .ok (.putfield 108, 3) := by decide +kernel
theorem d_Z_close_145 : decode prog_12_method_15_code 145 = .ok (.aload_n 0, 1) := by decide +kernel
theorem d_Z_close_146 : decode prog_12_method_15_code 146 = .ok (.dup, 1) := by decide +kernel
theorem d_Z_close_147 : decode prog_12_method_15_code 147 = .ok (.getfield 148, 3) := by decide +kernel
theorem d_Z_close_150 : decode prog_12_method_15_code 150 = .ok (.iconst 1, 1) := by decide +kernel
theorem d_Z_close_151 : decode prog_12_method_15_code 151 = .ok (.iadd, 1) := by decide +kernel
theorem d_Z_close_152 : decode prog_12_method_15_code 152 = .ok (.putfield 148, 3) := by decide +kernel
theorem d_Z_close_155 : decode prog_12_method_15_code 155 = .ok (.iconst 1, 1) := by decide +kernel
theorem d_Z_close_156 : decode prog_12_method_15_code 156 = .ok (.ireturn, 1) := by decide +kernel
def cd_Z_close_0 : Nat → g_T := g_tab [(0, tr_ald 0 1), (1, tr_get 10 5 4), (4, tr_if1 (fun x => ¬ x = 0) 9 7), (7, tr_cst (.int (1)) 8), (8, tr_rz), (9, tr_ald 0 10), (10, tr_cV J_Z_makeInside 10 0 13), (13, tr_cst (.int (1)) 14), (14, tr_ist 1 15), (15, tr_cst (.int (0)) 16), (16, tr_ist 2 17), (17, tr_ild 2 18), (18, tr_ald 0 19), (19, tr_get 10 15 22), (22, tr_if2 (fun x y => y ≤ x) 51 25), (25, tr_ild 1 26)]
set_option maxRecDepth 100000 in
theorem ok_Z_close_0 : ∀ pc, g_S (J_Z_close) pc (cd_Z_close_0 pc) := g_tab_ok <|
  List.forall_mem_cons.mpr ⟨so_aload_n d_Z_close_0 rfl rfl,
  List.forall_mem_cons.mpr ⟨so_get d_Z_close_1 (rfl : vwCl[10]? = some (R_Z, F_Z, 40)) (Nat.le_of_ble_eq_true rfl) i_Z w_4_103 rfl,
  List.forall_mem_cons.mpr ⟨so_if_ne d_Z_close_4 (by decide) rfl,
  List.forall_mem_cons.mpr ⟨so_iconst (by decide) d_Z_close_7 rfl,
  List.forall_mem_cons.mpr ⟨so_zret d_Z_close_8 rfl,
  List.forall_mem_cons.mpr ⟨so_aload_n d_Z_close_9 rfl rfl,
  List.forall_mem_cons.mpr ⟨so_cV g_good d_Z_close_10 ⟨w_5_7, (Nat.le_of_ble_eq_true rfl), (Nat.le_of_ble_eq_true rfl), w_1_12, ⟨by decide, by decide⟩, by decide +kernel⟩ (rfl : vwCl[10]? = some (R_Z, F_Z, 40)) w_5_4 w_5_6 w_p29 rfl,
  List.forall_mem_cons.mpr ⟨so_iconst (by decide) d_Z_close_13 rfl,
  List.forall_mem_cons.mpr ⟨so_istore_n d_Z_close_14 rfl (Nat.le_of_ble_eq_true rfl) rfl,
  List.forall_mem_cons.mpr ⟨so_iconst (by decide) d_Z_close_15 rfl,
  List.forall_mem_cons.mpr ⟨so_istore_n d_Z_close_16 rfl (Nat.le_of_ble_eq_true rfl) rfl,
  List.forall_mem_cons.mpr ⟨so_iload_n d_Z_close_17 rfl rfl,
  List.forall_mem_cons.mpr ⟨so_aload_n d_Z_close_18 rfl rfl,
  List.forall_mem_cons.mpr ⟨so_get d_Z_close_19 (rfl : vwCl[10]? = some (R_Z, F_Z, 40)) (Nat.le_of_ble_eq_true rfl) i_Z w_4_113 rfl,
  List.forall_mem_cons.mpr ⟨so_icmp_ge d_Z_close_22 (by decide) rfl,
  List.forall_mem_cons.mpr ⟨so_iload_n d_Z_close_25 rfl rfl,
  fun _ h => absurd h List.not_mem_nil⟩⟩⟩⟩⟩⟩⟩⟩⟩⟩⟩⟩⟩⟩⟩⟩
def cd_Z_close_1 : Nat → g_T := g_tab [(26, tr_ald 0 27), (27, tr_get 10 16 30), (30, tr_ild 2 31), (31, tr_ial 32), (32, tr_cS J_Z_isShielded 1 35), (35, tr_if1 (fun x => x = 0) 42 38), (38, tr_cst (.int (2)) 39), (39, tr_goto 43), (42, tr_cst (.int (1)) 43), (43, tr_ii (fun x y => x + y) 44), (44, tr_ist 1 45), (45, tr_inc 2 (1) 48), (48, tr_goto 17), (51, tr_ald 0 52), (52, tr_get 10 1 55), (55, tr_ild 1 56)]
set_option maxRecDepth 100000 in
theorem ok_Z_close_1 : ∀ pc, g_S (J_Z_close) pc (cd_Z_close_1 pc) := g_tab_ok <|
  List.forall_mem_cons.mpr ⟨so_aload_n d_Z_close_26 rfl rfl,
  List.forall_mem_cons.mpr ⟨so_get d_Z_close_27 (rfl : vwCl[10]? = some (R_Z, F_Z, 40)) (Nat.le_of_ble_eq_true rfl) i_Z w_4_114 rfl,
  List.forall_mem_cons.mpr ⟨so_iload_n d_Z_close_30 rfl rfl,
  List.forall_mem_cons.mpr ⟨so_iaload d_Z_close_31 rfl,
  List.forall_mem_cons.mpr ⟨so_cS g_good d_Z_close_32 ⟨w_5_41, (Nat.le_of_ble_eq_true rfl), (Nat.le_of_ble_eq_true rfl), w_1_12, ⟨by decide, by decide⟩, by decide +kernel⟩ w_5_39 w_5_40 rfl,
  List.forall_mem_cons.mpr ⟨so_if_eq d_Z_close_35 (by decide) rfl,
  List.forall_mem_cons.mpr ⟨so_iconst (by decide) d_Z_close_38 rfl,
  List.forall_mem_cons.mpr ⟨so_goto d_Z_close_39 (by decide),
  List.forall_mem_cons.mpr ⟨so_iconst (by decide) d_Z_close_42 rfl,
  List.forall_mem_cons.mpr ⟨so_iadd d_Z_close_43 rfl,
  List.forall_mem_cons.mpr ⟨so_istore_n d_Z_close_44 rfl (Nat.le_of_ble_eq_true rfl) rfl,
  List.forall_mem_cons.mpr ⟨so_iinc d_Z_close_45 (by decide) (Nat.le_of_ble_eq_true rfl) rfl,
  List.forall_mem_cons.mpr ⟨so_goto d_Z_close_48 (by decide),
  List.forall_mem_cons.mpr ⟨so_aload_n d_Z_close_51 rfl rfl,
  List.forall_mem_cons.mpr ⟨so_get d_Z_close_52 (rfl : vwCl[10]? = some (R_Z, F_Z, 40)) (Nat.le_of_ble_eq_true rfl) i_Z w_4_99 rfl,
  List.forall_mem_cons.mpr ⟨so_iload_n d_Z_close_55 rfl rfl,
  fun _ h => absurd h List.not_mem_nil⟩⟩⟩⟩⟩⟩⟩⟩⟩⟩⟩⟩⟩⟩⟩⟩
def cd_Z_close_2 : Nat → g_T := g_tab [(56, tr_ii (fun x y => x + y) 57), (57, tr_cst (.int (16384)) 60), (60, tr_if2 (fun x y => x ≤ y) 65 63), (63, tr_cst (.int (0)) 64), (64, tr_rz), (65, tr_ald 0 66), (66, tr_cst (.int (126)) 68), (68, tr_cV J_Z_putByte 10 1 71), (71, tr_cst (.int (0)) 72), (72, tr_ist 2 73), (73, tr_ild 2 74), (74, tr_ald 0 75), (75, tr_get 10 15 78), (78, tr_if2 (fun x y => y ≤ x) 140 81), (81, tr_ald 0 82), (82, tr_get 10 16 85)]
set_option maxRecDepth 100000 in
theorem ok_Z_close_2 : ∀ pc, g_S (J_Z_close) pc (cd_Z_close_2 pc) := g_tab_ok <|
  List.forall_mem_cons.mpr ⟨so_iadd d_Z_close_56 rfl,
  List.forall_mem_cons.mpr ⟨so_sipush (by decide) d_Z_close_57 rfl,
  List.forall_mem_cons.mpr ⟨so_icmp_le d_Z_close_60 (by decide) rfl,
  List.forall_mem_cons.mpr ⟨so_iconst (by decide) d_Z_close_63 rfl,
  List.forall_mem_cons.mpr ⟨so_zret d_Z_close_64 rfl,
  List.forall_mem_cons.mpr ⟨so_aload_n d_Z_close_65 rfl rfl,
  List.forall_mem_cons.mpr ⟨so_bipush (by decide) d_Z_close_66 rfl,
  List.forall_mem_cons.mpr ⟨so_cV g_good d_Z_close_68 ⟨w_5_45, (Nat.le_of_ble_eq_true rfl), (Nat.le_of_ble_eq_true rfl), w_1_12, ⟨by decide, by decide⟩, by decide +kernel⟩ (rfl : vwCl[10]? = some (R_Z, F_Z, 40)) w_5_42 w_5_44 w_p37 rfl,
  List.forall_mem_cons.mpr ⟨so_iconst (by decide) d_Z_close_71 rfl,
  List.forall_mem_cons.mpr ⟨so_istore_n d_Z_close_72 rfl (Nat.le_of_ble_eq_true rfl) rfl,
  List.forall_mem_cons.mpr ⟨so_iload_n d_Z_close_73 rfl rfl,
  List.forall_mem_cons.mpr ⟨so_aload_n d_Z_close_74 rfl rfl,
  List.forall_mem_cons.mpr ⟨so_get d_Z_close_75 (rfl : vwCl[10]? = some (R_Z, F_Z, 40)) (Nat.le_of_ble_eq_true rfl) i_Z w_4_113 rfl,
  List.forall_mem_cons.mpr ⟨so_icmp_ge d_Z_close_78 (by decide) rfl,
  List.forall_mem_cons.mpr ⟨so_aload_n d_Z_close_81 rfl rfl,
  List.forall_mem_cons.mpr ⟨so_get d_Z_close_82 (rfl : vwCl[10]? = some (R_Z, F_Z, 40)) (Nat.le_of_ble_eq_true rfl) i_Z w_4_114 rfl,
  fun _ h => absurd h List.not_mem_nil⟩⟩⟩⟩⟩⟩⟩⟩⟩⟩⟩⟩⟩⟩⟩⟩
def cd_Z_close_3 : Nat → g_T := g_tab [(85, tr_ild 2 86), (86, tr_ial 87), (87, tr_cS J_Z_isShielded 1 90), (90, tr_if1 (fun x => x = 0) 124 93), (93, tr_ald 0 94), (94, tr_cst (.int (125)) 96), (96, tr_cV J_Z_putByte 10 1 99), (99, tr_ald 0 100), (100, tr_ald 0 101), (101, tr_get 10 16 104), (104, tr_ild 2 105), (105, tr_ial 106), (106, tr_cst (.int (126)) 108), (108, tr_if2 (fun x y => ¬ x = y) 116 111), (111, tr_cst (.int (94)) 113), (113, tr_goto 118)]
set_option maxRecDepth 100000 in
theorem ok_Z_close_3 : ∀ pc, g_S (J_Z_close) pc (cd_Z_close_3 pc) := g_tab_ok <|
  List.forall_mem_cons.mpr ⟨so_iload_n d_Z_close_85 rfl rfl,
  List.forall_mem_cons.mpr ⟨so_iaload d_Z_close_86 rfl,
  List.forall_mem_cons.mpr ⟨so_cS g_good d_Z_close_87 ⟨w_5_41, (Nat.le_of_ble_eq_true rfl), (Nat.le_of_ble_eq_true rfl), w_1_12, ⟨by decide, by decide⟩, by decide +kernel⟩ w_5_39 w_5_40 rfl,
  List.forall_mem_cons.mpr ⟨so_if_eq d_Z_close_90 (by decide) rfl,
  List.forall_mem_cons.mpr ⟨so_aload_n d_Z_close_93 rfl rfl,
  List.forall_mem_cons.mpr ⟨so_bipush (by decide) d_Z_close_94 rfl,
  List.forall_mem_cons.mpr ⟨so_cV g_good d_Z_close_96 ⟨w_5_45, (Nat.le_of_ble_eq_true rfl), (Nat.le_of_ble_eq_true rfl), w_1_12, ⟨by decide, by decide⟩, by decide +kernel⟩ (rfl : vwCl[10]? = some (R_Z, F_Z, 40)) w_5_42 w_5_44 w_p37 rfl,
  List.forall_mem_cons.mpr ⟨so_aload_n d_Z_close_99 rfl rfl,
  List.forall_mem_cons.mpr ⟨so_aload_n d_Z_close_100 rfl rfl,
  List.forall_mem_cons.mpr ⟨so_get d_Z_close_101 (rfl : vwCl[10]? = some (R_Z, F_Z, 40)) (Nat.le_of_ble_eq_true rfl) i_Z w_4_114 rfl,
  List.forall_mem_cons.mpr ⟨so_iload_n d_Z_close_104 rfl rfl,
  List.forall_mem_cons.mpr ⟨so_iaload d_Z_close_105 rfl,
  List.forall_mem_cons.mpr ⟨so_bipush (by decide) d_Z_close_106 rfl,
  List.forall_mem_cons.mpr ⟨so_icmp_ne d_Z_close_108 (by decide) rfl,
  List.forall_mem_cons.mpr ⟨so_bipush (by decide) d_Z_close_111 rfl,
  List.forall_mem_cons.mpr ⟨so_goto d_Z_close_113 (by decide),
  fun _ h => absurd h List.not_mem_nil⟩⟩⟩⟩⟩⟩⟩⟩⟩⟩⟩⟩⟩⟩⟩⟩
def cd_Z_close_4 : Nat → g_T := g_tab [(116, tr_cst (.int (93)) 118), (118, tr_cV J_Z_putByte 10 1 121), (121, tr_goto 134), (124, tr_ald 0 125), (125, tr_ald 0 126), (126, tr_get 10 16 129), (129, tr_ild 2 130), (130, tr_ial 131), (131, tr_cV J_Z_putByte 10 1 134), (134, tr_inc 2 (1) 137), (137, tr_goto 73), (140, tr_ald 0 141), (141, tr_cst (.int (0)) 142), (142, tr_put 10 5 (.int) 145), (145, tr_ald 0 146), (146, tr_dup 147)]
set_option maxRecDepth 100000 in
theorem ok_Z_close_4 : ∀ pc, g_S (J_Z_close) pc (cd_Z_close_4 pc) := g_tab_ok <|
  List.forall_mem_cons.mpr ⟨so_bipush (by decide) d_Z_close_116 rfl,
  List.forall_mem_cons.mpr ⟨so_cV g_good d_Z_close_118 ⟨w_5_45, (Nat.le_of_ble_eq_true rfl), (Nat.le_of_ble_eq_true rfl), w_1_12, ⟨by decide, by decide⟩, by decide +kernel⟩ (rfl : vwCl[10]? = some (R_Z, F_Z, 40)) w_5_42 w_5_44 w_p37 rfl,
  List.forall_mem_cons.mpr ⟨so_goto d_Z_close_121 (by decide),
  List.forall_mem_cons.mpr ⟨so_aload_n d_Z_close_124 rfl rfl,
  List.forall_mem_cons.mpr ⟨so_aload_n d_Z_close_125 rfl rfl,
  List.forall_mem_cons.mpr ⟨so_get d_Z_close_126 (rfl : vwCl[10]? = some (R_Z, F_Z, 40)) (Nat.le_of_ble_eq_true rfl) i_Z w_4_114 rfl,
  List.forall_mem_cons.mpr ⟨so_iload_n d_Z_close_129 rfl rfl,
  List.forall_mem_cons.mpr ⟨so_iaload d_Z_close_130 rfl,
  List.forall_mem_cons.mpr ⟨so_cV g_good d_Z_close_131 ⟨w_5_45, (Nat.le_of_ble_eq_true rfl), (Nat.le_of_ble_eq_true rfl), w_1_12, ⟨by decide, by decide⟩, by decide +kernel⟩ (rfl : vwCl[10]? = some (R_Z, F_Z, 40)) w_5_42 w_5_44 w_p37 rfl,
  List.forall_mem_cons.mpr ⟨so_iinc d_Z_close_134 (by decide) (Nat.le_of_ble_eq_true rfl) rfl,
  List.forall_mem_cons.mpr ⟨so_goto d_Z_close_137 (by decide),
  List.forall_mem_cons.mpr ⟨so_aload_n d_Z_close_140 rfl rfl,
  List.forall_mem_cons.mpr ⟨so_iconst (by decide) d_Z_close_141 rfl,
  List.forall_mem_cons.mpr ⟨so_put ft_Z d_Z_close_142 (rfl : vwCl[10]? = some (R_Z, F_Z, 40)) (Nat.le_of_ble_eq_true rfl) i_Z w_4_103 tk_Z n_Z rfl rfl rfl,
  List.forall_mem_cons.mpr ⟨so_aload_n d_Z_close_145 rfl rfl,
  List.forall_mem_cons.mpr ⟨so_dup d_Z_close_146 rfl,
  fun _ h => absurd h List.not_mem_nil⟩⟩⟩⟩⟩⟩⟩⟩⟩⟩⟩⟩⟩⟩⟩⟩
def cd_Z_close_5 : Nat → g_T := g_tab [(147, tr_get 10 12 150), (150, tr_cst (.int (1)) 151), (151, tr_ii (fun x y => x + y) 152), (152, tr_put 10 12 (.int) 155), (155, tr_cst (.int (1)) 156), (156, tr_rz)]
set_option maxRecDepth 100000 in
theorem ok_Z_close_5 : ∀ pc, g_S (J_Z_close) pc (cd_Z_close_5 pc) := g_tab_ok <|
  List.forall_mem_cons.mpr ⟨so_get d_Z_close_147 (rfl : vwCl[10]? = some (R_Z, F_Z, 40)) (Nat.le_of_ble_eq_true rfl) i_Z w_4_110 rfl,
  List.forall_mem_cons.mpr ⟨so_iconst (by decide) d_Z_close_150 rfl,
  List.forall_mem_cons.mpr ⟨so_iadd d_Z_close_151 rfl,
  List.forall_mem_cons.mpr ⟨so_put ft_Z d_Z_close_152 (rfl : vwCl[10]? = some (R_Z, F_Z, 40)) (Nat.le_of_ble_eq_true rfl) i_Z w_4_110 tk_Z n_Z rfl rfl rfl,
  List.forall_mem_cons.mpr ⟨so_iconst (by decide) d_Z_close_155 rfl,
  List.forall_mem_cons.mpr ⟨so_zret d_Z_close_156 rfl,
  fun _ h => absurd h List.not_mem_nil⟩⟩⟩⟩⟩⟩
def cd_Z_close : Nat → g_T := g_chk [(25, cd_Z_close_0), (55, cd_Z_close_1), (82, cd_Z_close_2), (113, cd_Z_close_3), (146, cd_Z_close_4), (156, cd_Z_close_5)]
theorem ok_Z_close : ∀ pc, g_S (J_Z_close) pc (cd_Z_close pc) := g_chk_ok <|
  List.forall_mem_cons.mpr ⟨ok_Z_close_0,
  List.forall_mem_cons.mpr ⟨ok_Z_close_1,
  List.forall_mem_cons.mpr ⟨ok_Z_close_2,
  List.forall_mem_cons.mpr ⟨ok_Z_close_3,
  List.forall_mem_cons.mpr ⟨ok_Z_close_4,
  List.forall_mem_cons.mpr ⟨ok_Z_close_5,
  fun _ h => absurd h List.not_mem_nil⟩⟩⟩⟩⟩⟩
abbrev J_Z_row : g_J := (y_Z_row, prog_12_method_17_code, 6, (some .int), (6, 140), [], none)
theorem d_Z_row_0 : decode prog_12_method_17_code 0 = .ok (.aload_n 0, 1) := by decide +kernel
theorem d_Z_row_1 : decode prog_12_method_17_code 1 = .ok (.iconst 0, 1) := by decide +kernel
theorem d_Z_row_2 : decode prog_12_method_17_code 2 = .ok (.putfield 69, 3) := by decide +kernel
theorem d_Z_row_5 : decode prog_12_method_17_code 5 = .ok (.iload_n 1, 1) := by decide +kernel
theorem d_Z_row_6 : decode prog_12_method_17_code 6 = .ok (.i2l, 1) := by decide +kernel
theorem d_Z_row_7 : decode prog_12_method_17_code 7 = .ok (.lconst 0, 1) := by decide +kernel
theorem d_Z_row_8 : decode prog_12_method_17_code 8 = .ok (.ldc2_w 151, 3) := by decide +kernel
theorem d_Z_row_11 : decode prog_12_method_17_code 11 = .ok (.invokestatic 74, 3) := by decide +kernel
theorem d_Z_row_14 : decode prog_12_method_17_code 14 = .ok (.ifCond .eq 48, 3) := by decide +kernel
theorem d_Z_row_17 : decode prog_12_method_17_code 17 = .ok (.iload_n 1, 1) := by decide +kernel
theorem d_Z_row_18 : decode prog_12_method_17_code 18 = .ok (.ifCond .ne 13, 3) := by decide +kernel
theorem d_Z_row_21 : decode prog_12_method_17_code 21 = .ok (.iload_n 2, 1) := by decide +kernel
theorem d_Z_row_22 : decode prog_12_method_17_code 22 = .ok (.i2l, 1) := by decide +kernel
theorem d_Z_row_23 : decode prog_12_method_17_code 23 = .ok (.lconst 0, 1) := by decide +kernel
theorem d_Z_row_24 : decode prog_12_method_17_code 24 = .ok (.lconst 1, 1) := by decide +kernel
theorem d_Z_row_25 : decode prog_12_method_17_code 25 = .ok (.invokestatic 74, 3) := by decide +kernel
theorem d_Z_row_28 : decode prog_12_method_17_code 28 = .ok (.ifCond .eq 34, 3) := by decide +kernel
theorem d_Z_row_31 : decode prog_12_method_17_code 31 = .ok (.iload_n 1, 1) := by decide +kernel
theorem d_Z_row_32 : decode prog_12_method_17_code 32 = .ok (.iconst 4, 1) := by decide +kernel
theorem d_Z_row_33 : decode prog_12_method_17_code 33 = .ok (.if_icmp .ne 16, 3) := by decide +kernel
theorem d_Z_row_36 : decode prog_12_method_17_code 36 = .ok (.iload_n 2, 1) := by decide +kernel
theorem d_Z_row_37 : decode prog_12_method_17_code 37 = .ok (.aload_n 0, 1) := by decide +kernel
theorem d_Z_row_38 : decode prog_12_method_17_code 38 = .ok (.getfield 13, 3) := by decide +kernel
theorem d_Z_row_41 : decode prog_12_method_17_code 41 = .ok (.aload_n 0, 1) := by decide +kernel
theorem d_Z_row_42 : decode prog_12_method_17_code 42 = .ok (.getfield 82, 3) := by decide +kernel
theorem d_Z_row_45 : decode prog_12_method_17_code 45 = .ok (.iaload, 1) := by decide +kernel
theorem d_Z_row_46 : decode prog_12_method_17_code 46 = .ok (.if_icmp .lt 16, 3) := by decide +kernel
theorem d_Z_row_49 : decode prog_12_method_17_code 49 = .ok (.iload_n 1, 1) := by decide +kernel
theorem d_Z_row_50 : decode prog_12_method_17_code 50 = .ok (.iconst 3, 1) := by decide +kernel
theorem d_Z_row_51 : decode prog_12_method_17_code 51 = .ok (.if_icmp .eq 7, 3) := by decide +kernel
theorem d_Z_row_54 : decode prog_12_method_17_code 54 = .ok (.iload_n 3, 1) := by decide +kernel
theorem d_Z_row_55 : decode prog_12_method_17_code 55 = .ok (.ifCond .ne 7, 3) := by decide +kernel
theorem d_Z_row_58 : decode prog_12_method_17_code 58 = .ok (.iconst 1, 1) := by decide +kernel
theorem d_Z_row_59 : decode prog_12_method_17_code 59 = .ok (.goto 4, 3) := by decide +kernel
theorem d_Z_row_62 : decode prog_12_method_17_code 62 = .ok (.iconst 0, 1) := by decide +kernel
theorem d_Z_row_63 : decode prog_12_method_17_code 63 = .ok (.istore 4, 2) := by decide +kernel
theorem d_Z_row_65 : decode prog_12_method_17_code 65 = .ok (.iload 4, 2) := by decide +kernel
theorem d_Z_row_67 : decode prog_12_method_17_code 67 = .ok (.ifCond .ne 9, 3) := by decide +kernel
theorem d_Z_row_70 : decode prog_12_method_17_code 70 = .ok (.aload_n 0, 1) := by decide +kernel
theorem d_Z_row_71 : decode prog_12_method_17_code 71 = .ok (.iconst 1, 1) := by decide +kernel
theorem d_Z_row_72 : decode prog_12_method_17_code 72 = .ok (.invokevirtual 78, 3) := by decide +kernel
theorem d_Z_row_75 : decode prog_12_method_17_code 75 = .ok (.ireturn, 1) := by decide +kernel
theorem d_Z_row_76 : decode prog_12_method_17_code 76 = .ok (.aload_n 0, 1) := by decide +kernel
theorem d_Z_row_77 : decode prog_12_method_17_code 77 = .ok (.getfield 108, 3) := by decide +kernel
theorem d_Z_row_80 : decode prog_12_method_17_code 80 = .ok (.ifCond .le 27, 3) := by decide +kernel
theorem d_Z_row_83 : decode prog_12_method_17_code 83 = .ok (.aload_n 0, 1) := by decide +kernel
theorem d_Z_row_84 : decode prog_12_method_17_code 84 = .ok (.getfield 126, 3) := by decide +kernel
theorem d_Z_row_87 : decode prog_12_method_17_code 87 = .ok (.aload_n 0, 1) := by decide +kernel
theorem d_Z_row_88 : decode prog_12_method_17_code 88 = .ok (.getfield 82, 3) := by decide +kernel
theorem d_Z_row_91 : decode prog_12_method_17_code 91 = .ok (.if_icmp .ne 12, 3) := by decide +kernel
theorem d_Z_row_94 : decode prog_12_method_17_code 94 = .ok (.aload_n 0, 1) := by decide +kernel
theorem d_Z_row_95 : decode prog_12_method_17_code 95 = .ok (.getfield 108, 3) := by decide +kernel
theorem d_Z_row_98 : decode prog_12_method_17_code 98 = .ok (.bipush 100, 2) := by decide +kernel
theorem d_Z_row_100 : decode prog_12_method_17_code 100 = .ok (.if_icmp .ne 7, 3) := by decide +kernel
theorem d_Z_row_103 : decode prog_12_method_17_code 103 = .ok (.iconst 1, 1) := by decide +kernel
theorem d_Z_row_104 : decode prog_12_method_17_code 104 = .ok (.goto 4, 3) := by decide +kernel
theorem d_Z_row_107 : decode prog_12_method_17_code 107 = .ok (.iconst 0, 1) := by decide +kernel
theorem d_Z_row_108 : decode prog_12_method_17_code 108 = .ok (.istore 5, 2) := by decide +kernel
theorem d_Z_row_110 : decode prog_12_method_17_code 110 = .ok (.iload 5, 2) := by decide +kernel
theorem d_Z_row_112 : decode prog_12_method_17_code 112 = .ok (.ifCond .eq 16, 3) := by decide +kernel
theorem d_Z_row_115 : decode prog_12_method_17_code 115 = .ok (.aload_n 0, 1) := by decide +kernel
theorem d_Z_row_116 : decode prog_12_method_17_code 116 = .ok (.invokevirtual 153, 3) := by decide +kernel
theorem d_Z_row_119 : decode prog_12_method_17_code 119 = .ok (.ifCond .ne 9, 3) := by decide +kernel
theorem d_Z_row_122 : decode prog_12_method_17_code 122 = .ok (.aload_n 0, 1) := by decide +kernel
theorem d_Z_row_123 : decode prog_12_method_17_code 123 = .ok (.iconst 2, 1) := by decide +kernel
theorem d_Z_row_124 : decode prog_12_method_17_code 124 = .ok (.invokevirtual 78, 3) := by decide +kernel
theorem d_Z_row_127 : decode prog_12_method_17_code 127 = .ok (.ireturn, 1) := by decide +kernel
theorem d_Z_row_128 : decode prog_12_method_17_code 128 = .ok (.aload_n 0, 1) := by decide +kernel
theorem d_Z_row_129 : decode prog_12_method_17_code 129 = .ok (.getfield 108, 3) := by decide +kernel
theorem d_Z_row_132 : decode prog_12_method_17_code 132 = .ok (.ifCond .ne 24, 3) := by decide +kernel
theorem d_Z_row_135 : decode prog_12_method_17_code 135 = .ok (.aload_n 0, 1) := by decide +kernel
theorem d_Z_row_136 : decode prog_12_method_17_code 136 = .ok (.aload_n 0, 1) := by decide +kernel
theorem d_Z_row_137 : decode prog_12_method_17_code 137 = .ok (.getfield 82, 3) := by decide +kernel
theorem d_Z_row_140 : decode prog_12_method_17_code 140 = .ok (.putfield 126, 3) := by decide +kernel
theorem d_Z_row_143 : decode prog_12_method_17_code 143 = .ok (.aload_n 0, 1) := by decide +kernel
theorem d_Z_row_144 : decode prog_12_method_17_code 144 = .ok (.aload_n 0, 1) := by decide +kernel
theorem d_Z_row_145 : decode prog_12_method_17_code 145 = .ok (.getfield 13, 3) := by decide +kernel
theorem d_Z_row_148 : decode prog_12_method_17_code 148 = .ok (.aload_n 0, 1) := by decide +kernel
theorem d_Z_row_149 : decode prog_12_method_17_code 149 = .ok (.getfield 82, 3) := by decide +kernel
theorem d_Z_row_152 : decode prog_12_method_17_code 152 = .ok (.iaload, 1) := by decide +kernel
theorem d_Z_row_153 : decode prog_12_method_17_code 153 = .ok (.putfield 105, 3) := by decide +kernel
theorem d_Z_row_156 : decode prog_12_method_17_code 156 = .ok (.aload_n 0, 1) := by decide +kernel
theorem d_Z_row_157 : decode prog_12_method_17_code 157 = .ok (.getfield 17, 3) := by decide +kernel
theorem d_Z_row_160 : decode prog_12_method_17_code 160 = .ok (.aload_n 0, 1) := by decide +kernel
theorem d_Z_row_161 : decode prog_12_method_17_code 161 = .ok (.getfield 108, 3) := by decide +kernel
theorem d_Z_row_164 : decode prog_12_method_17_code 164 = .ok (.iload_n 1, 1) := by decide +kernel
theorem d_Z_row_165 : decode prog_12_method_17_code 165 = .ok (.iastore, 1) := by decide +kernel
theorem d_Z_row_166 : decode prog_12_method_17_code 166 = .ok (.aload_n 0, 1) := by decide +kernel
theorem d_Z_row_167 : decode prog_12_method_17_code 167 = .ok (.getfield 20, 3) := by decide +kernel
theorem d_Z_row_170 : decode prog_12_method_17_code 170 = .ok (.aload_n 0, 1) := by decide +kernel
theorem d_Z_row_171 : decode prog_12_method_17_code 171 = .ok (.getfield 108, 3) := by decide +kernel
theorem d_Z_row_174 : decode prog_12_method_17_code 174 = .ok (.iload_n 2, 1) := by decide +kernel
theorem d_Z_row_175 : decode prog_12_method_17_code 175 = .ok (.iastore, 1) := by decide +kernel
theorem d_Z_row_176 : decode prog_12_method_17_code 176 = .ok (.aload_n 0, 1) := by decide +kernel
theorem d_Z_row_177 : decode prog_12_method_17_code 177 = .ok (.getfield 23, 3) := by decide +kernel
theorem d_Z_row_180 : decode prog_12_method_17_code 180 = .ok (.aload_n 0, 1) := by decide +kernel
theorem d_Z_row_181 : decode prog_12_method_17_code 181 = .ok (.getfield 108, 3) := by decide +kernel
theorem d_Z_row_184 : decode prog_12_method_17_code 184 = .ok (.iload_n 3, 1) := by decide +kernel
theorem d_Z_row_185 : decode prog_12_method_17_code 185 = .ok (.iastore, 1) := by decide +kernel
theorem d_Z_row_186 : decode prog_12_method_17_code 186 = .ok (.aload_n 0, 1) := by decide +kernel
theorem d_Z_row_187 : decode prog_12_method_17_code 187 = .ok (.dup, 1) := by decide +kernel
theorem d_Z_row_188 : decode prog_12_method_17_code 188 = .ok (.getfield 108, 3) := by decide +kernel
theorem d_Z_row_191 : decode prog_12_method_17_code 191 = .ok (.iconst 1, 1) := by decide +kernel
theorem d_Z_row_192 : decode prog_12_method_17_code 192 = .ok (.iadd, 1) := by decide +kernel
theorem d_Z_row_193 : decode prog_12_method_17_code 193 = .ok (.putfield 108, 3) := by decide +kernel
theorem d_Z_row_196 : decode prog_12_method_17_code 196 = .ok (.aload_n 0, 1) := by decide +kernel
theorem d_Z_row_197 : decode prog_12_method_17_code 197 = .ok (.dup, 1) := by decide +kernel
theorem d_Z_row_198 : decode prog_12_method_17_code 198 = .ok (.getfield 157, 3) := by decide +kernel
theorem d_Z_row_201 : decode prog_12_method_17_code 201 = .ok (.iconst 1, 1) := by decide +kernel
theorem d_Z_row_202 : decode prog_12_method_17_code 202 = .ok (.iadd, 1) := by decide +kernel
theorem d_Z_row_203 : decode prog_12_method_17_code 203 = .ok (.putfield 157, 3) := by decide +kernel
theorem d_Z_row_206 : decode prog_12_method_17_code 206 = .ok (.iload_n 1, 1) := by decide +kernel
theorem d_Z_row_207 : decode prog_12_method_17_code 207 = .ok (.iconst 4, 1) := by decide +kernel
theorem d_Z_row_208 : decode prog_12_method_17_code 208 = .ok (.if_icmp .ne 13, 3) := by decide +kernel
theorem d_Z_row_211 : decode prog_12_method_17_code 211 = .ok (.aload_n 0, 1) := by decide +kernel
theorem d_Z_row_212 : decode prog_12_method_17_code 212 = .ok (.getfield 13, 3) := by decide +kernel
theorem d_Z_row_215 : decode prog_12_method_17_code 215 = .ok (.aload_n 0, 1) := by decide +kernel
theorem d_Z_row_216 : decode prog_12_method_17_code 216 = .ok (.getfield 82, 3) := by decide +kernel
theorem d_Z_row_219 : decode prog_12_method_17_code 219 = .ok (.iload_n 2, 1) := by decide +kernel
theorem d_Z_row_220 : decode prog_12_method_17_code 220 = .ok (.iastore, 1) := by decide +kernel
theorem d_Z_row_221 : decode prog_12_method_17_code 221 = .ok (.aload_n 0, 1) := by decide +kernel
theorem d_Z_row_222 : decode prog_12_method_17_code 222 = .ok (.getfield 108, 3) := by decide +kernel
theorem d_Z_row_225 : decode prog_12_method_17_code 225 = .ok (.ireturn, 1) := by decide +kernel
def cd_Z_row_0 : Nat → g_T := g_tab [(0, tr_ald 0 1), (1, tr_cst (.int (0)) 2), (2, tr_put 10 0 (.int) 5), (5, tr_ild 1 6), (6, tr_i2l 7), (7, tr_cst (.long (0)) 8), (8, tr_cst (.long (4)) 11), (11, tr_cS J_Z_within 3 14), (14, tr_if1 (fun x => x = 0) 62 17), (17, tr_ild 1 18), (18, tr_if1 (fun x => ¬ x = 0) 31 21), (21, tr_ild 2 22), (22, tr_i2l 23), (23, tr_cst (.long (0)) 24), (24, tr_cst (.long (1)) 25), (25, tr_cS J_Z_within 3 28)]
set_option maxRecDepth 100000 in
theorem ok_Z_row_0 : ∀ pc, g_S (J_Z_row) pc (cd_Z_row_0 pc) := g_tab_ok <|
  List.forall_mem_cons.mpr ⟨so_aload_n d_Z_row_0 rfl rfl,
  List.forall_mem_cons.mpr ⟨so_iconst (by decide) d_Z_row_1 rfl,
  List.forall_mem_cons.mpr ⟨so_put ft_Z d_Z_row_2 (rfl : vwCl[10]? = some (R_Z, F_Z, 40)) (Nat.le_of_ble_eq_true rfl) i_Z w_4_98 tk_Z n_Z rfl rfl rfl,
  List.forall_mem_cons.mpr ⟨so_iload_n d_Z_row_5 rfl rfl,
  List.forall_mem_cons.mpr ⟨so_i2l d_Z_row_6 rfl,
  List.forall_mem_cons.mpr ⟨so_lconst (by decide) d_Z_row_7 rfl,
  List.forall_mem_cons.mpr ⟨so_ldc2 w_4_239 d_Z_row_8 rfl,
  List.forall_mem_cons.mpr ⟨so_cS g_good d_Z_row_11 ⟨w_4_230, (Nat.le_of_ble_eq_true rfl), (Nat.le_of_ble_eq_true rfl), w_1_12, ⟨by decide, by decide⟩, by decide +kernel⟩ w_4_228 w_4_229 rfl,
  List.forall_mem_cons.mpr ⟨so_if_eq d_Z_row_14 (by decide) rfl,
  List.forall_mem_cons.mpr ⟨so_iload_n d_Z_row_17 rfl rfl,
  List.forall_mem_cons.mpr ⟨so_if_ne d_Z_row_18 (by decide) rfl,
  List.forall_mem_cons.mpr ⟨so_iload_n d_Z_row_21 rfl rfl,
  List.forall_mem_cons.mpr ⟨so_i2l d_Z_row_22 rfl,
  List.forall_mem_cons.mpr ⟨so_lconst (by decide) d_Z_row_23 rfl,
  List.forall_mem_cons.mpr ⟨so_lconst (by decide) d_Z_row_24 rfl,
  List.forall_mem_cons.mpr ⟨so_cS g_good d_Z_row_25 ⟨w_4_230, (Nat.le_of_ble_eq_true rfl), (Nat.le_of_ble_eq_true rfl), w_1_12, ⟨by decide, by decide⟩, by decide +kernel⟩ w_4_228 w_4_229 rfl,
  fun _ h => absurd h List.not_mem_nil⟩⟩⟩⟩⟩⟩⟩⟩⟩⟩⟩⟩⟩⟩⟩⟩
def cd_Z_row_1 : Nat → g_T := g_tab [(28, tr_if1 (fun x => x = 0) 62 31), (31, tr_ild 1 32), (32, tr_cst (.int (4)) 33), (33, tr_if2 (fun x y => ¬ x = y) 49 36), (36, tr_ild 2 37), (37, tr_ald 0 38), (38, tr_get 10 4 41), (41, tr_ald 0 42), (42, tr_get 10 3 45), (45, tr_ial 46), (46, tr_if2 (fun x y => x < y) 62 49), (49, tr_ild 1 50), (50, tr_cst (.int (3)) 51), (51, tr_if2 (fun x y => x = y) 58 54), (54, tr_ild 3 55), (55, tr_if1 (fun x => ¬ x = 0) 62 58)]
set_option maxRecDepth 100000 in
theorem ok_Z_row_1 : ∀ pc, g_S (J_Z_row) pc (cd_Z_row_1 pc) := g_tab_ok <|
  List.forall_mem_cons.mpr ⟨so_if_eq d_Z_row_28 (by decide) rfl,
  List.forall_mem_cons.mpr ⟨so_iload_n d_Z_row_31 rfl rfl,
  List.forall_mem_cons.mpr ⟨so_iconst (by decide) d_Z_row_32 rfl,
  List.forall_mem_cons.mpr ⟨so_icmp_ne d_Z_row_33 (by decide) rfl,
  List.forall_mem_cons.mpr ⟨so_iload_n d_Z_row_36 rfl rfl,
  List.forall_mem_cons.mpr ⟨so_aload_n d_Z_row_37 rfl rfl,
  List.forall_mem_cons.mpr ⟨so_get d_Z_row_38 (rfl : vwCl[10]? = some (R_Z, F_Z, 40)) (Nat.le_of_ble_eq_true rfl) i_Z w_4_102 rfl,
  List.forall_mem_cons.mpr ⟨so_aload_n d_Z_row_41 rfl rfl,
  List.forall_mem_cons.mpr ⟨so_get d_Z_row_42 (rfl : vwCl[10]? = some (R_Z, F_Z, 40)) (Nat.le_of_ble_eq_true rfl) i_Z w_4_101 rfl,
  List.forall_mem_cons.mpr ⟨so_iaload d_Z_row_45 rfl,
  List.forall_mem_cons.mpr ⟨so_icmp_lt d_Z_row_46 (by decide) rfl,
  List.forall_mem_cons.mpr ⟨so_iload_n d_Z_row_49 rfl rfl,
  List.forall_mem_cons.mpr ⟨so_iconst (by decide) d_Z_row_50 rfl,
  List.forall_mem_cons.mpr ⟨so_icmp_eq d_Z_row_51 (by decide) rfl,
  List.forall_mem_cons.mpr ⟨so_iload_n d_Z_row_54 rfl rfl,
  List.forall_mem_cons.mpr ⟨so_if_ne d_Z_row_55 (by decide) rfl,
  fun _ h => absurd h List.not_mem_nil⟩⟩⟩⟩⟩⟩⟩⟩⟩⟩⟩⟩⟩⟩⟩⟩
def cd_Z_row_2 : Nat → g_T := g_tab [(58, tr_cst (.int (1)) 59), (59, tr_goto 63), (62, tr_cst (.int (0)) 63), (63, tr_ist 4 65), (65, tr_ild 4 67), (67, tr_if1 (fun x => ¬ x = 0) 76 70), (70, tr_ald 0 71), (71, tr_cst (.int (1)) 72), (72, tr_cV J_Z_fail 10 1 75), (75, tr_ri), (76, tr_ald 0 77), (77, tr_get 10 5 80), (80, tr_if1 (fun x => x ≤ 0) 107 83), (83, tr_ald 0 84), (84, tr_get 10 6 87), (87, tr_ald 0 88)]
set_option maxRecDepth 100000 in
theorem ok_Z_row_2 : ∀ pc, g_S (J_Z_row) pc (cd_Z_row_2 pc) := g_tab_ok <|
  List.forall_mem_cons.mpr ⟨so_iconst (by decide) d_Z_row_58 rfl,
  List.forall_mem_cons.mpr ⟨so_goto d_Z_row_59 (by decide),
  List.forall_mem_cons.mpr ⟨so_iconst (by decide) d_Z_row_62 rfl,
  List.forall_mem_cons.mpr ⟨so_istore d_Z_row_63 (Nat.le_of_ble_eq_true rfl) rfl,
  List.forall_mem_cons.mpr ⟨so_iload d_Z_row_65 rfl,
  List.forall_mem_cons.mpr ⟨so_if_ne d_Z_row_67 (by decide) rfl,
  List.forall_mem_cons.mpr ⟨so_aload_n d_Z_row_70 rfl rfl,
  List.forall_mem_cons.mpr ⟨so_iconst (by decide) d_Z_row_71 rfl,
  List.forall_mem_cons.mpr ⟨so_cV g_good d_Z_row_72 ⟨w_4_234, (Nat.le_of_ble_eq_true rfl), (Nat.le_of_ble_eq_true rfl), w_1_12, ⟨by decide, by decide⟩, by decide +kernel⟩ (rfl : vwCl[10]? = some (R_Z, F_Z, 40)) w_4_231 w_4_233 w_p27 rfl,
  List.forall_mem_cons.mpr ⟨so_iret d_Z_row_75 rfl,
  List.forall_mem_cons.mpr ⟨so_aload_n d_Z_row_76 rfl rfl,
  List.forall_mem_cons.mpr ⟨so_get d_Z_row_77 (rfl : vwCl[10]? = some (R_Z, F_Z, 40)) (Nat.le_of_ble_eq_true rfl) i_Z w_4_103 rfl,
  List.forall_mem_cons.mpr ⟨so_if_le d_Z_row_80 (by decide) rfl,
  List.forall_mem_cons.mpr ⟨so_aload_n d_Z_row_83 rfl rfl,
  List.forall_mem_cons.mpr ⟨so_get d_Z_row_84 (rfl : vwCl[10]? = some (R_Z, F_Z, 40)) (Nat.le_of_ble_eq_true rfl) i_Z w_4_104 rfl,
  List.forall_mem_cons.mpr ⟨so_aload_n d_Z_row_87 rfl rfl,
  fun _ h => absurd h List.not_mem_nil⟩⟩⟩⟩⟩⟩⟩⟩⟩⟩⟩⟩⟩⟩⟩⟩
def cd_Z_row_3 : Nat → g_T := g_tab [(88, tr_get 10 3 91), (91, tr_if2 (fun x y => ¬ x = y) 103 94), (94, tr_ald 0 95), (95, tr_get 10 5 98), (98, tr_cst (.int (100)) 100), (100, tr_if2 (fun x y => ¬ x = y) 107 103), (103, tr_cst (.int (1)) 104), (104, tr_goto 108), (107, tr_cst (.int (0)) 108), (108, tr_ist 5 110), (110, tr_ild 5 112), (112, tr_if1 (fun x => x = 0) 128 115), (115, tr_ald 0 116), (116, tr_cV J_Z_close 10 0 119), (119, tr_if1 (fun x => ¬ x = 0) 128 122), (122, tr_ald 0 123)]
set_option maxRecDepth 100000 in
theorem ok_Z_row_3 : ∀ pc, g_S (J_Z_row) pc (cd_Z_row_3 pc) := g_tab_ok <|
  List.forall_mem_cons.mpr ⟨so_get d_Z_row_88 (rfl : vwCl[10]? = some (R_Z, F_Z, 40)) (Nat.le_of_ble_eq_true rfl) i_Z w_4_101 rfl,
  List.forall_mem_cons.mpr ⟨so_icmp_ne d_Z_row_91 (by decide) rfl,
  List.forall_mem_cons.mpr ⟨so_aload_n d_Z_row_94 rfl rfl,
  List.forall_mem_cons.mpr ⟨so_get d_Z_row_95 (rfl : vwCl[10]? = some (R_Z, F_Z, 40)) (Nat.le_of_ble_eq_true rfl) i_Z w_4_103 rfl,
  List.forall_mem_cons.mpr ⟨so_bipush (by decide) d_Z_row_98 rfl,
  List.forall_mem_cons.mpr ⟨so_icmp_ne d_Z_row_100 (by decide) rfl,
  List.forall_mem_cons.mpr ⟨so_iconst (by decide) d_Z_row_103 rfl,
  List.forall_mem_cons.mpr ⟨so_goto d_Z_row_104 (by decide),
  List.forall_mem_cons.mpr ⟨so_iconst (by decide) d_Z_row_107 rfl,
  List.forall_mem_cons.mpr ⟨so_istore d_Z_row_108 (Nat.le_of_ble_eq_true rfl) rfl,
  List.forall_mem_cons.mpr ⟨so_iload d_Z_row_110 rfl,
  List.forall_mem_cons.mpr ⟨so_if_eq d_Z_row_112 (by decide) rfl,
  List.forall_mem_cons.mpr ⟨so_aload_n d_Z_row_115 rfl rfl,
  List.forall_mem_cons.mpr ⟨so_cV g_good d_Z_row_116 ⟨w_5_3, (Nat.le_of_ble_eq_true rfl), (Nat.le_of_ble_eq_true rfl), w_1_12, ⟨by decide, by decide⟩, by decide +kernel⟩ (rfl : vwCl[10]? = some (R_Z, F_Z, 40)) w_5_0 w_5_2 w_p28 rfl,
  List.forall_mem_cons.mpr ⟨so_if_ne d_Z_row_119 (by decide) rfl,
  List.forall_mem_cons.mpr ⟨so_aload_n d_Z_row_122 rfl rfl,
  fun _ h => absurd h List.not_mem_nil⟩⟩⟩⟩⟩⟩⟩⟩⟩⟩⟩⟩⟩⟩⟩⟩
def cd_Z_row_4 : Nat → g_T := g_tab [(123, tr_cst (.int (2)) 124), (124, tr_cV J_Z_fail 10 1 127), (127, tr_ri), (128, tr_ald 0 129), (129, tr_get 10 5 132), (132, tr_if1 (fun x => ¬ x = 0) 156 135), (135, tr_ald 0 136), (136, tr_ald 0 137), (137, tr_get 10 3 140), (140, tr_put 10 6 (.int) 143), (143, tr_ald 0 144), (144, tr_ald 0 145), (145, tr_get 10 4 148), (148, tr_ald 0 149), (149, tr_get 10 3 152), (152, tr_ial 153)]
set_option maxRecDepth 100000 in
theorem ok_Z_row_4 : ∀ pc, g_S (J_Z_row) pc (cd_Z_row_4 pc) := g_tab_ok <|
  List.forall_mem_cons.mpr ⟨so_iconst (by decide) d_Z_row_123 rfl,
  List.forall_mem_cons.mpr ⟨so_cV g_good d_Z_row_124 ⟨w_4_234, (Nat.le_of_ble_eq_true rfl), (Nat.le_of_ble_eq_true rfl), w_1_12, ⟨by decide, by decide⟩, by decide +kernel⟩ (rfl : vwCl[10]? = some (R_Z, F_Z, 40)) w_4_231 w_4_233 w_p27 rfl,
  List.forall_mem_cons.mpr ⟨so_iret d_Z_row_127 rfl,
  List.forall_mem_cons.mpr ⟨so_aload_n d_Z_row_128 rfl rfl,
  List.forall_mem_cons.mpr ⟨so_get d_Z_row_129 (rfl : vwCl[10]? = some (R_Z, F_Z, 40)) (Nat.le_of_ble_eq_true rfl) i_Z w_4_103 rfl,
  List.forall_mem_cons.mpr ⟨so_if_ne d_Z_row_132 (by decide) rfl,
  List.forall_mem_cons.mpr ⟨so_aload_n d_Z_row_135 rfl rfl,
  List.forall_mem_cons.mpr ⟨so_aload_n d_Z_row_136 rfl rfl,
  List.forall_mem_cons.mpr ⟨so_get d_Z_row_137 (rfl : vwCl[10]? = some (R_Z, F_Z, 40)) (Nat.le_of_ble_eq_true rfl) i_Z w_4_101 rfl,
  List.forall_mem_cons.mpr ⟨so_put ft_Z d_Z_row_140 (rfl : vwCl[10]? = some (R_Z, F_Z, 40)) (Nat.le_of_ble_eq_true rfl) i_Z w_4_104 tk_Z n_Z rfl rfl rfl,
  List.forall_mem_cons.mpr ⟨so_aload_n d_Z_row_143 rfl rfl,
  List.forall_mem_cons.mpr ⟨so_aload_n d_Z_row_144 rfl rfl,
  List.forall_mem_cons.mpr ⟨so_get d_Z_row_145 (rfl : vwCl[10]? = some (R_Z, F_Z, 40)) (Nat.le_of_ble_eq_true rfl) i_Z w_4_102 rfl,
  List.forall_mem_cons.mpr ⟨so_aload_n d_Z_row_148 rfl rfl,
  List.forall_mem_cons.mpr ⟨so_get d_Z_row_149 (rfl : vwCl[10]? = some (R_Z, F_Z, 40)) (Nat.le_of_ble_eq_true rfl) i_Z w_4_101 rfl,
  List.forall_mem_cons.mpr ⟨so_iaload d_Z_row_152 rfl,
  fun _ h => absurd h List.not_mem_nil⟩⟩⟩⟩⟩⟩⟩⟩⟩⟩⟩⟩⟩⟩⟩⟩
def cd_Z_row_5 : Nat → g_T := g_tab [(153, tr_put 10 7 (.int) 156), (156, tr_ald 0 157), (157, tr_get 10 8 160), (160, tr_ald 0 161), (161, tr_get 10 5 164), (164, tr_ild 1 165), (165, tr_ias 166), (166, tr_ald 0 167), (167, tr_get 10 9 170), (170, tr_ald 0 171), (171, tr_get 10 5 174), (174, tr_ild 2 175), (175, tr_ias 176), (176, tr_ald 0 177), (177, tr_get 10 10 180), (180, tr_ald 0 181)]
set_option maxRecDepth 100000 in
theorem ok_Z_row_5 : ∀ pc, g_S (J_Z_row) pc (cd_Z_row_5 pc) := g_tab_ok <|
  List.forall_mem_cons.mpr ⟨so_put ft_Z d_Z_row_153 (rfl : vwCl[10]? = some (R_Z, F_Z, 40)) (Nat.le_of_ble_eq_true rfl) i_Z w_4_105 tk_Z n_Z rfl rfl rfl,
  List.forall_mem_cons.mpr ⟨so_aload_n d_Z_row_156 rfl rfl,
  List.forall_mem_cons.mpr ⟨so_get d_Z_row_157 (rfl : vwCl[10]? = some (R_Z, F_Z, 40)) (Nat.le_of_ble_eq_true rfl) i_Z w_4_106 rfl,
  List.forall_mem_cons.mpr ⟨so_aload_n d_Z_row_160 rfl rfl,
  List.forall_mem_cons.mpr ⟨so_get d_Z_row_161 (rfl : vwCl[10]? = some (R_Z, F_Z, 40)) (Nat.le_of_ble_eq_true rfl) i_Z w_4_103 rfl,
  List.forall_mem_cons.mpr ⟨so_iload_n d_Z_row_164 rfl rfl,
  List.forall_mem_cons.mpr ⟨so_iastore d_Z_row_165 rfl,
  List.forall_mem_cons.mpr ⟨so_aload_n d_Z_row_166 rfl rfl,
  List.forall_mem_cons.mpr ⟨so_get d_Z_row_167 (rfl : vwCl[10]? = some (R_Z, F_Z, 40)) (Nat.le_of_ble_eq_true rfl) i_Z w_4_107 rfl,
  List.forall_mem_cons.mpr ⟨so_aload_n d_Z_row_170 rfl rfl,
  List.forall_mem_cons.mpr ⟨so_get d_Z_row_171 (rfl : vwCl[10]? = some (R_Z, F_Z, 40)) (Nat.le_of_ble_eq_true rfl) i_Z w_4_103 rfl,
  List.forall_mem_cons.mpr ⟨so_iload_n d_Z_row_174 rfl rfl,
  List.forall_mem_cons.mpr ⟨so_iastore d_Z_row_175 rfl,
  List.forall_mem_cons.mpr ⟨so_aload_n d_Z_row_176 rfl rfl,
  List.forall_mem_cons.mpr ⟨so_get d_Z_row_177 (rfl : vwCl[10]? = some (R_Z, F_Z, 40)) (Nat.le_of_ble_eq_true rfl) i_Z w_4_108 rfl,
  List.forall_mem_cons.mpr ⟨so_aload_n d_Z_row_180 rfl rfl,
  fun _ h => absurd h List.not_mem_nil⟩⟩⟩⟩⟩⟩⟩⟩⟩⟩⟩⟩⟩⟩⟩⟩
def cd_Z_row_6 : Nat → g_T := g_tab [(181, tr_get 10 5 184), (184, tr_ild 3 185), (185, tr_ias 186), (186, tr_ald 0 187), (187, tr_dup 188), (188, tr_get 10 5 191), (191, tr_cst (.int (1)) 192), (192, tr_ii (fun x y => x + y) 193), (193, tr_put 10 5 (.int) 196), (196, tr_ald 0 197), (197, tr_dup 198), (198, tr_get 10 11 201), (201, tr_cst (.int (1)) 202), (202, tr_ii (fun x y => x + y) 203), (203, tr_put 10 11 (.int) 206), (206, tr_ild 1 207)]
set_option maxRecDepth 100000 in
theorem ok_Z_row_6 : ∀ pc, g_S (J_Z_row) pc (cd_Z_row_6 pc) := g_tab_ok <|
  List.forall_mem_cons.mpr ⟨so_get d_Z_row_181 (rfl : vwCl[10]? = some (R_Z, F_Z, 40)) (Nat.le_of_ble_eq_true rfl) i_Z w_4_103 rfl,
  List.forall_mem_cons.mpr ⟨so_iload_n d_Z_row_184 rfl rfl,
  List.forall_mem_cons.mpr ⟨so_iastore d_Z_row_185 rfl,
  List.forall_mem_cons.mpr ⟨so_aload_n d_Z_row_186 rfl rfl,
  List.forall_mem_cons.mpr ⟨so_dup d_Z_row_187 rfl,
  List.forall_mem_cons.mpr ⟨so_get d_Z_row_188 (rfl : vwCl[10]? = some (R_Z, F_Z, 40)) (Nat.le_of_ble_eq_true rfl) i_Z w_4_103 rfl,
  List.forall_mem_cons.mpr ⟨so_iconst (by decide) d_Z_row_191 rfl,
  List.forall_mem_cons.mpr ⟨so_iadd d_Z_row_192 rfl,
  List.forall_mem_cons.mpr ⟨so_put ft_Z d_Z_row_193 (rfl : vwCl[10]? = some (R_Z, F_Z, 40)) (Nat.le_of_ble_eq_true rfl) i_Z w_4_103 tk_Z n_Z rfl rfl rfl,
  List.forall_mem_cons.mpr ⟨so_aload_n d_Z_row_196 rfl rfl,
  List.forall_mem_cons.mpr ⟨so_dup d_Z_row_197 rfl,
  List.forall_mem_cons.mpr ⟨so_get d_Z_row_198 (rfl : vwCl[10]? = some (R_Z, F_Z, 40)) (Nat.le_of_ble_eq_true rfl) i_Z w_4_109 rfl,
  List.forall_mem_cons.mpr ⟨so_iconst (by decide) d_Z_row_201 rfl,
  List.forall_mem_cons.mpr ⟨so_iadd d_Z_row_202 rfl,
  List.forall_mem_cons.mpr ⟨so_put ft_Z d_Z_row_203 (rfl : vwCl[10]? = some (R_Z, F_Z, 40)) (Nat.le_of_ble_eq_true rfl) i_Z w_4_109 tk_Z n_Z rfl rfl rfl,
  List.forall_mem_cons.mpr ⟨so_iload_n d_Z_row_206 rfl rfl,
  fun _ h => absurd h List.not_mem_nil⟩⟩⟩⟩⟩⟩⟩⟩⟩⟩⟩⟩⟩⟩⟩⟩
def cd_Z_row_7 : Nat → g_T := g_tab [(207, tr_cst (.int (4)) 208), (208, tr_if2 (fun x y => ¬ x = y) 221 211), (211, tr_ald 0 212), (212, tr_get 10 4 215), (215, tr_ald 0 216), (216, tr_get 10 3 219), (219, tr_ild 2 220), (220, tr_ias 221), (221, tr_ald 0 222), (222, tr_get 10 5 225), (225, tr_ri)]
set_option maxRecDepth 100000 in
theorem ok_Z_row_7 : ∀ pc, g_S (J_Z_row) pc (cd_Z_row_7 pc) := g_tab_ok <|
  List.forall_mem_cons.mpr ⟨so_iconst (by decide) d_Z_row_207 rfl,
  List.forall_mem_cons.mpr ⟨so_icmp_ne d_Z_row_208 (by decide) rfl,
  List.forall_mem_cons.mpr ⟨so_aload_n d_Z_row_211 rfl rfl,
  List.forall_mem_cons.mpr ⟨so_get d_Z_row_212 (rfl : vwCl[10]? = some (R_Z, F_Z, 40)) (Nat.le_of_ble_eq_true rfl) i_Z w_4_102 rfl,
  List.forall_mem_cons.mpr ⟨so_aload_n d_Z_row_215 rfl rfl,
  List.forall_mem_cons.mpr ⟨so_get d_Z_row_216 (rfl : vwCl[10]? = some (R_Z, F_Z, 40)) (Nat.le_of_ble_eq_true rfl) i_Z w_4_101 rfl,
  List.forall_mem_cons.mpr ⟨so_iload_n d_Z_row_219 rfl rfl,
  List.forall_mem_cons.mpr ⟨so_iastore d_Z_row_220 rfl,
  List.forall_mem_cons.mpr ⟨so_aload_n d_Z_row_221 rfl rfl,
  List.forall_mem_cons.mpr ⟨so_get d_Z_row_222 (rfl : vwCl[10]? = some (R_Z, F_Z, 40)) (Nat.le_of_ble_eq_true rfl) i_Z w_4_103 rfl,
  List.forall_mem_cons.mpr ⟨so_iret d_Z_row_225 rfl,
  fun _ h => absurd h List.not_mem_nil⟩⟩⟩⟩⟩⟩⟩⟩⟩⟩⟩
def cd_Z_row : Nat → g_T := g_chk [(25, cd_Z_row_0), (55, cd_Z_row_1), (87, cd_Z_row_2), (122, cd_Z_row_3), (152, cd_Z_row_4), (180, cd_Z_row_5), (206, cd_Z_row_6), (225, cd_Z_row_7)]
theorem ok_Z_row : ∀ pc, g_S (J_Z_row) pc (cd_Z_row pc) := g_chk_ok <|
  List.forall_mem_cons.mpr ⟨ok_Z_row_0,
  List.forall_mem_cons.mpr ⟨ok_Z_row_1,
  List.forall_mem_cons.mpr ⟨ok_Z_row_2,
  List.forall_mem_cons.mpr ⟨ok_Z_row_3,
  List.forall_mem_cons.mpr ⟨ok_Z_row_4,
  List.forall_mem_cons.mpr ⟨ok_Z_row_5,
  List.forall_mem_cons.mpr ⟨ok_Z_row_6,
  List.forall_mem_cons.mpr ⟨ok_Z_row_7,
  fun _ h => absurd h List.not_mem_nil⟩⟩⟩⟩⟩⟩⟩⟩
abbrev J_Z_mark : g_J := (y_Z_mark, prog_12_method_18_code, 1, (some .int), (6, 140), [], none)
theorem d_Z_mark_0 : decode prog_12_method_18_code 0 = .ok (.aload_n 0, 1) := by decide +kernel
theorem d_Z_mark_1 : decode prog_12_method_18_code 1 = .ok (.iconst 0, 1) := by decide +kernel
theorem d_Z_mark_2 : decode prog_12_method_18_code 2 = .ok (.putfield 69, 3) := by decide +kernel
theorem d_Z_mark_5 : decode prog_12_method_18_code 5 = .ok (.aload_n 0, 1) := by decide +kernel
theorem d_Z_mark_6 : decode prog_12_method_18_code 6 = .ok (.invokevirtual 153, 3) := by decide +kernel
theorem d_Z_mark_9 : decode prog_12_method_18_code 9 = .ok (.ifCond .eq 10, 3) := by decide +kernel
theorem d_Z_mark_12 : decode prog_12_method_18_code 12 = .ok (.aload_n 0, 1) := by decide +kernel
theorem d_Z_mark_13 : decode prog_12_method_18_code 13 = .ok (.getfield 142, 3) := by decide +kernel
theorem d_Z_mark_16 : decode prog_12_method_18_code 16 = .ok (.goto 8, 3) := by decide +kernel
theorem d_Z_mark_19 : decode prog_12_method_18_code 19 = .ok (.aload_n 0, 1) := by decide +kernel
theorem d_Z_mark_20 : decode prog_12_method_18_code 20 = .ok (.iconst 1, 1) := by decide +kernel
theorem d_Z_mark_21 : decode prog_12_method_18_code 21 = .ok (.invokevirtual 78, 3) := by decide +kernel
theorem d_Z_mark_24 : decode prog_12_method_18_code 24 = .ok (.ireturn, 1) := by decide +kernel
def cd_Z_mark_0 : Nat → g_T := g_tab [(0, tr_ald 0 1), (1, tr_cst (.int (0)) 2), (2, tr_put 10 0 (.int) 5), (5, tr_ald 0 6), (6, tr_cV J_Z_close 10 0 9), (9, tr_if1 (fun x => x = 0) 19 12), (12, tr_ald 0 13), (13, tr_get 10 1 16), (16, tr_goto 24), (19, tr_ald 0 20), (20, tr_cst (.int (1)) 21), (21, tr_cV J_Z_fail 10 1 24), (24, tr_ri)]
set_option maxRecDepth 100000 in
theorem ok_Z_mark_0 : ∀ pc, g_S (J_Z_mark) pc (cd_Z_mark_0 pc) := g_tab_ok <|
  List.forall_mem_cons.mpr ⟨so_aload_n d_Z_mark_0 rfl rfl,
  List.forall_mem_cons.mpr ⟨so_iconst (by decide) d_Z_mark_1 rfl,
  List.forall_mem_cons.mpr ⟨so_put ft_Z d_Z_mark_2 (rfl : vwCl[10]? = some (R_Z, F_Z, 40)) (Nat.le_of_ble_eq_true rfl) i_Z w_4_98 tk_Z n_Z rfl rfl rfl,
  List.forall_mem_cons.mpr ⟨so_aload_n d_Z_mark_5 rfl rfl,
  List.forall_mem_cons.mpr ⟨so_cV g_good d_Z_mark_6 ⟨w_5_3, (Nat.le_of_ble_eq_true rfl), (Nat.le_of_ble_eq_true rfl), w_1_12, ⟨by decide, by decide⟩, by decide +kernel⟩ (rfl : vwCl[10]? = some (R_Z, F_Z, 40)) w_5_0 w_5_2 w_p28 rfl,
  List.forall_mem_cons.mpr ⟨so_if_eq d_Z_mark_9 (by decide) rfl,
  List.forall_mem_cons.mpr ⟨so_aload_n d_Z_mark_12 rfl rfl,
  List.forall_mem_cons.mpr ⟨so_get d_Z_mark_13 (rfl : vwCl[10]? = some (R_Z, F_Z, 40)) (Nat.le_of_ble_eq_true rfl) i_Z w_4_99 rfl,
  List.forall_mem_cons.mpr ⟨so_goto d_Z_mark_16 (by decide),
  List.forall_mem_cons.mpr ⟨so_aload_n d_Z_mark_19 rfl rfl,
  List.forall_mem_cons.mpr ⟨so_iconst (by decide) d_Z_mark_20 rfl,
  List.forall_mem_cons.mpr ⟨so_cV g_good d_Z_mark_21 ⟨w_4_234, (Nat.le_of_ble_eq_true rfl), (Nat.le_of_ble_eq_true rfl), w_1_12, ⟨by decide, by decide⟩, by decide +kernel⟩ (rfl : vwCl[10]? = some (R_Z, F_Z, 40)) w_4_231 w_4_233 w_p27 rfl,
  List.forall_mem_cons.mpr ⟨so_iret d_Z_mark_24 rfl,
  fun _ h => absurd h List.not_mem_nil⟩⟩⟩⟩⟩⟩⟩⟩⟩⟩⟩⟩⟩
def cd_Z_mark : Nat → g_T := g_chk [(24, cd_Z_mark_0)]
theorem ok_Z_mark : ∀ pc, g_S (J_Z_mark) pc (cd_Z_mark pc) := g_chk_ok <|
  List.forall_mem_cons.mpr ⟨ok_Z_mark_0,
  fun _ h => absurd h List.not_mem_nil⟩
abbrev J_Z_byteAt : g_J := (y_Z_byteAt, prog_12_method_19_code, 2, (some .int), (1, 25), [], none)
theorem d_Z_byteAt_0 : decode prog_12_method_19_code 0 = .ok (.aload_n 0, 1) := by decide +kernel
theorem d_Z_byteAt_1 : decode prog_12_method_19_code 1 = .ok (.iconst 0, 1) := by decide +kernel
theorem d_Z_byteAt_2 : decode prog_12_method_19_code 2 = .ok (.putfield 69, 3) := by decide +kernel
theorem d_Z_byteAt_5 : decode prog_12_method_19_code 5 = .ok (.iload_n 1, 1) := by decide +kernel
theorem d_Z_byteAt_6 : decode prog_12_method_19_code 6 = .ok (.i2l, 1) := by decide +kernel
theorem d_Z_byteAt_7 : decode prog_12_method_19_code 7 = .ok (.lconst 0, 1) := by decide +kernel
theorem d_Z_byteAt_8 : decode prog_12_method_19_code 8 = .ok (.aload_n 0, 1) := by decide +kernel
theorem d_Z_byteAt_9 : decode prog_12_method_19_code 9 = .ok (.getfield 142, 3) := by decide +kernel
theorem d_Z_byteAt_12 : decode prog_12_method_19_code 12 = .ok (.iconst 1, 1) := by decide +kernel
theorem d_Z_byteAt_13 : decode prog_12_method_19_code 13 = .ok (.isub, 1) := by decide +kernel
theorem d_Z_byteAt_14 : decode prog_12_method_19_code 14 = .ok (.i2l, 1) := by decide +kernel
theorem d_Z_byteAt_15 : decode prog_12_method_19_code 15 = .ok (.invokestatic 74, 3) := by decide +kernel
theorem d_Z_byteAt_18 : decode prog_12_method_19_code 18 = .ok (.ifCond .eq 16, 3) := by decide +kernel
theorem d_Z_byteAt_21 : decode prog_12_method_19_code 21 = .ok (.aload_n 0, 1) := by decide +kernel
theorem d_Z_byteAt_22 : decode prog_12_method_19_code 22 = .ok (.getfield 7, 3) := by decide +kernel
theorem d_Z_byteAt_25 : decode prog_12_method_19_code 25 = .ok (.iload_n 1, 1) := by decide +kernel
theorem d_Z_byteAt_26 : decode prog_12_method_19_code 26 = .ok (.baload, 1) := by decide +kernel
theorem d_Z_byteAt_27 : decode prog_12_method_19_code 27 = .ok (.sipush 255, 3) := by decide +kernel
theorem d_Z_byteAt_30 : decode prog_12_method_19_code 30 = .ok (.iand, 1) := by decide +kernel
theorem d_Z_byteAt_31 : decode prog_12_method_19_code 31 = .ok (.goto 8, 3) := by decide +kernel
theorem d_Z_byteAt_34 : decode prog_12_method_19_code 34 = .ok (.aload_n 0, 1) := by decide +kernel
theorem d_Z_byteAt_35 : decode prog_12_method_19_code 35 = .ok (.iconst 1, 1) := by decide +kernel
theorem d_Z_byteAt_36 : decode prog_12_method_19_code 36 = .ok (.invokevirtual 78, 3) := by decide +kernel
theorem d_Z_byteAt_39 : decode prog_12_method_19_code 39 = .ok (.ireturn, 1) := by decide +kernel
def cd_Z_byteAt_0 : Nat → g_T := g_tab [(0, tr_ald 0 1), (1, tr_cst (.int (0)) 2), (2, tr_put 10 0 (.int) 5), (5, tr_ild 1 6), (6, tr_i2l 7), (7, tr_cst (.long (0)) 8), (8, tr_ald 0 9), (9, tr_get 10 1 12), (12, tr_cst (.int (1)) 13), (13, tr_ii (fun x y => x - y) 14), (14, tr_i2l 15), (15, tr_cS J_Z_within 3 18), (18, tr_if1 (fun x => x = 0) 34 21), (21, tr_ald 0 22), (22, tr_get 10 2 25), (25, tr_ild 1 26)]
set_option maxRecDepth 100000 in
theorem ok_Z_byteAt_0 : ∀ pc, g_S (J_Z_byteAt) pc (cd_Z_byteAt_0 pc) := g_tab_ok <|
  List.forall_mem_cons.mpr ⟨so_aload_n d_Z_byteAt_0 rfl rfl,
  List.forall_mem_cons.mpr ⟨so_iconst (by decide) d_Z_byteAt_1 rfl,
  List.forall_mem_cons.mpr ⟨so_put ft_Z d_Z_byteAt_2 (rfl : vwCl[10]? = some (R_Z, F_Z, 40)) (Nat.le_of_ble_eq_true rfl) i_Z w_4_98 tk_Z n_Z rfl rfl rfl,
  List.forall_mem_cons.mpr ⟨so_iload_n d_Z_byteAt_5 rfl rfl,
  List.forall_mem_cons.mpr ⟨so_i2l d_Z_byteAt_6 rfl,
  List.forall_mem_cons.mpr ⟨so_lconst (by decide) d_Z_byteAt_7 rfl,
  List.forall_mem_cons.mpr ⟨so_aload_n d_Z_byteAt_8 rfl rfl,
  List.forall_mem_cons.mpr ⟨so_get d_Z_byteAt_9 (rfl : vwCl[10]? = some (R_Z, F_Z, 40)) (Nat.le_of_ble_eq_true rfl) i_Z w_4_99 rfl,
  List.forall_mem_cons.mpr ⟨so_iconst (by decide) d_Z_byteAt_12 rfl,
  List.forall_mem_cons.mpr ⟨so_isub d_Z_byteAt_13 rfl,
  List.forall_mem_cons.mpr ⟨so_i2l d_Z_byteAt_14 rfl,
  List.forall_mem_cons.mpr ⟨so_cS g_good d_Z_byteAt_15 ⟨w_4_230, (Nat.le_of_ble_eq_true rfl), (Nat.le_of_ble_eq_true rfl), w_1_12, ⟨by decide, by decide⟩, by decide +kernel⟩ w_4_228 w_4_229 rfl,
  List.forall_mem_cons.mpr ⟨so_if_eq d_Z_byteAt_18 (by decide) rfl,
  List.forall_mem_cons.mpr ⟨so_aload_n d_Z_byteAt_21 rfl rfl,
  List.forall_mem_cons.mpr ⟨so_get d_Z_byteAt_22 (rfl : vwCl[10]? = some (R_Z, F_Z, 40)) (Nat.le_of_ble_eq_true rfl) i_Z w_4_100 rfl,
  List.forall_mem_cons.mpr ⟨so_iload_n d_Z_byteAt_25 rfl rfl,
  fun _ h => absurd h List.not_mem_nil⟩⟩⟩⟩⟩⟩⟩⟩⟩⟩⟩⟩⟩⟩⟩⟩
def cd_Z_byteAt_1 : Nat → g_T := g_tab [(26, tr_bal 27), (27, tr_cst (.int (255)) 30), (30, tr_ii (fun x y => x &&& y) 31), (31, tr_goto 39), (34, tr_ald 0 35), (35, tr_cst (.int (1)) 36), (36, tr_cV J_Z_fail 10 1 39), (39, tr_ri)]
set_option maxRecDepth 100000 in
theorem ok_Z_byteAt_1 : ∀ pc, g_S (J_Z_byteAt) pc (cd_Z_byteAt_1 pc) := g_tab_ok <|
  List.forall_mem_cons.mpr ⟨so_baload d_Z_byteAt_26 rfl,
  List.forall_mem_cons.mpr ⟨so_sipush (by decide) d_Z_byteAt_27 rfl,
  List.forall_mem_cons.mpr ⟨so_iand d_Z_byteAt_30 rfl,
  List.forall_mem_cons.mpr ⟨so_goto d_Z_byteAt_31 (by decide),
  List.forall_mem_cons.mpr ⟨so_aload_n d_Z_byteAt_34 rfl rfl,
  List.forall_mem_cons.mpr ⟨so_iconst (by decide) d_Z_byteAt_35 rfl,
  List.forall_mem_cons.mpr ⟨so_cV g_good d_Z_byteAt_36 ⟨w_4_234, (Nat.le_of_ble_eq_true rfl), (Nat.le_of_ble_eq_true rfl), w_1_12, ⟨by decide, by decide⟩, by decide +kernel⟩ (rfl : vwCl[10]? = some (R_Z, F_Z, 40)) w_4_231 w_4_233 w_p27 rfl,
  List.forall_mem_cons.mpr ⟨so_iret d_Z_byteAt_39 rfl,
  fun _ h => absurd h List.not_mem_nil⟩⟩⟩⟩⟩⟩⟩⟩
def cd_Z_byteAt : Nat → g_T := g_chk [(25, cd_Z_byteAt_0), (39, cd_Z_byteAt_1)]
theorem ok_Z_byteAt : ∀ pc, g_S (J_Z_byteAt) pc (cd_Z_byteAt pc) := g_chk_ok <|
  List.forall_mem_cons.mpr ⟨ok_Z_byteAt_0,
  List.forall_mem_cons.mpr ⟨ok_Z_byteAt_1,
  fun _ h => absurd h List.not_mem_nil⟩⟩
abbrev J_Z_flip : g_J := (y_Z_flip, prog_12_method_20_code, 3, (some .int), (1, 25), [], none)
theorem d_Z_flip_0 : decode prog_12_method_20_code 0 = .ok (.aload_n 0, 1) := by decide +kernel
theorem d_Z_flip_1 : decode prog_12_method_20_code 1 = .ok (.iconst 0, 1) := by decide +kernel
theorem d_Z_flip_2 : decode prog_12_method_20_code 2 = .ok (.putfield 69, 3) := by decide +kernel
theorem d_Z_flip_5 : decode prog_12_method_20_code 5 = .ok (.iload_n 1, 1) := by decide +kernel
theorem d_Z_flip_6 : decode prog_12_method_20_code 6 = .ok (.i2l, 1) := by decide +kernel
theorem d_Z_flip_7 : decode prog_12_method_20_code 7 = .ok (.lconst 0, 1) := by decide +kernel
theorem d_Z_flip_8 : decode prog_12_method_20_code 8 = .ok (.aload_n 0, 1) := by decide +kernel
theorem d_Z_flip_9 : decode prog_12_method_20_code 9 = .ok (.getfield 142, 3) := by decide +kernel
theorem d_Z_flip_12 : decode prog_12_method_20_code 12 = .ok (.iconst 1, 1) := by decide +kernel
theorem d_Z_flip_13 : decode prog_12_method_20_code 13 = .ok (.isub, 1) := by decide +kernel
theorem d_Z_flip_14 : decode prog_12_method_20_code 14 = .ok (.i2l, 1) := by decide +kernel
theorem d_Z_flip_15 : decode prog_12_method_20_code 15 = .ok (.invokestatic 74, 3) := by decide +kernel
theorem d_Z_flip_18 : decode prog_12_method_20_code 18 = .ok (.ifCond .ne 9, 3) := by decide +kernel
theorem d_Z_flip_21 : decode prog_12_method_20_code 21 = .ok (.aload_n 0, 1) := by decide +kernel
theorem d_Z_flip_22 : decode prog_12_method_20_code 22 = .ok (.iconst 1, 1) := by decide +kernel
theorem d_Z_flip_23 : decode prog_12_method_20_code 23 = .ok (.invokevirtual 78, 3) := by decide +kernel
theorem d_Z_flip_26 : decode prog_12_method_20_code 26 = .ok (.ireturn, 1) := by decide +kernel
theorem d_Z_flip_27 : decode prog_12_method_20_code 27 = .ok (.iload_n 2, 1) := by decide +kernel
theorem d_Z_flip_28 : decode prog_12_method_20_code 28 = .ok (.i2l, 1) := by decide +kernel
theorem d_Z_flip_29 : decode prog_12_method_20_code 29 = .ok (.lconst 0, 1) := by decide +kernel
theorem d_Z_flip_30 : decode prog_12_method_20_code 30 = .ok (.ldc2_w 160, 3) := by decide +kernel
theorem d_Z_flip_33 : decode prog_12_method_20_code 33 = .ok (.invokestatic 74, 3) := by decide +kernel
theorem d_Z_flip_36 : decode prog_12_method_20_code 36 = .ok (.ifCond .ne 9, 3) := by decide +kernel
theorem d_Z_flip_39 : decode prog_12_method_20_code 39 = .ok (.aload_n 0, 1) := by decide +kernel
theorem d_Z_flip_40 : decode prog_12_method_20_code 40 = .ok (.iconst 2, 1) := by decide +kernel
theorem d_Z_flip_41 : decode prog_12_method_20_code 41 = .ok (.invokevirtual 78, 3) := by decide +kernel
theorem d_Z_flip_44 : decode prog_12_method_20_code 44 = .ok (.ireturn, 1) := by decide +kernel
theorem d_Z_flip_45 : decode prog_12_method_20_code 45 = .ok (.aload_n 0, 1) := by decide +kernel
theorem d_Z_flip_46 : decode prog_12_method_20_code 46 = .ok (.getfield 7, 3) := by decide +kernel
theorem d_Z_flip_49 : decode prog_12_method_20_code 49 = .ok (.iload_n 1, 1) := by decide +kernel
theorem d_Z_flip_50 : decode prog_12_method_20_code 50 = .ok (.aload_n 0, 1) := by decide +kernel
theorem d_Z_flip_51 : decode prog_12_method_20_code 51 = .ok (.getfield 7, 3) := by decide +kernel
theorem d_Z_flip_54 : decode prog_12_method_20_code 54 = .ok (.iload_n 1, 1) := by decide +kernel
theorem d_Z_flip_55 : decode prog_12_method_20_code 55 = .ok (.baload, 1) := by decide +kernel
theorem d_Z_flip_56 : decode prog_12_method_20_code 56 = .ok (.iload_n 2, 1) := by decide +kernel
theorem d_Z_flip_57 : decode prog_12_method_20_code 57 = .ok (.ixor, 1) := by decide +kernel
theorem d_Z_flip_58 : decode prog_12_method_20_code 58 = .ok (.i2b, 1) := by decide +kernel
theorem d_Z_flip_59 : decode prog_12_method_20_code 59 = .ok (.bastore, 1) := by decide +kernel
theorem d_Z_flip_60 : decode prog_12_method_20_code 60 = .ok (.aload_n 0, 1) := by decide +kernel
theorem d_Z_flip_61 : decode prog_12_method_20_code 61 = .ok (.getfield 7, 3) := by decide +kernel
theorem d_Z_flip_64 : decode prog_12_method_20_code 64 = .ok (.iload_n 1, 1) := by decide +kernel
theorem d_Z_flip_65 : decode prog_12_method_20_code 65 = .ok (.baload, 1) := by decide +kernel
theorem d_Z_flip_66 : decode prog_12_method_20_code 66 = .ok (.sipush 255, 3) := by decide +kernel
theorem d_Z_flip_69 : decode prog_12_method_20_code 69 = .ok (.iand, 1) := by decide +kernel
theorem d_Z_flip_70 : decode prog_12_method_20_code 70 = .ok (.ireturn, 1) := by decide +kernel
def cd_Z_flip_0 : Nat → g_T := g_tab [(0, tr_ald 0 1), (1, tr_cst (.int (0)) 2), (2, tr_put 10 0 (.int) 5), (5, tr_ild 1 6), (6, tr_i2l 7), (7, tr_cst (.long (0)) 8), (8, tr_ald 0 9), (9, tr_get 10 1 12), (12, tr_cst (.int (1)) 13), (13, tr_ii (fun x y => x - y) 14), (14, tr_i2l 15), (15, tr_cS J_Z_within 3 18), (18, tr_if1 (fun x => ¬ x = 0) 27 21), (21, tr_ald 0 22), (22, tr_cst (.int (1)) 23), (23, tr_cV J_Z_fail 10 1 26)]
set_option maxRecDepth 100000 in
theorem ok_Z_flip_0 : ∀ pc, g_S (J_Z_flip) pc (cd_Z_flip_0 pc) := g_tab_ok <|
  List.forall_mem_cons.mpr ⟨so_aload_n d_Z_flip_0 rfl rfl,
  List.forall_mem_cons.mpr ⟨so_iconst (by decide) d_Z_flip_1 rfl,
  List.forall_mem_cons.mpr ⟨so_put ft_Z d_Z_flip_2 (rfl : vwCl[10]? = some (R_Z, F_Z, 40)) (Nat.le_of_ble_eq_true rfl) i_Z w_4_98 tk_Z n_Z rfl rfl rfl,
  List.forall_mem_cons.mpr ⟨so_iload_n d_Z_flip_5 rfl rfl,
  List.forall_mem_cons.mpr ⟨so_i2l d_Z_flip_6 rfl,
  List.forall_mem_cons.mpr ⟨so_lconst (by decide) d_Z_flip_7 rfl,
  List.forall_mem_cons.mpr ⟨so_aload_n d_Z_flip_8 rfl rfl,
  List.forall_mem_cons.mpr ⟨so_get d_Z_flip_9 (rfl : vwCl[10]? = some (R_Z, F_Z, 40)) (Nat.le_of_ble_eq_true rfl) i_Z w_4_99 rfl,
  List.forall_mem_cons.mpr ⟨so_iconst (by decide) d_Z_flip_12 rfl,
  List.forall_mem_cons.mpr ⟨so_isub d_Z_flip_13 rfl,
  List.forall_mem_cons.mpr ⟨so_i2l d_Z_flip_14 rfl,
  List.forall_mem_cons.mpr ⟨so_cS g_good d_Z_flip_15 ⟨w_4_230, (Nat.le_of_ble_eq_true rfl), (Nat.le_of_ble_eq_true rfl), w_1_12, ⟨by decide, by decide⟩, by decide +kernel⟩ w_4_228 w_4_229 rfl,
  List.forall_mem_cons.mpr ⟨so_if_ne d_Z_flip_18 (by decide) rfl,
  List.forall_mem_cons.mpr ⟨so_aload_n d_Z_flip_21 rfl rfl,
  List.forall_mem_cons.mpr ⟨so_iconst (by decide) d_Z_flip_22 rfl,
  List.forall_mem_cons.mpr ⟨so_cV g_good d_Z_flip_23 ⟨w_4_234, (Nat.le_of_ble_eq_true rfl), (Nat.le_of_ble_eq_true rfl), w_1_12, ⟨by decide, by decide⟩, by decide +kernel⟩ (rfl : vwCl[10]? = some (R_Z, F_Z, 40)) w_4_231 w_4_233 w_p27 rfl,
  fun _ h => absurd h List.not_mem_nil⟩⟩⟩⟩⟩⟩⟩⟩⟩⟩⟩⟩⟩⟩⟩⟩
def cd_Z_flip_1 : Nat → g_T := g_tab [(26, tr_ri), (27, tr_ild 2 28), (28, tr_i2l 29), (29, tr_cst (.long (0)) 30), (30, tr_cst (.long (255)) 33), (33, tr_cS J_Z_within 3 36), (36, tr_if1 (fun x => ¬ x = 0) 45 39), (39, tr_ald 0 40), (40, tr_cst (.int (2)) 41), (41, tr_cV J_Z_fail 10 1 44), (44, tr_ri), (45, tr_ald 0 46), (46, tr_get 10 2 49), (49, tr_ild 1 50), (50, tr_ald 0 51), (51, tr_get 10 2 54)]
set_option maxRecDepth 100000 in
theorem ok_Z_flip_1 : ∀ pc, g_S (J_Z_flip) pc (cd_Z_flip_1 pc) := g_tab_ok <|
  List.forall_mem_cons.mpr ⟨so_iret d_Z_flip_26 rfl,
  List.forall_mem_cons.mpr ⟨so_iload_n d_Z_flip_27 rfl rfl,
  List.forall_mem_cons.mpr ⟨so_i2l d_Z_flip_28 rfl,
  List.forall_mem_cons.mpr ⟨so_lconst (by decide) d_Z_flip_29 rfl,
  List.forall_mem_cons.mpr ⟨so_ldc2 w_5_58 d_Z_flip_30 rfl,
  List.forall_mem_cons.mpr ⟨so_cS g_good d_Z_flip_33 ⟨w_4_230, (Nat.le_of_ble_eq_true rfl), (Nat.le_of_ble_eq_true rfl), w_1_12, ⟨by decide, by decide⟩, by decide +kernel⟩ w_4_228 w_4_229 rfl,
  List.forall_mem_cons.mpr ⟨so_if_ne d_Z_flip_36 (by decide) rfl,
  List.forall_mem_cons.mpr ⟨so_aload_n d_Z_flip_39 rfl rfl,
  List.forall_mem_cons.mpr ⟨so_iconst (by decide) d_Z_flip_40 rfl,
  List.forall_mem_cons.mpr ⟨so_cV g_good d_Z_flip_41 ⟨w_4_234, (Nat.le_of_ble_eq_true rfl), (Nat.le_of_ble_eq_true rfl), w_1_12, ⟨by decide, by decide⟩, by decide +kernel⟩ (rfl : vwCl[10]? = some (R_Z, F_Z, 40)) w_4_231 w_4_233 w_p27 rfl,
  List.forall_mem_cons.mpr ⟨so_iret d_Z_flip_44 rfl,
  List.forall_mem_cons.mpr ⟨so_aload_n d_Z_flip_45 rfl rfl,
  List.forall_mem_cons.mpr ⟨so_get d_Z_flip_46 (rfl : vwCl[10]? = some (R_Z, F_Z, 40)) (Nat.le_of_ble_eq_true rfl) i_Z w_4_100 rfl,
  List.forall_mem_cons.mpr ⟨so_iload_n d_Z_flip_49 rfl rfl,
  List.forall_mem_cons.mpr ⟨so_aload_n d_Z_flip_50 rfl rfl,
  List.forall_mem_cons.mpr ⟨so_get d_Z_flip_51 (rfl : vwCl[10]? = some (R_Z, F_Z, 40)) (Nat.le_of_ble_eq_true rfl) i_Z w_4_100 rfl,
  fun _ h => absurd h List.not_mem_nil⟩⟩⟩⟩⟩⟩⟩⟩⟩⟩⟩⟩⟩⟩⟩⟩
def cd_Z_flip_2 : Nat → g_T := g_tab [(54, tr_ild 1 55), (55, tr_bal 56), (56, tr_ild 2 57), (57, tr_ii (fun x y => x ^^^ y) 58), (58, tr_i2b 59), (59, tr_bas 60), (60, tr_ald 0 61), (61, tr_get 10 2 64), (64, tr_ild 1 65), (65, tr_bal 66), (66, tr_cst (.int (255)) 69), (69, tr_ii (fun x y => x &&& y) 70), (70, tr_ri)]
set_option maxRecDepth 100000 in
theorem ok_Z_flip_2 : ∀ pc, g_S (J_Z_flip) pc (cd_Z_flip_2 pc) := g_tab_ok <|
  List.forall_mem_cons.mpr ⟨so_iload_n d_Z_flip_54 rfl rfl,
  List.forall_mem_cons.mpr ⟨so_baload d_Z_flip_55 rfl,
  List.forall_mem_cons.mpr ⟨so_iload_n d_Z_flip_56 rfl rfl,
  List.forall_mem_cons.mpr ⟨so_ixor d_Z_flip_57 rfl,
  List.forall_mem_cons.mpr ⟨so_i2b d_Z_flip_58 rfl,
  List.forall_mem_cons.mpr ⟨so_bastore d_Z_flip_59 rfl,
  List.forall_mem_cons.mpr ⟨so_aload_n d_Z_flip_60 rfl rfl,
  List.forall_mem_cons.mpr ⟨so_get d_Z_flip_61 (rfl : vwCl[10]? = some (R_Z, F_Z, 40)) (Nat.le_of_ble_eq_true rfl) i_Z w_4_100 rfl,
  List.forall_mem_cons.mpr ⟨so_iload_n d_Z_flip_64 rfl rfl,
  List.forall_mem_cons.mpr ⟨so_baload d_Z_flip_65 rfl,
  List.forall_mem_cons.mpr ⟨so_sipush (by decide) d_Z_flip_66 rfl,
  List.forall_mem_cons.mpr ⟨so_iand d_Z_flip_69 rfl,
  List.forall_mem_cons.mpr ⟨so_iret d_Z_flip_70 rfl,
  fun _ h => absurd h List.not_mem_nil⟩⟩⟩⟩⟩⟩⟩⟩⟩⟩⟩⟩⟩
def cd_Z_flip : Nat → g_T := g_chk [(23, cd_Z_flip_0), (51, cd_Z_flip_1), (70, cd_Z_flip_2)]
theorem ok_Z_flip : ∀ pc, g_S (J_Z_flip) pc (cd_Z_flip pc) := g_chk_ok <|
  List.forall_mem_cons.mpr ⟨ok_Z_flip_0,
  List.forall_mem_cons.mpr ⟨ok_Z_flip_1,
  List.forall_mem_cons.mpr ⟨ok_Z_flip_2,
  fun _ h => absurd h List.not_mem_nil⟩⟩⟩
abbrev J_Z_put : g_J := (y_Z_put, prog_12_method_21_code, 2, (some .int), (1, 25), [], none)
theorem d_Z_put_0 : decode prog_12_method_21_code 0 = .ok (.aload_n 0, 1) := by decide +kernel
theorem d_Z_put_1 : decode prog_12_method_21_code 1 = .ok (.iconst 0, 1) := by decide +kernel
theorem d_Z_put_2 : decode prog_12_method_21_code 2 = .ok (.putfield 69, 3) := by decide +kernel
theorem d_Z_put_5 : decode prog_12_method_21_code 5 = .ok (.iload_n 1, 1) := by decide +kernel
theorem d_Z_put_6 : decode prog_12_method_21_code 6 = .ok (.i2l, 1) := by decide +kernel
theorem d_Z_put_7 : decode prog_12_method_21_code 7 = .ok (.lconst 0, 1) := by decide +kernel
theorem d_Z_put_8 : decode prog_12_method_21_code 8 = .ok (.ldc2_w 160, 3) := by decide +kernel
theorem d_Z_put_11 : decode prog_12_method_21_code 11 = .ok (.invokestatic 74, 3) := by decide +kernel
theorem d_Z_put_14 : decode prog_12_method_21_code 14 = .ok (.ifCond .ne 9, 3) := by decide +kernel
theorem d_Z_put_17 : decode prog_12_method_21_code 17 = .ok (.aload_n 0, 1) := by decide +kernel
theorem d_Z_put_18 : decode prog_12_method_21_code 18 = .ok (.iconst 1, 1) := by decide +kernel
theorem d_Z_put_19 : decode prog_12_method_21_code 19 = .ok (.invokevirtual 78, 3) := by decide +kernel
theorem d_Z_put_22 : decode prog_12_method_21_code 22 = .ok (.ireturn, 1) := by decide +kernel
theorem d_Z_put_23 : decode prog_12_method_21_code 23 = .ok (.aload_n 0, 1) := by decide +kernel
theorem d_Z_put_24 : decode prog_12_method_21_code 24 = .ok (.getfield 142, 3) := by decide +kernel
theorem d_Z_put_27 : decode prog_12_method_21_code 27 = .ok (.sipush 16384, 3) := by decide +kernel
theorem d_Z_put_30 : decode prog_12_method_21_code 30 = .ok (.if_icmp .ne 9, 3) := by decide +kernel
theorem d_Z_put_33 : decode prog_12_method_21_code 33 = .ok (.aload_n 0, 1) := by decide +kernel
theorem d_Z_put_34 : decode prog_12_method_21_code 34 = .ok (.iconst 2, 1) := by decide +kernel
theorem d_Z_put_35 : decode prog_12_method_21_code 35 = .ok (.invokevirtual 78, 3) := by decide +kernel
theorem d_Z_put_38 : decode prog_12_method_21_code 38 = .ok (.ireturn, 1) := by decide +kernel
theorem d_Z_put_39 : decode prog_12_method_21_code 39 = .ok (.aload_n 0, 1) := by decide +kernel
theorem d_Z_put_40 : decode prog_12_method_21_code 40 = .ok (.iload_n 1, 1) := by decide +kernel
theorem d_Z_put_41 : decode prog_12_method_21_code 41 = .ok (.invokevirtual 145, 3) := by decide +kernel
theorem d_Z_put_44 : decode prog_12_method_21_code 44 = .ok (.aload_n 0, 1) := by decide +kernel
theorem d_Z_put_45 : decode prog_12_method_21_code 45 = .ok (.getfield 142, 3) := by decide +kernel
theorem d_Z_put_48 : decode prog_12_method_21_code 48 = .ok (.ireturn, 1) := by decide +kernel
def cd_Z_put_0 : Nat → g_T := g_tab [(0, tr_ald 0 1), (1, tr_cst (.int (0)) 2), (2, tr_put 10 0 (.int) 5), (5, tr_ild 1 6), (6, tr_i2l 7), (7, tr_cst (.long (0)) 8), (8, tr_cst (.long (255)) 11), (11, tr_cS J_Z_within 3 14), (14, tr_if1 (fun x => ¬ x = 0) 23 17), (17, tr_ald 0 18), (18, tr_cst (.int (1)) 19), (19, tr_cV J_Z_fail 10 1 22), (22, tr_ri), (23, tr_ald 0 24), (24, tr_get 10 1 27), (27, tr_cst (.int (16384)) 30)]
set_option maxRecDepth 100000 in
theorem ok_Z_put_0 : ∀ pc, g_S (J_Z_put) pc (cd_Z_put_0 pc) := g_tab_ok <|
  List.forall_mem_cons.mpr ⟨so_aload_n d_Z_put_0 rfl rfl,
  List.forall_mem_cons.mpr ⟨so_iconst (by decide) d_Z_put_1 rfl,
  List.forall_mem_cons.mpr ⟨so_put ft_Z d_Z_put_2 (rfl : vwCl[10]? = some (R_Z, F_Z, 40)) (Nat.le_of_ble_eq_true rfl) i_Z w_4_98 tk_Z n_Z rfl rfl rfl,
  List.forall_mem_cons.mpr ⟨so_iload_n d_Z_put_5 rfl rfl,
  List.forall_mem_cons.mpr ⟨so_i2l d_Z_put_6 rfl,
  List.forall_mem_cons.mpr ⟨so_lconst (by decide) d_Z_put_7 rfl,
  List.forall_mem_cons.mpr ⟨so_ldc2 w_5_58 d_Z_put_8 rfl,
  List.forall_mem_cons.mpr ⟨so_cS g_good d_Z_put_11 ⟨w_4_230, (Nat.le_of_ble_eq_true rfl), (Nat.le_of_ble_eq_true rfl), w_1_12, ⟨by decide, by decide⟩, by decide +kernel⟩ w_4_228 w_4_229 rfl,
  List.forall_mem_cons.mpr ⟨so_if_ne d_Z_put_14 (by decide) rfl,
  List.forall_mem_cons.mpr ⟨so_aload_n d_Z_put_17 rfl rfl,
  List.forall_mem_cons.mpr ⟨so_iconst (by decide) d_Z_put_18 rfl,
  List.forall_mem_cons.mpr ⟨so_cV g_good d_Z_put_19 ⟨w_4_234, (Nat.le_of_ble_eq_true rfl), (Nat.le_of_ble_eq_true rfl), w_1_12, ⟨by decide, by decide⟩, by decide +kernel⟩ (rfl : vwCl[10]? = some (R_Z, F_Z, 40)) w_4_231 w_4_233 w_p27 rfl,
  List.forall_mem_cons.mpr ⟨so_iret d_Z_put_22 rfl,
  List.forall_mem_cons.mpr ⟨so_aload_n d_Z_put_23 rfl rfl,
  List.forall_mem_cons.mpr ⟨so_get d_Z_put_24 (rfl : vwCl[10]? = some (R_Z, F_Z, 40)) (Nat.le_of_ble_eq_true rfl) i_Z w_4_99 rfl,
  List.forall_mem_cons.mpr ⟨so_sipush (by decide) d_Z_put_27 rfl,
  fun _ h => absurd h List.not_mem_nil⟩⟩⟩⟩⟩⟩⟩⟩⟩⟩⟩⟩⟩⟩⟩⟩
def cd_Z_put_1 : Nat → g_T := g_tab [(30, tr_if2 (fun x y => ¬ x = y) 39 33), (33, tr_ald 0 34), (34, tr_cst (.int (2)) 35), (35, tr_cV J_Z_fail 10 1 38), (38, tr_ri), (39, tr_ald 0 40), (40, tr_ild 1 41), (41, tr_cV J_Z_putByte 10 1 44), (44, tr_ald 0 45), (45, tr_get 10 1 48), (48, tr_ri)]
set_option maxRecDepth 100000 in
theorem ok_Z_put_1 : ∀ pc, g_S (J_Z_put) pc (cd_Z_put_1 pc) := g_tab_ok <|
  List.forall_mem_cons.mpr ⟨so_icmp_ne d_Z_put_30 (by decide) rfl,
  List.forall_mem_cons.mpr ⟨so_aload_n d_Z_put_33 rfl rfl,
  List.forall_mem_cons.mpr ⟨so_iconst (by decide) d_Z_put_34 rfl,
  List.forall_mem_cons.mpr ⟨so_cV g_good d_Z_put_35 ⟨w_4_234, (Nat.le_of_ble_eq_true rfl), (Nat.le_of_ble_eq_true rfl), w_1_12, ⟨by decide, by decide⟩, by decide +kernel⟩ (rfl : vwCl[10]? = some (R_Z, F_Z, 40)) w_4_231 w_4_233 w_p27 rfl,
  List.forall_mem_cons.mpr ⟨so_iret d_Z_put_38 rfl,
  List.forall_mem_cons.mpr ⟨so_aload_n d_Z_put_39 rfl rfl,
  List.forall_mem_cons.mpr ⟨so_iload_n d_Z_put_40 rfl rfl,
  List.forall_mem_cons.mpr ⟨so_cV g_good d_Z_put_41 ⟨w_5_45, (Nat.le_of_ble_eq_true rfl), (Nat.le_of_ble_eq_true rfl), w_1_12, ⟨by decide, by decide⟩, by decide +kernel⟩ (rfl : vwCl[10]? = some (R_Z, F_Z, 40)) w_5_42 w_5_44 w_p37 rfl,
  List.forall_mem_cons.mpr ⟨so_aload_n d_Z_put_44 rfl rfl,
  List.forall_mem_cons.mpr ⟨so_get d_Z_put_45 (rfl : vwCl[10]? = some (R_Z, F_Z, 40)) (Nat.le_of_ble_eq_true rfl) i_Z w_4_99 rfl,
  List.forall_mem_cons.mpr ⟨so_iret d_Z_put_48 rfl,
  fun _ h => absurd h List.not_mem_nil⟩⟩⟩⟩⟩⟩⟩⟩⟩⟩⟩
def cd_Z_put : Nat → g_T := g_chk [(27, cd_Z_put_0), (48, cd_Z_put_1)]
theorem ok_Z_put : ∀ pc, g_S (J_Z_put) pc (cd_Z_put pc) := g_chk_ok <|
  List.forall_mem_cons.mpr ⟨ok_Z_put_0,
  List.forall_mem_cons.mpr ⟨ok_Z_put_1,
  fun _ h => absurd h List.not_mem_nil⟩⟩
abbrev J_Z_cut : g_J := (y_Z_cut, prog_12_method_22_code, 3, (some .int), (1, 25), [], none)
theorem d_Z_cut_0 : decode prog_12_method_22_code 0 = .ok (.aload_n 0, 1) := by decide +kernel
theorem d_Z_cut_1 : decode prog_12_method_22_code 1 = .ok (.iconst 0, 1) := by decide +kernel
theorem d_Z_cut_2 : decode prog_12_method_22_code 2 = .ok (.putfield 69, 3) := by decide +kernel
theorem d_Z_cut_5 : decode prog_12_method_22_code 5 = .ok (.iload_n 1, 1) := by decide +kernel
theorem d_Z_cut_6 : decode prog_12_method_22_code 6 = .ok (.i2l, 1) := by decide +kernel
theorem d_Z_cut_7 : decode prog_12_method_22_code 7 = .ok (.lconst 0, 1) := by decide +kernel
theorem d_Z_cut_8 : decode prog_12_method_22_code 8 = .ok (.aload_n 0, 1) := by decide +kernel
theorem d_Z_cut_9 : decode prog_12_method_22_code 9 = .ok (.getfield 142, 3) := by decide +kernel
theorem d_Z_cut_12 : decode prog_12_method_22_code 12 = .ok (.i2l, 1) := by decide +kernel
theorem d_Z_cut_13 : decode prog_12_method_22_code 13 = .ok (.invokestatic 74, 3) := by decide +kernel
theorem d_Z_cut_16 : decode prog_12_method_22_code 16 = .ok (.ifCond .ne 9, 3) := by decide +kernel
theorem d_Z_cut_19 : decode prog_12_method_22_code 19 = .ok (.aload_n 0, 1) := by decide +kernel
theorem d_Z_cut_20 : decode prog_12_method_22_code 20 = .ok (.iconst 1, 1) := by decide +kernel
theorem d_Z_cut_21 : decode prog_12_method_22_code 21 = .ok (.invokevirtual 78, 3) := by decide +kernel
theorem d_Z_cut_24 : decode prog_12_method_22_code 24 = .ok (.ireturn, 1) := by decide +kernel
theorem d_Z_cut_25 : decode prog_12_method_22_code 25 = .ok (.aload_n 0, 1) := by decide +kernel
theorem d_Z_cut_26 : decode prog_12_method_22_code 26 = .ok (.getfield 142, 3) := by decide +kernel
theorem d_Z_cut_29 : decode prog_12_method_22_code 29 = .ok (.iload_n 1, 1) := by decide +kernel
theorem d_Z_cut_30 : decode prog_12_method_22_code 30 = .ok (.isub, 1) := by decide +kernel
theorem d_Z_cut_31 : decode prog_12_method_22_code 31 = .ok (.istore_n 2, 1) := by decide +kernel
theorem d_Z_cut_32 : decode prog_12_method_22_code 32 = .ok (.aload_n 0, 1) := by decide +kernel
theorem d_Z_cut_33 : decode prog_12_method_22_code 33 = .ok (.iload_n 1, 1) := by decide +kernel
theorem d_Z_cut_34 : decode prog_12_method_22_code 34 = .ok (.putfield 142, 3) := by decide +kernel
theorem d_Z_cut_37 : decode prog_12_method_22_code 37 = .ok (.iload_n 2, 1) := by decide +kernel
theorem d_Z_cut_38 : decode prog_12_method_22_code 38 = .ok (.ireturn, 1) := by decide +kernel
def cd_Z_cut_0 : Nat → g_T := g_tab [(0, tr_ald 0 1), (1, tr_cst (.int (0)) 2), (2, tr_put 10 0 (.int) 5), (5, tr_ild 1 6), (6, tr_i2l 7), (7, tr_cst (.long (0)) 8), (8, tr_ald 0 9), (9, tr_get 10 1 12), (12, tr_i2l 13), (13, tr_cS J_Z_within 3 16), (16, tr_if1 (fun x => ¬ x = 0) 25 19), (19, tr_ald 0 20), (20, tr_cst (.int (1)) 21), (21, tr_cV J_Z_fail 10 1 24), (24, tr_ri), (25, tr_ald 0 26)]
set_option maxRecDepth 100000 in
theorem ok_Z_cut_0 : ∀ pc, g_S (J_Z_cut) pc (cd_Z_cut_0 pc) := g_tab_ok <|
  List.forall_mem_cons.mpr ⟨so_aload_n d_Z_cut_0 rfl rfl,
  List.forall_mem_cons.mpr ⟨so_iconst (by decide) d_Z_cut_1 rfl,
  List.forall_mem_cons.mpr ⟨so_put ft_Z d_Z_cut_2 (rfl : vwCl[10]? = some (R_Z, F_Z, 40)) (Nat.le_of_ble_eq_true rfl) i_Z w_4_98 tk_Z n_Z rfl rfl rfl,
  List.forall_mem_cons.mpr ⟨so_iload_n d_Z_cut_5 rfl rfl,
  List.forall_mem_cons.mpr ⟨so_i2l d_Z_cut_6 rfl,
  List.forall_mem_cons.mpr ⟨so_lconst (by decide) d_Z_cut_7 rfl,
  List.forall_mem_cons.mpr ⟨so_aload_n d_Z_cut_8 rfl rfl,
  List.forall_mem_cons.mpr ⟨so_get d_Z_cut_9 (rfl : vwCl[10]? = some (R_Z, F_Z, 40)) (Nat.le_of_ble_eq_true rfl) i_Z w_4_99 rfl,
  List.forall_mem_cons.mpr ⟨so_i2l d_Z_cut_12 rfl,
  List.forall_mem_cons.mpr ⟨so_cS g_good d_Z_cut_13 ⟨w_4_230, (Nat.le_of_ble_eq_true rfl), (Nat.le_of_ble_eq_true rfl), w_1_12, ⟨by decide, by decide⟩, by decide +kernel⟩ w_4_228 w_4_229 rfl,
  List.forall_mem_cons.mpr ⟨so_if_ne d_Z_cut_16 (by decide) rfl,
  List.forall_mem_cons.mpr ⟨so_aload_n d_Z_cut_19 rfl rfl,
  List.forall_mem_cons.mpr ⟨so_iconst (by decide) d_Z_cut_20 rfl,
  List.forall_mem_cons.mpr ⟨so_cV g_good d_Z_cut_21 ⟨w_4_234, (Nat.le_of_ble_eq_true rfl), (Nat.le_of_ble_eq_true rfl), w_1_12, ⟨by decide, by decide⟩, by decide +kernel⟩ (rfl : vwCl[10]? = some (R_Z, F_Z, 40)) w_4_231 w_4_233 w_p27 rfl,
  List.forall_mem_cons.mpr ⟨so_iret d_Z_cut_24 rfl,
  List.forall_mem_cons.mpr ⟨so_aload_n d_Z_cut_25 rfl rfl,
  fun _ h => absurd h List.not_mem_nil⟩⟩⟩⟩⟩⟩⟩⟩⟩⟩⟩⟩⟩⟩⟩⟩
def cd_Z_cut_1 : Nat → g_T := g_tab [(26, tr_get 10 1 29), (29, tr_ild 1 30), (30, tr_ii (fun x y => x - y) 31), (31, tr_ist 2 32), (32, tr_ald 0 33), (33, tr_ild 1 34), (34, tr_put 10 1 (.int) 37), (37, tr_ild 2 38), (38, tr_ri)]
set_option maxRecDepth 100000 in
theorem ok_Z_cut_1 : ∀ pc, g_S (J_Z_cut) pc (cd_Z_cut_1 pc) := g_tab_ok <|
  List.forall_mem_cons.mpr ⟨so_get d_Z_cut_26 (rfl : vwCl[10]? = some (R_Z, F_Z, 40)) (Nat.le_of_ble_eq_true rfl) i_Z w_4_99 rfl,
  List.forall_mem_cons.mpr ⟨so_iload_n d_Z_cut_29 rfl rfl,
  List.forall_mem_cons.mpr ⟨so_isub d_Z_cut_30 rfl,
  List.forall_mem_cons.mpr ⟨so_istore_n d_Z_cut_31 rfl (Nat.le_of_ble_eq_true rfl) rfl,
  List.forall_mem_cons.mpr ⟨so_aload_n d_Z_cut_32 rfl rfl,
  List.forall_mem_cons.mpr ⟨so_iload_n d_Z_cut_33 rfl rfl,
  List.forall_mem_cons.mpr ⟨so_put ft_Z d_Z_cut_34 (rfl : vwCl[10]? = some (R_Z, F_Z, 40)) (Nat.le_of_ble_eq_true rfl) i_Z w_4_99 tk_Z n_Z rfl rfl rfl,
  List.forall_mem_cons.mpr ⟨so_iload_n d_Z_cut_37 rfl rfl,
  List.forall_mem_cons.mpr ⟨so_iret d_Z_cut_38 rfl,
  fun _ h => absurd h List.not_mem_nil⟩⟩⟩⟩⟩⟩⟩⟩⟩
def cd_Z_cut : Nat → g_T := g_chk [(25, cd_Z_cut_0), (38, cd_Z_cut_1)]
theorem ok_Z_cut : ∀ pc, g_S (J_Z_cut) pc (cd_Z_cut pc) := g_chk_ok <|
  List.forall_mem_cons.mpr ⟨ok_Z_cut_0,
  List.forall_mem_cons.mpr ⟨ok_Z_cut_1,
  fun _ h => absurd h List.not_mem_nil⟩⟩
abbrev J_Z_choose : g_J := (y_Z_choose, prog_12_method_23_code, 4, (some .int), (1, 25), [], none)
theorem d_Z_choose_0 : decode prog_12_method_23_code 0 = .ok (.aload_n 0, 1) := by decide +kernel
theorem d_Z_choose_1 : decode prog_12_method_23_code 1 = .ok (.iconst 0, 1) := by decide +kernel
theorem d_Z_choose_2 : decode prog_12_method_23_code 2 = .ok (.putfield 69, 3) := by decide +kernel
theorem d_Z_choose_5 : decode prog_12_method_23_code 5 = .ok (.iload_n 1, 1) := by decide +kernel
theorem d_Z_choose_6 : decode prog_12_method_23_code 6 = .ok (.i2l, 1) := by decide +kernel
theorem d_Z_choose_7 : decode prog_12_method_23_code 7 = .ok (.lconst 0, 1) := by decide +kernel
theorem d_Z_choose_8 : decode prog_12_method_23_code 8 = .ok (.ldc2_w 162, 3) := by decide +kernel
theorem d_Z_choose_11 : decode prog_12_method_23_code 11 = .ok (.invokestatic 74, 3) := by decide +kernel
theorem d_Z_choose_14 : decode prog_12_method_23_code 14 = .ok (.ifCond .eq 15, 3) := by decide +kernel
theorem d_Z_choose_17 : decode prog_12_method_23_code 17 = .ok (.iload_n 2, 1) := by decide +kernel
theorem d_Z_choose_18 : decode prog_12_method_23_code 18 = .ok (.i2l, 1) := by decide +kernel
theorem d_Z_choose_19 : decode prog_12_method_23_code 19 = .ok (.lconst 0, 1) := by decide +kernel
theorem d_Z_choose_20 : decode prog_12_method_23_code 20 = .ok (.ldc2_w 164, 3) := by decide +kernel
theorem d_Z_choose_23 : decode prog_12_method_23_code 23 = .ok (.invokestatic 74, 3) := by decide +kernel
theorem d_Z_choose_26 : decode prog_12_method_23_code 26 = .ok (.ifCond .ne 9, 3) := by decide +kernel
theorem d_Z_choose_29 : decode prog_12_method_23_code 29 = .ok (.aload_n 0, 1) := by decide +kernel
theorem d_Z_choose_30 : decode prog_12_method_23_code 30 = .ok (.iconst 1, 1) := by decide +kernel
theorem d_Z_choose_31 : decode prog_12_method_23_code 31 = .ok (.invokevirtual 78, 3) := by decide +kernel
theorem d_Z_choose_34 : decode prog_12_method_23_code 34 = .ok (.ireturn, 1) := by decide +kernel
theorem d_Z_choose_35 : decode prog_12_method_23_code 35 = .ok (.aload_n 0, 1) := by decide +kernel
theorem d_Z_choose_36 : decode prog_12_method_23_code 36 = .ok (.getfield 26, 3) := by decide +kernel
theorem d_Z_choose_39 : decode prog_12_method_23_code 39 = .ok (.bipush 32, 2) := by decide +kernel
theorem d_Z_choose_41 : decode prog_12_method_23_code 41 = .ok (.aload_n 0, 1) := by decide +kernel
theorem d_Z_choose_42 : decode prog_12_method_23_code 42 = .ok (.getfield 30, 3) := by decide +kernel
theorem d_Z_choose_45 : decode prog_12_method_23_code 45 = .ok (.imul, 1) := by decide +kernel
theorem d_Z_choose_46 : decode prog_12_method_23_code 46 = .ok (.iadd, 1) := by decide +kernel
theorem d_Z_choose_47 : decode prog_12_method_23_code 47 = .ok (.istore_n 3, 1) := by decide +kernel
theorem d_Z_choose_48 : decode prog_12_method_23_code 48 = .ok (.aload_n 0, 1) := by decide +kernel
theorem d_Z_choose_49 : decode prog_12_method_23_code 49 = .ok (.iload_n 1, 1) := by decide +kernel
theorem d_Z_choose_50 : decode prog_12_method_23_code 50 = .ok (.putfield 26, 3) := by decide +kernel
theorem d_Z_choose_53 : decode prog_12_method_23_code 53 = .ok (.aload_n 0, 1) := by decide +kernel
theorem d_Z_choose_54 : decode prog_12_method_23_code 54 = .ok (.iload_n 2, 1) := by decide +kernel
theorem d_Z_choose_55 : decode prog_12_method_23_code 55 = .ok (.putfield 30, 3) := by decide +kernel
theorem d_Z_choose_58 : decode prog_12_method_23_code 58 = .ok (.iload_n 3, 1) := by decide +kernel
theorem d_Z_choose_59 : decode prog_12_method_23_code 59 = .ok (.ireturn, 1) := by decide +kernel
def cd_Z_choose_0 : Nat → g_T := g_tab [(0, tr_ald 0 1), (1, tr_cst (.int (0)) 2), (2, tr_put 10 0 (.int) 5), (5, tr_ild 1 6), (6, tr_i2l 7), (7, tr_cst (.long (0)) 8), (8, tr_cst (.long (31)) 11), (11, tr_cS J_Z_within 3 14), (14, tr_if1 (fun x => x = 0) 29 17), (17, tr_ild 2 18), (18, tr_i2l 19), (19, tr_cst (.long (0)) 20), (20, tr_cst (.long (15)) 23), (23, tr_cS J_Z_within 3 26), (26, tr_if1 (fun x => ¬ x = 0) 35 29), (29, tr_ald 0 30)]
set_option maxRecDepth 100000 in
theorem ok_Z_choose_0 : ∀ pc, g_S (J_Z_choose) pc (cd_Z_choose_0 pc) := g_tab_ok <|
  List.forall_mem_cons.mpr ⟨so_aload_n d_Z_choose_0 rfl rfl,
  List.forall_mem_cons.mpr ⟨so_iconst (by decide) d_Z_choose_1 rfl,
  List.forall_mem_cons.mpr ⟨so_put ft_Z d_Z_choose_2 (rfl : vwCl[10]? = some (R_Z, F_Z, 40)) (Nat.le_of_ble_eq_true rfl) i_Z w_4_98 tk_Z n_Z rfl rfl rfl,
  List.forall_mem_cons.mpr ⟨so_iload_n d_Z_choose_5 rfl rfl,
  List.forall_mem_cons.mpr ⟨so_i2l d_Z_choose_6 rfl,
  List.forall_mem_cons.mpr ⟨so_lconst (by decide) d_Z_choose_7 rfl,
  List.forall_mem_cons.mpr ⟨so_ldc2 w_5_71 d_Z_choose_8 rfl,
  List.forall_mem_cons.mpr ⟨so_cS g_good d_Z_choose_11 ⟨w_4_230, (Nat.le_of_ble_eq_true rfl), (Nat.le_of_ble_eq_true rfl), w_1_12, ⟨by decide, by decide⟩, by decide +kernel⟩ w_4_228 w_4_229 rfl,
  List.forall_mem_cons.mpr ⟨so_if_eq d_Z_choose_14 (by decide) rfl,
  List.forall_mem_cons.mpr ⟨so_iload_n d_Z_choose_17 rfl rfl,
  List.forall_mem_cons.mpr ⟨so_i2l d_Z_choose_18 rfl,
  List.forall_mem_cons.mpr ⟨so_lconst (by decide) d_Z_choose_19 rfl,
  List.forall_mem_cons.mpr ⟨so_ldc2 w_5_72 d_Z_choose_20 rfl,
  List.forall_mem_cons.mpr ⟨so_cS g_good d_Z_choose_23 ⟨w_4_230, (Nat.le_of_ble_eq_true rfl), (Nat.le_of_ble_eq_true rfl), w_1_12, ⟨by decide, by decide⟩, by decide +kernel⟩ w_4_228 w_4_229 rfl,
  List.forall_mem_cons.mpr ⟨so_if_ne d_Z_choose_26 (by decide) rfl,
  List.forall_mem_cons.mpr ⟨so_aload_n d_Z_choose_29 rfl rfl,
  fun _ h => absurd h List.not_mem_nil⟩⟩⟩⟩⟩⟩⟩⟩⟩⟩⟩⟩⟩⟩⟩⟩
def cd_Z_choose_1 : Nat → g_T := g_tab [(30, tr_cst (.int (1)) 31), (31, tr_cV J_Z_fail 10 1 34), (34, tr_ri), (35, tr_ald 0 36), (36, tr_get 10 13 39), (39, tr_cst (.int (32)) 41), (41, tr_ald 0 42), (42, tr_get 10 14 45), (45, tr_ii (fun x y => x * y) 46), (46, tr_ii (fun x y => x + y) 47), (47, tr_ist 3 48), (48, tr_ald 0 49), (49, tr_ild 1 50), (50, tr_put 10 13 (.int) 53), (53, tr_ald 0 54), (54, tr_ild 2 55)]
set_option maxRecDepth 100000 in
theorem ok_Z_choose_1 : ∀ pc, g_S (J_Z_choose) pc (cd_Z_choose_1 pc) := g_tab_ok <|
  List.forall_mem_cons.mpr ⟨so_iconst (by decide) d_Z_choose_30 rfl,
  List.forall_mem_cons.mpr ⟨so_cV g_good d_Z_choose_31 ⟨w_4_234, (Nat.le_of_ble_eq_true rfl), (Nat.le_of_ble_eq_true rfl), w_1_12, ⟨by decide, by decide⟩, by decide +kernel⟩ (rfl : vwCl[10]? = some (R_Z, F_Z, 40)) w_4_231 w_4_233 w_p27 rfl,
  List.forall_mem_cons.mpr ⟨so_iret d_Z_choose_34 rfl,
  List.forall_mem_cons.mpr ⟨so_aload_n d_Z_choose_35 rfl rfl,
  List.forall_mem_cons.mpr ⟨so_get d_Z_choose_36 (rfl : vwCl[10]? = some (R_Z, F_Z, 40)) (Nat.le_of_ble_eq_true rfl) i_Z w_4_111 rfl,
  List.forall_mem_cons.mpr ⟨so_bipush (by decide) d_Z_choose_39 rfl,
  List.forall_mem_cons.mpr ⟨so_aload_n d_Z_choose_41 rfl rfl,
  List.forall_mem_cons.mpr ⟨so_get d_Z_choose_42 (rfl : vwCl[10]? = some (R_Z, F_Z, 40)) (Nat.le_of_ble_eq_true rfl) i_Z w_4_112 rfl,
  List.forall_mem_cons.mpr ⟨so_imul d_Z_choose_45 rfl,
  List.forall_mem_cons.mpr ⟨so_iadd d_Z_choose_46 rfl,
  List.forall_mem_cons.mpr ⟨so_istore_n d_Z_choose_47 rfl (Nat.le_of_ble_eq_true rfl) rfl,
  List.forall_mem_cons.mpr ⟨so_aload_n d_Z_choose_48 rfl rfl,
  List.forall_mem_cons.mpr ⟨so_iload_n d_Z_choose_49 rfl rfl,
  List.forall_mem_cons.mpr ⟨so_put ft_Z d_Z_choose_50 (rfl : vwCl[10]? = some (R_Z, F_Z, 40)) (Nat.le_of_ble_eq_true rfl) i_Z w_4_111 tk_Z n_Z rfl rfl rfl,
  List.forall_mem_cons.mpr ⟨so_aload_n d_Z_choose_53 rfl rfl,
  List.forall_mem_cons.mpr ⟨so_iload_n d_Z_choose_54 rfl rfl,
  fun _ h => absurd h List.not_mem_nil⟩⟩⟩⟩⟩⟩⟩⟩⟩⟩⟩⟩⟩⟩⟩⟩
def cd_Z_choose_2 : Nat → g_T := g_tab [(55, tr_put 10 14 (.int) 58), (58, tr_ild 3 59), (59, tr_ri)]
set_option maxRecDepth 100000 in
theorem ok_Z_choose_2 : ∀ pc, g_S (J_Z_choose) pc (cd_Z_choose_2 pc) := g_tab_ok <|
  List.forall_mem_cons.mpr ⟨so_put ft_Z d_Z_choose_55 (rfl : vwCl[10]? = some (R_Z, F_Z, 40)) (Nat.le_of_ble_eq_true rfl) i_Z w_4_112 tk_Z n_Z rfl rfl rfl,
  List.forall_mem_cons.mpr ⟨so_iload_n d_Z_choose_58 rfl rfl,
  List.forall_mem_cons.mpr ⟨so_iret d_Z_choose_59 rfl,
  fun _ h => absurd h List.not_mem_nil⟩⟩⟩
def cd_Z_choose : Nat → g_T := g_chk [(29, cd_Z_choose_0), (54, cd_Z_choose_1), (59, cd_Z_choose_2)]
theorem ok_Z_choose : ∀ pc, g_S (J_Z_choose) pc (cd_Z_choose pc) := g_chk_ok <|
  List.forall_mem_cons.mpr ⟨ok_Z_choose_0,
  List.forall_mem_cons.mpr ⟨ok_Z_choose_1,
  List.forall_mem_cons.mpr ⟨ok_Z_choose_2,
  fun _ h => absurd h List.not_mem_nil⟩⟩⟩
abbrev J_Z_unshield : g_J := (y_Z_unshield, prog_12_method_24_code, 6, (some .boolean), (1, 21), [], none)
theorem d_Z_unshield_0 : decode prog_12_method_24_code 0 = .ok (.aload_n 0, 1) := by decide +kernel
theorem d_Z_unshield_1 : decode prog_12_method_24_code 1 = .ok (.iconst 0, 1) := by decide +kernel
theorem d_Z_unshield_2 : decode prog_12_method_24_code 2 = .ok (.putfield 85, 3) := by decide +kernel
theorem d_Z_unshield_5 : decode prog_12_method_24_code 5 = .ok (.iload_n 1, 1) := by decide +kernel
theorem d_Z_unshield_6 : decode prog_12_method_24_code 6 = .ok (.istore_n 3, 1) := by decide +kernel
theorem d_Z_unshield_7 : decode prog_12_method_24_code 7 = .ok (.iload_n 3, 1) := by decide +kernel
theorem d_Z_unshield_8 : decode prog_12_method_24_code 8 = .ok (.iload_n 2, 1) := by decide +kernel
theorem d_Z_unshield_9 : decode prog_12_method_24_code 9 = .ok (.if_icmp .ge 99, 3) := by decide +kernel
theorem d_Z_unshield_12 : decode prog_12_method_24_code 12 = .ok (.aload_n 0, 1) := by decide +kernel
theorem d_Z_unshield_13 : decode prog_12_method_24_code 13 = .ok (.getfield 7, 3) := by decide +kernel
theorem d_Z_unshield_16 : decode prog_12_method_24_code 16 = .ok (.iload_n 3, 1) := by decide +kernel
theorem d_Z_unshield_17 : decode prog_12_method_24_code 17 = .ok (.baload, 1) := by decide +kernel
theorem d_Z_unshield_18 : decode prog_12_method_24_code 18 = .ok (.sipush 255, 3) := by decide +kernel
theorem d_Z_unshield_21 : decode prog_12_method_24_code 21 = .ok (.iand, 1) := by decide +kernel
theorem d_Z_unshield_22 : decode prog_12_method_24_code 22 = .ok (.istore 4, 2) := by decide +kernel
theorem d_Z_unshield_24 : decode prog_12_method_24_code 24 = .ok (.iload 4, 2) := by decide +kernel
theorem d_Z_unshield_26 : decode prog_12_method_24_code 26 = .ok (.bipush 125, 2) := by decide +kernel
theorem d_Z_unshield_28 : decode prog_12_method_24_code 28 = .ok (.if_icmp .ne 68, 3) := by decide +kernel
theorem d_Z_unshield_31 : decode prog_12_method_24_code 31 = .ok (.iload_n 3, 1) := by decide +kernel
theorem d_Z_unshield_32 : decode prog_12_method_24_code 32 = .ok (.iconst 1, 1) := by decide +kernel
theorem d_Z_unshield_33 : decode prog_12_method_24_code 33 = .ok (.iadd, 1) := by decide +kernel
theorem d_Z_unshield_34 : decode prog_12_method_24_code 34 = .ok (.iload_n 2, 1) := by decide +kernel
theorem d_Z_unshield_35 : decode prog_12_method_24_code 35 = .ok (.if_icmp .ge 18, 3) := by decide +kernel
theorem d_Z_unshield_38 : decode prog_12_method_24_code 38 = .ok (.aload_n 0, 1) := by decide +kernel
theorem d_Z_unshield_39 : decode prog_12_method_24_code 39 = .ok (.getfield 7, 3) := by decide +kernel
theorem d_Z_unshield_42 : decode prog_12_method_24_code 42 = .ok (.iload_n 3, 1) := by decide +kernel
theorem d_Z_unshield_43 : decode prog_12_method_24_code 43 = .ok (.iconst 1, 1) := by decide +kernel
theorem d_Z_unshield_44 : decode prog_12_method_24_code 44 = .ok (.iadd, 1) := by decide +kernel
theorem d_Z_unshield_45 : decode prog_12_method_24_code 45 = .ok (.baload, 1) := by decide +kernel
theorem d_Z_unshield_46 : decode prog_12_method_24_code 46 = .ok (.sipush 255, 3) := by decide +kernel
theorem d_Z_unshield_49 : decode prog_12_method_24_code 49 = .ok (.iand, 1) := by decide +kernel
theorem d_Z_unshield_50 : decode prog_12_method_24_code 50 = .ok (.goto 4, 3) := by decide +kernel
theorem d_Z_unshield_53 : decode prog_12_method_24_code 53 = .ok (.iconst 0, 1) := by decide +kernel
theorem d_Z_unshield_54 : decode prog_12_method_24_code 54 = .ok (.istore 5, 2) := by decide +kernel
theorem d_Z_unshield_56 : decode prog_12_method_24_code 56 = .ok (.iload 5, 2) := by decide +kernel
theorem d_Z_unshield_58 : decode prog_12_method_24_code 58 = .ok (.bipush 94, 2) := by decide +kernel
theorem d_Z_unshield_60 : decode prog_12_method_24_code 60 = .ok (.if_icmp .eq 12, 3) := by decide +kernel
theorem d_Z_unshield_63 : decode prog_12_method_24_code 63 = .ok (.iload 5, 2) := by decide +kernel
theorem d_Z_unshield_65 : decode prog_12_method_24_code 65 = .ok (.bipush 93, 2) := by decide +kernel
theorem d_Z_unshield_67 : decode prog_12_method_24_code 67 = .ok (.if_icmp .eq 5, 3) := by decide +kernel
theorem d_Z_unshield_70 : decode prog_12_method_24_code 70 = .ok (.iconst 0, 1) := by decide +kernel
theorem d_Z_unshield_71 : decode prog_12_method_24_code 71 = .ok (.ireturn, 1) := by decide +kernel
theorem d_Z_unshield_72 : decode prog_12_method_24_code 72 = .ok (.aload_n 0, 1) := by decide +kernel
theorem d_Z_unshield_73 : decode prog_12_method_24_code 73 = .ok (.iload 5, 2) := by decide +kernel
theorem d_Z_unshield_75 : decode prog_12_method_24_code 75 = .ok (.bipush 94, 2) := by decide +kernel
theorem d_Z_unshield_77 : decode prog_12_method_24_code 77 = .ok (.if_icmp .ne 8, 3) := by decide +kernel
theorem d_Z_unshield_80 : decode prog_12_method_24_code 80 = .ok (.bipush 126, 2) := by decide +kernel
theorem d_Z_unshield_82 : decode prog_12_method_24_code 82 = .ok (.goto 5, 3) := by decide +kernel
theorem d_Z_unshield_85 : decode prog_12_method_24_code 85 = .ok (.bipush 125, 2) := by decide +kernel
theorem d_Z_unshield_87 : decode prog_12_method_24_code 87 = .ok (.invokevirtual 90, 3) := by decide +kernel
theorem d_Z_unshield_90 : decode prog_12_method_24_code 90 = .ok (.iinc 3 2, 3) := by decide +kernel
theorem d_Z_unshield_93 : decode prog_12_method_24_code 93 = .ok (.goto 12, 3) := by decide +kernel
theorem d_Z_unshield_96 : decode prog_12_method_24_code 96 = .ok (.aload_n 0, 1) := by decide +kernel
theorem d_Z_unshield_97 : decode prog_12_method_24_code 97 = .ok (.iload 4, 2) := by decide +kernel
theorem d_Z_unshield_99 : decode prog_12_method_24_code 99 = .ok (.invokevirtual 90, 3) := by decide +kernel
theorem d_Z_unshield_102 : decode prog_12_method_24_code 102 = .ok (.iinc 3 1, 3) := by decide +kernel
theorem d_Z_unshield_105 : decode prog_12_method_24_code 105 = .ok (.goto (-98), 3) := by decide +kernel
theorem d_Z_unshield_108 : decode prog_12_method_24_code 108 = .ok (.iconst 1, 1) := by decide +kernel
theorem d_Z_unshield_109 : decode prog_12_method_24_code 109 = .ok (.ireturn, 1) := by decide +kernel
def cd_Z_unshield_0 : Nat → g_T := g_tab [(0, tr_ald 0 1), (1, tr_cst (.int (0)) 2), (2, tr_put 10 15 (.int) 5), (5, tr_ild 1 6), (6, tr_ist 3 7), (7, tr_ild 3 8), (8, tr_ild 2 9), (9, tr_if2 (fun x y => y ≤ x) 108 12), (12, tr_ald 0 13), (13, tr_get 10 2 16), (16, tr_ild 3 17), (17, tr_bal 18), (18, tr_cst (.int (255)) 21), (21, tr_ii (fun x y => x &&& y) 22), (22, tr_ist 4 24), (24, tr_ild 4 26)]
set_option maxRecDepth 100000 in
theorem ok_Z_unshield_0 : ∀ pc, g_S (J_Z_unshield) pc (cd_Z_unshield_0 pc) := g_tab_ok <|
  List.forall_mem_cons.mpr ⟨so_aload_n d_Z_unshield_0 rfl rfl,
  List.forall_mem_cons.mpr ⟨so_iconst (by decide) d_Z_unshield_1 rfl,
  List.forall_mem_cons.mpr ⟨so_put ft_Z d_Z_unshield_2 (rfl : vwCl[10]? = some (R_Z, F_Z, 40)) (Nat.le_of_ble_eq_true rfl) i_Z w_4_113 tk_Z n_Z rfl rfl rfl,
  List.forall_mem_cons.mpr ⟨so_iload_n d_Z_unshield_5 rfl rfl,
  List.forall_mem_cons.mpr ⟨so_istore_n d_Z_unshield_6 rfl (Nat.le_of_ble_eq_true rfl) rfl,
  List.forall_mem_cons.mpr ⟨so_iload_n d_Z_unshield_7 rfl rfl,
  List.forall_mem_cons.mpr ⟨so_iload_n d_Z_unshield_8 rfl rfl,
  List.forall_mem_cons.mpr ⟨so_icmp_ge d_Z_unshield_9 (by decide) rfl,
  List.forall_mem_cons.mpr ⟨so_aload_n d_Z_unshield_12 rfl rfl,
  List.forall_mem_cons.mpr ⟨so_get d_Z_unshield_13 (rfl : vwCl[10]? = some (R_Z, F_Z, 40)) (Nat.le_of_ble_eq_true rfl) i_Z w_4_100 rfl,
  List.forall_mem_cons.mpr ⟨so_iload_n d_Z_unshield_16 rfl rfl,
  List.forall_mem_cons.mpr ⟨so_baload d_Z_unshield_17 rfl,
  List.forall_mem_cons.mpr ⟨so_sipush (by decide) d_Z_unshield_18 rfl,
  List.forall_mem_cons.mpr ⟨so_iand d_Z_unshield_21 rfl,
  List.forall_mem_cons.mpr ⟨so_istore d_Z_unshield_22 (Nat.le_of_ble_eq_true rfl) rfl,
  List.forall_mem_cons.mpr ⟨so_iload d_Z_unshield_24 rfl,
  fun _ h => absurd h List.not_mem_nil⟩⟩⟩⟩⟩⟩⟩⟩⟩⟩⟩⟩⟩⟩⟩⟩
def cd_Z_unshield_1 : Nat → g_T := g_tab [(26, tr_cst (.int (125)) 28), (28, tr_if2 (fun x y => ¬ x = y) 96 31), (31, tr_ild 3 32), (32, tr_cst (.int (1)) 33), (33, tr_ii (fun x y => x + y) 34), (34, tr_ild 2 35), (35, tr_if2 (fun x y => y ≤ x) 53 38), (38, tr_ald 0 39), (39, tr_get 10 2 42), (42, tr_ild 3 43), (43, tr_cst (.int (1)) 44), (44, tr_ii (fun x y => x + y) 45), (45, tr_bal 46), (46, tr_cst (.int (255)) 49), (49, tr_ii (fun x y => x &&& y) 50), (50, tr_goto 54)]
set_option maxRecDepth 100000 in
theorem ok_Z_unshield_1 : ∀ pc, g_S (J_Z_unshield) pc (cd_Z_unshield_1 pc) := g_tab_ok <|
  List.forall_mem_cons.mpr ⟨so_bipush (by decide) d_Z_unshield_26 rfl,
  List.forall_mem_cons.mpr ⟨so_icmp_ne d_Z_unshield_28 (by decide) rfl,
  List.forall_mem_cons.mpr ⟨so_iload_n d_Z_unshield_31 rfl rfl,
  List.forall_mem_cons.mpr ⟨so_iconst (by decide) d_Z_unshield_32 rfl,
  List.forall_mem_cons.mpr ⟨so_iadd d_Z_unshield_33 rfl,
  List.forall_mem_cons.mpr ⟨so_iload_n d_Z_unshield_34 rfl rfl,
  List.forall_mem_cons.mpr ⟨so_icmp_ge d_Z_unshield_35 (by decide) rfl,
  List.forall_mem_cons.mpr ⟨so_aload_n d_Z_unshield_38 rfl rfl,
  List.forall_mem_cons.mpr ⟨so_get d_Z_unshield_39 (rfl : vwCl[10]? = some (R_Z, F_Z, 40)) (Nat.le_of_ble_eq_true rfl) i_Z w_4_100 rfl,
  List.forall_mem_cons.mpr ⟨so_iload_n d_Z_unshield_42 rfl rfl,
  List.forall_mem_cons.mpr ⟨so_iconst (by decide) d_Z_unshield_43 rfl,
  List.forall_mem_cons.mpr ⟨so_iadd d_Z_unshield_44 rfl,
  List.forall_mem_cons.mpr ⟨so_baload d_Z_unshield_45 rfl,
  List.forall_mem_cons.mpr ⟨so_sipush (by decide) d_Z_unshield_46 rfl,
  List.forall_mem_cons.mpr ⟨so_iand d_Z_unshield_49 rfl,
  List.forall_mem_cons.mpr ⟨so_goto d_Z_unshield_50 (by decide),
  fun _ h => absurd h List.not_mem_nil⟩⟩⟩⟩⟩⟩⟩⟩⟩⟩⟩⟩⟩⟩⟩⟩
def cd_Z_unshield_2 : Nat → g_T := g_tab [(53, tr_cst (.int (0)) 54), (54, tr_ist 5 56), (56, tr_ild 5 58), (58, tr_cst (.int (94)) 60), (60, tr_if2 (fun x y => x = y) 72 63), (63, tr_ild 5 65), (65, tr_cst (.int (93)) 67), (67, tr_if2 (fun x y => x = y) 72 70), (70, tr_cst (.int (0)) 71), (71, tr_rz), (72, tr_ald 0 73), (73, tr_ild 5 75), (75, tr_cst (.int (94)) 77), (77, tr_if2 (fun x y => ¬ x = y) 85 80), (80, tr_cst (.int (126)) 82), (82, tr_goto 87)]
set_option maxRecDepth 100000 in
theorem ok_Z_unshield_2 : ∀ pc, g_S (J_Z_unshield) pc (cd_Z_unshield_2 pc) := g_tab_ok <|
  List.forall_mem_cons.mpr ⟨so_iconst (by decide) d_Z_unshield_53 rfl,
  List.forall_mem_cons.mpr ⟨so_istore d_Z_unshield_54 (Nat.le_of_ble_eq_true rfl) rfl,
  List.forall_mem_cons.mpr ⟨so_iload d_Z_unshield_56 rfl,
  List.forall_mem_cons.mpr ⟨so_bipush (by decide) d_Z_unshield_58 rfl,
  List.forall_mem_cons.mpr ⟨so_icmp_eq d_Z_unshield_60 (by decide) rfl,
  List.forall_mem_cons.mpr ⟨so_iload d_Z_unshield_63 rfl,
  List.forall_mem_cons.mpr ⟨so_bipush (by decide) d_Z_unshield_65 rfl,
  List.forall_mem_cons.mpr ⟨so_icmp_eq d_Z_unshield_67 (by decide) rfl,
  List.forall_mem_cons.mpr ⟨so_iconst (by decide) d_Z_unshield_70 rfl,
  List.forall_mem_cons.mpr ⟨so_zret d_Z_unshield_71 rfl,
  List.forall_mem_cons.mpr ⟨so_aload_n d_Z_unshield_72 rfl rfl,
  List.forall_mem_cons.mpr ⟨so_iload d_Z_unshield_73 rfl,
  List.forall_mem_cons.mpr ⟨so_bipush (by decide) d_Z_unshield_75 rfl,
  List.forall_mem_cons.mpr ⟨so_icmp_ne d_Z_unshield_77 (by decide) rfl,
  List.forall_mem_cons.mpr ⟨so_bipush (by decide) d_Z_unshield_80 rfl,
  List.forall_mem_cons.mpr ⟨so_goto d_Z_unshield_82 (by decide),
  fun _ h => absurd h List.not_mem_nil⟩⟩⟩⟩⟩⟩⟩⟩⟩⟩⟩⟩⟩⟩⟩⟩
def cd_Z_unshield_3 : Nat → g_T := g_tab [(85, tr_cst (.int (125)) 87), (87, tr_cV J_Z_say 10 1 90), (90, tr_inc 3 (2) 93), (93, tr_goto 105), (96, tr_ald 0 97), (97, tr_ild 4 99), (99, tr_cV J_Z_say 10 1 102), (102, tr_inc 3 (1) 105), (105, tr_goto 7), (108, tr_cst (.int (1)) 109), (109, tr_rz)]
set_option maxRecDepth 100000 in
theorem ok_Z_unshield_3 : ∀ pc, g_S (J_Z_unshield) pc (cd_Z_unshield_3 pc) := g_tab_ok <|
  List.forall_mem_cons.mpr ⟨so_bipush (by decide) d_Z_unshield_85 rfl,
  List.forall_mem_cons.mpr ⟨so_cV g_good d_Z_unshield_87 ⟨w_5_11, (Nat.le_of_ble_eq_true rfl), (Nat.le_of_ble_eq_true rfl), w_1_12, ⟨by decide, by decide⟩, by decide +kernel⟩ (rfl : vwCl[10]? = some (R_Z, F_Z, 40)) w_5_8 w_5_10 w_p30 rfl,
  List.forall_mem_cons.mpr ⟨so_iinc d_Z_unshield_90 (by decide) (Nat.le_of_ble_eq_true rfl) rfl,
  List.forall_mem_cons.mpr ⟨so_goto d_Z_unshield_93 (by decide),
  List.forall_mem_cons.mpr ⟨so_aload_n d_Z_unshield_96 rfl rfl,
  List.forall_mem_cons.mpr ⟨so_iload d_Z_unshield_97 rfl,
  List.forall_mem_cons.mpr ⟨so_cV g_good d_Z_unshield_99 ⟨w_5_11, (Nat.le_of_ble_eq_true rfl), (Nat.le_of_ble_eq_true rfl), w_1_12, ⟨by decide, by decide⟩, by decide +kernel⟩ (rfl : vwCl[10]? = some (R_Z, F_Z, 40)) w_5_8 w_5_10 w_p30 rfl,
  List.forall_mem_cons.mpr ⟨so_iinc d_Z_unshield_102 (by decide) (Nat.le_of_ble_eq_true rfl) rfl,
  List.forall_mem_cons.mpr ⟨so_goto d_Z_unshield_105 (by decide),
  List.forall_mem_cons.mpr ⟨so_iconst (by decide) d_Z_unshield_108 rfl,
  List.forall_mem_cons.mpr ⟨so_zret d_Z_unshield_109 rfl,
  fun _ h => absurd h List.not_mem_nil⟩⟩⟩⟩⟩⟩⟩⟩⟩⟩⟩
def cd_Z_unshield : Nat → g_T := g_chk [(24, cd_Z_unshield_0), (50, cd_Z_unshield_1), (82, cd_Z_unshield_2), (109, cd_Z_unshield_3)]
theorem ok_Z_unshield : ∀ pc, g_S (J_Z_unshield) pc (cd_Z_unshield pc) := g_chk_ok <|
  List.forall_mem_cons.mpr ⟨ok_Z_unshield_0,
  List.forall_mem_cons.mpr ⟨ok_Z_unshield_1,
  List.forall_mem_cons.mpr ⟨ok_Z_unshield_2,
  List.forall_mem_cons.mpr ⟨ok_Z_unshield_3,
  fun _ h => absurd h List.not_mem_nil⟩⟩⟩⟩
abbrev J_Z_next : g_J := (y_Z_next, prog_12_method_25_code, 1, (some .int), (0, 0), [], none)
theorem d_Z_next_0 : decode prog_12_method_25_code 0 = .ok (.aload_n 0, 1) := by decide +kernel
theorem d_Z_next_1 : decode prog_12_method_25_code 1 = .ok (.getfield 166, 3) := by decide +kernel
theorem d_Z_next_4 : decode prog_12_method_25_code 4 = .ok (.aload_n 0, 1) := by decide +kernel
theorem d_Z_next_5 : decode prog_12_method_25_code 5 = .ok (.getfield 169, 3) := by decide +kernel
theorem d_Z_next_8 : decode prog_12_method_25_code 8 = .ok (.if_icmp .lt 10, 3) := by decide +kernel
theorem d_Z_next_11 : decode prog_12_method_25_code 11 = .ok (.aload_n 0, 1) := by decide +kernel
theorem d_Z_next_12 : decode prog_12_method_25_code 12 = .ok (.iconst 0, 1) := by decide +kernel
theorem d_Z_next_13 : decode prog_12_method_25_code 13 = .ok (.putfield 172, 3) := by decide +kernel
theorem d_Z_next_16 : decode prog_12_method_25_code 16 = .ok (.iconst 0, 1) := by decide +kernel
theorem d_Z_next_17 : decode prog_12_method_25_code 17 = .ok (.ireturn, 1) := by decide +kernel
theorem d_Z_next_18 : decode prog_12_method_25_code 18 = .ok (.aload_n 0, 1) := by decide +kernel
theorem d_Z_next_19 : decode prog_12_method_25_code 19 = .ok (.dup, 1) := by decide +kernel
theorem d_Z_next_20 : decode prog_12_method_25_code 20 = .ok (.getfield 166, 3) := by decide +kernel
theorem d_Z_next_23 : decode prog_12_method_25_code 23 = .ok (.iconst 1, 1) := by decide +kernel
theorem d_Z_next_24 : decode prog_12_method_25_code 24 = .ok (.iadd, 1) := by decide +kernel
theorem d_Z_next_25 : decode prog_12_method_25_code 25 = .ok (.putfield 166, 3) := by decide +kernel
theorem d_Z_next_28 : decode prog_12_method_25_code 28 = .ok (.aload_n 0, 1) := by decide +kernel
theorem d_Z_next_29 : decode prog_12_method_25_code 29 = .ok (.getfield 33, 3) := by decide +kernel
theorem d_Z_next_32 : decode prog_12_method_25_code 32 = .ok (.aload_n 0, 1) := by decide +kernel
theorem d_Z_next_33 : decode prog_12_method_25_code 33 = .ok (.getfield 166, 3) := by decide +kernel
theorem d_Z_next_36 : decode prog_12_method_25_code 36 = .ok (.iconst 1, 1) := by decide +kernel
theorem d_Z_next_37 : decode prog_12_method_25_code 37 = .ok (.isub, 1) := by decide +kernel
theorem d_Z_next_38 : decode prog_12_method_25_code 38 = .ok (.iaload, 1) := by decide +kernel
theorem d_Z_next_39 : decode prog_12_method_25_code 39 = .ok (.ireturn, 1) := by decide +kernel
def cd_Z_next_0 : Nat → g_T := g_tab [(0, tr_ald 0 1), (1, tr_get 10 37 4), (4, tr_ald 0 5), (5, tr_get 10 38 8), (8, tr_if2 (fun x y => x < y) 18 11), (11, tr_ald 0 12), (12, tr_cst (.int (0)) 13), (13, tr_put 10 39 (.boolean) 16), (16, tr_cst (.int (0)) 17), (17, tr_ri), (18, tr_ald 0 19), (19, tr_dup 20), (20, tr_get 10 37 23), (23, tr_cst (.int (1)) 24), (24, tr_ii (fun x y => x + y) 25), (25, tr_put 10 37 (.int) 28)]
set_option maxRecDepth 100000 in
theorem ok_Z_next_0 : ∀ pc, g_S (J_Z_next) pc (cd_Z_next_0 pc) := g_tab_ok <|
  List.forall_mem_cons.mpr ⟨so_aload_n d_Z_next_0 rfl rfl,
  List.forall_mem_cons.mpr ⟨so_get d_Z_next_1 (rfl : vwCl[10]? = some (R_Z, F_Z, 40)) (Nat.le_of_ble_eq_true rfl) i_Z w_4_135 rfl,
  List.forall_mem_cons.mpr ⟨so_aload_n d_Z_next_4 rfl rfl,
  List.forall_mem_cons.mpr ⟨so_get d_Z_next_5 (rfl : vwCl[10]? = some (R_Z, F_Z, 40)) (Nat.le_of_ble_eq_true rfl) i_Z w_4_136 rfl,
  List.forall_mem_cons.mpr ⟨so_icmp_lt d_Z_next_8 (by decide) rfl,
  List.forall_mem_cons.mpr ⟨so_aload_n d_Z_next_11 rfl rfl,
  List.forall_mem_cons.mpr ⟨so_iconst (by decide) d_Z_next_12 rfl,
  List.forall_mem_cons.mpr ⟨so_put ft_Z d_Z_next_13 (rfl : vwCl[10]? = some (R_Z, F_Z, 40)) (Nat.le_of_ble_eq_true rfl) i_Z w_4_137 tk_Z n_Z rfl rfl rfl,
  List.forall_mem_cons.mpr ⟨so_iconst (by decide) d_Z_next_16 rfl,
  List.forall_mem_cons.mpr ⟨so_iret d_Z_next_17 rfl,
  List.forall_mem_cons.mpr ⟨so_aload_n d_Z_next_18 rfl rfl,
  List.forall_mem_cons.mpr ⟨so_dup d_Z_next_19 rfl,
  List.forall_mem_cons.mpr ⟨so_get d_Z_next_20 (rfl : vwCl[10]? = some (R_Z, F_Z, 40)) (Nat.le_of_ble_eq_true rfl) i_Z w_4_135 rfl,
  List.forall_mem_cons.mpr ⟨so_iconst (by decide) d_Z_next_23 rfl,
  List.forall_mem_cons.mpr ⟨so_iadd d_Z_next_24 rfl,
  List.forall_mem_cons.mpr ⟨so_put ft_Z d_Z_next_25 (rfl : vwCl[10]? = some (R_Z, F_Z, 40)) (Nat.le_of_ble_eq_true rfl) i_Z w_4_135 tk_Z n_Z rfl rfl rfl,
  fun _ h => absurd h List.not_mem_nil⟩⟩⟩⟩⟩⟩⟩⟩⟩⟩⟩⟩⟩⟩⟩⟩
def cd_Z_next_1 : Nat → g_T := g_tab [(28, tr_ald 0 29), (29, tr_get 10 16 32), (32, tr_ald 0 33), (33, tr_get 10 37 36), (36, tr_cst (.int (1)) 37), (37, tr_ii (fun x y => x - y) 38), (38, tr_ial 39), (39, tr_ri)]
set_option maxRecDepth 100000 in
theorem ok_Z_next_1 : ∀ pc, g_S (J_Z_next) pc (cd_Z_next_1 pc) := g_tab_ok <|
  List.forall_mem_cons.mpr ⟨so_aload_n d_Z_next_28 rfl rfl,
  List.forall_mem_cons.mpr ⟨so_get d_Z_next_29 (rfl : vwCl[10]? = some (R_Z, F_Z, 40)) (Nat.le_of_ble_eq_true rfl) i_Z w_4_114 rfl,
  List.forall_mem_cons.mpr ⟨so_aload_n d_Z_next_32 rfl rfl,
  List.forall_mem_cons.mpr ⟨so_get d_Z_next_33 (rfl : vwCl[10]? = some (R_Z, F_Z, 40)) (Nat.le_of_ble_eq_true rfl) i_Z w_4_135 rfl,
  List.forall_mem_cons.mpr ⟨so_iconst (by decide) d_Z_next_36 rfl,
  List.forall_mem_cons.mpr ⟨so_isub d_Z_next_37 rfl,
  List.forall_mem_cons.mpr ⟨so_iaload d_Z_next_38 rfl,
  List.forall_mem_cons.mpr ⟨so_iret d_Z_next_39 rfl,
  fun _ h => absurd h List.not_mem_nil⟩⟩⟩⟩⟩⟩⟩⟩
def cd_Z_next : Nat → g_T := g_chk [(25, cd_Z_next_0), (39, cd_Z_next_1)]
theorem ok_Z_next : ∀ pc, g_S (J_Z_next) pc (cd_Z_next pc) := g_chk_ok <|
  List.forall_mem_cons.mpr ⟨ok_Z_next_0,
  List.forall_mem_cons.mpr ⟨ok_Z_next_1,
  fun _ h => absurd h List.not_mem_nil⟩⟩
abbrev J_Z_nextFour : g_J := (y_Z_nextFour, prog_12_method_28_code, 3, (some .int), (1, 20), [], none)
theorem d_Z_nextFour_0 : decode prog_12_method_28_code 0 = .ok (.iconst 0, 1) := by decide +kernel
theorem d_Z_nextFour_1 : decode prog_12_method_28_code 1 = .ok (.istore_n 1, 1) := by decide +kernel
theorem d_Z_nextFour_2 : decode prog_12_method_28_code 2 = .ok (.iconst 0, 1) := by decide +kernel
theorem d_Z_nextFour_3 : decode prog_12_method_28_code 3 = .ok (.istore_n 2, 1) := by decide +kernel
theorem d_Z_nextFour_4 : decode prog_12_method_28_code 4 = .ok (.iload_n 2, 1) := by decide +kernel
theorem d_Z_nextFour_5 : decode prog_12_method_28_code 5 = .ok (.iconst 4, 1) := by decide +kernel
theorem d_Z_nextFour_6 : decode prog_12_method_28_code 6 = .ok (.if_icmp .ge 19, 3) := by decide +kernel
theorem d_Z_nextFour_9 : decode prog_12_method_28_code 9 = .ok (.iload_n 1, 1) := by decide +kernel
theorem d_Z_nextFour_10 : decode prog_12_method_28_code 10 = .ok (.bipush 8, 2) := by decide +kernel
theorem d_Z_nextFour_12 : decode prog_12_method_28_code 12 = .ok (.ishl, 1) := by decide +kernel
theorem d_Z_nextFour_13 : decode prog_12_method_28_code 13 = .ok (.aload_n 0, 1) := by decide +kernel
theorem d_Z_nextFour_14 : decode prog_12_method_28_code 14 = .ok (.invokevirtual 176, 3) := by decide +kernel
theorem d_Z_nextFour_17 : decode prog_12_method_28_code 17 = .ok (.ior, 1) := by decide +kernel
theorem d_Z_nextFour_18 : decode prog_12_method_28_code 18 = .ok (.istore_n 1, 1) := by decide +kernel
theorem d_Z_nextFour_19 : decode prog_12_method_28_code 19 = .ok (.iinc 2 1, 3) := by decide +kernel
theorem d_Z_nextFour_22 : decode prog_12_method_28_code 22 = .ok (.goto (-18), 3) := by decide +kernel
theorem d_Z_nextFour_25 : decode prog_12_method_28_code 25 = .ok (.iload_n 1, 1) := by decide +kernel
theorem d_Z_nextFour_26 : decode prog_12_method_28_code 26 = .ok (.ireturn, 1) := by decide +kernel
def cd_Z_nextFour_0 : Nat → g_T := g_tab [(0, tr_cst (.int (0)) 1), (1, tr_ist 1 2), (2, tr_cst (.int (0)) 3), (3, tr_ist 2 4), (4, tr_ild 2 5), (5, tr_cst (.int (4)) 6), (6, tr_if2 (fun x y => y ≤ x) 25 9), (9, tr_ild 1 10), (10, tr_cst (.int (8)) 12), (12, tr_ii (fun x y => x <<< (y &&& 31)) 13), (13, tr_ald 0 14), (14, tr_cV J_Z_next 10 0 17), (17, tr_ii (fun x y => x ||| y) 18), (18, tr_ist 1 19), (19, tr_inc 2 (1) 22), (22, tr_goto 4)]
set_option maxRecDepth 100000 in
theorem ok_Z_nextFour_0 : ∀ pc, g_S (J_Z_nextFour) pc (cd_Z_nextFour_0 pc) := g_tab_ok <|
  List.forall_mem_cons.mpr ⟨so_iconst (by decide) d_Z_nextFour_0 rfl,
  List.forall_mem_cons.mpr ⟨so_istore_n d_Z_nextFour_1 rfl (Nat.le_of_ble_eq_true rfl) rfl,
  List.forall_mem_cons.mpr ⟨so_iconst (by decide) d_Z_nextFour_2 rfl,
  List.forall_mem_cons.mpr ⟨so_istore_n d_Z_nextFour_3 rfl (Nat.le_of_ble_eq_true rfl) rfl,
  List.forall_mem_cons.mpr ⟨so_iload_n d_Z_nextFour_4 rfl rfl,
  List.forall_mem_cons.mpr ⟨so_iconst (by decide) d_Z_nextFour_5 rfl,
  List.forall_mem_cons.mpr ⟨so_icmp_ge d_Z_nextFour_6 (by decide) rfl,
  List.forall_mem_cons.mpr ⟨so_iload_n d_Z_nextFour_9 rfl rfl,
  List.forall_mem_cons.mpr ⟨so_bipush (by decide) d_Z_nextFour_10 rfl,
  List.forall_mem_cons.mpr ⟨so_ishl d_Z_nextFour_12 rfl,
  List.forall_mem_cons.mpr ⟨so_aload_n d_Z_nextFour_13 rfl rfl,
  List.forall_mem_cons.mpr ⟨so_cV g_good d_Z_nextFour_14 ⟨w_5_88, (Nat.le_of_ble_eq_true rfl), (Nat.le_of_ble_eq_true rfl), w_1_12, ⟨by decide, by decide⟩, by decide +kernel⟩ (rfl : vwCl[10]? = some (R_Z, F_Z, 40)) w_5_85 w_5_87 w_p40 rfl,
  List.forall_mem_cons.mpr ⟨so_ior d_Z_nextFour_17 rfl,
  List.forall_mem_cons.mpr ⟨so_istore_n d_Z_nextFour_18 rfl (Nat.le_of_ble_eq_true rfl) rfl,
  List.forall_mem_cons.mpr ⟨so_iinc d_Z_nextFour_19 (by decide) (Nat.le_of_ble_eq_true rfl) rfl,
  List.forall_mem_cons.mpr ⟨so_goto d_Z_nextFour_22 (by decide),
  fun _ h => absurd h List.not_mem_nil⟩⟩⟩⟩⟩⟩⟩⟩⟩⟩⟩⟩⟩⟩⟩⟩
def cd_Z_nextFour_1 : Nat → g_T := g_tab [(25, tr_ild 1 26), (26, tr_ri)]
set_option maxRecDepth 100000 in
theorem ok_Z_nextFour_1 : ∀ pc, g_S (J_Z_nextFour) pc (cd_Z_nextFour_1 pc) := g_tab_ok <|
  List.forall_mem_cons.mpr ⟨so_iload_n d_Z_nextFour_25 rfl rfl,
  List.forall_mem_cons.mpr ⟨so_iret d_Z_nextFour_26 rfl,
  fun _ h => absurd h List.not_mem_nil⟩⟩
def cd_Z_nextFour : Nat → g_T := g_chk [(22, cd_Z_nextFour_0), (26, cd_Z_nextFour_1)]
theorem ok_Z_nextFour : ∀ pc, g_S (J_Z_nextFour) pc (cd_Z_nextFour pc) := g_chk_ok <|
  List.forall_mem_cons.mpr ⟨ok_Z_nextFour_0,
  List.forall_mem_cons.mpr ⟨ok_Z_nextFour_1,
  fun _ h => absurd h List.not_mem_nil⟩⟩
abbrev J_Z_get : g_J := (y_Z_get, prog_12_method_29_code, 5, none, (0, 0), [], none)
theorem d_Z_get_0 : decode prog_12_method_29_code 0 = .ok (.aload_n 0, 1) := by decide +kernel
theorem d_Z_get_1 : decode prog_12_method_29_code 1 = .ok (.getfield 184, 3) := by decide +kernel
theorem d_Z_get_4 : decode prog_12_method_29_code 4 = .ok (.bipush 110, 2) := by decide +kernel
theorem d_Z_get_6 : decode prog_12_method_29_code 6 = .ok (.if_icmp .ne 9, 3) := by decide +kernel
theorem d_Z_get_9 : decode prog_12_method_29_code 9 = .ok (.aload_n 0, 1) := by decide +kernel
theorem d_Z_get_10 : decode prog_12_method_29_code 10 = .ok (.iconst 0, 1) := by decide +kernel
theorem d_Z_get_11 : decode prog_12_method_29_code 11 = .ok (.putfield 172, 3) := by decide +kernel
theorem d_Z_get_14 : decode prog_12_method_29_code 14 = .ok (.return_, 1) := by decide +kernel
theorem d_Z_get_15 : decode prog_12_method_29_code 15 = .ok (.aload_n 0, 1) := by decide +kernel
theorem d_Z_get_16 : decode prog_12_method_29_code 16 = .ok (.getfield 57, 3) := by decide +kernel
theorem d_Z_get_19 : decode prog_12_method_29_code 19 = .ok (.aload_n 0, 1) := by decide +kernel
theorem d_Z_get_20 : decode prog_12_method_29_code 20 = .ok (.getfield 184, 3) := by decide +kernel
theorem d_Z_get_23 : decode prog_12_method_29_code 23 = .ok (.iload_n 1, 1) := by decide +kernel
theorem d_Z_get_24 : decode prog_12_method_29_code 24 = .ok (.iastore, 1) := by decide +kernel
theorem d_Z_get_25 : decode prog_12_method_29_code 25 = .ok (.aload_n 0, 1) := by decide +kernel
theorem d_Z_get_26 : decode prog_12_method_29_code 26 = .ok (.getfield 60, 3) := by decide +kernel
theorem d_Z_get_29 : decode prog_12_method_29_code 29 = .ok (.aload_n 0, 1) := by decide +kernel
theorem d_Z_get_30 : decode prog_12_method_29_code 30 = .ok (.getfield 184, 3) := by decide +kernel
theorem d_Z_get_33 : decode prog_12_method_29_code 33 = .ok (.iload_n 2, 1) := by decide +kernel
theorem d_Z_get_34 : decode prog_12_method_29_code 34 = .ok (.iastore, 1) := by decide +kernel
theorem d_Z_get_35 : decode prog_12_method_29_code 35 = .ok (.aload_n 0, 1) := by decide +kernel
theorem d_Z_get_36 : decode prog_12_method_29_code 36 = .ok (.getfield 63, 3) := by decide +kernel
theorem d_Z_get_39 : decode prog_12_method_29_code 39 = .ok (.aload_n 0, 1) := by decide +kernel
theorem d_Z_get_40 : decode prog_12_method_29_code 40 = .ok (.getfield 184, 3) := by decide +kernel
theorem d_Z_get_43 : decode prog_12_method_29_code 43 = .ok (.iload_n 3, 1) := by decide +kernel
theorem d_Z_get_44 : decode prog_12_method_29_code 44 = .ok (.iastore, 1) := by decide +kernel
theorem d_Z_get_45 : decode prog_12_method_29_code 45 = .ok (.aload_n 0, 1) := by decide +kernel
theorem d_Z_get_46 : decode prog_12_method_29_code 46 = .ok (.getfield 66, 3) := by decide +kernel
theorem d_Z_get_49 : decode prog_12_method_29_code 49 = .ok (.aload_n 0, 1) := by decide +kernel
theorem d_Z_get_50 : decode prog_12_method_29_code 50 = .ok (.getfield 184, 3) := by decide +kernel
theorem d_Z_get_53 : decode prog_12_method_29_code 53 = .ok (.iload 4, 2) := by decide +kernel
theorem d_Z_get_55 : decode prog_12_method_29_code 55 = .ok (.iastore, 1) := by decide +kernel
theorem d_Z_get_56 : decode prog_12_method_29_code 56 = .ok (.aload_n 0, 1) := by decide +kernel
theorem d_Z_get_57 : decode prog_12_method_29_code 57 = .ok (.dup, 1) := by decide +kernel
theorem d_Z_get_58 : decode prog_12_method_29_code 58 = .ok (.getfield 184, 3) := by decide +kernel
theorem d_Z_get_61 : decode prog_12_method_29_code 61 = .ok (.iconst 1, 1) := by decide +kernel
theorem d_Z_get_62 : decode prog_12_method_29_code 62 = .ok (.iadd, 1) := by decide +kernel
theorem d_Z_get_63 : decode prog_12_method_29_code 63 = .ok (.putfield 184, 3) := by decide +kernel
theorem d_Z_get_66 : decode prog_12_method_29_code 66 = .ok (.return_, 1) := by decide +kernel
def cd_Z_get_0 : Nat → g_T := g_tab [(0, tr_ald 0 1), (1, tr_get 10 36 4), (4, tr_cst (.int (110)) 6), (6, tr_if2 (fun x y => ¬ x = y) 15 9), (9, tr_ald 0 10), (10, tr_cst (.int (0)) 11), (11, tr_put 10 39 (.boolean) 14), (14, tr_rv), (15, tr_ald 0 16), (16, tr_get 10 32 19), (19, tr_ald 0 20), (20, tr_get 10 36 23), (23, tr_ild 1 24), (24, tr_ias 25), (25, tr_ald 0 26), (26, tr_get 10 33 29)]
set_option maxRecDepth 100000 in
theorem ok_Z_get_0 : ∀ pc, g_S (J_Z_get) pc (cd_Z_get_0 pc) := g_tab_ok <|
  List.forall_mem_cons.mpr ⟨so_aload_n d_Z_get_0 rfl rfl,
  List.forall_mem_cons.mpr ⟨so_get d_Z_get_1 (rfl : vwCl[10]? = some (R_Z, F_Z, 40)) (Nat.le_of_ble_eq_true rfl) i_Z w_4_134 rfl,
  List.forall_mem_cons.mpr ⟨so_bipush (by decide) d_Z_get_4 rfl,
  List.forall_mem_cons.mpr ⟨so_icmp_ne d_Z_get_6 (by decide) rfl,
  List.forall_mem_cons.mpr ⟨so_aload_n d_Z_get_9 rfl rfl,
  List.forall_mem_cons.mpr ⟨so_iconst (by decide) d_Z_get_10 rfl,
  List.forall_mem_cons.mpr ⟨so_put ft_Z d_Z_get_11 (rfl : vwCl[10]? = some (R_Z, F_Z, 40)) (Nat.le_of_ble_eq_true rfl) i_Z w_4_137 tk_Z n_Z rfl rfl rfl,
  List.forall_mem_cons.mpr ⟨so_vret d_Z_get_14 rfl,
  List.forall_mem_cons.mpr ⟨so_aload_n d_Z_get_15 rfl rfl,
  List.forall_mem_cons.mpr ⟨so_get d_Z_get_16 (rfl : vwCl[10]? = some (R_Z, F_Z, 40)) (Nat.le_of_ble_eq_true rfl) i_Z w_4_130 rfl,
  List.forall_mem_cons.mpr ⟨so_aload_n d_Z_get_19 rfl rfl,
  List.forall_mem_cons.mpr ⟨so_get d_Z_get_20 (rfl : vwCl[10]? = some (R_Z, F_Z, 40)) (Nat.le_of_ble_eq_true rfl) i_Z w_4_134 rfl,
  List.forall_mem_cons.mpr ⟨so_iload_n d_Z_get_23 rfl rfl,
  List.forall_mem_cons.mpr ⟨so_iastore d_Z_get_24 rfl,
  List.forall_mem_cons.mpr ⟨so_aload_n d_Z_get_25 rfl rfl,
  List.forall_mem_cons.mpr ⟨so_get d_Z_get_26 (rfl : vwCl[10]? = some (R_Z, F_Z, 40)) (Nat.le_of_ble_eq_true rfl) i_Z w_4_131 rfl,
  fun _ h => absurd h List.not_mem_nil⟩⟩⟩⟩⟩⟩⟩⟩⟩⟩⟩⟩⟩⟩⟩⟩
def cd_Z_get_1 : Nat → g_T := g_tab [(29, tr_ald 0 30), (30, tr_get 10 36 33), (33, tr_ild 2 34), (34, tr_ias 35), (35, tr_ald 0 36), (36, tr_get 10 34 39), (39, tr_ald 0 40), (40, tr_get 10 36 43), (43, tr_ild 3 44), (44, tr_ias 45), (45, tr_ald 0 46), (46, tr_get 10 35 49), (49, tr_ald 0 50), (50, tr_get 10 36 53), (53, tr_ild 4 55), (55, tr_ias 56)]
set_option maxRecDepth 100000 in
theorem ok_Z_get_1 : ∀ pc, g_S (J_Z_get) pc (cd_Z_get_1 pc) := g_tab_ok <|
  List.forall_mem_cons.mpr ⟨so_aload_n d_Z_get_29 rfl rfl,
  List.forall_mem_cons.mpr ⟨so_get d_Z_get_30 (rfl : vwCl[10]? = some (R_Z, F_Z, 40)) (Nat.le_of_ble_eq_true rfl) i_Z w_4_134 rfl,
  List.forall_mem_cons.mpr ⟨so_iload_n d_Z_get_33 rfl rfl,
  List.forall_mem_cons.mpr ⟨so_iastore d_Z_get_34 rfl,
  List.forall_mem_cons.mpr ⟨so_aload_n d_Z_get_35 rfl rfl,
  List.forall_mem_cons.mpr ⟨so_get d_Z_get_36 (rfl : vwCl[10]? = some (R_Z, F_Z, 40)) (Nat.le_of_ble_eq_true rfl) i_Z w_4_132 rfl,
  List.forall_mem_cons.mpr ⟨so_aload_n d_Z_get_39 rfl rfl,
  List.forall_mem_cons.mpr ⟨so_get d_Z_get_40 (rfl : vwCl[10]? = some (R_Z, F_Z, 40)) (Nat.le_of_ble_eq_true rfl) i_Z w_4_134 rfl,
  List.forall_mem_cons.mpr ⟨so_iload_n d_Z_get_43 rfl rfl,
  List.forall_mem_cons.mpr ⟨so_iastore d_Z_get_44 rfl,
  List.forall_mem_cons.mpr ⟨so_aload_n d_Z_get_45 rfl rfl,
  List.forall_mem_cons.mpr ⟨so_get d_Z_get_46 (rfl : vwCl[10]? = some (R_Z, F_Z, 40)) (Nat.le_of_ble_eq_true rfl) i_Z w_4_133 rfl,
  List.forall_mem_cons.mpr ⟨so_aload_n d_Z_get_49 rfl rfl,
  List.forall_mem_cons.mpr ⟨so_get d_Z_get_50 (rfl : vwCl[10]? = some (R_Z, F_Z, 40)) (Nat.le_of_ble_eq_true rfl) i_Z w_4_134 rfl,
  List.forall_mem_cons.mpr ⟨so_iload d_Z_get_53 rfl,
  List.forall_mem_cons.mpr ⟨so_iastore d_Z_get_55 rfl,
  fun _ h => absurd h List.not_mem_nil⟩⟩⟩⟩⟩⟩⟩⟩⟩⟩⟩⟩⟩⟩⟩⟩
def cd_Z_get_2 : Nat → g_T := g_tab [(56, tr_ald 0 57), (57, tr_dup 58), (58, tr_get 10 36 61), (61, tr_cst (.int (1)) 62), (62, tr_ii (fun x y => x + y) 63), (63, tr_put 10 36 (.int) 66), (66, tr_rv)]
set_option maxRecDepth 100000 in
theorem ok_Z_get_2 : ∀ pc, g_S (J_Z_get) pc (cd_Z_get_2 pc) := g_tab_ok <|
  List.forall_mem_cons.mpr ⟨so_aload_n d_Z_get_56 rfl rfl,
  List.forall_mem_cons.mpr ⟨so_dup d_Z_get_57 rfl,
  List.forall_mem_cons.mpr ⟨so_get d_Z_get_58 (rfl : vwCl[10]? = some (R_Z, F_Z, 40)) (Nat.le_of_ble_eq_true rfl) i_Z w_4_134 rfl,
  List.forall_mem_cons.mpr ⟨so_iconst (by decide) d_Z_get_61 rfl,
  List.forall_mem_cons.mpr ⟨so_iadd d_Z_get_62 rfl,
  List.forall_mem_cons.mpr ⟨so_put ft_Z d_Z_get_63 (rfl : vwCl[10]? = some (R_Z, F_Z, 40)) (Nat.le_of_ble_eq_true rfl) i_Z w_4_134 tk_Z n_Z rfl rfl rfl,
  List.forall_mem_cons.mpr ⟨so_vret d_Z_get_66 rfl,
  fun _ h => absurd h List.not_mem_nil⟩⟩⟩⟩⟩⟩⟩
def cd_Z_get : Nat → g_T := g_chk [(26, cd_Z_get_0), (55, cd_Z_get_1), (66, cd_Z_get_2)]
theorem ok_Z_get : ∀ pc, g_S (J_Z_get) pc (cd_Z_get pc) := g_chk_ok <|
  List.forall_mem_cons.mpr ⟨ok_Z_get_0,
  List.forall_mem_cons.mpr ⟨ok_Z_get_1,
  List.forall_mem_cons.mpr ⟨ok_Z_get_2,
  fun _ h => absurd h List.not_mem_nil⟩⟩⟩
abbrev J_Z_nextNumber : g_J := (y_Z_nextNumber, prog_12_method_26_code, 5, (some .long), (1, 20), [], none)
theorem d_Z_nextNumber_0 : decode prog_12_method_26_code 0 = .ok (.lconst 0, 1) := by decide +kernel
theorem d_Z_nextNumber_1 : decode prog_12_method_26_code 1 = .ok (.lstore_n 1, 1) := by decide +kernel
theorem d_Z_nextNumber_2 : decode prog_12_method_26_code 2 = .ok (.iconst 0, 1) := by decide +kernel
theorem d_Z_nextNumber_3 : decode prog_12_method_26_code 3 = .ok (.istore_n 3, 1) := by decide +kernel
theorem d_Z_nextNumber_4 : decode prog_12_method_26_code 4 = .ok (.sipush 128, 3) := by decide +kernel
theorem d_Z_nextNumber_7 : decode prog_12_method_26_code 7 = .ok (.istore 4, 2) := by decide +kernel
theorem d_Z_nextNumber_9 : decode prog_12_method_26_code 9 = .ok (.iload 4, 2) := by decide +kernel
theorem d_Z_nextNumber_11 : decode prog_12_method_26_code 11 = .ok (.bipush 127, 2) := by decide +kernel
theorem d_Z_nextNumber_13 : decode prog_12_method_26_code 13 = .ok (.if_icmp .le 53, 3) := by decide +kernel
theorem d_Z_nextNumber_16 : decode prog_12_method_26_code 16 = .ok (.aload_n 0, 1) := by decide +kernel
theorem d_Z_nextNumber_17 : decode prog_12_method_26_code 17 = .ok (.getfield 172, 3) := by decide +kernel
theorem d_Z_nextNumber_20 : decode prog_12_method_26_code 20 = .ok (.ifCond .eq 46, 3) := by decide +kernel
theorem d_Z_nextNumber_23 : decode prog_12_method_26_code 23 = .ok (.aload_n 0, 1) := by decide +kernel
theorem d_Z_nextNumber_24 : decode prog_12_method_26_code 24 = .ok (.invokevirtual 176, 3) := by decide +kernel
theorem d_Z_nextNumber_27 : decode prog_12_method_26_code 27 = .ok (.istore 4, 2) := by decide +kernel
theorem d_Z_nextNumber_29 : decode prog_12_method_26_code 29 = .ok (.lload_n 1, 1) := by decide +kernel
theorem d_Z_nextNumber_30 : decode prog_12_method_26_code 30 = .ok (.iload 4, 2) := by decide +kernel
theorem d_Z_nextNumber_32 : decode prog_12_method_26_code 32 = .ok (.bipush 127, 2) := by decide +kernel
theorem d_Z_nextNumber_34 : decode prog_12_method_26_code 34 = .ok (.iand, 1) := by decide +kernel
theorem d_Z_nextNumber_35 : decode prog_12_method_26_code 35 = .ok (.i2l, 1) := by decide +kernel
theorem d_Z_nextNumber_36 : decode prog_12_method_26_code 36 = .ok (.bipush 7, 2) := by decide +kernel
theorem d_Z_nextNumber_38 : decode prog_12_method_26_code 38 = .ok (.iload_n 3, 1) := by decide +kernel
theorem d_Z_nextNumber_39 : decode prog_12_method_26_code 39 = .ok (.imul, 1) := by decide +kernel
theorem d_Z_nextNumber_40 : decode prog_12_method_26_code 40 = .ok (.lshl, 1) := by decide +kernel
theorem d_Z_nextNumber_41 : decode prog_12_method_26_code 41 = .ok (.lor, 1) := by decide +kernel
theorem d_Z_nextNumber_42 : decode prog_12_method_26_code 42 = .ok (.lstore_n 1, 1) := by decide +kernel
theorem d_Z_nextNumber_43 : decode prog_12_method_26_code 43 = .ok (.iinc 3 1, 3) := by decide +kernel
theorem d_Z_nextNumber_46 : decode prog_12_method_26_code 46 = .ok (.iload_n 3, 1) := by decide +kernel
theorem d_Z_nextNumber_47 : decode prog_12_method_26_code 47 = .ok (.iconst 5, 1) := by decide +kernel
theorem d_Z_nextNumber_48 : decode prog_12_method_26_code 48 = .ok (.if_icmp .ne (-39), 3) := by decide +kernel
theorem d_Z_nextNumber_51 : decode prog_12_method_26_code 51 = .ok (.iload 4, 2) := by decide +kernel
theorem d_Z_nextNumber_53 : decode prog_12_method_26_code 53 = .ok (.bipush 15, 2) := by decide +kernel
theorem d_Z_nextNumber_55 : decode prog_12_method_26_code 55 = .ok (.if_icmp .le (-46), 3) := by decide +kernel
theorem d_Z_nextNumber_58 : decode prog_12_method_26_code 58 = .ok (.aload_n 0, 1) := by decide +kernel
theorem d_Z_nextNumber_59 : decode prog_12_method_26_code 59 = .ok (.iconst 0, 1) := by decide +kernel
theorem d_Z_nextNumber_60 : decode prog_12_method_26_code 60 = .ok (.putfield 172, 3) := by decide +kernel
theorem d_Z_nextNumber_63 : decode prog_12_method_26_code 63 = .ok (.goto (-54), 3) := by decide +kernel
theorem d_Z_nextNumber_66 : decode prog_12_method_26_code 66 = .ok (.iload_n 3, 1) := by decide +kernel
theorem d_Z_nextNumber_67 : decode prog_12_method_26_code 67 = .ok (.iconst 1, 1) := by decide +kernel
theorem d_Z_nextNumber_68 : decode prog_12_method_26_code 68 = .ok (.if_icmp .le 13, 3) := by decide +kernel
theorem d_Z_nextNumber_71 : decode prog_12_method_26_code 71 = .ok (.iload 4, 2) := by decide +kernel
theorem d_Z_nextNumber_73 : decode prog_12_method_26_code 73 = .ok (.ifCond .ne 8, 3) := by decide +kernel
theorem d_Z_nextNumber_76 : decode prog_12_method_26_code 76 = .ok (.aload_n 0, 1) := by decide +kernel
theorem d_Z_nextNumber_77 : decode prog_12_method_26_code 77 = .ok (.iconst 0, 1) := by decide +kernel
theorem d_Z_nextNumber_78 : decode prog_12_method_26_code 78 = .ok (.putfield 172, 3) := by decide +kernel
theorem d_Z_nextNumber_81 : decode prog_12_method_26_code 81 = .ok (.lload_n 1, 1) := by decide +kernel
theorem d_Z_nextNumber_82 : decode prog_12_method_26_code 82 = .ok (.lreturn, 1) := by decide +kernel
def cd_Z_nextNumber_0 : Nat → g_T := g_tab [(0, tr_cst (.long (0)) 1), (1, tr_lst 1 2), (2, tr_cst (.int (0)) 3), (3, tr_ist 3 4), (4, tr_cst (.int (128)) 7), (7, tr_ist 4 9), (9, tr_ild 4 11), (11, tr_cst (.int (127)) 13), (13, tr_if2 (fun x y => x ≤ y) 66 16), (16, tr_ald 0 17), (17, tr_get 10 39 20), (20, tr_if1 (fun x => x = 0) 66 23), (23, tr_ald 0 24), (24, tr_cV J_Z_next 10 0 27), (27, tr_ist 4 29), (29, tr_lld 1 30)]
set_option maxRecDepth 100000 in
theorem ok_Z_nextNumber_0 : ∀ pc, g_S (J_Z_nextNumber) pc (cd_Z_nextNumber_0 pc) := g_tab_ok <|
  List.forall_mem_cons.mpr ⟨so_lconst (by decide) d_Z_nextNumber_0 rfl,
  List.forall_mem_cons.mpr ⟨so_lstore_n d_Z_nextNumber_1 rfl (Nat.le_of_ble_eq_true rfl) rfl,
  List.forall_mem_cons.mpr ⟨so_iconst (by decide) d_Z_nextNumber_2 rfl,
  List.forall_mem_cons.mpr ⟨so_istore_n d_Z_nextNumber_3 rfl (Nat.le_of_ble_eq_true rfl) rfl,
  List.forall_mem_cons.mpr ⟨so_sipush (by decide) d_Z_nextNumber_4 rfl,
  List.forall_mem_cons.mpr ⟨so_istore d_Z_nextNumber_7 (Nat.le_of_ble_eq_true rfl) rfl,
  List.forall_mem_cons.mpr ⟨so_iload d_Z_nextNumber_9 rfl,
  List.forall_mem_cons.mpr ⟨so_bipush (by decide) d_Z_nextNumber_11 rfl,
  List.forall_mem_cons.mpr ⟨so_icmp_le d_Z_nextNumber_13 (by decide) rfl,
  List.forall_mem_cons.mpr ⟨so_aload_n d_Z_nextNumber_16 rfl rfl,
  List.forall_mem_cons.mpr ⟨so_get d_Z_nextNumber_17 (rfl : vwCl[10]? = some (R_Z, F_Z, 40)) (Nat.le_of_ble_eq_true rfl) i_Z w_4_137 rfl,
  List.forall_mem_cons.mpr ⟨so_if_eq d_Z_nextNumber_20 (by decide) rfl,
  List.forall_mem_cons.mpr ⟨so_aload_n d_Z_nextNumber_23 rfl rfl,
  List.forall_mem_cons.mpr ⟨so_cV g_good d_Z_nextNumber_24 ⟨w_5_88, (Nat.le_of_ble_eq_true rfl), (Nat.le_of_ble_eq_true rfl), w_1_12, ⟨by decide, by decide⟩, by decide +kernel⟩ (rfl : vwCl[10]? = some (R_Z, F_Z, 40)) w_5_85 w_5_87 w_p40 rfl,
  List.forall_mem_cons.mpr ⟨so_istore d_Z_nextNumber_27 (Nat.le_of_ble_eq_true rfl) rfl,
  List.forall_mem_cons.mpr ⟨so_lload_n d_Z_nextNumber_29 rfl rfl,
  fun _ h => absurd h List.not_mem_nil⟩⟩⟩⟩⟩⟩⟩⟩⟩⟩⟩⟩⟩⟩⟩⟩
def cd_Z_nextNumber_1 : Nat → g_T := g_tab [(30, tr_ild 4 32), (32, tr_cst (.int (127)) 34), (34, tr_ii (fun x y => x &&& y) 35), (35, tr_i2l 36), (36, tr_cst (.int (7)) 38), (38, tr_ild 3 39), (39, tr_ii (fun x y => x * y) 40), (40, tr_li (fun x y => x <<< (y.toInt64 &&& 63)) 41), (41, tr_ll (fun x y => x ||| y) 42), (42, tr_lst 1 43), (43, tr_inc 3 (1) 46), (46, tr_ild 3 47), (47, tr_cst (.int (5)) 48), (48, tr_if2 (fun x y => ¬ x = y) 9 51), (51, tr_ild 4 53), (53, tr_cst (.int (15)) 55)]
set_option maxRecDepth 100000 in
theorem ok_Z_nextNumber_1 : ∀ pc, g_S (J_Z_nextNumber) pc (cd_Z_nextNumber_1 pc) := g_tab_ok <|
  List.forall_mem_cons.mpr ⟨so_iload d_Z_nextNumber_30 rfl,
  List.forall_mem_cons.mpr ⟨so_bipush (by decide) d_Z_nextNumber_32 rfl,
  List.forall_mem_cons.mpr ⟨so_iand d_Z_nextNumber_34 rfl,
  List.forall_mem_cons.mpr ⟨so_i2l d_Z_nextNumber_35 rfl,
  List.forall_mem_cons.mpr ⟨so_bipush (by decide) d_Z_nextNumber_36 rfl,
  List.forall_mem_cons.mpr ⟨so_iload_n d_Z_nextNumber_38 rfl rfl,
  List.forall_mem_cons.mpr ⟨so_imul d_Z_nextNumber_39 rfl,
  List.forall_mem_cons.mpr ⟨so_lshl d_Z_nextNumber_40 rfl,
  List.forall_mem_cons.mpr ⟨so_lor d_Z_nextNumber_41 rfl,
  List.forall_mem_cons.mpr ⟨so_lstore_n d_Z_nextNumber_42 rfl (Nat.le_of_ble_eq_true rfl) rfl,
  List.forall_mem_cons.mpr ⟨so_iinc d_Z_nextNumber_43 (by decide) (Nat.le_of_ble_eq_true rfl) rfl,
  List.forall_mem_cons.mpr ⟨so_iload_n d_Z_nextNumber_46 rfl rfl,
  List.forall_mem_cons.mpr ⟨so_iconst (by decide) d_Z_nextNumber_47 rfl,
  List.forall_mem_cons.mpr ⟨so_icmp_ne d_Z_nextNumber_48 (by decide) rfl,
  List.forall_mem_cons.mpr ⟨so_iload d_Z_nextNumber_51 rfl,
  List.forall_mem_cons.mpr ⟨so_bipush (by decide) d_Z_nextNumber_53 rfl,
  fun _ h => absurd h List.not_mem_nil⟩⟩⟩⟩⟩⟩⟩⟩⟩⟩⟩⟩⟩⟩⟩⟩
def cd_Z_nextNumber_2 : Nat → g_T := g_tab [(55, tr_if2 (fun x y => x ≤ y) 9 58), (58, tr_ald 0 59), (59, tr_cst (.int (0)) 60), (60, tr_put 10 39 (.boolean) 63), (63, tr_goto 9), (66, tr_ild 3 67), (67, tr_cst (.int (1)) 68), (68, tr_if2 (fun x y => x ≤ y) 81 71), (71, tr_ild 4 73), (73, tr_if1 (fun x => ¬ x = 0) 81 76), (76, tr_ald 0 77), (77, tr_cst (.int (0)) 78), (78, tr_put 10 39 (.boolean) 81), (81, tr_lld 1 82), (82, tr_rl)]
set_option maxRecDepth 100000 in
theorem ok_Z_nextNumber_2 : ∀ pc, g_S (J_Z_nextNumber) pc (cd_Z_nextNumber_2 pc) := g_tab_ok <|
  List.forall_mem_cons.mpr ⟨so_icmp_le d_Z_nextNumber_55 (by decide) rfl,
  List.forall_mem_cons.mpr ⟨so_aload_n d_Z_nextNumber_58 rfl rfl,
  List.forall_mem_cons.mpr ⟨so_iconst (by decide) d_Z_nextNumber_59 rfl,
  List.forall_mem_cons.mpr ⟨so_put ft_Z d_Z_nextNumber_60 (rfl : vwCl[10]? = some (R_Z, F_Z, 40)) (Nat.le_of_ble_eq_true rfl) i_Z w_4_137 tk_Z n_Z rfl rfl rfl,
  List.forall_mem_cons.mpr ⟨so_goto d_Z_nextNumber_63 (by decide),
  List.forall_mem_cons.mpr ⟨so_iload_n d_Z_nextNumber_66 rfl rfl,
  List.forall_mem_cons.mpr ⟨so_iconst (by decide) d_Z_nextNumber_67 rfl,
  List.forall_mem_cons.mpr ⟨so_icmp_le d_Z_nextNumber_68 (by decide) rfl,
  List.forall_mem_cons.mpr ⟨so_iload d_Z_nextNumber_71 rfl,
  List.forall_mem_cons.mpr ⟨so_if_ne d_Z_nextNumber_73 (by decide) rfl,
  List.forall_mem_cons.mpr ⟨so_aload_n d_Z_nextNumber_76 rfl rfl,
  List.forall_mem_cons.mpr ⟨so_iconst (by decide) d_Z_nextNumber_77 rfl,
  List.forall_mem_cons.mpr ⟨so_put ft_Z d_Z_nextNumber_78 (rfl : vwCl[10]? = some (R_Z, F_Z, 40)) (Nat.le_of_ble_eq_true rfl) i_Z w_4_137 tk_Z n_Z rfl rfl rfl,
  List.forall_mem_cons.mpr ⟨so_lload_n d_Z_nextNumber_81 rfl rfl,
  List.forall_mem_cons.mpr ⟨so_lret d_Z_nextNumber_82 rfl,
  fun _ h => absurd h List.not_mem_nil⟩⟩⟩⟩⟩⟩⟩⟩⟩⟩⟩⟩⟩⟩⟩
def cd_Z_nextNumber : Nat → g_T := g_chk [(29, cd_Z_nextNumber_0), (53, cd_Z_nextNumber_1), (82, cd_Z_nextNumber_2)]
theorem ok_Z_nextNumber : ∀ pc, g_S (J_Z_nextNumber) pc (cd_Z_nextNumber pc) := g_chk_ok <|
  List.forall_mem_cons.mpr ⟨ok_Z_nextNumber_0,
  List.forall_mem_cons.mpr ⟨ok_Z_nextNumber_1,
  List.forall_mem_cons.mpr ⟨ok_Z_nextNumber_2,
  fun _ h => absurd h List.not_mem_nil⟩⟩⟩
abbrev J_Z_nextDifference : g_J := (y_Z_nextDifference, prog_12_method_27_code, 3, (some .int), (2, 44), [], none)
theorem d_Z_nextDifference_0 : decode prog_12_method_27_code 0 = .ok (.aload_n 0, 1) := by decide +kernel
theorem d_Z_nextDifference_1 : decode prog_12_method_27_code 1 = .ok (.invokevirtual 180, 3) := by decide +kernel
theorem d_Z_nextDifference_4 : decode prog_12_method_27_code 4 = .ok (.lstore_n 1, 1) := by decide +kernel
theorem d_Z_nextDifference_5 : decode prog_12_method_27_code 5 = .ok (.lload_n 1, 1) := by decide +kernel
theorem d_Z_nextDifference_6 : decode prog_12_method_27_code 6 = .ok (.lconst 1, 1) := by decide +kernel
theorem d_Z_nextDifference_7 : decode prog_12_method_27_code 7 = .ok (.land, 1) := by decide +kernel
theorem d_Z_nextDifference_8 : decode prog_12_method_27_code 8 = .ok (.lconst 0, 1) := by decide +kernel
theorem d_Z_nextDifference_9 : decode prog_12_method_27_code 9 = .ok (.lcmp, 1) := by decide +kernel
theorem d_Z_nextDifference_10 : decode prog_12_method_27_code 10 = .ok (.ifCond .ne 11, 3) := by decide +kernel
theorem d_Z_nextDifference_13 : decode prog_12_method_27_code 13 = .ok (.lload_n 1, 1) := by decide +kernel
theorem d_Z_nextDifference_14 : decode prog_12_method_27_code 14 = .ok (.ldc2_w 94, 3) := by decide +kernel
theorem d_Z_nextDifference_17 : decode prog_12_method_27_code 17 = .ok (.ldiv, 1) := by decide +kernel
theorem d_Z_nextDifference_18 : decode prog_12_method_27_code 18 = .ok (.goto 11, 3) := by decide +kernel
theorem d_Z_nextDifference_21 : decode prog_12_method_27_code 21 = .ok (.lload_n 1, 1) := by decide +kernel
theorem d_Z_nextDifference_22 : decode prog_12_method_27_code 22 = .ok (.lconst 1, 1) := by decide +kernel
theorem d_Z_nextDifference_23 : decode prog_12_method_27_code 23 = .ok (.ladd, 1) := by decide +kernel
theorem d_Z_nextDifference_24 : decode prog_12_method_27_code 24 = .ok (.lneg, 1) := by decide +kernel
theorem d_Z_nextDifference_25 : decode prog_12_method_27_code 25 = .ok (.ldc2_w 94, 3) := by decide +kernel
theorem d_Z_nextDifference_28 : decode prog_12_method_27_code 28 = .ok (.ldiv, 1) := by decide +kernel
theorem d_Z_nextDifference_29 : decode prog_12_method_27_code 29 = .ok (.l2i, 1) := by decide +kernel
theorem d_Z_nextDifference_30 : decode prog_12_method_27_code 30 = .ok (.ireturn, 1) := by decide +kernel
def cd_Z_nextDifference_0 : Nat → g_T := g_tab [(0, tr_ald 0 1), (1, tr_cV J_Z_nextNumber 10 0 4), (4, tr_lst 1 5), (5, tr_lld 1 6), (6, tr_cst (.long (1)) 7), (7, tr_ll (fun x y => x &&& y) 8), (8, tr_cst (.long (0)) 9), (9, tr_lcmp 10), (10, tr_if1 (fun x => ¬ x = 0) 21 13), (13, tr_lld 1 14), (14, tr_cst (.long (2)) 17), (17, tr_lz (fun x y => x / y) 18), (18, tr_goto 29), (21, tr_lld 1 22), (22, tr_cst (.long (1)) 23), (23, tr_ll (fun x y => x + y) 24)]
set_option maxRecDepth 100000 in
theorem ok_Z_nextDifference_0 : ∀ pc, g_S (J_Z_nextDifference) pc (cd_Z_nextDifference_0 pc) := g_tab_ok <|
  List.forall_mem_cons.mpr ⟨so_aload_n d_Z_nextDifference_0 rfl rfl,
  List.forall_mem_cons.mpr ⟨so_cV g_good d_Z_nextDifference_1 ⟨w_5_109, (Nat.le_of_ble_eq_true rfl), (Nat.le_of_ble_eq_true rfl), w_1_12, ⟨by decide, by decide⟩, by decide +kernel⟩ (rfl : vwCl[10]? = some (R_Z, F_Z, 40)) w_5_106 w_5_108 w_p45 rfl,
  List.forall_mem_cons.mpr ⟨so_lstore_n d_Z_nextDifference_4 rfl (Nat.le_of_ble_eq_true rfl) rfl,
  List.forall_mem_cons.mpr ⟨so_lload_n d_Z_nextDifference_5 rfl rfl,
  List.forall_mem_cons.mpr ⟨so_lconst (by decide) d_Z_nextDifference_6 rfl,
  List.forall_mem_cons.mpr ⟨so_land d_Z_nextDifference_7 rfl,
  List.forall_mem_cons.mpr ⟨so_lconst (by decide) d_Z_nextDifference_8 rfl,
  List.forall_mem_cons.mpr ⟨so_lcmp d_Z_nextDifference_9 rfl,
  List.forall_mem_cons.mpr ⟨so_if_ne d_Z_nextDifference_10 (by decide) rfl,
  List.forall_mem_cons.mpr ⟨so_lload_n d_Z_nextDifference_13 rfl rfl,
  List.forall_mem_cons.mpr ⟨so_ldc2 w_5_24 d_Z_nextDifference_14 rfl,
  List.forall_mem_cons.mpr ⟨so_ldiv d_Z_nextDifference_17 rfl,
  List.forall_mem_cons.mpr ⟨so_goto d_Z_nextDifference_18 (by decide),
  List.forall_mem_cons.mpr ⟨so_lload_n d_Z_nextDifference_21 rfl rfl,
  List.forall_mem_cons.mpr ⟨so_lconst (by decide) d_Z_nextDifference_22 rfl,
  List.forall_mem_cons.mpr ⟨so_ladd d_Z_nextDifference_23 rfl,
  fun _ h => absurd h List.not_mem_nil⟩⟩⟩⟩⟩⟩⟩⟩⟩⟩⟩⟩⟩⟩⟩⟩
def cd_Z_nextDifference_1 : Nat → g_T := g_tab [(24, tr_lneg 25), (25, tr_cst (.long (2)) 28), (28, tr_lz (fun x y => x / y) 29), (29, tr_l2i 30), (30, tr_ri)]
set_option maxRecDepth 100000 in
theorem ok_Z_nextDifference_1 : ∀ pc, g_S (J_Z_nextDifference) pc (cd_Z_nextDifference_1 pc) := g_tab_ok <|
  List.forall_mem_cons.mpr ⟨so_lneg d_Z_nextDifference_24 rfl,
  List.forall_mem_cons.mpr ⟨so_ldc2 w_5_24 d_Z_nextDifference_25 rfl,
  List.forall_mem_cons.mpr ⟨so_ldiv d_Z_nextDifference_28 rfl,
  List.forall_mem_cons.mpr ⟨so_l2i d_Z_nextDifference_29 rfl,
  List.forall_mem_cons.mpr ⟨so_iret d_Z_nextDifference_30 rfl,
  fun _ h => absurd h List.not_mem_nil⟩⟩⟩⟩⟩
def cd_Z_nextDifference : Nat → g_T := g_chk [(23, cd_Z_nextDifference_0), (30, cd_Z_nextDifference_1)]
theorem ok_Z_nextDifference : ∀ pc, g_S (J_Z_nextDifference) pc (cd_Z_nextDifference pc) := g_chk_ok <|
  List.forall_mem_cons.mpr ⟨ok_Z_nextDifference_0,
  List.forall_mem_cons.mpr ⟨ok_Z_nextDifference_1,
  fun _ h => absurd h List.not_mem_nil⟩⟩
abbrev J_Z_getRows : g_J := (y_Z_getRows, prog_12_method_30_code, 13, none, (3, 66), [], none)
theorem d_Z_getRows_0 : decode prog_12_method_30_code 0 = .ok (.iconst 0, 1) := by decide +kernel
theorem d_Z_getRows_1 : decode prog_12_method_30_code 1 = .ok (.istore_n 2, 1) := by decide +kernel
theorem d_Z_getRows_2 : decode prog_12_method_30_code 2 = .ok (.iconst 0, 1) := by decide +kernel
theorem d_Z_getRows_3 : decode prog_12_method_30_code 3 = .ok (.istore_n 3, 1) := by decide +kernel
theorem d_Z_getRows_4 : decode prog_12_method_30_code 4 = .ok (.iconst 0, 1) := by decide +kernel
theorem d_Z_getRows_5 : decode prog_12_method_30_code 5 = .ok (.istore 4, 2) := by decide +kernel
theorem d_Z_getRows_7 : decode prog_12_method_30_code 7 = .ok (.iconst 0, 1) := by decide +kernel
theorem d_Z_getRows_8 : decode prog_12_method_30_code 8 = .ok (.istore 5, 2) := by decide +kernel
theorem d_Z_getRows_10 : decode prog_12_method_30_code 10 = .ok (.iconst 0, 1) := by decide +kernel
theorem d_Z_getRows_11 : decode prog_12_method_30_code 11 = .ok (.istore 6, 2) := by decide +kernel
theorem d_Z_getRows_13 : decode prog_12_method_30_code 13 = .ok (.iload_n 1, 1) := by decide +kernel
theorem d_Z_getRows_14 : decode prog_12_method_30_code 14 = .ok (.istore 7, 2) := by decide +kernel
theorem d_Z_getRows_16 : decode prog_12_method_30_code 16 = .ok (.aload_n 0, 1) := by decide +kernel
theorem d_Z_getRows_17 : decode prog_12_method_30_code 17 = .ok (.iconst 0, 1) := by decide +kernel
theorem d_Z_getRows_18 : decode prog_12_method_30_code 18 = .ok (.putfield 102, 3) := by decide +kernel
theorem d_Z_getRows_21 : decode prog_12_method_30_code 21 = .ok (.aload_n 0, 1) := by decide +kernel
theorem d_Z_getRows_22 : decode prog_12_method_30_code 22 = .ok (.iconst 0, 1) := by decide +kernel
theorem d_Z_getRows_23 : decode prog_12_method_30_code 23 = .ok (.putfield 184, 3) := by decide +kernel
theorem d_Z_getRows_26 : decode prog_12_method_30_code 26 = .ok (.aload_n 0, 1) := by decide +kernel
theorem d_Z_getRows_27 : decode prog_12_method_30_code 27 = .ok (.getfield 172, 3) := by decide +kernel
theorem d_Z_getRows_30 : decode prog_12_method_30_code 30 = .ok (.ifCond .eq 446, 3) := by decide +kernel
theorem d_Z_getRows_33 : decode prog_12_method_30_code 33 = .ok (.aload_n 0, 1) := by decide +kernel
theorem d_Z_getRows_34 : decode prog_12_method_30_code 34 = .ok (.getfield 166, 3) := by decide +kernel
theorem d_Z_getRows_37 : decode prog_12_method_30_code 37 = .ok (.aload_n 0, 1) := by decide +kernel
theorem d_Z_getRows_38 : decode prog_12_method_30_code 38 = .ok (.getfield 169, 3) := by decide +kernel
theorem d_Z_getRows_41 : decode prog_12_method_30_code 41 = .ok (.if_icmp .ge 435, 3) := by decide +kernel
theorem d_Z_getRows_44 : decode prog_12_method_30_code 44 = .ok (.aload_n 0, 1) := by decide +kernel
theorem d_Z_getRows_45 : decode prog_12_method_30_code 45 = .ok (.invokevirtual 176, 3) := by decide +kernel
theorem d_Z_getRows_48 : decode prog_12_method_30_code 48 = .ok (.istore 8, 2) := by decide +kernel
theorem d_Z_getRows_50 : decode prog_12_method_30_code 50 = .ok (.iload 8, 2) := by decide +kernel
theorem d_Z_getRows_52 : decode prog_12_method_30_code 52 = .ok (.bipush 31, 2) := by decide +kernel
theorem d_Z_getRows_54 : decode prog_12_method_30_code 54 = .ok (.iand, 1) := by decide +kernel
theorem d_Z_getRows_55 : decode prog_12_method_30_code 55 = .ok (.istore 9, 2) := by decide +kernel
theorem d_Z_getRows_57 : decode prog_12_method_30_code 57 = .ok (.iload 8, 2) := by decide +kernel
theorem d_Z_getRows_59 : decode prog_12_method_30_code 59 = .ok (.iconst 5, 1) := by decide +kernel
theorem d_Z_getRows_60 : decode prog_12_method_30_code 60 = .ok (.ishr, 1) := by decide +kernel
theorem d_Z_getRows_61 : decode prog_12_method_30_code 61 = .ok (.istore 10, 2) := by decide +kernel
theorem d_Z_getRows_63 : decode prog_12_method_30_code 63 = .ok (.iload 10, 2) := by decide +kernel
theorem d_Z_getRows_65 : decode prog_12_method_30_code 65 = .ok (.ifCond .ne 104, 3) := by decide +kernel
theorem d_Z_getRows_68 : decode prog_12_method_30_code 68 = .ok (.iload 9, 2) := by decide +kernel
theorem d_Z_getRows_70 : decode prog_12_method_30_code 70 = .ok (.bipush 15, 2) := by decide +kernel
theorem d_Z_getRows_72 : decode prog_12_method_30_code 72 = .ok (.if_icmp .le 7, 3) := by decide +kernel
theorem d_Z_getRows_75 : decode prog_12_method_30_code 75 = .ok (.iconst 4, 1) := by decide +kernel
theorem d_Z_getRows_76 : decode prog_12_method_30_code 76 = .ok (.goto 35, 3) := by decide +kernel
theorem d_Z_getRows_79 : decode prog_12_method_30_code 79 = .ok (.iload 9, 2) := by decide +kernel
theorem d_Z_getRows_81 : decode prog_12_method_30_code 81 = .ok (.bipush 7, 2) := by decide +kernel
theorem d_Z_getRows_83 : decode prog_12_method_30_code 83 = .ok (.if_icmp .le 7, 3) := by decide +kernel
theorem d_Z_getRows_86 : decode prog_12_method_30_code 86 = .ok (.iconst 3, 1) := by decide +kernel
theorem d_Z_getRows_87 : decode prog_12_method_30_code 87 = .ok (.goto 24, 3) := by decide +kernel
theorem d_Z_getRows_90 : decode prog_12_method_30_code 90 = .ok (.iload 9, 2) := by decide +kernel
theorem d_Z_getRows_92 : decode prog_12_method_30_code 92 = .ok (.iconst 3, 1) := by decide +kernel
theorem d_Z_getRows_93 : decode prog_12_method_30_code 93 = .ok (.if_icmp .le 7, 3) := by decide +kernel
theorem d_Z_getRows_96 : decode prog_12_method_30_code 96 = .ok (.iconst 2, 1) := by decide +kernel
theorem d_Z_getRows_97 : decode prog_12_method_30_code 97 = .ok (.goto 14, 3) := by decide +kernel
theorem d_Z_getRows_100 : decode prog_12_method_30_code 100 = .ok (.iload 9, 2) := by decide +kernel
theorem d_Z_getRows_102 : decode prog_12_method_30_code 102 = .ok (.iconst 1, 1) := by decide +kernel
theorem d_Z_getRows_103 : decode prog_12_method_30_code 103 = .ok (.if_icmp .le 7, 3) := by decide +kernel
theorem d_Z_getRows_106 : decode prog_12_method_30_code 106 = .ok (.iconst 1, 1) := by decide +kernel
theorem d_Z_getRows_107 : decode prog_12_method_30_code 107 = .ok (.goto 4, 3) := by decide +kernel
theorem d_Z_getRows_110 : decode prog_12_method_30_code 110 = .ok (.iconst 0, 1) := by decide +kernel
theorem d_Z_getRows_111 : decode prog_12_method_30_code 111 = .ok (.istore 11, 2) := by decide +kernel
theorem d_Z_getRows_113 : decode prog_12_method_30_code 113 = .ok (.aload_n 0, 1) := by decide +kernel
theorem d_Z_getRows_114 : decode prog_12_method_30_code 114 = .ok (.iload 11, 2) := by decide +kernel
theorem d_Z_getRows_116 : decode prog_12_method_30_code 116 = .ok (.ifCond .le 7, 3) := by decide +kernel
theorem d_Z_getRows_119 : decode prog_12_method_30_code 119 = .ok (.iconst 1, 1) := by decide +kernel
theorem d_Z_getRows_120 : decode prog_12_method_30_code 120 = .ok (.goto 4, 3) := by decide +kernel
theorem d_Z_getRows_123 : decode prog_12_method_30_code 123 = .ok (.iconst 0, 1) := by decide +kernel
theorem d_Z_getRows_124 : decode prog_12_method_30_code 124 = .ok (.putfield 172, 3) := by decide +kernel
theorem d_Z_getRows_127 : decode prog_12_method_30_code 127 = .ok (.iload 11, 2) := by decide +kernel
theorem d_Z_getRows_129 : decode prog_12_method_30_code 129 = .ok (.iconst 1, 1) := by decide +kernel
theorem d_Z_getRows_130 : decode prog_12_method_30_code 130 = .ok (.isub, 1) := by decide +kernel
theorem d_Z_getRows_131 : decode prog_12_method_30_code 131 = .ok (.istore 12, 2) := by decide +kernel
theorem d_Z_getRows_133 : decode prog_12_method_30_code 133 = .ok (.iload 12, 2) := by decide +kernel
theorem d_Z_getRows_135 : decode prog_12_method_30_code 135 = .ok (.ifCond .lt 31, 3) := by decide +kernel
theorem d_Z_getRows_138 : decode prog_12_method_30_code 138 = .ok (.aload_n 0, 1) := by decide +kernel
theorem d_Z_getRows_139 : decode prog_12_method_30_code 139 = .ok (.getfield 172, 3) := by decide +kernel
theorem d_Z_getRows_142 : decode prog_12_method_30_code 142 = .ok (.ifCond .eq 24, 3) := by decide +kernel
theorem d_Z_getRows_145 : decode prog_12_method_30_code 145 = .ok (.aload_n 0, 1) := by decide +kernel
theorem d_Z_getRows_146 : decode prog_12_method_30_code 146 = .ok (.iconst 0, 1) := by decide +kernel
theorem d_Z_getRows_147 : decode prog_12_method_30_code 147 = .ok (.iload 9, 2) := by decide +kernel
theorem d_Z_getRows_149 : decode prog_12_method_30_code 149 = .ok (.iload 12, 2) := by decide +kernel
theorem d_Z_getRows_151 : decode prog_12_method_30_code 151 = .ok (.ishr, 1) := by decide +kernel
theorem d_Z_getRows_152 : decode prog_12_method_30_code 152 = .ok (.iconst 1, 1) := by decide +kernel
theorem d_Z_getRows_153 : decode prog_12_method_30_code 153 = .ok (.iand, 1) := by decide +kernel
theorem d_Z_getRows_154 : decode prog_12_method_30_code 154 = .ok (.iconst 0, 1) := by decide +kernel
theorem d_Z_getRows_155 : decode prog_12_method_30_code 155 = .ok (.iload 7, 2) := by decide +kernel
theorem d_Z_getRows_157 : decode prog_12_method_30_code 157 = .ok (.invokevirtual 187, 3) := by decide +kernel
theorem d_Z_getRows_160 : decode prog_12_method_30_code 160 = .ok (.iinc 12 (-1), 3) := by decide +kernel
theorem d_Z_getRows_163 : decode prog_12_method_30_code 163 = .ok (.goto (-30), 3) := by decide +kernel
theorem d_Z_getRows_166 : decode prog_12_method_30_code 166 = .ok (.goto 307, 3) := by decide +kernel
theorem d_Z_getRows_169 : decode prog_12_method_30_code 169 = .ok (.iload 10, 2) := by decide +kernel
theorem d_Z_getRows_171 : decode prog_12_method_30_code 171 = .ok (.iconst 1, 1) := by decide +kernel
theorem d_Z_getRows_172 : decode prog_12_method_30_code 172 = .ok (.if_icmp .ne 36, 3) := by decide +kernel
theorem d_Z_getRows_175 : decode prog_12_method_30_code 175 = .ok (.aload_n 0, 1) := by decide +kernel
theorem d_Z_getRows_176 : decode prog_12_method_30_code 176 = .ok (.iload 9, 2) := by decide +kernel
theorem d_Z_getRows_178 : decode prog_12_method_30_code 178 = .ok (.ifCond .ne 7, 3) := by decide +kernel
theorem d_Z_getRows_181 : decode prog_12_method_30_code 181 = .ok (.iconst 1, 1) := by decide +kernel
theorem d_Z_getRows_182 : decode prog_12_method_30_code 182 = .ok (.goto 4, 3) := by decide +kernel
theorem d_Z_getRows_185 : decode prog_12_method_30_code 185 = .ok (.iconst 0, 1) := by decide +kernel
theorem d_Z_getRows_186 : decode prog_12_method_30_code 186 = .ok (.putfield 172, 3) := by decide +kernel
theorem d_Z_getRows_189 : decode prog_12_method_30_code 189 = .ok (.iload_n 2, 1) := by decide +kernel
theorem d_Z_getRows_190 : decode prog_12_method_30_code 190 = .ok (.aload_n 0, 1) := by decide +kernel
theorem d_Z_getRows_191 : decode prog_12_method_30_code 191 = .ok (.invokevirtual 191, 3) := by decide +kernel
theorem d_Z_getRows_194 : decode prog_12_method_30_code 194 = .ok (.iadd, 1) := by decide +kernel
theorem d_Z_getRows_195 : decode prog_12_method_30_code 195 = .ok (.istore_n 2, 1) := by decide +kernel
theorem d_Z_getRows_196 : decode prog_12_method_30_code 196 = .ok (.aload_n 0, 1) := by decide +kernel
theorem d_Z_getRows_197 : decode prog_12_method_30_code 197 = .ok (.iconst 1, 1) := by decide +kernel
theorem d_Z_getRows_198 : decode prog_12_method_30_code 198 = .ok (.iload_n 2, 1) := by decide +kernel
theorem d_Z_getRows_199 : decode prog_12_method_30_code 199 = .ok (.iconst 0, 1) := by decide +kernel
theorem d_Z_getRows_200 : decode prog_12_method_30_code 200 = .ok (.iload 7, 2) := by decide +kernel
theorem d_Z_getRows_202 : decode prog_12_method_30_code 202 = .ok (.invokevirtual 187, 3) := by decide +kernel
theorem d_Z_getRows_205 : decode prog_12_method_30_code 205 = .ok (.goto 268, 3) := by decide +kernel
theorem d_Z_getRows_208 : decode prog_12_method_30_code 208 = .ok (.iload 10, 2) := by decide +kernel
theorem d_Z_getRows_210 : decode prog_12_method_30_code 210 = .ok (.iconst 2, 1) := by decide +kernel
theorem d_Z_getRows_211 : decode prog_12_method_30_code 211 = .ok (.if_icmp .ne 52, 3) := by decide +kernel
theorem d_Z_getRows_214 : decode prog_12_method_30_code 214 = .ok (.aload_n 0, 1) := by decide +kernel
theorem d_Z_getRows_215 : decode prog_12_method_30_code 215 = .ok (.iload 9, 2) := by decide +kernel
theorem d_Z_getRows_217 : decode prog_12_method_30_code 217 = .ok (.iconst 2, 1) := by decide +kernel
theorem d_Z_getRows_218 : decode prog_12_method_30_code 218 = .ok (.if_icmp .ge 7, 3) := by decide +kernel
theorem d_Z_getRows_221 : decode prog_12_method_30_code 221 = .ok (.iconst 1, 1) := by decide +kernel
theorem d_Z_getRows_222 : decode prog_12_method_30_code 222 = .ok (.goto 4, 3) := by decide +kernel
theorem d_Z_getRows_225 : decode prog_12_method_30_code 225 = .ok (.iconst 0, 1) := by decide +kernel
theorem d_Z_getRows_226 : decode prog_12_method_30_code 226 = .ok (.putfield 172, 3) := by decide +kernel
theorem d_Z_getRows_229 : decode prog_12_method_30_code 229 = .ok (.iload 9, 2) := by decide +kernel
theorem d_Z_getRows_231 : decode prog_12_method_30_code 231 = .ok (.iconst 1, 1) := by decide +kernel
theorem d_Z_getRows_232 : decode prog_12_method_30_code 232 = .ok (.if_icmp .ne 10, 3) := by decide +kernel
theorem d_Z_getRows_235 : decode prog_12_method_30_code 235 = .ok (.aload_n 0, 1) := by decide +kernel
theorem d_Z_getRows_236 : decode prog_12_method_30_code 236 = .ok (.invokevirtual 191, 3) := by decide +kernel
theorem d_Z_getRows_239 : decode prog_12_method_30_code 239 = .ok (.goto 5, 3) := by decide +kernel
theorem d_Z_getRows_242 : decode prog_12_method_30_code 242 = .ok (.iload 4, 2) := by decide +kernel
theorem d_Z_getRows_244 : decode prog_12_method_30_code 244 = .ok (.istore 4, 2) := by decide +kernel
theorem d_Z_getRows_246 : decode prog_12_method_30_code 246 = .ok (.iload_n 3, 1) := by decide +kernel
theorem d_Z_getRows_247 : decode prog_12_method_30_code 247 = .ok (.iload 4, 2) := by decide +kernel
theorem d_Z_getRows_249 : decode prog_12_method_30_code 249 = .ok (.iadd, 1) := by decide +kernel
theorem d_Z_getRows_250 : decode prog_12_method_30_code 250 = .ok (.istore_n 3, 1) := by decide +kernel
theorem d_Z_getRows_251 : decode prog_12_method_30_code 251 = .ok (.aload_n 0, 1) := by decide +kernel
theorem d_Z_getRows_252 : decode prog_12_method_30_code 252 = .ok (.iconst 2, 1) := by decide +kernel
theorem d_Z_getRows_253 : decode prog_12_method_30_code 253 = .ok (.iload_n 3, 1) := by decide +kernel
theorem d_Z_getRows_254 : decode prog_12_method_30_code 254 = .ok (.iconst 0, 1) := by decide +kernel
theorem d_Z_getRows_255 : decode prog_12_method_30_code 255 = .ok (.iload 7, 2) := by decide +kernel
theorem d_Z_getRows_257 : decode prog_12_method_30_code 257 = .ok (.invokevirtual 187, 3) := by decide +kernel
theorem d_Z_getRows_260 : decode prog_12_method_30_code 260 = .ok (.goto 213, 3) := by decide +kernel
theorem d_Z_getRows_263 : decode prog_12_method_30_code 263 = .ok (.iload 10, 2) := by decide +kernel
theorem d_Z_getRows_265 : decode prog_12_method_30_code 265 = .ok (.iconst 3, 1) := by decide +kernel
theorem d_Z_getRows_266 : decode prog_12_method_30_code 266 = .ok (.if_icmp .ne 137, 3) := by decide +kernel
theorem d_Z_getRows_269 : decode prog_12_method_30_code 269 = .ok (.aload_n 0, 1) := by decide +kernel
theorem d_Z_getRows_270 : decode prog_12_method_30_code 270 = .ok (.iload 9, 2) := by decide +kernel
theorem d_Z_getRows_272 : decode prog_12_method_30_code 272 = .ok (.bipush 15, 2) := by decide +kernel
theorem d_Z_getRows_274 : decode prog_12_method_30_code 274 = .ok (.iand, 1) := by decide +kernel
theorem d_Z_getRows_275 : decode prog_12_method_30_code 275 = .ok (.bipush 9, 2) := by decide +kernel
theorem d_Z_getRows_277 : decode prog_12_method_30_code 277 = .ok (.if_icmp .ge 7, 3) := by decide +kernel
theorem d_Z_getRows_280 : decode prog_12_method_30_code 280 = .ok (.iconst 1, 1) := by decide +kernel
theorem d_Z_getRows_281 : decode prog_12_method_30_code 281 = .ok (.goto 4, 3) := by decide +kernel
theorem d_Z_getRows_284 : decode prog_12_method_30_code 284 = .ok (.iconst 0, 1) := by decide +kernel
theorem d_Z_getRows_285 : decode prog_12_method_30_code 285 = .ok (.putfield 172, 3) := by decide +kernel
theorem d_Z_getRows_288 : decode prog_12_method_30_code 288 = .ok (.iload 9, 2) := by decide +kernel
theorem d_Z_getRows_290 : decode prog_12_method_30_code 290 = .ok (.bipush 15, 2) := by decide +kernel
theorem d_Z_getRows_292 : decode prog_12_method_30_code 292 = .ok (.if_icmp .le 10, 3) := by decide +kernel
theorem d_Z_getRows_295 : decode prog_12_method_30_code 295 = .ok (.aload_n 0, 1) := by decide +kernel
theorem d_Z_getRows_296 : decode prog_12_method_30_code 296 = .ok (.invokevirtual 191, 3) := by decide +kernel
theorem d_Z_getRows_299 : decode prog_12_method_30_code 299 = .ok (.goto 5, 3) := by decide +kernel
theorem d_Z_getRows_302 : decode prog_12_method_30_code 302 = .ok (.iload 6, 2) := by decide +kernel
theorem d_Z_getRows_304 : decode prog_12_method_30_code 304 = .ok (.istore 6, 2) := by decide +kernel
theorem d_Z_getRows_306 : decode prog_12_method_30_code 306 = .ok (.iload 5, 2) := by decide +kernel
theorem d_Z_getRows_308 : decode prog_12_method_30_code 308 = .ok (.iload 6, 2) := by decide +kernel
theorem d_Z_getRows_310 : decode prog_12_method_30_code 310 = .ok (.iadd, 1) := by decide +kernel
theorem d_Z_getRows_311 : decode prog_12_method_30_code 311 = .ok (.istore 5, 2) := by decide +kernel
theorem d_Z_getRows_313 : decode prog_12_method_30_code 313 = .ok (.iload 9, 2) := by decide +kernel
theorem d_Z_getRows_315 : decode prog_12_method_30_code 315 = .ok (.bipush 15, 2) := by decide +kernel
theorem d_Z_getRows_317 : decode prog_12_method_30_code 317 = .ok (.iand, 1) := by decide +kernel
theorem d_Z_getRows_318 : decode prog_12_method_30_code 318 = .ok (.istore 11, 2) := by decide +kernel
theorem d_Z_getRows_320 : decode prog_12_method_30_code 320 = .ok (.iload 11, 2) := by decide +kernel
theorem d_Z_getRows_322 : decode prog_12_method_30_code 322 = .ok (.bipush 8, 2) := by decide +kernel
theorem d_Z_getRows_324 : decode prog_12_method_30_code 324 = .ok (.if_icmp .ge 17, 3) := by decide +kernel
theorem d_Z_getRows_327 : decode prog_12_method_30_code 327 = .ok (.iload 11, 2) := by decide +kernel
theorem d_Z_getRows_329 : decode prog_12_method_30_code 329 = .ok (.aload_n 0, 1) := by decide +kernel
theorem d_Z_getRows_330 : decode prog_12_method_30_code 330 = .ok (.getfield 102, 3) := by decide +kernel
theorem d_Z_getRows_333 : decode prog_12_method_30_code 333 = .ok (.if_icmp .lt 8, 3) := by decide +kernel
theorem d_Z_getRows_336 : decode prog_12_method_30_code 336 = .ok (.aload_n 0, 1) := by decide +kernel
theorem d_Z_getRows_337 : decode prog_12_method_30_code 337 = .ok (.iconst 0, 1) := by decide +kernel
theorem d_Z_getRows_338 : decode prog_12_method_30_code 338 = .ok (.putfield 172, 3) := by decide +kernel
theorem d_Z_getRows_341 : decode prog_12_method_30_code 341 = .ok (.iload 11, 2) := by decide +kernel
theorem d_Z_getRows_343 : decode prog_12_method_30_code 343 = .ok (.bipush 8, 2) := by decide +kernel
theorem d_Z_getRows_345 : decode prog_12_method_30_code 345 = .ok (.if_icmp .ne 10, 3) := by decide +kernel
theorem d_Z_getRows_348 : decode prog_12_method_30_code 348 = .ok (.aload_n 0, 1) := by decide +kernel
theorem d_Z_getRows_349 : decode prog_12_method_30_code 349 = .ok (.invokevirtual 194, 3) := by decide +kernel
theorem d_Z_getRows_352 : decode prog_12_method_30_code 352 = .ok (.goto 21, 3) := by decide +kernel
theorem d_Z_getRows_355 : decode prog_12_method_30_code 355 = .ok (.aload_n 0, 1) := by decide +kernel
theorem d_Z_getRows_356 : decode prog_12_method_30_code 356 = .ok (.getfield 172, 3) := by decide +kernel
theorem d_Z_getRows_359 : decode prog_12_method_30_code 359 = .ok (.ifCond .eq 13, 3) := by decide +kernel
theorem d_Z_getRows_362 : decode prog_12_method_30_code 362 = .ok (.aload_n 0, 1) := by decide +kernel
theorem d_Z_getRows_363 : decode prog_12_method_30_code 363 = .ok (.getfield 36, 3) := by decide +kernel
theorem d_Z_getRows_366 : decode prog_12_method_30_code 366 = .ok (.iload 11, 2) := by decide +kernel
theorem d_Z_getRows_368 : decode prog_12_method_30_code 368 = .ok (.iaload, 1) := by decide +kernel
theorem d_Z_getRows_369 : decode prog_12_method_30_code 369 = .ok (.goto 4, 3) := by decide +kernel
theorem d_Z_getRows_372 : decode prog_12_method_30_code 372 = .ok (.iconst 0, 1) := by decide +kernel
theorem d_Z_getRows_373 : decode prog_12_method_30_code 373 = .ok (.istore 12, 2) := by decide +kernel
theorem d_Z_getRows_375 : decode prog_12_method_30_code 375 = .ok (.aload_n 0, 1) := by decide +kernel
theorem d_Z_getRows_376 : decode prog_12_method_30_code 376 = .ok (.getfield 172, 3) := by decide +kernel
theorem d_Z_getRows_379 : decode prog_12_method_30_code 379 = .ok (.ifCond .eq 10, 3) := by decide +kernel
theorem d_Z_getRows_382 : decode prog_12_method_30_code 382 = .ok (.aload_n 0, 1) := by decide +kernel
theorem d_Z_getRows_383 : decode prog_12_method_30_code 383 = .ok (.iload 12, 2) := by decide +kernel
theorem d_Z_getRows_385 : decode prog_12_method_30_code 385 = .ok (.invokevirtual 114, 3) := by decide +kernel
theorem d_Z_getRows_388 : decode prog_12_method_30_code 388 = .ok (.pop, 1) := by decide +kernel
theorem d_Z_getRows_389 : decode prog_12_method_30_code 389 = .ok (.aload_n 0, 1) := by decide +kernel
theorem d_Z_getRows_390 : decode prog_12_method_30_code 390 = .ok (.iconst 3, 1) := by decide +kernel
theorem d_Z_getRows_391 : decode prog_12_method_30_code 391 = .ok (.iload 5, 2) := by decide +kernel
theorem d_Z_getRows_393 : decode prog_12_method_30_code 393 = .ok (.iload 12, 2) := by decide +kernel
theorem d_Z_getRows_395 : decode prog_12_method_30_code 395 = .ok (.iload 7, 2) := by decide +kernel
theorem d_Z_getRows_397 : decode prog_12_method_30_code 397 = .ok (.invokevirtual 187, 3) := by decide +kernel
theorem d_Z_getRows_400 : decode prog_12_method_30_code 400 = .ok (.goto 73, 3) := by decide +kernel
theorem d_Z_getRows_403 : decode prog_12_method_30_code 403 = .ok (.aload_n 0, 1) := by decide +kernel
theorem d_Z_getRows_404 : decode prog_12_method_30_code 404 = .ok (.iload 10, 2) := by decide +kernel
theorem d_Z_getRows_406 : decode prog_12_method_30_code 406 = .ok (.iconst 4, 1) := by decide +kernel
theorem d_Z_getRows_407 : decode prog_12_method_30_code 407 = .ok (.if_icmp .ne 12, 3) := by decide +kernel
theorem d_Z_getRows_410 : decode prog_12_method_30_code 410 = .ok (.iload 9, 2) := by decide +kernel
theorem d_Z_getRows_412 : decode prog_12_method_30_code 412 = .ok (.ifCond .ne 7, 3) := by decide +kernel
theorem d_Z_getRows_415 : decode prog_12_method_30_code 415 = .ok (.iconst 1, 1) := by decide +kernel
theorem d_Z_getRows_416 : decode prog_12_method_30_code 416 = .ok (.goto 4, 3) := by decide +kernel
theorem d_Z_getRows_419 : decode prog_12_method_30_code 419 = .ok (.iconst 0, 1) := by decide +kernel
theorem d_Z_getRows_420 : decode prog_12_method_30_code 420 = .ok (.putfield 172, 3) := by decide +kernel
theorem d_Z_getRows_423 : decode prog_12_method_30_code 423 = .ok (.iload 7, 2) := by decide +kernel
theorem d_Z_getRows_425 : decode prog_12_method_30_code 425 = .ok (.i2l, 1) := by decide +kernel
theorem d_Z_getRows_426 : decode prog_12_method_30_code 426 = .ok (.aload_n 0, 1) := by decide +kernel
theorem d_Z_getRows_427 : decode prog_12_method_30_code 427 = .ok (.invokevirtual 180, 3) := by decide +kernel
theorem d_Z_getRows_430 : decode prog_12_method_30_code 430 = .ok (.ladd, 1) := by decide +kernel
theorem d_Z_getRows_431 : decode prog_12_method_30_code 431 = .ok (.lstore 11, 2) := by decide +kernel
theorem d_Z_getRows_433 : decode prog_12_method_30_code 433 = .ok (.lload 11, 2) := by decide +kernel
theorem d_Z_getRows_435 : decode prog_12_method_30_code 435 = .ok (.ldc2_w 197, 3) := by decide +kernel
theorem d_Z_getRows_438 : decode prog_12_method_30_code 438 = .ok (.lcmp, 1) := by decide +kernel
theorem d_Z_getRows_439 : decode prog_12_method_30_code 439 = .ok (.ifCond .le 8, 3) := by decide +kernel
theorem d_Z_getRows_442 : decode prog_12_method_30_code 442 = .ok (.aload_n 0, 1) := by decide +kernel
theorem d_Z_getRows_443 : decode prog_12_method_30_code 443 = .ok (.iconst 0, 1) := by decide +kernel
theorem d_Z_getRows_444 : decode prog_12_method_30_code 444 = .ok (.putfield 172, 3) := by decide +kernel
theorem d_Z_getRows_447 : decode prog_12_method_30_code 447 = .ok (.aload_n 0, 1) := by decide +kernel
theorem d_Z_getRows_448 : decode prog_12_method_30_code 448 = .ok (.getfield 172, 3) := by decide +kernel
theorem d_Z_getRows_451 : decode prog_12_method_30_code 451 = .ok (.ifCond .eq 9, 3) := by decide +kernel
theorem d_Z_getRows_454 : decode prog_12_method_30_code 454 = .ok (.lload 11, 2) := by decide +kernel
theorem d_Z_getRows_456 : decode prog_12_method_30_code 456 = .ok (.l2i, 1) := by decide +kernel
theorem d_Z_getRows_457 : decode prog_12_method_30_code 457 = .ok (.goto 4, 3) := by decide +kernel
theorem d_Z_getRows_460 : decode prog_12_method_30_code 460 = .ok (.iconst 0, 1) := by decide +kernel
theorem d_Z_getRows_461 : decode prog_12_method_30_code 461 = .ok (.istore 7, 2) := by decide +kernel
theorem d_Z_getRows_463 : decode prog_12_method_30_code 463 = .ok (.aload_n 0, 1) := by decide +kernel
theorem d_Z_getRows_464 : decode prog_12_method_30_code 464 = .ok (.iconst 4, 1) := by decide +kernel
theorem d_Z_getRows_465 : decode prog_12_method_30_code 465 = .ok (.iload 7, 2) := by decide +kernel
theorem d_Z_getRows_467 : decode prog_12_method_30_code 467 = .ok (.iconst 0, 1) := by decide +kernel
theorem d_Z_getRows_468 : decode prog_12_method_30_code 468 = .ok (.iload 7, 2) := by decide +kernel
theorem d_Z_getRows_470 : decode prog_12_method_30_code 470 = .ok (.invokevirtual 187, 3) := by decide +kernel
theorem d_Z_getRows_473 : decode prog_12_method_30_code 473 = .ok (.goto (-447), 3) := by decide +kernel
theorem d_Z_getRows_476 : decode prog_12_method_30_code 476 = .ok (.return_, 1) := by decide +kernel
def cd_Z_getRows_0 : Nat → g_T := g_tab [(0, tr_cst (.int (0)) 1), (1, tr_ist 2 2), (2, tr_cst (.int (0)) 3), (3, tr_ist 3 4), (4, tr_cst (.int (0)) 5), (5, tr_ist 4 7), (7, tr_cst (.int (0)) 8), (8, tr_ist 5 10), (10, tr_cst (.int (0)) 11), (11, tr_ist 6 13), (13, tr_ild 1 14), (14, tr_ist 7 16), (16, tr_ald 0 17), (17, tr_cst (.int (0)) 18), (18, tr_put 10 19 (.int) 21), (21, tr_ald 0 22)]
set_option maxRecDepth 100000 in
theorem ok_Z_getRows_0 : ∀ pc, g_S (J_Z_getRows) pc (cd_Z_getRows_0 pc) := g_tab_ok <|
  List.forall_mem_cons.mpr ⟨so_iconst (by decide) d_Z_getRows_0 rfl,
  List.forall_mem_cons.mpr ⟨so_istore_n d_Z_getRows_1 rfl (Nat.le_of_ble_eq_true rfl) rfl,
  List.forall_mem_cons.mpr ⟨so_iconst (by decide) d_Z_getRows_2 rfl,
  List.forall_mem_cons.mpr ⟨so_istore_n d_Z_getRows_3 rfl (Nat.le_of_ble_eq_true rfl) rfl,
  List.forall_mem_cons.mpr ⟨so_iconst (by decide) d_Z_getRows_4 rfl,
  List.forall_mem_cons.mpr ⟨so_istore d_Z_getRows_5 (Nat.le_of_ble_eq_true rfl) rfl,
  List.forall_mem_cons.mpr ⟨so_iconst (by decide) d_Z_getRows_7 rfl,
  List.forall_mem_cons.mpr ⟨so_istore d_Z_getRows_8 (Nat.le_of_ble_eq_true rfl) rfl,
  List.forall_mem_cons.mpr ⟨so_iconst (by decide) d_Z_getRows_10 rfl,
  List.forall_mem_cons.mpr ⟨so_istore d_Z_getRows_11 (Nat.le_of_ble_eq_true rfl) rfl,
  List.forall_mem_cons.mpr ⟨so_iload_n d_Z_getRows_13 rfl rfl,
  List.forall_mem_cons.mpr ⟨so_istore d_Z_getRows_14 (Nat.le_of_ble_eq_true rfl) rfl,
  List.forall_mem_cons.mpr ⟨so_aload_n d_Z_getRows_16 rfl rfl,
  List.forall_mem_cons.mpr ⟨so_iconst (by decide) d_Z_getRows_17 rfl,
  List.forall_mem_cons.mpr ⟨so_put ft_Z d_Z_getRows_18 (rfl : vwCl[10]? = some (R_Z, F_Z, 40)) (Nat.le_of_ble_eq_true rfl) i_Z w_4_117 tk_Z n_Z rfl rfl rfl,
  List.forall_mem_cons.mpr ⟨so_aload_n d_Z_getRows_21 rfl rfl,
  fun _ h => absurd h List.not_mem_nil⟩⟩⟩⟩⟩⟩⟩⟩⟩⟩⟩⟩⟩⟩⟩⟩
def cd_Z_getRows_1 : Nat → g_T := g_tab [(22, tr_cst (.int (0)) 23), (23, tr_put 10 36 (.int) 26), (26, tr_ald 0 27), (27, tr_get 10 39 30), (30, tr_if1 (fun x => x = 0) 476 33), (33, tr_ald 0 34), (34, tr_get 10 37 37), (37, tr_ald 0 38), (38, tr_get 10 38 41), (41, tr_if2 (fun x y => y ≤ x) 476 44), (44, tr_ald 0 45), (45, tr_cV J_Z_next 10 0 48), (48, tr_ist 8 50), (50, tr_ild 8 52), (52, tr_cst (.int (31)) 54), (54, tr_ii (fun x y => x &&& y) 55)]
set_option maxRecDepth 100000 in
theorem ok_Z_getRows_1 : ∀ pc, g_S (J_Z_getRows) pc (cd_Z_getRows_1 pc) := g_tab_ok <|
  List.forall_mem_cons.mpr ⟨so_iconst (by decide) d_Z_getRows_22 rfl,
  List.forall_mem_cons.mpr ⟨so_put ft_Z d_Z_getRows_23 (rfl : vwCl[10]? = some (R_Z, F_Z, 40)) (Nat.le_of_ble_eq_true rfl) i_Z w_4_134 tk_Z n_Z rfl rfl rfl,
  List.forall_mem_cons.mpr ⟨so_aload_n d_Z_getRows_26 rfl rfl,
  List.forall_mem_cons.mpr ⟨so_get d_Z_getRows_27 (rfl : vwCl[10]? = some (R_Z, F_Z, 40)) (Nat.le_of_ble_eq_true rfl) i_Z w_4_137 rfl,
  List.forall_mem_cons.mpr ⟨so_if_eq d_Z_getRows_30 (by decide) rfl,
  List.forall_mem_cons.mpr ⟨so_aload_n d_Z_getRows_33 rfl rfl,
  List.forall_mem_cons.mpr ⟨so_get d_Z_getRows_34 (rfl : vwCl[10]? = some (R_Z, F_Z, 40)) (Nat.le_of_ble_eq_true rfl) i_Z w_4_135 rfl,
  List.forall_mem_cons.mpr ⟨so_aload_n d_Z_getRows_37 rfl rfl,
  List.forall_mem_cons.mpr ⟨so_get d_Z_getRows_38 (rfl : vwCl[10]? = some (R_Z, F_Z, 40)) (Nat.le_of_ble_eq_true rfl) i_Z w_4_136 rfl,
  List.forall_mem_cons.mpr ⟨so_icmp_ge d_Z_getRows_41 (by decide) rfl,
  List.forall_mem_cons.mpr ⟨so_aload_n d_Z_getRows_44 rfl rfl,
  List.forall_mem_cons.mpr ⟨so_cV g_good d_Z_getRows_45 ⟨w_5_88, (Nat.le_of_ble_eq_true rfl), (Nat.le_of_ble_eq_true rfl), w_1_12, ⟨by decide, by decide⟩, by decide +kernel⟩ (rfl : vwCl[10]? = some (R_Z, F_Z, 40)) w_5_85 w_5_87 w_p40 rfl,
  List.forall_mem_cons.mpr ⟨so_istore d_Z_getRows_48 (Nat.le_of_ble_eq_true rfl) rfl,
  List.forall_mem_cons.mpr ⟨so_iload d_Z_getRows_50 rfl,
  List.forall_mem_cons.mpr ⟨so_bipush (by decide) d_Z_getRows_52 rfl,
  List.forall_mem_cons.mpr ⟨so_iand d_Z_getRows_54 rfl,
  fun _ h => absurd h List.not_mem_nil⟩⟩⟩⟩⟩⟩⟩⟩⟩⟩⟩⟩⟩⟩⟩⟩
def cd_Z_getRows_2 : Nat → g_T := g_tab [(55, tr_ist 9 57), (57, tr_ild 8 59), (59, tr_cst (.int (5)) 60), (60, tr_ii (fun x y => x >>> (y &&& 31)) 61), (61, tr_ist 10 63), (63, tr_ild 10 65), (65, tr_if1 (fun x => ¬ x = 0) 169 68), (68, tr_ild 9 70), (70, tr_cst (.int (15)) 72), (72, tr_if2 (fun x y => x ≤ y) 79 75), (75, tr_cst (.int (4)) 76), (76, tr_goto 111), (79, tr_ild 9 81), (81, tr_cst (.int (7)) 83), (83, tr_if2 (fun x y => x ≤ y) 90 86), (86, tr_cst (.int (3)) 87)]
set_option maxRecDepth 100000 in
theorem ok_Z_getRows_2 : ∀ pc, g_S (J_Z_getRows) pc (cd_Z_getRows_2 pc) := g_tab_ok <|
  List.forall_mem_cons.mpr ⟨so_istore d_Z_getRows_55 (Nat.le_of_ble_eq_true rfl) rfl,
  List.forall_mem_cons.mpr ⟨so_iload d_Z_getRows_57 rfl,
  List.forall_mem_cons.mpr ⟨so_iconst (by decide) d_Z_getRows_59 rfl,
  List.forall_mem_cons.mpr ⟨so_ishr d_Z_getRows_60 rfl,
  List.forall_mem_cons.mpr ⟨so_istore d_Z_getRows_61 (Nat.le_of_ble_eq_true rfl) rfl,
  List.forall_mem_cons.mpr ⟨so_iload d_Z_getRows_63 rfl,
  List.forall_mem_cons.mpr ⟨so_if_ne d_Z_getRows_65 (by decide) rfl,
  List.forall_mem_cons.mpr ⟨so_iload d_Z_getRows_68 rfl,
  List.forall_mem_cons.mpr ⟨so_bipush (by decide) d_Z_getRows_70 rfl,
  List.forall_mem_cons.mpr ⟨so_icmp_le d_Z_getRows_72 (by decide) rfl,
  List.forall_mem_cons.mpr ⟨so_iconst (by decide) d_Z_getRows_75 rfl,
  List.forall_mem_cons.mpr ⟨so_goto d_Z_getRows_76 (by decide),
  List.forall_mem_cons.mpr ⟨so_iload d_Z_getRows_79 rfl,
  List.forall_mem_cons.mpr ⟨so_bipush (by decide) d_Z_getRows_81 rfl,
  List.forall_mem_cons.mpr ⟨so_icmp_le d_Z_getRows_83 (by decide) rfl,
  List.forall_mem_cons.mpr ⟨so_iconst (by decide) d_Z_getRows_86 rfl,
  fun _ h => absurd h List.not_mem_nil⟩⟩⟩⟩⟩⟩⟩⟩⟩⟩⟩⟩⟩⟩⟩⟩
def cd_Z_getRows_3 : Nat → g_T := g_tab [(87, tr_goto 111), (90, tr_ild 9 92), (92, tr_cst (.int (3)) 93), (93, tr_if2 (fun x y => x ≤ y) 100 96), (96, tr_cst (.int (2)) 97), (97, tr_goto 111), (100, tr_ild 9 102), (102, tr_cst (.int (1)) 103), (103, tr_if2 (fun x y => x ≤ y) 110 106), (106, tr_cst (.int (1)) 107), (107, tr_goto 111), (110, tr_cst (.int (0)) 111), (111, tr_ist 11 113), (113, tr_ald 0 114), (114, tr_ild 11 116), (116, tr_if1 (fun x => x ≤ 0) 123 119)]
set_option maxRecDepth 100000 in
theorem ok_Z_getRows_3 : ∀ pc, g_S (J_Z_getRows) pc (cd_Z_getRows_3 pc) := g_tab_ok <|
  List.forall_mem_cons.mpr ⟨so_goto d_Z_getRows_87 (by decide),
  List.forall_mem_cons.mpr ⟨so_iload d_Z_getRows_90 rfl,
  List.forall_mem_cons.mpr ⟨so_iconst (by decide) d_Z_getRows_92 rfl,
  List.forall_mem_cons.mpr ⟨so_icmp_le d_Z_getRows_93 (by decide) rfl,
  List.forall_mem_cons.mpr ⟨so_iconst (by decide) d_Z_getRows_96 rfl,
  List.forall_mem_cons.mpr ⟨so_goto d_Z_getRows_97 (by decide),
  List.forall_mem_cons.mpr ⟨so_iload d_Z_getRows_100 rfl,
  List.forall_mem_cons.mpr ⟨so_iconst (by decide) d_Z_getRows_102 rfl,
  List.forall_mem_cons.mpr ⟨so_icmp_le d_Z_getRows_103 (by decide) rfl,
  List.forall_mem_cons.mpr ⟨so_iconst (by decide) d_Z_getRows_106 rfl,
  List.forall_mem_cons.mpr ⟨so_goto d_Z_getRows_107 (by decide),
  List.forall_mem_cons.mpr ⟨so_iconst (by decide) d_Z_getRows_110 rfl,
  List.forall_mem_cons.mpr ⟨so_istore d_Z_getRows_111 (Nat.le_of_ble_eq_true rfl) rfl,
  List.forall_mem_cons.mpr ⟨so_aload_n d_Z_getRows_113 rfl rfl,
  List.forall_mem_cons.mpr ⟨so_iload d_Z_getRows_114 rfl,
  List.forall_mem_cons.mpr ⟨so_if_le d_Z_getRows_116 (by decide) rfl,
  fun _ h => absurd h List.not_mem_nil⟩⟩⟩⟩⟩⟩⟩⟩⟩⟩⟩⟩⟩⟩⟩⟩
def cd_Z_getRows_4 : Nat → g_T := g_tab [(119, tr_cst (.int (1)) 120), (120, tr_goto 124), (123, tr_cst (.int (0)) 124), (124, tr_put 10 39 (.boolean) 127), (127, tr_ild 11 129), (129, tr_cst (.int (1)) 130), (130, tr_ii (fun x y => x - y) 131), (131, tr_ist 12 133), (133, tr_ild 12 135), (135, tr_if1 (fun x => x < 0) 166 138), (138, tr_ald 0 139), (139, tr_get 10 39 142), (142, tr_if1 (fun x => x = 0) 166 145), (145, tr_ald 0 146), (146, tr_cst (.int (0)) 147), (147, tr_ild 9 149)]
set_option maxRecDepth 100000 in
theorem ok_Z_getRows_4 : ∀ pc, g_S (J_Z_getRows) pc (cd_Z_getRows_4 pc) := g_tab_ok <|
  List.forall_mem_cons.mpr ⟨so_iconst (by decide) d_Z_getRows_119 rfl,
  List.forall_mem_cons.mpr ⟨so_goto d_Z_getRows_120 (by decide),
  List.forall_mem_cons.mpr ⟨so_iconst (by decide) d_Z_getRows_123 rfl,
  List.forall_mem_cons.mpr ⟨so_put ft_Z d_Z_getRows_124 (rfl : vwCl[10]? = some (R_Z, F_Z, 40)) (Nat.le_of_ble_eq_true rfl) i_Z w_4_137 tk_Z n_Z rfl rfl rfl,
  List.forall_mem_cons.mpr ⟨so_iload d_Z_getRows_127 rfl,
  List.forall_mem_cons.mpr ⟨so_iconst (by decide) d_Z_getRows_129 rfl,
  List.forall_mem_cons.mpr ⟨so_isub d_Z_getRows_130 rfl,
  List.forall_mem_cons.mpr ⟨so_istore d_Z_getRows_131 (Nat.le_of_ble_eq_true rfl) rfl,
  List.forall_mem_cons.mpr ⟨so_iload d_Z_getRows_133 rfl,
  List.forall_mem_cons.mpr ⟨so_if_lt d_Z_getRows_135 (by decide) rfl,
  List.forall_mem_cons.mpr ⟨so_aload_n d_Z_getRows_138 rfl rfl,
  List.forall_mem_cons.mpr ⟨so_get d_Z_getRows_139 (rfl : vwCl[10]? = some (R_Z, F_Z, 40)) (Nat.le_of_ble_eq_true rfl) i_Z w_4_137 rfl,
  List.forall_mem_cons.mpr ⟨so_if_eq d_Z_getRows_142 (by decide) rfl,
  List.forall_mem_cons.mpr ⟨so_aload_n d_Z_getRows_145 rfl rfl,
  List.forall_mem_cons.mpr ⟨so_iconst (by decide) d_Z_getRows_146 rfl,
  List.forall_mem_cons.mpr ⟨so_iload d_Z_getRows_147 rfl,
  fun _ h => absurd h List.not_mem_nil⟩⟩⟩⟩⟩⟩⟩⟩⟩⟩⟩⟩⟩⟩⟩⟩
def cd_Z_getRows_5 : Nat → g_T := g_tab [(149, tr_ild 12 151), (151, tr_ii (fun x y => x >>> (y &&& 31)) 152), (152, tr_cst (.int (1)) 153), (153, tr_ii (fun x y => x &&& y) 154), (154, tr_cst (.int (0)) 155), (155, tr_ild 7 157), (157, tr_cV J_Z_get 10 4 160), (160, tr_inc 12 (-1) 163), (163, tr_goto 133), (166, tr_goto 473), (169, tr_ild 10 171), (171, tr_cst (.int (1)) 172), (172, tr_if2 (fun x y => ¬ x = y) 208 175), (175, tr_ald 0 176), (176, tr_ild 9 178), (178, tr_if1 (fun x => ¬ x = 0) 185 181)]
set_option maxRecDepth 100000 in
theorem ok_Z_getRows_5 : ∀ pc, g_S (J_Z_getRows) pc (cd_Z_getRows_5 pc) := g_tab_ok <|
  List.forall_mem_cons.mpr ⟨so_iload d_Z_getRows_149 rfl,
  List.forall_mem_cons.mpr ⟨so_ishr d_Z_getRows_151 rfl,
  List.forall_mem_cons.mpr ⟨so_iconst (by decide) d_Z_getRows_152 rfl,
  List.forall_mem_cons.mpr ⟨so_iand d_Z_getRows_153 rfl,
  List.forall_mem_cons.mpr ⟨so_iconst (by decide) d_Z_getRows_154 rfl,
  List.forall_mem_cons.mpr ⟨so_iload d_Z_getRows_155 rfl,
  List.forall_mem_cons.mpr ⟨so_cV g_good d_Z_getRows_157 ⟨w_5_101, (Nat.le_of_ble_eq_true rfl), (Nat.le_of_ble_eq_true rfl), w_1_12, ⟨by decide, by decide⟩, by decide +kernel⟩ (rfl : vwCl[10]? = some (R_Z, F_Z, 40)) w_5_98 w_5_100 w_p43 rfl,
  List.forall_mem_cons.mpr ⟨so_iinc d_Z_getRows_160 (by decide) (Nat.le_of_ble_eq_true rfl) rfl,
  List.forall_mem_cons.mpr ⟨so_goto d_Z_getRows_163 (by decide),
  List.forall_mem_cons.mpr ⟨so_goto d_Z_getRows_166 (by decide),
  List.forall_mem_cons.mpr ⟨so_iload d_Z_getRows_169 rfl,
  List.forall_mem_cons.mpr ⟨so_iconst (by decide) d_Z_getRows_171 rfl,
  List.forall_mem_cons.mpr ⟨so_icmp_ne d_Z_getRows_172 (by decide) rfl,
  List.forall_mem_cons.mpr ⟨so_aload_n d_Z_getRows_175 rfl rfl,
  List.forall_mem_cons.mpr ⟨so_iload d_Z_getRows_176 rfl,
  List.forall_mem_cons.mpr ⟨so_if_ne d_Z_getRows_178 (by decide) rfl,
  fun _ h => absurd h List.not_mem_nil⟩⟩⟩⟩⟩⟩⟩⟩⟩⟩⟩⟩⟩⟩⟩⟩
def cd_Z_getRows_6 : Nat → g_T := g_tab [(181, tr_cst (.int (1)) 182), (182, tr_goto 186), (185, tr_cst (.int (0)) 186), (186, tr_put 10 39 (.boolean) 189), (189, tr_ild 2 190), (190, tr_ald 0 191), (191, tr_cV J_Z_nextDifference 10 0 194), (194, tr_ii (fun x y => x + y) 195), (195, tr_ist 2 196), (196, tr_ald 0 197), (197, tr_cst (.int (1)) 198), (198, tr_ild 2 199), (199, tr_cst (.int (0)) 200), (200, tr_ild 7 202), (202, tr_cV J_Z_get 10 4 205), (205, tr_goto 473)]
set_option maxRecDepth 100000 in
theorem ok_Z_getRows_6 : ∀ pc, g_S (J_Z_getRows) pc (cd_Z_getRows_6 pc) := g_tab_ok <|
  List.forall_mem_cons.mpr ⟨so_iconst (by decide) d_Z_getRows_181 rfl,
  List.forall_mem_cons.mpr ⟨so_goto d_Z_getRows_182 (by decide),
  List.forall_mem_cons.mpr ⟨so_iconst (by decide) d_Z_getRows_185 rfl,
  List.forall_mem_cons.mpr ⟨so_put ft_Z d_Z_getRows_186 (rfl : vwCl[10]? = some (R_Z, F_Z, 40)) (Nat.le_of_ble_eq_true rfl) i_Z w_4_137 tk_Z n_Z rfl rfl rfl,
  List.forall_mem_cons.mpr ⟨so_iload_n d_Z_getRows_189 rfl rfl,
  List.forall_mem_cons.mpr ⟨so_aload_n d_Z_getRows_190 rfl rfl,
  List.forall_mem_cons.mpr ⟨so_cV g_good d_Z_getRows_191 ⟨w_5_105, (Nat.le_of_ble_eq_true rfl), (Nat.le_of_ble_eq_true rfl), w_1_12, ⟨by decide, by decide⟩, by decide +kernel⟩ (rfl : vwCl[10]? = some (R_Z, F_Z, 40)) w_5_102 w_5_104 w_p44 rfl,
  List.forall_mem_cons.mpr ⟨so_iadd d_Z_getRows_194 rfl,
  List.forall_mem_cons.mpr ⟨so_istore_n d_Z_getRows_195 rfl (Nat.le_of_ble_eq_true rfl) rfl,
  List.forall_mem_cons.mpr ⟨so_aload_n d_Z_getRows_196 rfl rfl,
  List.forall_mem_cons.mpr ⟨so_iconst (by decide) d_Z_getRows_197 rfl,
  List.forall_mem_cons.mpr ⟨so_iload_n d_Z_getRows_198 rfl rfl,
  List.forall_mem_cons.mpr ⟨so_iconst (by decide) d_Z_getRows_199 rfl,
  List.forall_mem_cons.mpr ⟨so_iload d_Z_getRows_200 rfl,
  List.forall_mem_cons.mpr ⟨so_cV g_good d_Z_getRows_202 ⟨w_5_101, (Nat.le_of_ble_eq_true rfl), (Nat.le_of_ble_eq_true rfl), w_1_12, ⟨by decide, by decide⟩, by decide +kernel⟩ (rfl : vwCl[10]? = some (R_Z, F_Z, 40)) w_5_98 w_5_100 w_p43 rfl,
  List.forall_mem_cons.mpr ⟨so_goto d_Z_getRows_205 (by decide),
  fun _ h => absurd h List.not_mem_nil⟩⟩⟩⟩⟩⟩⟩⟩⟩⟩⟩⟩⟩⟩⟩⟩
def cd_Z_getRows_7 : Nat → g_T := g_tab [(208, tr_ild 10 210), (210, tr_cst (.int (2)) 211), (211, tr_if2 (fun x y => ¬ x = y) 263 214), (214, tr_ald 0 215), (215, tr_ild 9 217), (217, tr_cst (.int (2)) 218), (218, tr_if2 (fun x y => y ≤ x) 225 221), (221, tr_cst (.int (1)) 222), (222, tr_goto 226), (225, tr_cst (.int (0)) 226), (226, tr_put 10 39 (.boolean) 229), (229, tr_ild 9 231), (231, tr_cst (.int (1)) 232), (232, tr_if2 (fun x y => ¬ x = y) 242 235), (235, tr_ald 0 236), (236, tr_cV J_Z_nextDifference 10 0 239)]
set_option maxRecDepth 100000 in
theorem ok_Z_getRows_7 : ∀ pc, g_S (J_Z_getRows) pc (cd_Z_getRows_7 pc) := g_tab_ok <|
  List.forall_mem_cons.mpr ⟨so_iload d_Z_getRows_208 rfl,
  List.forall_mem_cons.mpr ⟨so_iconst (by decide) d_Z_getRows_210 rfl,
  List.forall_mem_cons.mpr ⟨so_icmp_ne d_Z_getRows_211 (by decide) rfl,
  List.forall_mem_cons.mpr ⟨so_aload_n d_Z_getRows_214 rfl rfl,
  List.forall_mem_cons.mpr ⟨so_iload d_Z_getRows_215 rfl,
  List.forall_mem_cons.mpr ⟨so_iconst (by decide) d_Z_getRows_217 rfl,
  List.forall_mem_cons.mpr ⟨so_icmp_ge d_Z_getRows_218 (by decide) rfl,
  List.forall_mem_cons.mpr ⟨so_iconst (by decide) d_Z_getRows_221 rfl,
  List.forall_mem_cons.mpr ⟨so_goto d_Z_getRows_222 (by decide),
  List.forall_mem_cons.mpr ⟨so_iconst (by decide) d_Z_getRows_225 rfl,
  List.forall_mem_cons.mpr ⟨so_put ft_Z d_Z_getRows_226 (rfl : vwCl[10]? = some (R_Z, F_Z, 40)) (Nat.le_of_ble_eq_true rfl) i_Z w_4_137 tk_Z n_Z rfl rfl rfl,
  List.forall_mem_cons.mpr ⟨so_iload d_Z_getRows_229 rfl,
  List.forall_mem_cons.mpr ⟨so_iconst (by decide) d_Z_getRows_231 rfl,
  List.forall_mem_cons.mpr ⟨so_icmp_ne d_Z_getRows_232 (by decide) rfl,
  List.forall_mem_cons.mpr ⟨so_aload_n d_Z_getRows_235 rfl rfl,
  List.forall_mem_cons.mpr ⟨so_cV g_good d_Z_getRows_236 ⟨w_5_105, (Nat.le_of_ble_eq_true rfl), (Nat.le_of_ble_eq_true rfl), w_1_12, ⟨by decide, by decide⟩, by decide +kernel⟩ (rfl : vwCl[10]? = some (R_Z, F_Z, 40)) w_5_102 w_5_104 w_p44 rfl,
  fun _ h => absurd h List.not_mem_nil⟩⟩⟩⟩⟩⟩⟩⟩⟩⟩⟩⟩⟩⟩⟩⟩
def cd_Z_getRows_8 : Nat → g_T := g_tab [(239, tr_goto 244), (242, tr_ild 4 244), (244, tr_ist 4 246), (246, tr_ild 3 247), (247, tr_ild 4 249), (249, tr_ii (fun x y => x + y) 250), (250, tr_ist 3 251), (251, tr_ald 0 252), (252, tr_cst (.int (2)) 253), (253, tr_ild 3 254), (254, tr_cst (.int (0)) 255), (255, tr_ild 7 257), (257, tr_cV J_Z_get 10 4 260), (260, tr_goto 473), (263, tr_ild 10 265), (265, tr_cst (.int (3)) 266)]
set_option maxRecDepth 100000 in
theorem ok_Z_getRows_8 : ∀ pc, g_S (J_Z_getRows) pc (cd_Z_getRows_8 pc) := g_tab_ok <|
  List.forall_mem_cons.mpr ⟨so_goto d_Z_getRows_239 (by decide),
  List.forall_mem_cons.mpr ⟨so_iload d_Z_getRows_242 rfl,
  List.forall_mem_cons.mpr ⟨so_istore d_Z_getRows_244 (Nat.le_of_ble_eq_true rfl) rfl,
  List.forall_mem_cons.mpr ⟨so_iload_n d_Z_getRows_246 rfl rfl,
  List.forall_mem_cons.mpr ⟨so_iload d_Z_getRows_247 rfl,
  List.forall_mem_cons.mpr ⟨so_iadd d_Z_getRows_249 rfl,
  List.forall_mem_cons.mpr ⟨so_istore_n d_Z_getRows_250 rfl (Nat.le_of_ble_eq_true rfl) rfl,
  List.forall_mem_cons.mpr ⟨so_aload_n d_Z_getRows_251 rfl rfl,
  List.forall_mem_cons.mpr ⟨so_iconst (by decide) d_Z_getRows_252 rfl,
  List.forall_mem_cons.mpr ⟨so_iload_n d_Z_getRows_253 rfl rfl,
  List.forall_mem_cons.mpr ⟨so_iconst (by decide) d_Z_getRows_254 rfl,
  List.forall_mem_cons.mpr ⟨so_iload d_Z_getRows_255 rfl,
  List.forall_mem_cons.mpr ⟨so_cV g_good d_Z_getRows_257 ⟨w_5_101, (Nat.le_of_ble_eq_true rfl), (Nat.le_of_ble_eq_true rfl), w_1_12, ⟨by decide, by decide⟩, by decide +kernel⟩ (rfl : vwCl[10]? = some (R_Z, F_Z, 40)) w_5_98 w_5_100 w_p43 rfl,
  List.forall_mem_cons.mpr ⟨so_goto d_Z_getRows_260 (by decide),
  List.forall_mem_cons.mpr ⟨so_iload d_Z_getRows_263 rfl,
  List.forall_mem_cons.mpr ⟨so_iconst (by decide) d_Z_getRows_265 rfl,
  fun _ h => absurd h List.not_mem_nil⟩⟩⟩⟩⟩⟩⟩⟩⟩⟩⟩⟩⟩⟩⟩⟩
def cd_Z_getRows_9 : Nat → g_T := g_tab [(266, tr_if2 (fun x y => ¬ x = y) 403 269), (269, tr_ald 0 270), (270, tr_ild 9 272), (272, tr_cst (.int (15)) 274), (274, tr_ii (fun x y => x &&& y) 275), (275, tr_cst (.int (9)) 277), (277, tr_if2 (fun x y => y ≤ x) 284 280), (280, tr_cst (.int (1)) 281), (281, tr_goto 285), (284, tr_cst (.int (0)) 285), (285, tr_put 10 39 (.boolean) 288), (288, tr_ild 9 290), (290, tr_cst (.int (15)) 292), (292, tr_if2 (fun x y => x ≤ y) 302 295), (295, tr_ald 0 296), (296, tr_cV J_Z_nextDifference 10 0 299)]
set_option maxRecDepth 100000 in
theorem ok_Z_getRows_9 : ∀ pc, g_S (J_Z_getRows) pc (cd_Z_getRows_9 pc) := g_tab_ok <|
  List.forall_mem_cons.mpr ⟨so_icmp_ne d_Z_getRows_266 (by decide) rfl,
  List.forall_mem_cons.mpr ⟨so_aload_n d_Z_getRows_269 rfl rfl,
  List.forall_mem_cons.mpr ⟨so_iload d_Z_getRows_270 rfl,
  List.forall_mem_cons.mpr ⟨so_bipush (by decide) d_Z_getRows_272 rfl,
  List.forall_mem_cons.mpr ⟨so_iand d_Z_getRows_274 rfl,
  List.forall_mem_cons.mpr ⟨so_bipush (by decide) d_Z_getRows_275 rfl,
  List.forall_mem_cons.mpr ⟨so_icmp_ge d_Z_getRows_277 (by decide) rfl,
  List.forall_mem_cons.mpr ⟨so_iconst (by decide) d_Z_getRows_280 rfl,
  List.forall_mem_cons.mpr ⟨so_goto d_Z_getRows_281 (by decide),
  List.forall_mem_cons.mpr ⟨so_iconst (by decide) d_Z_getRows_284 rfl,
  List.forall_mem_cons.mpr ⟨so_put ft_Z d_Z_getRows_285 (rfl : vwCl[10]? = some (R_Z, F_Z, 40)) (Nat.le_of_ble_eq_true rfl) i_Z w_4_137 tk_Z n_Z rfl rfl rfl,
  List.forall_mem_cons.mpr ⟨so_iload d_Z_getRows_288 rfl,
  List.forall_mem_cons.mpr ⟨so_bipush (by decide) d_Z_getRows_290 rfl,
  List.forall_mem_cons.mpr ⟨so_icmp_le d_Z_getRows_292 (by decide) rfl,
  List.forall_mem_cons.mpr ⟨so_aload_n d_Z_getRows_295 rfl rfl,
  List.forall_mem_cons.mpr ⟨so_cV g_good d_Z_getRows_296 ⟨w_5_105, (Nat.le_of_ble_eq_true rfl), (Nat.le_of_ble_eq_true rfl), w_1_12, ⟨by decide, by decide⟩, by decide +kernel⟩ (rfl : vwCl[10]? = some (R_Z, F_Z, 40)) w_5_102 w_5_104 w_p44 rfl,
  fun _ h => absurd h List.not_mem_nil⟩⟩⟩⟩⟩⟩⟩⟩⟩⟩⟩⟩⟩⟩⟩⟩
def cd_Z_getRows_10 : Nat → g_T := g_tab [(299, tr_goto 304), (302, tr_ild 6 304), (304, tr_ist 6 306), (306, tr_ild 5 308), (308, tr_ild 6 310), (310, tr_ii (fun x y => x + y) 311), (311, tr_ist 5 313), (313, tr_ild 9 315), (315, tr_cst (.int (15)) 317), (317, tr_ii (fun x y => x &&& y) 318), (318, tr_ist 11 320), (320, tr_ild 11 322), (322, tr_cst (.int (8)) 324), (324, tr_if2 (fun x y => y ≤ x) 341 327), (327, tr_ild 11 329), (329, tr_ald 0 330)]
set_option maxRecDepth 100000 in
theorem ok_Z_getRows_10 : ∀ pc, g_S (J_Z_getRows) pc (cd_Z_getRows_10 pc) := g_tab_ok <|
  List.forall_mem_cons.mpr ⟨so_goto d_Z_getRows_299 (by decide),
  List.forall_mem_cons.mpr ⟨so_iload d_Z_getRows_302 rfl,
  List.forall_mem_cons.mpr ⟨so_istore d_Z_getRows_304 (Nat.le_of_ble_eq_true rfl) rfl,
  List.forall_mem_cons.mpr ⟨so_iload d_Z_getRows_306 rfl,
  List.forall_mem_cons.mpr ⟨so_iload d_Z_getRows_308 rfl,
  List.forall_mem_cons.mpr ⟨so_iadd d_Z_getRows_310 rfl,
  List.forall_mem_cons.mpr ⟨so_istore d_Z_getRows_311 (Nat.le_of_ble_eq_true rfl) rfl,
  List.forall_mem_cons.mpr ⟨so_iload d_Z_getRows_313 rfl,
  List.forall_mem_cons.mpr ⟨so_bipush (by decide) d_Z_getRows_315 rfl,
  List.forall_mem_cons.mpr ⟨so_iand d_Z_getRows_317 rfl,
  List.forall_mem_cons.mpr ⟨so_istore d_Z_getRows_318 (Nat.le_of_ble_eq_true rfl) rfl,
  List.forall_mem_cons.mpr ⟨so_iload d_Z_getRows_320 rfl,
  List.forall_mem_cons.mpr ⟨so_bipush (by decide) d_Z_getRows_322 rfl,
  List.forall_mem_cons.mpr ⟨so_icmp_ge d_Z_getRows_324 (by decide) rfl,
  List.forall_mem_cons.mpr ⟨so_iload d_Z_getRows_327 rfl,
  List.forall_mem_cons.mpr ⟨so_aload_n d_Z_getRows_329 rfl rfl,
  fun _ h => absurd h List.not_mem_nil⟩⟩⟩⟩⟩⟩⟩⟩⟩⟩⟩⟩⟩⟩⟩⟩
def cd_Z_getRows_11 : Nat → g_T := g_tab [(330, tr_get 10 19 333), (333, tr_if2 (fun x y => x < y) 341 336), (336, tr_ald 0 337), (337, tr_cst (.int (0)) 338), (338, tr_put 10 39 (.boolean) 341), (341, tr_ild 11 343), (343, tr_cst (.int (8)) 345), (345, tr_if2 (fun x y => ¬ x = y) 355 348), (348, tr_ald 0 349), (349, tr_cV J_Z_nextFour 10 0 352), (352, tr_goto 373), (355, tr_ald 0 356), (356, tr_get 10 39 359), (359, tr_if1 (fun x => x = 0) 372 362), (362, tr_ald 0 363), (363, tr_get 10 20 366)]
set_option maxRecDepth 100000 in
theorem ok_Z_getRows_11 : ∀ pc, g_S (J_Z_getRows) pc (cd_Z_getRows_11 pc) := g_tab_ok <|
  List.forall_mem_cons.mpr ⟨so_get d_Z_getRows_330 (rfl : vwCl[10]? = some (R_Z, F_Z, 40)) (Nat.le_of_ble_eq_true rfl) i_Z w_4_117 rfl,
  List.forall_mem_cons.mpr ⟨so_icmp_lt d_Z_getRows_333 (by decide) rfl,
  List.forall_mem_cons.mpr ⟨so_aload_n d_Z_getRows_336 rfl rfl,
  List.forall_mem_cons.mpr ⟨so_iconst (by decide) d_Z_getRows_337 rfl,
  List.forall_mem_cons.mpr ⟨so_put ft_Z d_Z_getRows_338 (rfl : vwCl[10]? = some (R_Z, F_Z, 40)) (Nat.le_of_ble_eq_true rfl) i_Z w_4_137 tk_Z n_Z rfl rfl rfl,
  List.forall_mem_cons.mpr ⟨so_iload d_Z_getRows_341 rfl,
  List.forall_mem_cons.mpr ⟨so_bipush (by decide) d_Z_getRows_343 rfl,
  List.forall_mem_cons.mpr ⟨so_icmp_ne d_Z_getRows_345 (by decide) rfl,
  List.forall_mem_cons.mpr ⟨so_aload_n d_Z_getRows_348 rfl rfl,
  List.forall_mem_cons.mpr ⟨so_cV g_good d_Z_getRows_349 ⟨w_5_92, (Nat.le_of_ble_eq_true rfl), (Nat.le_of_ble_eq_true rfl), w_1_12, ⟨by decide, by decide⟩, by decide +kernel⟩ (rfl : vwCl[10]? = some (R_Z, F_Z, 40)) w_5_89 w_5_91 w_p41 rfl,
  List.forall_mem_cons.mpr ⟨so_goto d_Z_getRows_352 (by decide),
  List.forall_mem_cons.mpr ⟨so_aload_n d_Z_getRows_355 rfl rfl,
  List.forall_mem_cons.mpr ⟨so_get d_Z_getRows_356 (rfl : vwCl[10]? = some (R_Z, F_Z, 40)) (Nat.le_of_ble_eq_true rfl) i_Z w_4_137 rfl,
  List.forall_mem_cons.mpr ⟨so_if_eq d_Z_getRows_359 (by decide) rfl,
  List.forall_mem_cons.mpr ⟨so_aload_n d_Z_getRows_362 rfl rfl,
  List.forall_mem_cons.mpr ⟨so_get d_Z_getRows_363 (rfl : vwCl[10]? = some (R_Z, F_Z, 40)) (Nat.le_of_ble_eq_true rfl) i_Z w_4_118 rfl,
  fun _ h => absurd h List.not_mem_nil⟩⟩⟩⟩⟩⟩⟩⟩⟩⟩⟩⟩⟩⟩⟩⟩
def cd_Z_getRows_12 : Nat → g_T := g_tab [(366, tr_ild 11 368), (368, tr_ial 369), (369, tr_goto 373), (372, tr_cst (.int (0)) 373), (373, tr_ist 12 375), (375, tr_ald 0 376), (376, tr_get 10 39 379), (379, tr_if1 (fun x => x = 0) 389 382), (382, tr_ald 0 383), (383, tr_ild 12 385), (385, tr_cV J_Z_putValue 10 1 388), (388, tr_pop 389), (389, tr_ald 0 390), (390, tr_cst (.int (3)) 391), (391, tr_ild 5 393), (393, tr_ild 12 395)]
set_option maxRecDepth 100000 in
theorem ok_Z_getRows_12 : ∀ pc, g_S (J_Z_getRows) pc (cd_Z_getRows_12 pc) := g_tab_ok <|
  List.forall_mem_cons.mpr ⟨so_iload d_Z_getRows_366 rfl,
  List.forall_mem_cons.mpr ⟨so_iaload d_Z_getRows_368 rfl,
  List.forall_mem_cons.mpr ⟨so_goto d_Z_getRows_369 (by decide),
  List.forall_mem_cons.mpr ⟨so_iconst (by decide) d_Z_getRows_372 rfl,
  List.forall_mem_cons.mpr ⟨so_istore d_Z_getRows_373 (Nat.le_of_ble_eq_true rfl) rfl,
  List.forall_mem_cons.mpr ⟨so_aload_n d_Z_getRows_375 rfl rfl,
  List.forall_mem_cons.mpr ⟨so_get d_Z_getRows_376 (rfl : vwCl[10]? = some (R_Z, F_Z, 40)) (Nat.le_of_ble_eq_true rfl) i_Z w_4_137 rfl,
  List.forall_mem_cons.mpr ⟨so_if_eq d_Z_getRows_379 (by decide) rfl,
  List.forall_mem_cons.mpr ⟨so_aload_n d_Z_getRows_382 rfl rfl,
  List.forall_mem_cons.mpr ⟨so_iload d_Z_getRows_383 rfl,
  List.forall_mem_cons.mpr ⟨so_cV g_good d_Z_getRows_385 ⟨w_5_34, (Nat.le_of_ble_eq_true rfl), (Nat.le_of_ble_eq_true rfl), w_1_12, ⟨by decide, by decide⟩, by decide +kernel⟩ (rfl : vwCl[10]? = some (R_Z, F_Z, 40)) w_5_31 w_5_33 w_p35 rfl,
  List.forall_mem_cons.mpr ⟨so_pop d_Z_getRows_388 rfl,
  List.forall_mem_cons.mpr ⟨so_aload_n d_Z_getRows_389 rfl rfl,
  List.forall_mem_cons.mpr ⟨so_iconst (by decide) d_Z_getRows_390 rfl,
  List.forall_mem_cons.mpr ⟨so_iload d_Z_getRows_391 rfl,
  List.forall_mem_cons.mpr ⟨so_iload d_Z_getRows_393 rfl,
  fun _ h => absurd h List.not_mem_nil⟩⟩⟩⟩⟩⟩⟩⟩⟩⟩⟩⟩⟩⟩⟩⟩
def cd_Z_getRows_13 : Nat → g_T := g_tab [(395, tr_ild 7 397), (397, tr_cV J_Z_get 10 4 400), (400, tr_goto 473), (403, tr_ald 0 404), (404, tr_ild 10 406), (406, tr_cst (.int (4)) 407), (407, tr_if2 (fun x y => ¬ x = y) 419 410), (410, tr_ild 9 412), (412, tr_if1 (fun x => ¬ x = 0) 419 415), (415, tr_cst (.int (1)) 416), (416, tr_goto 420), (419, tr_cst (.int (0)) 420), (420, tr_put 10 39 (.boolean) 423), (423, tr_ild 7 425), (425, tr_i2l 426), (426, tr_ald 0 427)]
set_option maxRecDepth 100000 in
theorem ok_Z_getRows_13 : ∀ pc, g_S (J_Z_getRows) pc (cd_Z_getRows_13 pc) := g_tab_ok <|
  List.forall_mem_cons.mpr ⟨so_iload d_Z_getRows_395 rfl,
  List.forall_mem_cons.mpr ⟨so_cV g_good d_Z_getRows_397 ⟨w_5_101, (Nat.le_of_ble_eq_true rfl), (Nat.le_of_ble_eq_true rfl), w_1_12, ⟨by decide, by decide⟩, by decide +kernel⟩ (rfl : vwCl[10]? = some (R_Z, F_Z, 40)) w_5_98 w_5_100 w_p43 rfl,
  List.forall_mem_cons.mpr ⟨so_goto d_Z_getRows_400 (by decide),
  List.forall_mem_cons.mpr ⟨so_aload_n d_Z_getRows_403 rfl rfl,
  List.forall_mem_cons.mpr ⟨so_iload d_Z_getRows_404 rfl,
  List.forall_mem_cons.mpr ⟨so_iconst (by decide) d_Z_getRows_406 rfl,
  List.forall_mem_cons.mpr ⟨so_icmp_ne d_Z_getRows_407 (by decide) rfl,
  List.forall_mem_cons.mpr ⟨so_iload d_Z_getRows_410 rfl,
  List.forall_mem_cons.mpr ⟨so_if_ne d_Z_getRows_412 (by decide) rfl,
  List.forall_mem_cons.mpr ⟨so_iconst (by decide) d_Z_getRows_415 rfl,
  List.forall_mem_cons.mpr ⟨so_goto d_Z_getRows_416 (by decide),
  List.forall_mem_cons.mpr ⟨so_iconst (by decide) d_Z_getRows_419 rfl,
  List.forall_mem_cons.mpr ⟨so_put ft_Z d_Z_getRows_420 (rfl : vwCl[10]? = some (R_Z, F_Z, 40)) (Nat.le_of_ble_eq_true rfl) i_Z w_4_137 tk_Z n_Z rfl rfl rfl,
  List.forall_mem_cons.mpr ⟨so_iload d_Z_getRows_423 rfl,
  List.forall_mem_cons.mpr ⟨so_i2l d_Z_getRows_425 rfl,
  List.forall_mem_cons.mpr ⟨so_aload_n d_Z_getRows_426 rfl rfl,
  fun _ h => absurd h List.not_mem_nil⟩⟩⟩⟩⟩⟩⟩⟩⟩⟩⟩⟩⟩⟩⟩⟩
def cd_Z_getRows_14 : Nat → g_T := g_tab [(427, tr_cV J_Z_nextNumber 10 0 430), (430, tr_ll (fun x y => x + y) 431), (431, tr_lst 11 433), (433, tr_lld 11 435), (435, tr_cst (.long (2147483647)) 438), (438, tr_lcmp 439), (439, tr_if1 (fun x => x ≤ 0) 447 442), (442, tr_ald 0 443), (443, tr_cst (.int (0)) 444), (444, tr_put 10 39 (.boolean) 447), (447, tr_ald 0 448), (448, tr_get 10 39 451), (451, tr_if1 (fun x => x = 0) 460 454), (454, tr_lld 11 456), (456, tr_l2i 457), (457, tr_goto 461)]
set_option maxRecDepth 100000 in
theorem ok_Z_getRows_14 : ∀ pc, g_S (J_Z_getRows) pc (cd_Z_getRows_14 pc) := g_tab_ok <|
  List.forall_mem_cons.mpr ⟨so_cV g_good d_Z_getRows_427 ⟨w_5_109, (Nat.le_of_ble_eq_true rfl), (Nat.le_of_ble_eq_true rfl), w_1_12, ⟨by decide, by decide⟩, by decide +kernel⟩ (rfl : vwCl[10]? = some (R_Z, F_Z, 40)) w_5_106 w_5_108 w_p45 rfl,
  List.forall_mem_cons.mpr ⟨so_ladd d_Z_getRows_430 rfl,
  List.forall_mem_cons.mpr ⟨so_lstore d_Z_getRows_431 (Nat.le_of_ble_eq_true rfl) rfl,
  List.forall_mem_cons.mpr ⟨so_lload d_Z_getRows_433 rfl,
  List.forall_mem_cons.mpr ⟨so_ldc2 w_5_110 d_Z_getRows_435 rfl,
  List.forall_mem_cons.mpr ⟨so_lcmp d_Z_getRows_438 rfl,
  List.forall_mem_cons.mpr ⟨so_if_le d_Z_getRows_439 (by decide) rfl,
  List.forall_mem_cons.mpr ⟨so_aload_n d_Z_getRows_442 rfl rfl,
  List.forall_mem_cons.mpr ⟨so_iconst (by decide) d_Z_getRows_443 rfl,
  List.forall_mem_cons.mpr ⟨so_put ft_Z d_Z_getRows_444 (rfl : vwCl[10]? = some (R_Z, F_Z, 40)) (Nat.le_of_ble_eq_true rfl) i_Z w_4_137 tk_Z n_Z rfl rfl rfl,
  List.forall_mem_cons.mpr ⟨so_aload_n d_Z_getRows_447 rfl rfl,
  List.forall_mem_cons.mpr ⟨so_get d_Z_getRows_448 (rfl : vwCl[10]? = some (R_Z, F_Z, 40)) (Nat.le_of_ble_eq_true rfl) i_Z w_4_137 rfl,
  List.forall_mem_cons.mpr ⟨so_if_eq d_Z_getRows_451 (by decide) rfl,
  List.forall_mem_cons.mpr ⟨so_lload d_Z_getRows_454 rfl,
  List.forall_mem_cons.mpr ⟨so_l2i d_Z_getRows_456 rfl,
  List.forall_mem_cons.mpr ⟨so_goto d_Z_getRows_457 (by decide),
  fun _ h => absurd h List.not_mem_nil⟩⟩⟩⟩⟩⟩⟩⟩⟩⟩⟩⟩⟩⟩⟩⟩
def cd_Z_getRows_15 : Nat → g_T := g_tab [(460, tr_cst (.int (0)) 461), (461, tr_ist 7 463), (463, tr_ald 0 464), (464, tr_cst (.int (4)) 465), (465, tr_ild 7 467), (467, tr_cst (.int (0)) 468), (468, tr_ild 7 470), (470, tr_cV J_Z_get 10 4 473), (473, tr_goto 26), (476, tr_rv)]
set_option maxRecDepth 100000 in
theorem ok_Z_getRows_15 : ∀ pc, g_S (J_Z_getRows) pc (cd_Z_getRows_15 pc) := g_tab_ok <|
  List.forall_mem_cons.mpr ⟨so_iconst (by decide) d_Z_getRows_460 rfl,
  List.forall_mem_cons.mpr ⟨so_istore d_Z_getRows_461 (Nat.le_of_ble_eq_true rfl) rfl,
  List.forall_mem_cons.mpr ⟨so_aload_n d_Z_getRows_463 rfl rfl,
  List.forall_mem_cons.mpr ⟨so_iconst (by decide) d_Z_getRows_464 rfl,
  List.forall_mem_cons.mpr ⟨so_iload d_Z_getRows_465 rfl,
  List.forall_mem_cons.mpr ⟨so_iconst (by decide) d_Z_getRows_467 rfl,
  List.forall_mem_cons.mpr ⟨so_iload d_Z_getRows_468 rfl,
  List.forall_mem_cons.mpr ⟨so_cV g_good d_Z_getRows_470 ⟨w_5_101, (Nat.le_of_ble_eq_true rfl), (Nat.le_of_ble_eq_true rfl), w_1_12, ⟨by decide, by decide⟩, by decide +kernel⟩ (rfl : vwCl[10]? = some (R_Z, F_Z, 40)) w_5_98 w_5_100 w_p43 rfl,
  List.forall_mem_cons.mpr ⟨so_goto d_Z_getRows_473 (by decide),
  List.forall_mem_cons.mpr ⟨so_vret d_Z_getRows_476 rfl,
  fun _ h => absurd h List.not_mem_nil⟩⟩⟩⟩⟩⟩⟩⟩⟩⟩
def cd_Z_getRows : Nat → g_T := g_chk [(21, cd_Z_getRows_0), (54, cd_Z_getRows_1), (86, cd_Z_getRows_2), (116, cd_Z_getRows_3), (147, cd_Z_getRows_4), (178, cd_Z_getRows_5), (205, cd_Z_getRows_6), (236, cd_Z_getRows_7), (265, cd_Z_getRows_8), (296, cd_Z_getRows_9), (329, cd_Z_getRows_10), (363, cd_Z_getRows_11), (393, cd_Z_getRows_12), (426, cd_Z_getRows_13), (457, cd_Z_getRows_14), (476, cd_Z_getRows_15)]
theorem ok_Z_getRows : ∀ pc, g_S (J_Z_getRows) pc (cd_Z_getRows pc) := g_chk_ok <|
  List.forall_mem_cons.mpr ⟨ok_Z_getRows_0,
  List.forall_mem_cons.mpr ⟨ok_Z_getRows_1,
  List.forall_mem_cons.mpr ⟨ok_Z_getRows_2,
  List.forall_mem_cons.mpr ⟨ok_Z_getRows_3,
  List.forall_mem_cons.mpr ⟨ok_Z_getRows_4,
  List.forall_mem_cons.mpr ⟨ok_Z_getRows_5,
  List.forall_mem_cons.mpr ⟨ok_Z_getRows_6,
  List.forall_mem_cons.mpr ⟨ok_Z_getRows_7,
  List.forall_mem_cons.mpr ⟨ok_Z_getRows_8,
  List.forall_mem_cons.mpr ⟨ok_Z_getRows_9,
  List.forall_mem_cons.mpr ⟨ok_Z_getRows_10,
  List.forall_mem_cons.mpr ⟨ok_Z_getRows_11,
  List.forall_mem_cons.mpr ⟨ok_Z_getRows_12,
  List.forall_mem_cons.mpr ⟨ok_Z_getRows_13,
  List.forall_mem_cons.mpr ⟨ok_Z_getRows_14,
  List.forall_mem_cons.mpr ⟨ok_Z_getRows_15,
  fun _ h => absurd h List.not_mem_nil⟩⟩⟩⟩⟩⟩⟩⟩⟩⟩⟩⟩⟩⟩⟩⟩
abbrev J_Z_keep : g_J := (y_Z_keep, prog_12_method_32_code, 4, none, (0, 0), [], none)
theorem d_Z_keep_0 : decode prog_12_method_32_code 0 = .ok (.aload_n 0, 1) := by decide +kernel
theorem d_Z_keep_1 : decode prog_12_method_32_code 1 = .ok (.getfield 26, 3) := by decide +kernel
theorem d_Z_keep_4 : decode prog_12_method_32_code 4 = .ok (.aload_n 0, 1) := by decide +kernel
theorem d_Z_keep_5 : decode prog_12_method_32_code 5 = .ok (.getfield 57, 3) := by decide +kernel
theorem d_Z_keep_8 : decode prog_12_method_32_code 8 = .ok (.iload_n 1, 1) := by decide +kernel
theorem d_Z_keep_9 : decode prog_12_method_32_code 9 = .ok (.iaload, 1) := by decide +kernel
theorem d_Z_keep_10 : decode prog_12_method_32_code 10 = .ok (.ishr, 1) := by decide +kernel
theorem d_Z_keep_11 : decode prog_12_method_32_code 11 = .ok (.iconst 1, 1) := by decide +kernel
theorem d_Z_keep_12 : decode prog_12_method_32_code 12 = .ok (.iand, 1) := by decide +kernel
theorem d_Z_keep_13 : decode prog_12_method_32_code 13 = .ok (.iconst 1, 1) := by decide +kernel
theorem d_Z_keep_14 : decode prog_12_method_32_code 14 = .ok (.if_icmp .ne 19, 3) := by decide +kernel
theorem d_Z_keep_17 : decode prog_12_method_32_code 17 = .ok (.aload_n 0, 1) := by decide +kernel
theorem d_Z_keep_18 : decode prog_12_method_32_code 18 = .ok (.getfield 30, 3) := by decide +kernel
theorem d_Z_keep_21 : decode prog_12_method_32_code 21 = .ok (.iload_n 2, 1) := by decide +kernel
theorem d_Z_keep_22 : decode prog_12_method_32_code 22 = .ok (.ishr, 1) := by decide +kernel
theorem d_Z_keep_23 : decode prog_12_method_32_code 23 = .ok (.iconst 1, 1) := by decide +kernel
theorem d_Z_keep_24 : decode prog_12_method_32_code 24 = .ok (.iand, 1) := by decide +kernel
theorem d_Z_keep_25 : decode prog_12_method_32_code 25 = .ok (.iconst 1, 1) := by decide +kernel
theorem d_Z_keep_26 : decode prog_12_method_32_code 26 = .ok (.if_icmp .ne 7, 3) := by decide +kernel
theorem d_Z_keep_29 : decode prog_12_method_32_code 29 = .ok (.iconst 1, 1) := by decide +kernel
theorem d_Z_keep_30 : decode prog_12_method_32_code 30 = .ok (.goto 4, 3) := by decide +kernel
theorem d_Z_keep_33 : decode prog_12_method_32_code 33 = .ok (.iconst 0, 1) := by decide +kernel
theorem d_Z_keep_34 : decode prog_12_method_32_code 34 = .ok (.istore_n 3, 1) := by decide +kernel
theorem d_Z_keep_35 : decode prog_12_method_32_code 35 = .ok (.iload_n 3, 1) := by decide +kernel
theorem d_Z_keep_36 : decode prog_12_method_32_code 36 = .ok (.ifCond .eq 13, 3) := by decide +kernel
theorem d_Z_keep_39 : decode prog_12_method_32_code 39 = .ok (.aload_n 0, 1) := by decide +kernel
theorem d_Z_keep_40 : decode prog_12_method_32_code 40 = .ok (.getfield 218, 3) := by decide +kernel
theorem d_Z_keep_43 : decode prog_12_method_32_code 43 = .ok (.sipush 2000, 3) := by decide +kernel
theorem d_Z_keep_46 : decode prog_12_method_32_code 46 = .ok (.if_icmp .ne 14, 3) := by decide +kernel
theorem d_Z_keep_49 : decode prog_12_method_32_code 49 = .ok (.aload_n 0, 1) := by decide +kernel
theorem d_Z_keep_50 : decode prog_12_method_32_code 50 = .ok (.dup, 1) := by decide +kernel
theorem d_Z_keep_51 : decode prog_12_method_32_code 51 = .ok (.getfield 221, 3) := by decide +kernel
theorem d_Z_keep_54 : decode prog_12_method_32_code 54 = .ok (.iconst 1, 1) := by decide +kernel
theorem d_Z_keep_55 : decode prog_12_method_32_code 55 = .ok (.iadd, 1) := by decide +kernel
theorem d_Z_keep_56 : decode prog_12_method_32_code 56 = .ok (.putfield 221, 3) := by decide +kernel
theorem d_Z_keep_59 : decode prog_12_method_32_code 59 = .ok (.return_, 1) := by decide +kernel
theorem d_Z_keep_60 : decode prog_12_method_32_code 60 = .ok (.aload_n 0, 1) := by decide +kernel
theorem d_Z_keep_61 : decode prog_12_method_32_code 61 = .ok (.getfield 39, 3) := by decide +kernel
theorem d_Z_keep_64 : decode prog_12_method_32_code 64 = .ok (.aload_n 0, 1) := by decide +kernel
theorem d_Z_keep_65 : decode prog_12_method_32_code 65 = .ok (.getfield 218, 3) := by decide +kernel
theorem d_Z_keep_68 : decode prog_12_method_32_code 68 = .ok (.aload_n 0, 1) := by decide +kernel
theorem d_Z_keep_69 : decode prog_12_method_32_code 69 = .ok (.getfield 57, 3) := by decide +kernel
theorem d_Z_keep_72 : decode prog_12_method_32_code 72 = .ok (.iload_n 1, 1) := by decide +kernel
theorem d_Z_keep_73 : decode prog_12_method_32_code 73 = .ok (.iaload, 1) := by decide +kernel
theorem d_Z_keep_74 : decode prog_12_method_32_code 74 = .ok (.iastore, 1) := by decide +kernel
theorem d_Z_keep_75 : decode prog_12_method_32_code 75 = .ok (.aload_n 0, 1) := by decide +kernel
theorem d_Z_keep_76 : decode prog_12_method_32_code 76 = .ok (.getfield 42, 3) := by decide +kernel
theorem d_Z_keep_79 : decode prog_12_method_32_code 79 = .ok (.aload_n 0, 1) := by decide +kernel
theorem d_Z_keep_80 : decode prog_12_method_32_code 80 = .ok (.getfield 218, 3) := by decide +kernel
theorem d_Z_keep_83 : decode prog_12_method_32_code 83 = .ok (.aload_n 0, 1) := by decide +kernel
theorem d_Z_keep_84 : decode prog_12_method_32_code 84 = .ok (.getfield 60, 3) := by decide +kernel
theorem d_Z_keep_87 : decode prog_12_method_32_code 87 = .ok (.iload_n 1, 1) := by decide +kernel
theorem d_Z_keep_88 : decode prog_12_method_32_code 88 = .ok (.iaload, 1) := by decide +kernel
theorem d_Z_keep_89 : decode prog_12_method_32_code 89 = .ok (.iastore, 1) := by decide +kernel
theorem d_Z_keep_90 : decode prog_12_method_32_code 90 = .ok (.aload_n 0, 1) := by decide +kernel
theorem d_Z_keep_91 : decode prog_12_method_32_code 91 = .ok (.getfield 45, 3) := by decide +kernel
theorem d_Z_keep_94 : decode prog_12_method_32_code 94 = .ok (.aload_n 0, 1) := by decide +kernel
theorem d_Z_keep_95 : decode prog_12_method_32_code 95 = .ok (.getfield 218, 3) := by decide +kernel
theorem d_Z_keep_98 : decode prog_12_method_32_code 98 = .ok (.aload_n 0, 1) := by decide +kernel
theorem d_Z_keep_99 : decode prog_12_method_32_code 99 = .ok (.getfield 63, 3) := by decide +kernel
theorem d_Z_keep_102 : decode prog_12_method_32_code 102 = .ok (.iload_n 1, 1) := by decide +kernel
theorem d_Z_keep_103 : decode prog_12_method_32_code 103 = .ok (.iaload, 1) := by decide +kernel
theorem d_Z_keep_104 : decode prog_12_method_32_code 104 = .ok (.iastore, 1) := by decide +kernel
theorem d_Z_keep_105 : decode prog_12_method_32_code 105 = .ok (.aload_n 0, 1) := by decide +kernel
theorem d_Z_keep_106 : decode prog_12_method_32_code 106 = .ok (.getfield 48, 3) := by decide +kernel
theorem d_Z_keep_109 : decode prog_12_method_32_code 109 = .ok (.aload_n 0, 1) := by decide +kernel
theorem d_Z_keep_110 : decode prog_12_method_32_code 110 = .ok (.getfield 218, 3) := by decide +kernel
theorem d_Z_keep_113 : decode prog_12_method_32_code 113 = .ok (.iload_n 2, 1) := by decide +kernel
theorem d_Z_keep_114 : decode prog_12_method_32_code 114 = .ok (.iastore, 1) := by decide +kernel
theorem d_Z_keep_115 : decode prog_12_method_32_code 115 = .ok (.aload_n 0, 1) := by decide +kernel
theorem d_Z_keep_116 : decode prog_12_method_32_code 116 = .ok (.getfield 51, 3) := by decide +kernel
theorem d_Z_keep_119 : decode prog_12_method_32_code 119 = .ok (.aload_n 0, 1) := by decide +kernel
theorem d_Z_keep_120 : decode prog_12_method_32_code 120 = .ok (.getfield 218, 3) := by decide +kernel
theorem d_Z_keep_123 : decode prog_12_method_32_code 123 = .ok (.aload_n 0, 1) := by decide +kernel
theorem d_Z_keep_124 : decode prog_12_method_32_code 124 = .ok (.getfield 66, 3) := by decide +kernel
theorem d_Z_keep_127 : decode prog_12_method_32_code 127 = .ok (.iload_n 1, 1) := by decide +kernel
theorem d_Z_keep_128 : decode prog_12_method_32_code 128 = .ok (.iaload, 1) := by decide +kernel
theorem d_Z_keep_129 : decode prog_12_method_32_code 129 = .ok (.iastore, 1) := by decide +kernel
theorem d_Z_keep_130 : decode prog_12_method_32_code 130 = .ok (.aload_n 0, 1) := by decide +kernel
theorem d_Z_keep_131 : decode prog_12_method_32_code 131 = .ok (.getfield 54, 3) := by decide +kernel
theorem d_Z_keep_134 : decode prog_12_method_32_code 134 = .ok (.aload_n 0, 1) := by decide +kernel
theorem d_Z_keep_135 : decode prog_12_method_32_code 135 = .ok (.getfield 218, 3) := by decide +kernel
theorem d_Z_keep_138 : decode prog_12_method_32_code 138 = .ok (.aload_n 0, 1) := by decide +kernel
theorem d_Z_keep_139 : decode prog_12_method_32_code 139 = .ok (.getfield 215, 3) := by decide +kernel
theorem d_Z_keep_142 : decode prog_12_method_32_code 142 = .ok (.iastore, 1) := by decide +kernel
theorem d_Z_keep_143 : decode prog_12_method_32_code 143 = .ok (.aload_n 0, 1) := by decide +kernel
theorem d_Z_keep_144 : decode prog_12_method_32_code 144 = .ok (.dup, 1) := by decide +kernel
theorem d_Z_keep_145 : decode prog_12_method_32_code 145 = .ok (.getfield 218, 3) := by decide +kernel
theorem d_Z_keep_148 : decode prog_12_method_32_code 148 = .ok (.iconst 1, 1) := by decide +kernel
theorem d_Z_keep_149 : decode prog_12_method_32_code 149 = .ok (.iadd, 1) := by decide +kernel
theorem d_Z_keep_150 : decode prog_12_method_32_code 150 = .ok (.putfield 218, 3) := by decide +kernel
theorem d_Z_keep_153 : decode prog_12_method_32_code 153 = .ok (.return_, 1) := by decide +kernel
def cd_Z_keep_0 : Nat → g_T := g_tab [(0, tr_ald 0 1), (1, tr_get 10 13 4), (4, tr_ald 0 5), (5, tr_get 10 32 8), (8, tr_ild 1 9), (9, tr_ial 10), (10, tr_ii (fun x y => x >>> (y &&& 31)) 11), (11, tr_cst (.int (1)) 12), (12, tr_ii (fun x y => x &&& y) 13), (13, tr_cst (.int (1)) 14), (14, tr_if2 (fun x y => ¬ x = y) 33 17), (17, tr_ald 0 18), (18, tr_get 10 14 21), (21, tr_ild 2 22), (22, tr_ii (fun x y => x >>> (y &&& 31)) 23), (23, tr_cst (.int (1)) 24)]
set_option maxRecDepth 100000 in
theorem ok_Z_keep_0 : ∀ pc, g_S (J_Z_keep) pc (cd_Z_keep_0 pc) := g_tab_ok <|
  List.forall_mem_cons.mpr ⟨so_aload_n d_Z_keep_0 rfl rfl,
  List.forall_mem_cons.mpr ⟨so_get d_Z_keep_1 (rfl : vwCl[10]? = some (R_Z, F_Z, 40)) (Nat.le_of_ble_eq_true rfl) i_Z w_4_111 rfl,
  List.forall_mem_cons.mpr ⟨so_aload_n d_Z_keep_4 rfl rfl,
  List.forall_mem_cons.mpr ⟨so_get d_Z_keep_5 (rfl : vwCl[10]? = some (R_Z, F_Z, 40)) (Nat.le_of_ble_eq_true rfl) i_Z w_4_130 rfl,
  List.forall_mem_cons.mpr ⟨so_iload_n d_Z_keep_8 rfl rfl,
  List.forall_mem_cons.mpr ⟨so_iaload d_Z_keep_9 rfl,
  List.forall_mem_cons.mpr ⟨so_ishr d_Z_keep_10 rfl,
  List.forall_mem_cons.mpr ⟨so_iconst (by decide) d_Z_keep_11 rfl,
  List.forall_mem_cons.mpr ⟨so_iand d_Z_keep_12 rfl,
  List.forall_mem_cons.mpr ⟨so_iconst (by decide) d_Z_keep_13 rfl,
  List.forall_mem_cons.mpr ⟨so_icmp_ne d_Z_keep_14 (by decide) rfl,
  List.forall_mem_cons.mpr ⟨so_aload_n d_Z_keep_17 rfl rfl,
  List.forall_mem_cons.mpr ⟨so_get d_Z_keep_18 (rfl : vwCl[10]? = some (R_Z, F_Z, 40)) (Nat.le_of_ble_eq_true rfl) i_Z w_4_112 rfl,
  List.forall_mem_cons.mpr ⟨so_iload_n d_Z_keep_21 rfl rfl,
  List.forall_mem_cons.mpr ⟨so_ishr d_Z_keep_22 rfl,
  List.forall_mem_cons.mpr ⟨so_iconst (by decide) d_Z_keep_23 rfl,
  fun _ h => absurd h List.not_mem_nil⟩⟩⟩⟩⟩⟩⟩⟩⟩⟩⟩⟩⟩⟩⟩⟩
def cd_Z_keep_1 : Nat → g_T := g_tab [(24, tr_ii (fun x y => x &&& y) 25), (25, tr_cst (.int (1)) 26), (26, tr_if2 (fun x y => ¬ x = y) 33 29), (29, tr_cst (.int (1)) 30), (30, tr_goto 34), (33, tr_cst (.int (0)) 34), (34, tr_ist 3 35), (35, tr_ild 3 36), (36, tr_if1 (fun x => x = 0) 49 39), (39, tr_ald 0 40), (40, tr_get 10 24 43), (43, tr_cst (.int (2000)) 46), (46, tr_if2 (fun x y => ¬ x = y) 60 49), (49, tr_ald 0 50), (50, tr_dup 51), (51, tr_get 10 25 54)]
set_option maxRecDepth 100000 in
theorem ok_Z_keep_1 : ∀ pc, g_S (J_Z_keep) pc (cd_Z_keep_1 pc) := g_tab_ok <|
  List.forall_mem_cons.mpr ⟨so_iand d_Z_keep_24 rfl,
  List.forall_mem_cons.mpr ⟨so_iconst (by decide) d_Z_keep_25 rfl,
  List.forall_mem_cons.mpr ⟨so_icmp_ne d_Z_keep_26 (by decide) rfl,
  List.forall_mem_cons.mpr ⟨so_iconst (by decide) d_Z_keep_29 rfl,
  List.forall_mem_cons.mpr ⟨so_goto d_Z_keep_30 (by decide),
  List.forall_mem_cons.mpr ⟨so_iconst (by decide) d_Z_keep_33 rfl,
  List.forall_mem_cons.mpr ⟨so_istore_n d_Z_keep_34 rfl (Nat.le_of_ble_eq_true rfl) rfl,
  List.forall_mem_cons.mpr ⟨so_iload_n d_Z_keep_35 rfl rfl,
  List.forall_mem_cons.mpr ⟨so_if_eq d_Z_keep_36 (by decide) rfl,
  List.forall_mem_cons.mpr ⟨so_aload_n d_Z_keep_39 rfl rfl,
  List.forall_mem_cons.mpr ⟨so_get d_Z_keep_40 (rfl : vwCl[10]? = some (R_Z, F_Z, 40)) (Nat.le_of_ble_eq_true rfl) i_Z w_4_122 rfl,
  List.forall_mem_cons.mpr ⟨so_sipush (by decide) d_Z_keep_43 rfl,
  List.forall_mem_cons.mpr ⟨so_icmp_ne d_Z_keep_46 (by decide) rfl,
  List.forall_mem_cons.mpr ⟨so_aload_n d_Z_keep_49 rfl rfl,
  List.forall_mem_cons.mpr ⟨so_dup d_Z_keep_50 rfl,
  List.forall_mem_cons.mpr ⟨so_get d_Z_keep_51 (rfl : vwCl[10]? = some (R_Z, F_Z, 40)) (Nat.le_of_ble_eq_true rfl) i_Z w_4_123 rfl,
  fun _ h => absurd h List.not_mem_nil⟩⟩⟩⟩⟩⟩⟩⟩⟩⟩⟩⟩⟩⟩⟩⟩
def cd_Z_keep_2 : Nat → g_T := g_tab [(54, tr_cst (.int (1)) 55), (55, tr_ii (fun x y => x + y) 56), (56, tr_put 10 25 (.int) 59), (59, tr_rv), (60, tr_ald 0 61), (61, tr_get 10 26 64), (64, tr_ald 0 65), (65, tr_get 10 24 68), (68, tr_ald 0 69), (69, tr_get 10 32 72), (72, tr_ild 1 73), (73, tr_ial 74), (74, tr_ias 75), (75, tr_ald 0 76), (76, tr_get 10 27 79), (79, tr_ald 0 80)]
set_option maxRecDepth 100000 in
theorem ok_Z_keep_2 : ∀ pc, g_S (J_Z_keep) pc (cd_Z_keep_2 pc) := g_tab_ok <|
  List.forall_mem_cons.mpr ⟨so_iconst (by decide) d_Z_keep_54 rfl,
  List.forall_mem_cons.mpr ⟨so_iadd d_Z_keep_55 rfl,
  List.forall_mem_cons.mpr ⟨so_put ft_Z d_Z_keep_56 (rfl : vwCl[10]? = some (R_Z, F_Z, 40)) (Nat.le_of_ble_eq_true rfl) i_Z w_4_123 tk_Z n_Z rfl rfl rfl,
  List.forall_mem_cons.mpr ⟨so_vret d_Z_keep_59 rfl,
  List.forall_mem_cons.mpr ⟨so_aload_n d_Z_keep_60 rfl rfl,
  List.forall_mem_cons.mpr ⟨so_get d_Z_keep_61 (rfl : vwCl[10]? = some (R_Z, F_Z, 40)) (Nat.le_of_ble_eq_true rfl) i_Z w_4_124 rfl,
  List.forall_mem_cons.mpr ⟨so_aload_n d_Z_keep_64 rfl rfl,
  List.forall_mem_cons.mpr ⟨so_get d_Z_keep_65 (rfl : vwCl[10]? = some (R_Z, F_Z, 40)) (Nat.le_of_ble_eq_true rfl) i_Z w_4_122 rfl,
  List.forall_mem_cons.mpr ⟨so_aload_n d_Z_keep_68 rfl rfl,
  List.forall_mem_cons.mpr ⟨so_get d_Z_keep_69 (rfl : vwCl[10]? = some (R_Z, F_Z, 40)) (Nat.le_of_ble_eq_true rfl) i_Z w_4_130 rfl,
  List.forall_mem_cons.mpr ⟨so_iload_n d_Z_keep_72 rfl rfl,
  List.forall_mem_cons.mpr ⟨so_iaload d_Z_keep_73 rfl,
  List.forall_mem_cons.mpr ⟨so_iastore d_Z_keep_74 rfl,
  List.forall_mem_cons.mpr ⟨so_aload_n d_Z_keep_75 rfl rfl,
  List.forall_mem_cons.mpr ⟨so_get d_Z_keep_76 (rfl : vwCl[10]? = some (R_Z, F_Z, 40)) (Nat.le_of_ble_eq_true rfl) i_Z w_4_125 rfl,
  List.forall_mem_cons.mpr ⟨so_aload_n d_Z_keep_79 rfl rfl,
  fun _ h => absurd h List.not_mem_nil⟩⟩⟩⟩⟩⟩⟩⟩⟩⟩⟩⟩⟩⟩⟩⟩
def cd_Z_keep_3 : Nat → g_T := g_tab [(80, tr_get 10 24 83), (83, tr_ald 0 84), (84, tr_get 10 33 87), (87, tr_ild 1 88), (88, tr_ial 89), (89, tr_ias 90), (90, tr_ald 0 91), (91, tr_get 10 28 94), (94, tr_ald 0 95), (95, tr_get 10 24 98), (98, tr_ald 0 99), (99, tr_get 10 34 102), (102, tr_ild 1 103), (103, tr_ial 104), (104, tr_ias 105), (105, tr_ald 0 106)]
set_option maxRecDepth 100000 in
theorem ok_Z_keep_3 : ∀ pc, g_S (J_Z_keep) pc (cd_Z_keep_3 pc) := g_tab_ok <|
  List.forall_mem_cons.mpr ⟨so_get d_Z_keep_80 (rfl : vwCl[10]? = some (R_Z, F_Z, 40)) (Nat.le_of_ble_eq_true rfl) i_Z w_4_122 rfl,
  List.forall_mem_cons.mpr ⟨so_aload_n d_Z_keep_83 rfl rfl,
  List.forall_mem_cons.mpr ⟨so_get d_Z_keep_84 (rfl : vwCl[10]? = some (R_Z, F_Z, 40)) (Nat.le_of_ble_eq_true rfl) i_Z w_4_131 rfl,
  List.forall_mem_cons.mpr ⟨so_iload_n d_Z_keep_87 rfl rfl,
  List.forall_mem_cons.mpr ⟨so_iaload d_Z_keep_88 rfl,
  List.forall_mem_cons.mpr ⟨so_iastore d_Z_keep_89 rfl,
  List.forall_mem_cons.mpr ⟨so_aload_n d_Z_keep_90 rfl rfl,
  List.forall_mem_cons.mpr ⟨so_get d_Z_keep_91 (rfl : vwCl[10]? = some (R_Z, F_Z, 40)) (Nat.le_of_ble_eq_true rfl) i_Z w_4_126 rfl,
  List.forall_mem_cons.mpr ⟨so_aload_n d_Z_keep_94 rfl rfl,
  List.forall_mem_cons.mpr ⟨so_get d_Z_keep_95 (rfl : vwCl[10]? = some (R_Z, F_Z, 40)) (Nat.le_of_ble_eq_true rfl) i_Z w_4_122 rfl,
  List.forall_mem_cons.mpr ⟨so_aload_n d_Z_keep_98 rfl rfl,
  List.forall_mem_cons.mpr ⟨so_get d_Z_keep_99 (rfl : vwCl[10]? = some (R_Z, F_Z, 40)) (Nat.le_of_ble_eq_true rfl) i_Z w_4_132 rfl,
  List.forall_mem_cons.mpr ⟨so_iload_n d_Z_keep_102 rfl rfl,
  List.forall_mem_cons.mpr ⟨so_iaload d_Z_keep_103 rfl,
  List.forall_mem_cons.mpr ⟨so_iastore d_Z_keep_104 rfl,
  List.forall_mem_cons.mpr ⟨so_aload_n d_Z_keep_105 rfl rfl,
  fun _ h => absurd h List.not_mem_nil⟩⟩⟩⟩⟩⟩⟩⟩⟩⟩⟩⟩⟩⟩⟩⟩
def cd_Z_keep_4 : Nat → g_T := g_tab [(106, tr_get 10 29 109), (109, tr_ald 0 110), (110, tr_get 10 24 113), (113, tr_ild 2 114), (114, tr_ias 115), (115, tr_ald 0 116), (116, tr_get 10 30 119), (119, tr_ald 0 120), (120, tr_get 10 24 123), (123, tr_ald 0 124), (124, tr_get 10 35 127), (127, tr_ild 1 128), (128, tr_ial 129), (129, tr_ias 130), (130, tr_ald 0 131), (131, tr_get 10 31 134)]
set_option maxRecDepth 100000 in
theorem ok_Z_keep_4 : ∀ pc, g_S (J_Z_keep) pc (cd_Z_keep_4 pc) := g_tab_ok <|
  List.forall_mem_cons.mpr ⟨so_get d_Z_keep_106 (rfl : vwCl[10]? = some (R_Z, F_Z, 40)) (Nat.le_of_ble_eq_true rfl) i_Z w_4_127 rfl,
  List.forall_mem_cons.mpr ⟨so_aload_n d_Z_keep_109 rfl rfl,
  List.forall_mem_cons.mpr ⟨so_get d_Z_keep_110 (rfl : vwCl[10]? = some (R_Z, F_Z, 40)) (Nat.le_of_ble_eq_true rfl) i_Z w_4_122 rfl,
  List.forall_mem_cons.mpr ⟨so_iload_n d_Z_keep_113 rfl rfl,
  List.forall_mem_cons.mpr ⟨so_iastore d_Z_keep_114 rfl,
  List.forall_mem_cons.mpr ⟨so_aload_n d_Z_keep_115 rfl rfl,
  List.forall_mem_cons.mpr ⟨so_get d_Z_keep_116 (rfl : vwCl[10]? = some (R_Z, F_Z, 40)) (Nat.le_of_ble_eq_true rfl) i_Z w_4_128 rfl,
  List.forall_mem_cons.mpr ⟨so_aload_n d_Z_keep_119 rfl rfl,
  List.forall_mem_cons.mpr ⟨so_get d_Z_keep_120 (rfl : vwCl[10]? = some (R_Z, F_Z, 40)) (Nat.le_of_ble_eq_true rfl) i_Z w_4_122 rfl,
  List.forall_mem_cons.mpr ⟨so_aload_n d_Z_keep_123 rfl rfl,
  List.forall_mem_cons.mpr ⟨so_get d_Z_keep_124 (rfl : vwCl[10]? = some (R_Z, F_Z, 40)) (Nat.le_of_ble_eq_true rfl) i_Z w_4_133 rfl,
  List.forall_mem_cons.mpr ⟨so_iload_n d_Z_keep_127 rfl rfl,
  List.forall_mem_cons.mpr ⟨so_iaload d_Z_keep_128 rfl,
  List.forall_mem_cons.mpr ⟨so_iastore d_Z_keep_129 rfl,
  List.forall_mem_cons.mpr ⟨so_aload_n d_Z_keep_130 rfl rfl,
  List.forall_mem_cons.mpr ⟨so_get d_Z_keep_131 (rfl : vwCl[10]? = some (R_Z, F_Z, 40)) (Nat.le_of_ble_eq_true rfl) i_Z w_4_129 rfl,
  fun _ h => absurd h List.not_mem_nil⟩⟩⟩⟩⟩⟩⟩⟩⟩⟩⟩⟩⟩⟩⟩⟩
def cd_Z_keep_5 : Nat → g_T := g_tab [(134, tr_ald 0 135), (135, tr_get 10 24 138), (138, tr_ald 0 139), (139, tr_get 10 22 142), (142, tr_ias 143), (143, tr_ald 0 144), (144, tr_dup 145), (145, tr_get 10 24 148), (148, tr_cst (.int (1)) 149), (149, tr_ii (fun x y => x + y) 150), (150, tr_put 10 24 (.int) 153), (153, tr_rv)]
set_option maxRecDepth 100000 in
theorem ok_Z_keep_5 : ∀ pc, g_S (J_Z_keep) pc (cd_Z_keep_5 pc) := g_tab_ok <|
  List.forall_mem_cons.mpr ⟨so_aload_n d_Z_keep_134 rfl rfl,
  List.forall_mem_cons.mpr ⟨so_get d_Z_keep_135 (rfl : vwCl[10]? = some (R_Z, F_Z, 40)) (Nat.le_of_ble_eq_true rfl) i_Z w_4_122 rfl,
  List.forall_mem_cons.mpr ⟨so_aload_n d_Z_keep_138 rfl rfl,
  List.forall_mem_cons.mpr ⟨so_get d_Z_keep_139 (rfl : vwCl[10]? = some (R_Z, F_Z, 40)) (Nat.le_of_ble_eq_true rfl) i_Z w_4_120 rfl,
  List.forall_mem_cons.mpr ⟨so_iastore d_Z_keep_142 rfl,
  List.forall_mem_cons.mpr ⟨so_aload_n d_Z_keep_143 rfl rfl,
  List.forall_mem_cons.mpr ⟨so_dup d_Z_keep_144 rfl,
  List.forall_mem_cons.mpr ⟨so_get d_Z_keep_145 (rfl : vwCl[10]? = some (R_Z, F_Z, 40)) (Nat.le_of_ble_eq_true rfl) i_Z w_4_122 rfl,
  List.forall_mem_cons.mpr ⟨so_iconst (by decide) d_Z_keep_148 rfl,
  List.forall_mem_cons.mpr ⟨so_iadd d_Z_keep_149 rfl,
  List.forall_mem_cons.mpr ⟨so_put ft_Z d_Z_keep_150 (rfl : vwCl[10]? = some (R_Z, F_Z, 40)) (Nat.le_of_ble_eq_true rfl) i_Z w_4_122 tk_Z n_Z rfl rfl rfl,
  List.forall_mem_cons.mpr ⟨so_vret d_Z_keep_153 rfl,
  fun _ h => absurd h List.not_mem_nil⟩⟩⟩⟩⟩⟩⟩⟩⟩⟩⟩⟩
def cd_Z_keep : Nat → g_T := g_chk [(23, cd_Z_keep_0), (51, cd_Z_keep_1), (79, cd_Z_keep_2), (105, cd_Z_keep_3), (131, cd_Z_keep_4), (153, cd_Z_keep_5)]
theorem ok_Z_keep : ∀ pc, g_S (J_Z_keep) pc (cd_Z_keep pc) := g_chk_ok <|
  List.forall_mem_cons.mpr ⟨ok_Z_keep_0,
  List.forall_mem_cons.mpr ⟨ok_Z_keep_1,
  List.forall_mem_cons.mpr ⟨ok_Z_keep_2,
  List.forall_mem_cons.mpr ⟨ok_Z_keep_3,
  List.forall_mem_cons.mpr ⟨ok_Z_keep_4,
  List.forall_mem_cons.mpr ⟨ok_Z_keep_5,
  fun _ h => absurd h List.not_mem_nil⟩⟩⟩⟩⟩⟩
abbrev J_Z_block : g_J := (y_Z_block, prog_12_method_31_code, 7, none, (4, 98), [], none)
theorem d_Z_block_0 : decode prog_12_method_31_code 0 = .ok (.aload_n 0, 1) := by decide +kernel
theorem d_Z_block_1 : decode prog_12_method_31_code 1 = .ok (.aload_n 0, 1) := by decide +kernel
theorem d_Z_block_2 : decode prog_12_method_31_code 2 = .ok (.iload_n 1, 1) := by decide +kernel
theorem d_Z_block_3 : decode prog_12_method_31_code 3 = .ok (.iload_n 2, 1) := by decide +kernel
theorem d_Z_block_4 : decode prog_12_method_31_code 4 = .ok (.invokevirtual 199, 3) := by decide +kernel
theorem d_Z_block_7 : decode prog_12_method_31_code 7 = .ok (.ifCond .eq 16, 3) := by decide +kernel
theorem d_Z_block_10 : decode prog_12_method_31_code 10 = .ok (.aload_n 0, 1) := by decide +kernel
theorem d_Z_block_11 : decode prog_12_method_31_code 11 = .ok (.getfield 85, 3) := by decide +kernel
theorem d_Z_block_14 : decode prog_12_method_31_code 14 = .ok (.bipush 9, 2) := by decide +kernel
theorem d_Z_block_16 : decode prog_12_method_31_code 16 = .ok (.if_icmp .lt 7, 3) := by decide +kernel
theorem d_Z_block_19 : decode prog_12_method_31_code 19 = .ok (.iconst 1, 1) := by decide +kernel
theorem d_Z_block_20 : decode prog_12_method_31_code 20 = .ok (.goto 4, 3) := by decide +kernel
theorem d_Z_block_23 : decode prog_12_method_31_code 23 = .ok (.iconst 0, 1) := by decide +kernel
theorem d_Z_block_24 : decode prog_12_method_31_code 24 = .ok (.putfield 172, 3) := by decide +kernel
theorem d_Z_block_27 : decode prog_12_method_31_code 27 = .ok (.iconst 0, 1) := by decide +kernel
theorem d_Z_block_28 : decode prog_12_method_31_code 28 = .ok (.istore_n 3, 1) := by decide +kernel
theorem d_Z_block_29 : decode prog_12_method_31_code 29 = .ok (.iconst 0, 1) := by decide +kernel
theorem d_Z_block_30 : decode prog_12_method_31_code 30 = .ok (.istore 4, 2) := by decide +kernel
theorem d_Z_block_32 : decode prog_12_method_31_code 32 = .ok (.iconst 0, 1) := by decide +kernel
theorem d_Z_block_33 : decode prog_12_method_31_code 33 = .ok (.istore 5, 2) := by decide +kernel
theorem d_Z_block_35 : decode prog_12_method_31_code 35 = .ok (.aload_n 0, 1) := by decide +kernel
theorem d_Z_block_36 : decode prog_12_method_31_code 36 = .ok (.getfield 172, 3) := by decide +kernel
theorem d_Z_block_39 : decode prog_12_method_31_code 39 = .ok (.ifCond .eq 129, 3) := by decide +kernel
theorem d_Z_block_42 : decode prog_12_method_31_code 42 = .ok (.aload_n 0, 1) := by decide +kernel
theorem d_Z_block_43 : decode prog_12_method_31_code 43 = .ok (.aload_n 0, 1) := by decide +kernel
theorem d_Z_block_44 : decode prog_12_method_31_code 44 = .ok (.getfield 85, 3) := by decide +kernel
theorem d_Z_block_47 : decode prog_12_method_31_code 47 = .ok (.iconst 2, 1) := by decide +kernel
theorem d_Z_block_48 : decode prog_12_method_31_code 48 = .ok (.isub, 1) := by decide +kernel
theorem d_Z_block_49 : decode prog_12_method_31_code 49 = .ok (.invokevirtual 132, 3) := by decide +kernel
theorem d_Z_block_52 : decode prog_12_method_31_code 52 = .ok (.aload_n 0, 1) := by decide +kernel
theorem d_Z_block_53 : decode prog_12_method_31_code 53 = .ok (.aload_n 0, 1) := by decide +kernel
theorem d_Z_block_54 : decode prog_12_method_31_code 54 = .ok (.getfield 33, 3) := by decide +kernel
theorem d_Z_block_57 : decode prog_12_method_31_code 57 = .ok (.aload_n 0, 1) := by decide +kernel
theorem d_Z_block_58 : decode prog_12_method_31_code 58 = .ok (.getfield 85, 3) := by decide +kernel
theorem d_Z_block_61 : decode prog_12_method_31_code 61 = .ok (.iconst 2, 1) := by decide +kernel
theorem d_Z_block_62 : decode prog_12_method_31_code 62 = .ok (.isub, 1) := by decide +kernel
theorem d_Z_block_63 : decode prog_12_method_31_code 63 = .ok (.iaload, 1) := by decide +kernel
theorem d_Z_block_64 : decode prog_12_method_31_code 64 = .ok (.aload_n 0, 1) := by decide +kernel
theorem d_Z_block_65 : decode prog_12_method_31_code 65 = .ok (.getfield 120, 3) := by decide +kernel
theorem d_Z_block_68 : decode prog_12_method_31_code 68 = .ok (.if_icmp .ne 25, 3) := by decide +kernel
theorem d_Z_block_71 : decode prog_12_method_31_code 71 = .ok (.aload_n 0, 1) := by decide +kernel
theorem d_Z_block_72 : decode prog_12_method_31_code 72 = .ok (.getfield 33, 3) := by decide +kernel
theorem d_Z_block_75 : decode prog_12_method_31_code 75 = .ok (.aload_n 0, 1) := by decide +kernel
theorem d_Z_block_76 : decode prog_12_method_31_code 76 = .ok (.getfield 85, 3) := by decide +kernel
theorem d_Z_block_79 : decode prog_12_method_31_code 79 = .ok (.iconst 1, 1) := by decide +kernel
theorem d_Z_block_80 : decode prog_12_method_31_code 80 = .ok (.isub, 1) := by decide +kernel
theorem d_Z_block_81 : decode prog_12_method_31_code 81 = .ok (.iaload, 1) := by decide +kernel
theorem d_Z_block_82 : decode prog_12_method_31_code 82 = .ok (.aload_n 0, 1) := by decide +kernel
theorem d_Z_block_83 : decode prog_12_method_31_code 83 = .ok (.getfield 123, 3) := by decide +kernel
theorem d_Z_block_86 : decode prog_12_method_31_code 86 = .ok (.if_icmp .ne 7, 3) := by decide +kernel
theorem d_Z_block_89 : decode prog_12_method_31_code 89 = .ok (.iconst 1, 1) := by decide +kernel
theorem d_Z_block_90 : decode prog_12_method_31_code 90 = .ok (.goto 4, 3) := by decide +kernel
theorem d_Z_block_93 : decode prog_12_method_31_code 93 = .ok (.iconst 0, 1) := by decide +kernel
theorem d_Z_block_94 : decode prog_12_method_31_code 94 = .ok (.putfield 172, 3) := by decide +kernel
theorem d_Z_block_97 : decode prog_12_method_31_code 97 = .ok (.aload_n 0, 1) := by decide +kernel
theorem d_Z_block_98 : decode prog_12_method_31_code 98 = .ok (.iconst 0, 1) := by decide +kernel
theorem d_Z_block_99 : decode prog_12_method_31_code 99 = .ok (.putfield 166, 3) := by decide +kernel
theorem d_Z_block_102 : decode prog_12_method_31_code 102 = .ok (.aload_n 0, 1) := by decide +kernel
theorem d_Z_block_103 : decode prog_12_method_31_code 103 = .ok (.aload_n 0, 1) := by decide +kernel
theorem d_Z_block_104 : decode prog_12_method_31_code 104 = .ok (.getfield 85, 3) := by decide +kernel
theorem d_Z_block_107 : decode prog_12_method_31_code 107 = .ok (.iconst 2, 1) := by decide +kernel
theorem d_Z_block_108 : decode prog_12_method_31_code 108 = .ok (.isub, 1) := by decide +kernel
theorem d_Z_block_109 : decode prog_12_method_31_code 109 = .ok (.putfield 169, 3) := by decide +kernel
theorem d_Z_block_112 : decode prog_12_method_31_code 112 = .ok (.aload_n 0, 1) := by decide +kernel
theorem d_Z_block_113 : decode prog_12_method_31_code 113 = .ok (.invokevirtual 176, 3) := by decide +kernel
theorem d_Z_block_116 : decode prog_12_method_31_code 116 = .ok (.istore 5, 2) := by decide +kernel
theorem d_Z_block_118 : decode prog_12_method_31_code 118 = .ok (.aload_n 0, 1) := by decide +kernel
theorem d_Z_block_119 : decode prog_12_method_31_code 119 = .ok (.invokevirtual 194, 3) := by decide +kernel
theorem d_Z_block_122 : decode prog_12_method_31_code 122 = .ok (.istore_n 3, 1) := by decide +kernel
theorem d_Z_block_123 : decode prog_12_method_31_code 123 = .ok (.aload_n 0, 1) := by decide +kernel
theorem d_Z_block_124 : decode prog_12_method_31_code 124 = .ok (.invokevirtual 176, 3) := by decide +kernel
theorem d_Z_block_127 : decode prog_12_method_31_code 127 = .ok (.istore 4, 2) := by decide +kernel
theorem d_Z_block_129 : decode prog_12_method_31_code 129 = .ok (.aload_n 0, 1) := by decide +kernel
theorem d_Z_block_130 : decode prog_12_method_31_code 130 = .ok (.aload_n 0, 1) := by decide +kernel
theorem d_Z_block_131 : decode prog_12_method_31_code 131 = .ok (.getfield 172, 3) := by decide +kernel
theorem d_Z_block_134 : decode prog_12_method_31_code 134 = .ok (.ifCond .eq 30, 3) := by decide +kernel
theorem d_Z_block_137 : decode prog_12_method_31_code 137 = .ok (.iload 5, 2) := by decide +kernel
theorem d_Z_block_139 : decode prog_12_method_31_code 139 = .ok (.iconst 4, 1) := by decide +kernel
theorem d_Z_block_140 : decode prog_12_method_31_code 140 = .ok (.if_icmp .ge 24, 3) := by decide +kernel
theorem d_Z_block_143 : decode prog_12_method_31_code 143 = .ok (.iload_n 3, 1) := by decide +kernel
theorem d_Z_block_144 : decode prog_12_method_31_code 144 = .ok (.ifCond .lt 20, 3) := by decide +kernel
theorem d_Z_block_147 : decode prog_12_method_31_code 147 = .ok (.iload 4, 2) := by decide +kernel
theorem d_Z_block_149 : decode prog_12_method_31_code 149 = .ok (.i2l, 1) := by decide +kernel
theorem d_Z_block_150 : decode prog_12_method_31_code 150 = .ok (.lconst 1, 1) := by decide +kernel
theorem d_Z_block_151 : decode prog_12_method_31_code 151 = .ok (.ldc2_w 203, 3) := by decide +kernel
theorem d_Z_block_154 : decode prog_12_method_31_code 154 = .ok (.invokestatic 74, 3) := by decide +kernel
theorem d_Z_block_157 : decode prog_12_method_31_code 157 = .ok (.ifCond .eq 7, 3) := by decide +kernel
theorem d_Z_block_160 : decode prog_12_method_31_code 160 = .ok (.iconst 1, 1) := by decide +kernel
theorem d_Z_block_161 : decode prog_12_method_31_code 161 = .ok (.goto 4, 3) := by decide +kernel
theorem d_Z_block_164 : decode prog_12_method_31_code 164 = .ok (.iconst 0, 1) := by decide +kernel
theorem d_Z_block_165 : decode prog_12_method_31_code 165 = .ok (.putfield 172, 3) := by decide +kernel
theorem d_Z_block_168 : decode prog_12_method_31_code 168 = .ok (.aload_n 0, 1) := by decide +kernel
theorem d_Z_block_169 : decode prog_12_method_31_code 169 = .ok (.getfield 172, 3) := by decide +kernel
theorem d_Z_block_172 : decode prog_12_method_31_code 172 = .ok (.ifCond .eq 8, 3) := by decide +kernel
theorem d_Z_block_175 : decode prog_12_method_31_code 175 = .ok (.aload_n 0, 1) := by decide +kernel
theorem d_Z_block_176 : decode prog_12_method_31_code 176 = .ok (.iload_n 3, 1) := by decide +kernel
theorem d_Z_block_177 : decode prog_12_method_31_code 177 = .ok (.invokevirtual 205, 3) := by decide +kernel
theorem d_Z_block_180 : decode prog_12_method_31_code 180 = .ok (.aload_n 0, 1) := by decide +kernel
theorem d_Z_block_181 : decode prog_12_method_31_code 181 = .ok (.getfield 172, 3) := by decide +kernel
theorem d_Z_block_184 : decode prog_12_method_31_code 184 = .ok (.ifCond .eq 12, 3) := by decide +kernel
theorem d_Z_block_187 : decode prog_12_method_31_code 187 = .ok (.aload_n 0, 1) := by decide +kernel
theorem d_Z_block_188 : decode prog_12_method_31_code 188 = .ok (.getfield 184, 3) := by decide +kernel
theorem d_Z_block_191 : decode prog_12_method_31_code 191 = .ok (.iload 4, 2) := by decide +kernel
theorem d_Z_block_193 : decode prog_12_method_31_code 193 = .ok (.if_icmp .eq 14, 3) := by decide +kernel
theorem d_Z_block_196 : decode prog_12_method_31_code 196 = .ok (.aload_n 0, 1) := by decide +kernel
theorem d_Z_block_197 : decode prog_12_method_31_code 197 = .ok (.dup, 1) := by decide +kernel
theorem d_Z_block_198 : decode prog_12_method_31_code 198 = .ok (.getfield 208, 3) := by decide +kernel
theorem d_Z_block_201 : decode prog_12_method_31_code 201 = .ok (.iconst 1, 1) := by decide +kernel
theorem d_Z_block_202 : decode prog_12_method_31_code 202 = .ok (.iadd, 1) := by decide +kernel
theorem d_Z_block_203 : decode prog_12_method_31_code 203 = .ok (.putfield 208, 3) := by decide +kernel
theorem d_Z_block_206 : decode prog_12_method_31_code 206 = .ok (.return_, 1) := by decide +kernel
theorem d_Z_block_207 : decode prog_12_method_31_code 207 = .ok (.iconst 0, 1) := by decide +kernel
theorem d_Z_block_208 : decode prog_12_method_31_code 208 = .ok (.istore 6, 2) := by decide +kernel
theorem d_Z_block_210 : decode prog_12_method_31_code 210 = .ok (.iload 6, 2) := by decide +kernel
theorem d_Z_block_212 : decode prog_12_method_31_code 212 = .ok (.aload_n 0, 1) := by decide +kernel
theorem d_Z_block_213 : decode prog_12_method_31_code 213 = .ok (.getfield 184, 3) := by decide +kernel
theorem d_Z_block_216 : decode prog_12_method_31_code 216 = .ok (.if_icmp .ge 17, 3) := by decide +kernel
theorem d_Z_block_219 : decode prog_12_method_31_code 219 = .ok (.aload_n 0, 1) := by decide +kernel
theorem d_Z_block_220 : decode prog_12_method_31_code 220 = .ok (.iload 6, 2) := by decide +kernel
theorem d_Z_block_222 : decode prog_12_method_31_code 222 = .ok (.iload 5, 2) := by decide +kernel
theorem d_Z_block_224 : decode prog_12_method_31_code 224 = .ok (.invokevirtual 211, 3) := by decide +kernel
theorem d_Z_block_227 : decode prog_12_method_31_code 227 = .ok (.iinc 6 1, 3) := by decide +kernel
theorem d_Z_block_230 : decode prog_12_method_31_code 230 = .ok (.goto (-20), 3) := by decide +kernel
theorem d_Z_block_233 : decode prog_12_method_31_code 233 = .ok (.aload_n 0, 1) := by decide +kernel
theorem d_Z_block_234 : decode prog_12_method_31_code 234 = .ok (.dup, 1) := by decide +kernel
theorem d_Z_block_235 : decode prog_12_method_31_code 235 = .ok (.getfield 215, 3) := by decide +kernel
theorem d_Z_block_238 : decode prog_12_method_31_code 238 = .ok (.iconst 1, 1) := by decide +kernel
theorem d_Z_block_239 : decode prog_12_method_31_code 239 = .ok (.iadd, 1) := by decide +kernel
theorem d_Z_block_240 : decode prog_12_method_31_code 240 = .ok (.putfield 215, 3) := by decide +kernel
theorem d_Z_block_243 : decode prog_12_method_31_code 243 = .ok (.return_, 1) := by decide +kernel
def cd_Z_block_0 : Nat → g_T := g_tab [(0, tr_ald 0 1), (1, tr_ald 0 2), (2, tr_ild 1 3), (3, tr_ild 2 4), (4, tr_cV J_Z_unshield 10 2 7), (7, tr_if1 (fun x => x = 0) 23 10), (10, tr_ald 0 11), (11, tr_get 10 15 14), (14, tr_cst (.int (9)) 16), (16, tr_if2 (fun x y => x < y) 23 19), (19, tr_cst (.int (1)) 20), (20, tr_goto 24), (23, tr_cst (.int (0)) 24), (24, tr_put 10 39 (.boolean) 27), (27, tr_cst (.int (0)) 28), (28, tr_ist 3 29)]
set_option maxRecDepth 100000 in
theorem ok_Z_block_0 : ∀ pc, g_S (J_Z_block) pc (cd_Z_block_0 pc) := g_tab_ok <|
  List.forall_mem_cons.mpr ⟨so_aload_n d_Z_block_0 rfl rfl,
  List.forall_mem_cons.mpr ⟨so_aload_n d_Z_block_1 rfl rfl,
  List.forall_mem_cons.mpr ⟨so_iload_n d_Z_block_2 rfl rfl,
  List.forall_mem_cons.mpr ⟨so_iload_n d_Z_block_3 rfl rfl,
  List.forall_mem_cons.mpr ⟨so_cV g_good d_Z_block_4 ⟨w_5_84, (Nat.le_of_ble_eq_true rfl), (Nat.le_of_ble_eq_true rfl), w_1_12, ⟨by decide, by decide⟩, by decide +kernel⟩ (rfl : vwCl[10]? = some (R_Z, F_Z, 40)) w_5_81 w_5_83 w_p39 rfl,
  List.forall_mem_cons.mpr ⟨so_if_eq d_Z_block_7 (by decide) rfl,
  List.forall_mem_cons.mpr ⟨so_aload_n d_Z_block_10 rfl rfl,
  List.forall_mem_cons.mpr ⟨so_get d_Z_block_11 (rfl : vwCl[10]? = some (R_Z, F_Z, 40)) (Nat.le_of_ble_eq_true rfl) i_Z w_4_113 rfl,
  List.forall_mem_cons.mpr ⟨so_bipush (by decide) d_Z_block_14 rfl,
  List.forall_mem_cons.mpr ⟨so_icmp_lt d_Z_block_16 (by decide) rfl,
  List.forall_mem_cons.mpr ⟨so_iconst (by decide) d_Z_block_19 rfl,
  List.forall_mem_cons.mpr ⟨so_goto d_Z_block_20 (by decide),
  List.forall_mem_cons.mpr ⟨so_iconst (by decide) d_Z_block_23 rfl,
  List.forall_mem_cons.mpr ⟨so_put ft_Z d_Z_block_24 (rfl : vwCl[10]? = some (R_Z, F_Z, 40)) (Nat.le_of_ble_eq_true rfl) i_Z w_4_137 tk_Z n_Z rfl rfl rfl,
  List.forall_mem_cons.mpr ⟨so_iconst (by decide) d_Z_block_27 rfl,
  List.forall_mem_cons.mpr ⟨so_istore_n d_Z_block_28 rfl (Nat.le_of_ble_eq_true rfl) rfl,
  fun _ h => absurd h List.not_mem_nil⟩⟩⟩⟩⟩⟩⟩⟩⟩⟩⟩⟩⟩⟩⟩⟩
def cd_Z_block_1 : Nat → g_T := g_tab [(29, tr_cst (.int (0)) 30), (30, tr_ist 4 32), (32, tr_cst (.int (0)) 33), (33, tr_ist 5 35), (35, tr_ald 0 36), (36, tr_get 10 39 39), (39, tr_if1 (fun x => x = 0) 168 42), (42, tr_ald 0 43), (43, tr_ald 0 44), (44, tr_get 10 15 47), (47, tr_cst (.int (2)) 48), (48, tr_ii (fun x y => x - y) 49), (49, tr_cV J_Z_sumUp 10 1 52), (52, tr_ald 0 53), (53, tr_ald 0 54), (54, tr_get 10 16 57)]
set_option maxRecDepth 100000 in
theorem ok_Z_block_1 : ∀ pc, g_S (J_Z_block) pc (cd_Z_block_1 pc) := g_tab_ok <|
  List.forall_mem_cons.mpr ⟨so_iconst (by decide) d_Z_block_29 rfl,
  List.forall_mem_cons.mpr ⟨so_istore d_Z_block_30 (Nat.le_of_ble_eq_true rfl) rfl,
  List.forall_mem_cons.mpr ⟨so_iconst (by decide) d_Z_block_32 rfl,
  List.forall_mem_cons.mpr ⟨so_istore d_Z_block_33 (Nat.le_of_ble_eq_true rfl) rfl,
  List.forall_mem_cons.mpr ⟨so_aload_n d_Z_block_35 rfl rfl,
  List.forall_mem_cons.mpr ⟨so_get d_Z_block_36 (rfl : vwCl[10]? = some (R_Z, F_Z, 40)) (Nat.le_of_ble_eq_true rfl) i_Z w_4_137 rfl,
  List.forall_mem_cons.mpr ⟨so_if_eq d_Z_block_39 (by decide) rfl,
  List.forall_mem_cons.mpr ⟨so_aload_n d_Z_block_42 rfl rfl,
  List.forall_mem_cons.mpr ⟨so_aload_n d_Z_block_43 rfl rfl,
  List.forall_mem_cons.mpr ⟨so_get d_Z_block_44 (rfl : vwCl[10]? = some (R_Z, F_Z, 40)) (Nat.le_of_ble_eq_true rfl) i_Z w_4_113 rfl,
  List.forall_mem_cons.mpr ⟨so_iconst (by decide) d_Z_block_47 rfl,
  List.forall_mem_cons.mpr ⟨so_isub d_Z_block_48 rfl,
  List.forall_mem_cons.mpr ⟨so_cV g_good d_Z_block_49 ⟨w_5_38, (Nat.le_of_ble_eq_true rfl), (Nat.le_of_ble_eq_true rfl), w_1_12, ⟨by decide, by decide⟩, by decide +kernel⟩ (rfl : vwCl[10]? = some (R_Z, F_Z, 40)) w_5_35 w_5_37 w_p36 rfl,
  List.forall_mem_cons.mpr ⟨so_aload_n d_Z_block_52 rfl rfl,
  List.forall_mem_cons.mpr ⟨so_aload_n d_Z_block_53 rfl rfl,
  List.forall_mem_cons.mpr ⟨so_get d_Z_block_54 (rfl : vwCl[10]? = some (R_Z, F_Z, 40)) (Nat.le_of_ble_eq_true rfl) i_Z w_4_114 rfl,
  fun _ h => absurd h List.not_mem_nil⟩⟩⟩⟩⟩⟩⟩⟩⟩⟩⟩⟩⟩⟩⟩⟩
def cd_Z_block_2 : Nat → g_T := g_tab [(57, tr_ald 0 58), (58, tr_get 10 15 61), (61, tr_cst (.int (2)) 62), (62, tr_ii (fun x y => x - y) 63), (63, tr_ial 64), (64, tr_ald 0 65), (65, tr_get 10 17 68), (68, tr_if2 (fun x y => ¬ x = y) 93 71), (71, tr_ald 0 72), (72, tr_get 10 16 75), (75, tr_ald 0 76), (76, tr_get 10 15 79), (79, tr_cst (.int (1)) 80), (80, tr_ii (fun x y => x - y) 81), (81, tr_ial 82), (82, tr_ald 0 83)]
set_option maxRecDepth 100000 in
theorem ok_Z_block_2 : ∀ pc, g_S (J_Z_block) pc (cd_Z_block_2 pc) := g_tab_ok <|
  List.forall_mem_cons.mpr ⟨so_aload_n d_Z_block_57 rfl rfl,
  List.forall_mem_cons.mpr ⟨so_get d_Z_block_58 (rfl : vwCl[10]? = some (R_Z, F_Z, 40)) (Nat.le_of_ble_eq_true rfl) i_Z w_4_113 rfl,
  List.forall_mem_cons.mpr ⟨so_iconst (by decide) d_Z_block_61 rfl,
  List.forall_mem_cons.mpr ⟨so_isub d_Z_block_62 rfl,
  List.forall_mem_cons.mpr ⟨so_iaload d_Z_block_63 rfl,
  List.forall_mem_cons.mpr ⟨so_aload_n d_Z_block_64 rfl rfl,
  List.forall_mem_cons.mpr ⟨so_get d_Z_block_65 (rfl : vwCl[10]? = some (R_Z, F_Z, 40)) (Nat.le_of_ble_eq_true rfl) i_Z w_4_115 rfl,
  List.forall_mem_cons.mpr ⟨so_icmp_ne d_Z_block_68 (by decide) rfl,
  List.forall_mem_cons.mpr ⟨so_aload_n d_Z_block_71 rfl rfl,
  List.forall_mem_cons.mpr ⟨so_get d_Z_block_72 (rfl : vwCl[10]? = some (R_Z, F_Z, 40)) (Nat.le_of_ble_eq_true rfl) i_Z w_4_114 rfl,
  List.forall_mem_cons.mpr ⟨so_aload_n d_Z_block_75 rfl rfl,
  List.forall_mem_cons.mpr ⟨so_get d_Z_block_76 (rfl : vwCl[10]? = some (R_Z, F_Z, 40)) (Nat.le_of_ble_eq_true rfl) i_Z w_4_113 rfl,
  List.forall_mem_cons.mpr ⟨so_iconst (by decide) d_Z_block_79 rfl,
  List.forall_mem_cons.mpr ⟨so_isub d_Z_block_80 rfl,
  List.forall_mem_cons.mpr ⟨so_iaload d_Z_block_81 rfl,
  List.forall_mem_cons.mpr ⟨so_aload_n d_Z_block_82 rfl rfl,
  fun _ h => absurd h List.not_mem_nil⟩⟩⟩⟩⟩⟩⟩⟩⟩⟩⟩⟩⟩⟩⟩⟩
def cd_Z_block_3 : Nat → g_T := g_tab [(83, tr_get 10 18 86), (86, tr_if2 (fun x y => ¬ x = y) 93 89), (89, tr_cst (.int (1)) 90), (90, tr_goto 94), (93, tr_cst (.int (0)) 94), (94, tr_put 10 39 (.boolean) 97), (97, tr_ald 0 98), (98, tr_cst (.int (0)) 99), (99, tr_put 10 37 (.int) 102), (102, tr_ald 0 103), (103, tr_ald 0 104), (104, tr_get 10 15 107), (107, tr_cst (.int (2)) 108), (108, tr_ii (fun x y => x - y) 109), (109, tr_put 10 38 (.int) 112), (112, tr_ald 0 113)]
set_option maxRecDepth 100000 in
theorem ok_Z_block_3 : ∀ pc, g_S (J_Z_block) pc (cd_Z_block_3 pc) := g_tab_ok <|
  List.forall_mem_cons.mpr ⟨so_get d_Z_block_83 (rfl : vwCl[10]? = some (R_Z, F_Z, 40)) (Nat.le_of_ble_eq_true rfl) i_Z w_4_116 rfl,
  List.forall_mem_cons.mpr ⟨so_icmp_ne d_Z_block_86 (by decide) rfl,
  List.forall_mem_cons.mpr ⟨so_iconst (by decide) d_Z_block_89 rfl,
  List.forall_mem_cons.mpr ⟨so_goto d_Z_block_90 (by decide),
  List.forall_mem_cons.mpr ⟨so_iconst (by decide) d_Z_block_93 rfl,
  List.forall_mem_cons.mpr ⟨so_put ft_Z d_Z_block_94 (rfl : vwCl[10]? = some (R_Z, F_Z, 40)) (Nat.le_of_ble_eq_true rfl) i_Z w_4_137 tk_Z n_Z rfl rfl rfl,
  List.forall_mem_cons.mpr ⟨so_aload_n d_Z_block_97 rfl rfl,
  List.forall_mem_cons.mpr ⟨so_iconst (by decide) d_Z_block_98 rfl,
  List.forall_mem_cons.mpr ⟨so_put ft_Z d_Z_block_99 (rfl : vwCl[10]? = some (R_Z, F_Z, 40)) (Nat.le_of_ble_eq_true rfl) i_Z w_4_135 tk_Z n_Z rfl rfl rfl,
  List.forall_mem_cons.mpr ⟨so_aload_n d_Z_block_102 rfl rfl,
  List.forall_mem_cons.mpr ⟨so_aload_n d_Z_block_103 rfl rfl,
  List.forall_mem_cons.mpr ⟨so_get d_Z_block_104 (rfl : vwCl[10]? = some (R_Z, F_Z, 40)) (Nat.le_of_ble_eq_true rfl) i_Z w_4_113 rfl,
  List.forall_mem_cons.mpr ⟨so_iconst (by decide) d_Z_block_107 rfl,
  List.forall_mem_cons.mpr ⟨so_isub d_Z_block_108 rfl,
  List.forall_mem_cons.mpr ⟨so_put ft_Z d_Z_block_109 (rfl : vwCl[10]? = some (R_Z, F_Z, 40)) (Nat.le_of_ble_eq_true rfl) i_Z w_4_136 tk_Z n_Z rfl rfl rfl,
  List.forall_mem_cons.mpr ⟨so_aload_n d_Z_block_112 rfl rfl,
  fun _ h => absurd h List.not_mem_nil⟩⟩⟩⟩⟩⟩⟩⟩⟩⟩⟩⟩⟩⟩⟩⟩
def cd_Z_block_4 : Nat → g_T := g_tab [(113, tr_cV J_Z_next 10 0 116), (116, tr_ist 5 118), (118, tr_ald 0 119), (119, tr_cV J_Z_nextFour 10 0 122), (122, tr_ist 3 123), (123, tr_ald 0 124), (124, tr_cV J_Z_next 10 0 127), (127, tr_ist 4 129), (129, tr_ald 0 130), (130, tr_ald 0 131), (131, tr_get 10 39 134), (134, tr_if1 (fun x => x = 0) 164 137), (137, tr_ild 5 139), (139, tr_cst (.int (4)) 140), (140, tr_if2 (fun x y => y ≤ x) 164 143), (143, tr_ild 3 144)]
set_option maxRecDepth 100000 in
theorem ok_Z_block_4 : ∀ pc, g_S (J_Z_block) pc (cd_Z_block_4 pc) := g_tab_ok <|
  List.forall_mem_cons.mpr ⟨so_cV g_good d_Z_block_113 ⟨w_5_88, (Nat.le_of_ble_eq_true rfl), (Nat.le_of_ble_eq_true rfl), w_1_12, ⟨by decide, by decide⟩, by decide +kernel⟩ (rfl : vwCl[10]? = some (R_Z, F_Z, 40)) w_5_85 w_5_87 w_p40 rfl,
  List.forall_mem_cons.mpr ⟨so_istore d_Z_block_116 (Nat.le_of_ble_eq_true rfl) rfl,
  List.forall_mem_cons.mpr ⟨so_aload_n d_Z_block_118 rfl rfl,
  List.forall_mem_cons.mpr ⟨so_cV g_good d_Z_block_119 ⟨w_5_92, (Nat.le_of_ble_eq_true rfl), (Nat.le_of_ble_eq_true rfl), w_1_12, ⟨by decide, by decide⟩, by decide +kernel⟩ (rfl : vwCl[10]? = some (R_Z, F_Z, 40)) w_5_89 w_5_91 w_p41 rfl,
  List.forall_mem_cons.mpr ⟨so_istore_n d_Z_block_122 rfl (Nat.le_of_ble_eq_true rfl) rfl,
  List.forall_mem_cons.mpr ⟨so_aload_n d_Z_block_123 rfl rfl,
  List.forall_mem_cons.mpr ⟨so_cV g_good d_Z_block_124 ⟨w_5_88, (Nat.le_of_ble_eq_true rfl), (Nat.le_of_ble_eq_true rfl), w_1_12, ⟨by decide, by decide⟩, by decide +kernel⟩ (rfl : vwCl[10]? = some (R_Z, F_Z, 40)) w_5_85 w_5_87 w_p40 rfl,
  List.forall_mem_cons.mpr ⟨so_istore d_Z_block_127 (Nat.le_of_ble_eq_true rfl) rfl,
  List.forall_mem_cons.mpr ⟨so_aload_n d_Z_block_129 rfl rfl,
  List.forall_mem_cons.mpr ⟨so_aload_n d_Z_block_130 rfl rfl,
  List.forall_mem_cons.mpr ⟨so_get d_Z_block_131 (rfl : vwCl[10]? = some (R_Z, F_Z, 40)) (Nat.le_of_ble_eq_true rfl) i_Z w_4_137 rfl,
  List.forall_mem_cons.mpr ⟨so_if_eq d_Z_block_134 (by decide) rfl,
  List.forall_mem_cons.mpr ⟨so_iload d_Z_block_137 rfl,
  List.forall_mem_cons.mpr ⟨so_iconst (by decide) d_Z_block_139 rfl,
  List.forall_mem_cons.mpr ⟨so_icmp_ge d_Z_block_140 (by decide) rfl,
  List.forall_mem_cons.mpr ⟨so_iload_n d_Z_block_143 rfl rfl,
  fun _ h => absurd h List.not_mem_nil⟩⟩⟩⟩⟩⟩⟩⟩⟩⟩⟩⟩⟩⟩⟩⟩
def cd_Z_block_5 : Nat → g_T := g_tab [(144, tr_if1 (fun x => x < 0) 164 147), (147, tr_ild 4 149), (149, tr_i2l 150), (150, tr_cst (.long (1)) 151), (151, tr_cst (.long (100)) 154), (154, tr_cS J_Z_within 3 157), (157, tr_if1 (fun x => x = 0) 164 160), (160, tr_cst (.int (1)) 161), (161, tr_goto 165), (164, tr_cst (.int (0)) 165), (165, tr_put 10 39 (.boolean) 168), (168, tr_ald 0 169), (169, tr_get 10 39 172), (172, tr_if1 (fun x => x = 0) 180 175), (175, tr_ald 0 176), (176, tr_ild 3 177)]
set_option maxRecDepth 100000 in
theorem ok_Z_block_5 : ∀ pc, g_S (J_Z_block) pc (cd_Z_block_5 pc) := g_tab_ok <|
  List.forall_mem_cons.mpr ⟨so_if_lt d_Z_block_144 (by decide) rfl,
  List.forall_mem_cons.mpr ⟨so_iload d_Z_block_147 rfl,
  List.forall_mem_cons.mpr ⟨so_i2l d_Z_block_149 rfl,
  List.forall_mem_cons.mpr ⟨so_lconst (by decide) d_Z_block_150 rfl,
  List.forall_mem_cons.mpr ⟨so_ldc2 w_5_93 d_Z_block_151 rfl,
  List.forall_mem_cons.mpr ⟨so_cS g_good d_Z_block_154 ⟨w_4_230, (Nat.le_of_ble_eq_true rfl), (Nat.le_of_ble_eq_true rfl), w_1_12, ⟨by decide, by decide⟩, by decide +kernel⟩ w_4_228 w_4_229 rfl,
  List.forall_mem_cons.mpr ⟨so_if_eq d_Z_block_157 (by decide) rfl,
  List.forall_mem_cons.mpr ⟨so_iconst (by decide) d_Z_block_160 rfl,
  List.forall_mem_cons.mpr ⟨so_goto d_Z_block_161 (by decide),
  List.forall_mem_cons.mpr ⟨so_iconst (by decide) d_Z_block_164 rfl,
  List.forall_mem_cons.mpr ⟨so_put ft_Z d_Z_block_165 (rfl : vwCl[10]? = some (R_Z, F_Z, 40)) (Nat.le_of_ble_eq_true rfl) i_Z w_4_137 tk_Z n_Z rfl rfl rfl,
  List.forall_mem_cons.mpr ⟨so_aload_n d_Z_block_168 rfl rfl,
  List.forall_mem_cons.mpr ⟨so_get d_Z_block_169 (rfl : vwCl[10]? = some (R_Z, F_Z, 40)) (Nat.le_of_ble_eq_true rfl) i_Z w_4_137 rfl,
  List.forall_mem_cons.mpr ⟨so_if_eq d_Z_block_172 (by decide) rfl,
  List.forall_mem_cons.mpr ⟨so_aload_n d_Z_block_175 rfl rfl,
  List.forall_mem_cons.mpr ⟨so_iload_n d_Z_block_176 rfl rfl,
  fun _ h => absurd h List.not_mem_nil⟩⟩⟩⟩⟩⟩⟩⟩⟩⟩⟩⟩⟩⟩⟩⟩
def cd_Z_block_6 : Nat → g_T := g_tab [(177, tr_cV J_Z_getRows 10 1 180), (180, tr_ald 0 181), (181, tr_get 10 39 184), (184, tr_if1 (fun x => x = 0) 196 187), (187, tr_ald 0 188), (188, tr_get 10 36 191), (191, tr_ild 4 193), (193, tr_if2 (fun x y => x = y) 207 196), (196, tr_ald 0 197), (197, tr_dup 198), (198, tr_get 10 23 201), (201, tr_cst (.int (1)) 202), (202, tr_ii (fun x y => x + y) 203), (203, tr_put 10 23 (.int) 206), (206, tr_rv), (207, tr_cst (.int (0)) 208)]
set_option maxRecDepth 100000 in
theorem ok_Z_block_6 : ∀ pc, g_S (J_Z_block) pc (cd_Z_block_6 pc) := g_tab_ok <|
  List.forall_mem_cons.mpr ⟨so_cV g_good d_Z_block_177 ⟨w_5_97, (Nat.le_of_ble_eq_true rfl), (Nat.le_of_ble_eq_true rfl), w_1_12, ⟨by decide, by decide⟩, by decide +kernel⟩ (rfl : vwCl[10]? = some (R_Z, F_Z, 40)) w_5_94 w_5_96 w_p42 rfl,
  List.forall_mem_cons.mpr ⟨so_aload_n d_Z_block_180 rfl rfl,
  List.forall_mem_cons.mpr ⟨so_get d_Z_block_181 (rfl : vwCl[10]? = some (R_Z, F_Z, 40)) (Nat.le_of_ble_eq_true rfl) i_Z w_4_137 rfl,
  List.forall_mem_cons.mpr ⟨so_if_eq d_Z_block_184 (by decide) rfl,
  List.forall_mem_cons.mpr ⟨so_aload_n d_Z_block_187 rfl rfl,
  List.forall_mem_cons.mpr ⟨so_get d_Z_block_188 (rfl : vwCl[10]? = some (R_Z, F_Z, 40)) (Nat.le_of_ble_eq_true rfl) i_Z w_4_134 rfl,
  List.forall_mem_cons.mpr ⟨so_iload d_Z_block_191 rfl,
  List.forall_mem_cons.mpr ⟨so_icmp_eq d_Z_block_193 (by decide) rfl,
  List.forall_mem_cons.mpr ⟨so_aload_n d_Z_block_196 rfl rfl,
  List.forall_mem_cons.mpr ⟨so_dup d_Z_block_197 rfl,
  List.forall_mem_cons.mpr ⟨so_get d_Z_block_198 (rfl : vwCl[10]? = some (R_Z, F_Z, 40)) (Nat.le_of_ble_eq_true rfl) i_Z w_4_121 rfl,
  List.forall_mem_cons.mpr ⟨so_iconst (by decide) d_Z_block_201 rfl,
  List.forall_mem_cons.mpr ⟨so_iadd d_Z_block_202 rfl,
  List.forall_mem_cons.mpr ⟨so_put ft_Z d_Z_block_203 (rfl : vwCl[10]? = some (R_Z, F_Z, 40)) (Nat.le_of_ble_eq_true rfl) i_Z w_4_121 tk_Z n_Z rfl rfl rfl,
  List.forall_mem_cons.mpr ⟨so_vret d_Z_block_206 rfl,
  List.forall_mem_cons.mpr ⟨so_iconst (by decide) d_Z_block_207 rfl,
  fun _ h => absurd h List.not_mem_nil⟩⟩⟩⟩⟩⟩⟩⟩⟩⟩⟩⟩⟩⟩⟩⟩
def cd_Z_block_7 : Nat → g_T := g_tab [(208, tr_ist 6 210), (210, tr_ild 6 212), (212, tr_ald 0 213), (213, tr_get 10 36 216), (216, tr_if2 (fun x y => y ≤ x) 233 219), (219, tr_ald 0 220), (220, tr_ild 6 222), (222, tr_ild 5 224), (224, tr_cV J_Z_keep 10 2 227), (227, tr_inc 6 (1) 230), (230, tr_goto 210), (233, tr_ald 0 234), (234, tr_dup 235), (235, tr_get 10 22 238), (238, tr_cst (.int (1)) 239), (239, tr_ii (fun x y => x + y) 240)]
set_option maxRecDepth 100000 in
theorem ok_Z_block_7 : ∀ pc, g_S (J_Z_block) pc (cd_Z_block_7 pc) := g_tab_ok <|
  List.forall_mem_cons.mpr ⟨so_istore d_Z_block_208 (Nat.le_of_ble_eq_true rfl) rfl,
  List.forall_mem_cons.mpr ⟨so_iload d_Z_block_210 rfl,
  List.forall_mem_cons.mpr ⟨so_aload_n d_Z_block_212 rfl rfl,
  List.forall_mem_cons.mpr ⟨so_get d_Z_block_213 (rfl : vwCl[10]? = some (R_Z, F_Z, 40)) (Nat.le_of_ble_eq_true rfl) i_Z w_4_134 rfl,
  List.forall_mem_cons.mpr ⟨so_icmp_ge d_Z_block_216 (by decide) rfl,
  List.forall_mem_cons.mpr ⟨so_aload_n d_Z_block_219 rfl rfl,
  List.forall_mem_cons.mpr ⟨so_iload d_Z_block_220 rfl,
  List.forall_mem_cons.mpr ⟨so_iload d_Z_block_222 rfl,
  List.forall_mem_cons.mpr ⟨so_cV g_good d_Z_block_224 ⟨w_5_114, (Nat.le_of_ble_eq_true rfl), (Nat.le_of_ble_eq_true rfl), w_1_12, ⟨by decide, by decide⟩, by decide +kernel⟩ (rfl : vwCl[10]? = some (R_Z, F_Z, 40)) w_5_111 w_5_113 w_p46 rfl,
  List.forall_mem_cons.mpr ⟨so_iinc d_Z_block_227 (by decide) (Nat.le_of_ble_eq_true rfl) rfl,
  List.forall_mem_cons.mpr ⟨so_goto d_Z_block_230 (by decide),
  List.forall_mem_cons.mpr ⟨so_aload_n d_Z_block_233 rfl rfl,
  List.forall_mem_cons.mpr ⟨so_dup d_Z_block_234 rfl,
  List.forall_mem_cons.mpr ⟨so_get d_Z_block_235 (rfl : vwCl[10]? = some (R_Z, F_Z, 40)) (Nat.le_of_ble_eq_true rfl) i_Z w_4_120 rfl,
  List.forall_mem_cons.mpr ⟨so_iconst (by decide) d_Z_block_238 rfl,
  List.forall_mem_cons.mpr ⟨so_iadd d_Z_block_239 rfl,
  fun _ h => absurd h List.not_mem_nil⟩⟩⟩⟩⟩⟩⟩⟩⟩⟩⟩⟩⟩⟩⟩⟩
def cd_Z_block_8 : Nat → g_T := g_tab [(240, tr_put 10 22 (.int) 243), (243, tr_rv)]
set_option maxRecDepth 100000 in
theorem ok_Z_block_8 : ∀ pc, g_S (J_Z_block) pc (cd_Z_block_8 pc) := g_tab_ok <|
  List.forall_mem_cons.mpr ⟨so_put ft_Z d_Z_block_240 (rfl : vwCl[10]? = some (R_Z, F_Z, 40)) (Nat.le_of_ble_eq_true rfl) i_Z w_4_120 tk_Z n_Z rfl rfl rfl,
  List.forall_mem_cons.mpr ⟨so_vret d_Z_block_243 rfl,
  fun _ h => absurd h List.not_mem_nil⟩⟩
def cd_Z_block : Nat → g_T := g_chk [(28, cd_Z_block_0), (54, cd_Z_block_1), (82, cd_Z_block_2), (112, cd_Z_block_3), (143, cd_Z_block_4), (176, cd_Z_block_5), (207, cd_Z_block_6), (239, cd_Z_block_7), (243, cd_Z_block_8)]
theorem ok_Z_block : ∀ pc, g_S (J_Z_block) pc (cd_Z_block pc) := g_chk_ok <|
  List.forall_mem_cons.mpr ⟨ok_Z_block_0,
  List.forall_mem_cons.mpr ⟨ok_Z_block_1,
  List.forall_mem_cons.mpr ⟨ok_Z_block_2,
  List.forall_mem_cons.mpr ⟨ok_Z_block_3,
  List.forall_mem_cons.mpr ⟨ok_Z_block_4,
  List.forall_mem_cons.mpr ⟨ok_Z_block_5,
  List.forall_mem_cons.mpr ⟨ok_Z_block_6,
  List.forall_mem_cons.mpr ⟨ok_Z_block_7,
  List.forall_mem_cons.mpr ⟨ok_Z_block_8,
  fun _ h => absurd h List.not_mem_nil⟩⟩⟩⟩⟩⟩⟩⟩⟩
abbrev J_Z_read : g_J := (y_Z_read, prog_12_method_33_code, 4, (some .int), (5, 124), [], none)
theorem d_Z_read_0 : decode prog_12_method_33_code 0 = .ok (.aload_n 0, 1) := by decide +kernel
theorem d_Z_read_1 : decode prog_12_method_33_code 1 = .ok (.iconst 0, 1) := by decide +kernel
theorem d_Z_read_2 : decode prog_12_method_33_code 2 = .ok (.putfield 69, 3) := by decide +kernel
theorem d_Z_read_5 : decode prog_12_method_33_code 5 = .ok (.iload_n 1, 1) := by decide +kernel
theorem d_Z_read_6 : decode prog_12_method_33_code 6 = .ok (.i2l, 1) := by decide +kernel
theorem d_Z_read_7 : decode prog_12_method_33_code 7 = .ok (.lconst 0, 1) := by decide +kernel
theorem d_Z_read_8 : decode prog_12_method_33_code 8 = .ok (.aload_n 0, 1) := by decide +kernel
theorem d_Z_read_9 : decode prog_12_method_33_code 9 = .ok (.getfield 142, 3) := by decide +kernel
theorem d_Z_read_12 : decode prog_12_method_33_code 12 = .ok (.i2l, 1) := by decide +kernel
theorem d_Z_read_13 : decode prog_12_method_33_code 13 = .ok (.invokestatic 74, 3) := by decide +kernel
theorem d_Z_read_16 : decode prog_12_method_33_code 16 = .ok (.ifCond .ne 9, 3) := by decide +kernel
theorem d_Z_read_19 : decode prog_12_method_33_code 19 = .ok (.aload_n 0, 1) := by decide +kernel
theorem d_Z_read_20 : decode prog_12_method_33_code 20 = .ok (.iconst 1, 1) := by decide +kernel
theorem d_Z_read_21 : decode prog_12_method_33_code 21 = .ok (.invokevirtual 78, 3) := by decide +kernel
theorem d_Z_read_24 : decode prog_12_method_33_code 24 = .ok (.ireturn, 1) := by decide +kernel
theorem d_Z_read_25 : decode prog_12_method_33_code 25 = .ok (.aload_n 0, 1) := by decide +kernel
theorem d_Z_read_26 : decode prog_12_method_33_code 26 = .ok (.iconst 0, 1) := by decide +kernel
theorem d_Z_read_27 : decode prog_12_method_33_code 27 = .ok (.putfield 215, 3) := by decide +kernel
theorem d_Z_read_30 : decode prog_12_method_33_code 30 = .ok (.aload_n 0, 1) := by decide +kernel
theorem d_Z_read_31 : decode prog_12_method_33_code 31 = .ok (.iconst 0, 1) := by decide +kernel
theorem d_Z_read_32 : decode prog_12_method_33_code 32 = .ok (.putfield 208, 3) := by decide +kernel
theorem d_Z_read_35 : decode prog_12_method_33_code 35 = .ok (.aload_n 0, 1) := by decide +kernel
theorem d_Z_read_36 : decode prog_12_method_33_code 36 = .ok (.iconst 0, 1) := by decide +kernel
theorem d_Z_read_37 : decode prog_12_method_33_code 37 = .ok (.putfield 218, 3) := by decide +kernel
theorem d_Z_read_40 : decode prog_12_method_33_code 40 = .ok (.aload_n 0, 1) := by decide +kernel
theorem d_Z_read_41 : decode prog_12_method_33_code 41 = .ok (.iconst 0, 1) := by decide +kernel
theorem d_Z_read_42 : decode prog_12_method_33_code 42 = .ok (.putfield 221, 3) := by decide +kernel
theorem d_Z_read_45 : decode prog_12_method_33_code 45 = .ok (.iload_n 1, 1) := by decide +kernel
theorem d_Z_read_46 : decode prog_12_method_33_code 46 = .ok (.istore_n 2, 1) := by decide +kernel
theorem d_Z_read_47 : decode prog_12_method_33_code 47 = .ok (.iload_n 2, 1) := by decide +kernel
theorem d_Z_read_48 : decode prog_12_method_33_code 48 = .ok (.aload_n 0, 1) := by decide +kernel
theorem d_Z_read_49 : decode prog_12_method_33_code 49 = .ok (.getfield 142, 3) := by decide +kernel
theorem d_Z_read_52 : decode prog_12_method_33_code 52 = .ok (.if_icmp .ge 20, 3) := by decide +kernel
theorem d_Z_read_55 : decode prog_12_method_33_code 55 = .ok (.aload_n 0, 1) := by decide +kernel
theorem d_Z_read_56 : decode prog_12_method_33_code 56 = .ok (.getfield 7, 3) := by decide +kernel
theorem d_Z_read_59 : decode prog_12_method_33_code 59 = .ok (.iload_n 2, 1) := by decide +kernel
theorem d_Z_read_60 : decode prog_12_method_33_code 60 = .ok (.baload, 1) := by decide +kernel
theorem d_Z_read_61 : decode prog_12_method_33_code 61 = .ok (.bipush 126, 2) := by decide +kernel
theorem d_Z_read_63 : decode prog_12_method_33_code 63 = .ok (.if_icmp .eq 9, 3) := by decide +kernel
theorem d_Z_read_66 : decode prog_12_method_33_code 66 = .ok (.iinc 2 1, 3) := by decide +kernel
theorem d_Z_read_69 : decode prog_12_method_33_code 69 = .ok (.goto (-22), 3) := by decide +kernel
theorem d_Z_read_72 : decode prog_12_method_33_code 72 = .ok (.aload_n 0, 1) := by decide +kernel
theorem d_Z_read_73 : decode prog_12_method_33_code 73 = .ok (.iload_n 2, 1) := by decide +kernel
theorem d_Z_read_74 : decode prog_12_method_33_code 74 = .ok (.iload_n 1, 1) := by decide +kernel
theorem d_Z_read_75 : decode prog_12_method_33_code 75 = .ok (.isub, 1) := by decide +kernel
theorem d_Z_read_76 : decode prog_12_method_33_code 76 = .ok (.putfield 224, 3) := by decide +kernel
theorem d_Z_read_79 : decode prog_12_method_33_code 79 = .ok (.iload_n 2, 1) := by decide +kernel
theorem d_Z_read_80 : decode prog_12_method_33_code 80 = .ok (.aload_n 0, 1) := by decide +kernel
theorem d_Z_read_81 : decode prog_12_method_33_code 81 = .ok (.getfield 142, 3) := by decide +kernel
theorem d_Z_read_84 : decode prog_12_method_33_code 84 = .ok (.if_icmp .ge 45, 3) := by decide +kernel
theorem d_Z_read_87 : decode prog_12_method_33_code 87 = .ok (.iload_n 2, 1) := by decide +kernel
theorem d_Z_read_88 : decode prog_12_method_33_code 88 = .ok (.iconst 1, 1) := by decide +kernel
theorem d_Z_read_89 : decode prog_12_method_33_code 89 = .ok (.iadd, 1) := by decide +kernel
theorem d_Z_read_90 : decode prog_12_method_33_code 90 = .ok (.istore_n 3, 1) := by decide +kernel
theorem d_Z_read_91 : decode prog_12_method_33_code 91 = .ok (.iload_n 3, 1) := by decide +kernel
theorem d_Z_read_92 : decode prog_12_method_33_code 92 = .ok (.aload_n 0, 1) := by decide +kernel
theorem d_Z_read_93 : decode prog_12_method_33_code 93 = .ok (.getfield 142, 3) := by decide +kernel
theorem d_Z_read_96 : decode prog_12_method_33_code 96 = .ok (.if_icmp .ge 20, 3) := by decide +kernel
theorem d_Z_read_99 : decode prog_12_method_33_code 99 = .ok (.aload_n 0, 1) := by decide +kernel
theorem d_Z_read_100 : decode prog_12_method_33_code 100 = .ok (.getfield 7, 3) := by decide +kernel
theorem d_Z_read_103 : decode prog_12_method_33_code 103 = .ok (.iload_n 3, 1) := by decide +kernel
theorem d_Z_read_104 : decode prog_12_method_33_code 104 = .ok (.baload, 1) := by decide +kernel
theorem d_Z_read_105 : decode prog_12_method_33_code 105 = .ok (.bipush 126, 2) := by decide +kernel
theorem d_Z_read_107 : decode prog_12_method_33_code 107 = .ok (.if_icmp .eq 9, 3) := by decide +kernel
theorem d_Z_read_110 : decode prog_12_method_33_code 110 = .ok (.iinc 3 1, 3) := by decide +kernel
theorem d_Z_read_113 : decode prog_12_method_33_code 113 = .ok (.goto (-22), 3) := by decide +kernel
theorem d_Z_read_116 : decode prog_12_method_33_code 116 = .ok (.aload_n 0, 1) := by decide +kernel
theorem d_Z_read_117 : decode prog_12_method_33_code 117 = .ok (.iload_n 2, 1) := by decide +kernel
theorem d_Z_read_118 : decode prog_12_method_33_code 118 = .ok (.iconst 1, 1) := by decide +kernel
theorem d_Z_read_119 : decode prog_12_method_33_code 119 = .ok (.iadd, 1) := by decide +kernel
theorem d_Z_read_120 : decode prog_12_method_33_code 120 = .ok (.iload_n 3, 1) := by decide +kernel
theorem d_Z_read_121 : decode prog_12_method_33_code 121 = .ok (.invokevirtual 227, 3) := by decide +kernel
theorem d_Z_read_124 : decode prog_12_method_33_code 124 = .ok (.iload_n 3, 1) := by decide +kernel
theorem d_Z_read_125 : decode prog_12_method_33_code 125 = .ok (.istore_n 2, 1) := by decide +kernel
theorem d_Z_read_126 : decode prog_12_method_33_code 126 = .ok (.goto (-47), 3) := by decide +kernel
theorem d_Z_read_129 : decode prog_12_method_33_code 129 = .ok (.aload_n 0, 1) := by decide +kernel
theorem d_Z_read_130 : decode prog_12_method_33_code 130 = .ok (.getfield 218, 3) := by decide +kernel
theorem d_Z_read_133 : decode prog_12_method_33_code 133 = .ok (.ireturn, 1) := by decide +kernel
def cd_Z_read_0 : Nat → g_T := g_tab [(0, tr_ald 0 1), (1, tr_cst (.int (0)) 2), (2, tr_put 10 0 (.int) 5), (5, tr_ild 1 6), (6, tr_i2l 7), (7, tr_cst (.long (0)) 8), (8, tr_ald 0 9), (9, tr_get 10 1 12), (12, tr_i2l 13), (13, tr_cS J_Z_within 3 16), (16, tr_if1 (fun x => ¬ x = 0) 25 19), (19, tr_ald 0 20), (20, tr_cst (.int (1)) 21), (21, tr_cV J_Z_fail 10 1 24), (24, tr_ri), (25, tr_ald 0 26)]
set_option maxRecDepth 100000 in
theorem ok_Z_read_0 : ∀ pc, g_S (J_Z_read) pc (cd_Z_read_0 pc) := g_tab_ok <|
  List.forall_mem_cons.mpr ⟨so_aload_n d_Z_read_0 rfl rfl,
  List.forall_mem_cons.mpr ⟨so_iconst (by decide) d_Z_read_1 rfl,
  List.forall_mem_cons.mpr ⟨so_put ft_Z d_Z_read_2 (rfl : vwCl[10]? = some (R_Z, F_Z, 40)) (Nat.le_of_ble_eq_true rfl) i_Z w_4_98 tk_Z n_Z rfl rfl rfl,
  List.forall_mem_cons.mpr ⟨so_iload_n d_Z_read_5 rfl rfl,
  List.forall_mem_cons.mpr ⟨so_i2l d_Z_read_6 rfl,
  List.forall_mem_cons.mpr ⟨so_lconst (by decide) d_Z_read_7 rfl,
  List.forall_mem_cons.mpr ⟨so_aload_n d_Z_read_8 rfl rfl,
  List.forall_mem_cons.mpr ⟨so_get d_Z_read_9 (rfl : vwCl[10]? = some (R_Z, F_Z, 40)) (Nat.le_of_ble_eq_true rfl) i_Z w_4_99 rfl,
  List.forall_mem_cons.mpr ⟨so_i2l d_Z_read_12 rfl,
  List.forall_mem_cons.mpr ⟨so_cS g_good d_Z_read_13 ⟨w_4_230, (Nat.le_of_ble_eq_true rfl), (Nat.le_of_ble_eq_true rfl), w_1_12, ⟨by decide, by decide⟩, by decide +kernel⟩ w_4_228 w_4_229 rfl,
  List.forall_mem_cons.mpr ⟨so_if_ne d_Z_read_16 (by decide) rfl,
  List.forall_mem_cons.mpr ⟨so_aload_n d_Z_read_19 rfl rfl,
  List.forall_mem_cons.mpr ⟨so_iconst (by decide) d_Z_read_20 rfl,
  List.forall_mem_cons.mpr ⟨so_cV g_good d_Z_read_21 ⟨w_4_234, (Nat.le_of_ble_eq_true rfl), (Nat.le_of_ble_eq_true rfl), w_1_12, ⟨by decide, by decide⟩, by decide +kernel⟩ (rfl : vwCl[10]? = some (R_Z, F_Z, 40)) w_4_231 w_4_233 w_p27 rfl,
  List.forall_mem_cons.mpr ⟨so_iret d_Z_read_24 rfl,
  List.forall_mem_cons.mpr ⟨so_aload_n d_Z_read_25 rfl rfl,
  fun _ h => absurd h List.not_mem_nil⟩⟩⟩⟩⟩⟩⟩⟩⟩⟩⟩⟩⟩⟩⟩⟩
def cd_Z_read_1 : Nat → g_T := g_tab [(26, tr_cst (.int (0)) 27), (27, tr_put 10 22 (.int) 30), (30, tr_ald 0 31), (31, tr_cst (.int (0)) 32), (32, tr_put 10 23 (.int) 35), (35, tr_ald 0 36), (36, tr_cst (.int (0)) 37), (37, tr_put 10 24 (.int) 40), (40, tr_ald 0 41), (41, tr_cst (.int (0)) 42), (42, tr_put 10 25 (.int) 45), (45, tr_ild 1 46), (46, tr_ist 2 47), (47, tr_ild 2 48), (48, tr_ald 0 49), (49, tr_get 10 1 52)]
set_option maxRecDepth 100000 in
theorem ok_Z_read_1 : ∀ pc, g_S (J_Z_read) pc (cd_Z_read_1 pc) := g_tab_ok <|
  List.forall_mem_cons.mpr ⟨so_iconst (by decide) d_Z_read_26 rfl,
  List.forall_mem_cons.mpr ⟨so_put ft_Z d_Z_read_27 (rfl : vwCl[10]? = some (R_Z, F_Z, 40)) (Nat.le_of_ble_eq_true rfl) i_Z w_4_120 tk_Z n_Z rfl rfl rfl,
  List.forall_mem_cons.mpr ⟨so_aload_n d_Z_read_30 rfl rfl,
  List.forall_mem_cons.mpr ⟨so_iconst (by decide) d_Z_read_31 rfl,
  List.forall_mem_cons.mpr ⟨so_put ft_Z d_Z_read_32 (rfl : vwCl[10]? = some (R_Z, F_Z, 40)) (Nat.le_of_ble_eq_true rfl) i_Z w_4_121 tk_Z n_Z rfl rfl rfl,
  List.forall_mem_cons.mpr ⟨so_aload_n d_Z_read_35 rfl rfl,
  List.forall_mem_cons.mpr ⟨so_iconst (by decide) d_Z_read_36 rfl,
  List.forall_mem_cons.mpr ⟨so_put ft_Z d_Z_read_37 (rfl : vwCl[10]? = some (R_Z, F_Z, 40)) (Nat.le_of_ble_eq_true rfl) i_Z w_4_122 tk_Z n_Z rfl rfl rfl,
  List.forall_mem_cons.mpr ⟨so_aload_n d_Z_read_40 rfl rfl,
  List.forall_mem_cons.mpr ⟨so_iconst (by decide) d_Z_read_41 rfl,
  List.forall_mem_cons.mpr ⟨so_put ft_Z d_Z_read_42 (rfl : vwCl[10]? = some (R_Z, F_Z, 40)) (Nat.le_of_ble_eq_true rfl) i_Z w_4_123 tk_Z n_Z rfl rfl rfl,
  List.forall_mem_cons.mpr ⟨so_iload_n d_Z_read_45 rfl rfl,
  List.forall_mem_cons.mpr ⟨so_istore_n d_Z_read_46 rfl (Nat.le_of_ble_eq_true rfl) rfl,
  List.forall_mem_cons.mpr ⟨so_iload_n d_Z_read_47 rfl rfl,
  List.forall_mem_cons.mpr ⟨so_aload_n d_Z_read_48 rfl rfl,
  List.forall_mem_cons.mpr ⟨so_get d_Z_read_49 (rfl : vwCl[10]? = some (R_Z, F_Z, 40)) (Nat.le_of_ble_eq_true rfl) i_Z w_4_99 rfl,
  fun _ h => absurd h List.not_mem_nil⟩⟩⟩⟩⟩⟩⟩⟩⟩⟩⟩⟩⟩⟩⟩⟩
def cd_Z_read_2 : Nat → g_T := g_tab [(52, tr_if2 (fun x y => y ≤ x) 72 55), (55, tr_ald 0 56), (56, tr_get 10 2 59), (59, tr_ild 2 60), (60, tr_bal 61), (61, tr_cst (.int (126)) 63), (63, tr_if2 (fun x y => x = y) 72 66), (66, tr_inc 2 (1) 69), (69, tr_goto 47), (72, tr_ald 0 73), (73, tr_ild 2 74), (74, tr_ild 1 75), (75, tr_ii (fun x y => x - y) 76), (76, tr_put 10 21 (.int) 79), (79, tr_ild 2 80), (80, tr_ald 0 81)]
set_option maxRecDepth 100000 in
theorem ok_Z_read_2 : ∀ pc, g_S (J_Z_read) pc (cd_Z_read_2 pc) := g_tab_ok <|
  List.forall_mem_cons.mpr ⟨so_icmp_ge d_Z_read_52 (by decide) rfl,
  List.forall_mem_cons.mpr ⟨so_aload_n d_Z_read_55 rfl rfl,
  List.forall_mem_cons.mpr ⟨so_get d_Z_read_56 (rfl : vwCl[10]? = some (R_Z, F_Z, 40)) (Nat.le_of_ble_eq_true rfl) i_Z w_4_100 rfl,
  List.forall_mem_cons.mpr ⟨so_iload_n d_Z_read_59 rfl rfl,
  List.forall_mem_cons.mpr ⟨so_baload d_Z_read_60 rfl,
  List.forall_mem_cons.mpr ⟨so_bipush (by decide) d_Z_read_61 rfl,
  List.forall_mem_cons.mpr ⟨so_icmp_eq d_Z_read_63 (by decide) rfl,
  List.forall_mem_cons.mpr ⟨so_iinc d_Z_read_66 (by decide) (Nat.le_of_ble_eq_true rfl) rfl,
  List.forall_mem_cons.mpr ⟨so_goto d_Z_read_69 (by decide),
  List.forall_mem_cons.mpr ⟨so_aload_n d_Z_read_72 rfl rfl,
  List.forall_mem_cons.mpr ⟨so_iload_n d_Z_read_73 rfl rfl,
  List.forall_mem_cons.mpr ⟨so_iload_n d_Z_read_74 rfl rfl,
  List.forall_mem_cons.mpr ⟨so_isub d_Z_read_75 rfl,
  List.forall_mem_cons.mpr ⟨so_put ft_Z d_Z_read_76 (rfl : vwCl[10]? = some (R_Z, F_Z, 40)) (Nat.le_of_ble_eq_true rfl) i_Z w_4_119 tk_Z n_Z rfl rfl rfl,
  List.forall_mem_cons.mpr ⟨so_iload_n d_Z_read_79 rfl rfl,
  List.forall_mem_cons.mpr ⟨so_aload_n d_Z_read_80 rfl rfl,
  fun _ h => absurd h List.not_mem_nil⟩⟩⟩⟩⟩⟩⟩⟩⟩⟩⟩⟩⟩⟩⟩⟩
def cd_Z_read_3 : Nat → g_T := g_tab [(81, tr_get 10 1 84), (84, tr_if2 (fun x y => y ≤ x) 129 87), (87, tr_ild 2 88), (88, tr_cst (.int (1)) 89), (89, tr_ii (fun x y => x + y) 90), (90, tr_ist 3 91), (91, tr_ild 3 92), (92, tr_ald 0 93), (93, tr_get 10 1 96), (96, tr_if2 (fun x y => y ≤ x) 116 99), (99, tr_ald 0 100), (100, tr_get 10 2 103), (103, tr_ild 3 104), (104, tr_bal 105), (105, tr_cst (.int (126)) 107), (107, tr_if2 (fun x y => x = y) 116 110)]
set_option maxRecDepth 100000 in
theorem ok_Z_read_3 : ∀ pc, g_S (J_Z_read) pc (cd_Z_read_3 pc) := g_tab_ok <|
  List.forall_mem_cons.mpr ⟨so_get d_Z_read_81 (rfl : vwCl[10]? = some (R_Z, F_Z, 40)) (Nat.le_of_ble_eq_true rfl) i_Z w_4_99 rfl,
  List.forall_mem_cons.mpr ⟨so_icmp_ge d_Z_read_84 (by decide) rfl,
  List.forall_mem_cons.mpr ⟨so_iload_n d_Z_read_87 rfl rfl,
  List.forall_mem_cons.mpr ⟨so_iconst (by decide) d_Z_read_88 rfl,
  List.forall_mem_cons.mpr ⟨so_iadd d_Z_read_89 rfl,
  List.forall_mem_cons.mpr ⟨so_istore_n d_Z_read_90 rfl (Nat.le_of_ble_eq_true rfl) rfl,
  List.forall_mem_cons.mpr ⟨so_iload_n d_Z_read_91 rfl rfl,
  List.forall_mem_cons.mpr ⟨so_aload_n d_Z_read_92 rfl rfl,
  List.forall_mem_cons.mpr ⟨so_get d_Z_read_93 (rfl : vwCl[10]? = some (R_Z, F_Z, 40)) (Nat.le_of_ble_eq_true rfl) i_Z w_4_99 rfl,
  List.forall_mem_cons.mpr ⟨so_icmp_ge d_Z_read_96 (by decide) rfl,
  List.forall_mem_cons.mpr ⟨so_aload_n d_Z_read_99 rfl rfl,
  List.forall_mem_cons.mpr ⟨so_get d_Z_read_100 (rfl : vwCl[10]? = some (R_Z, F_Z, 40)) (Nat.le_of_ble_eq_true rfl) i_Z w_4_100 rfl,
  List.forall_mem_cons.mpr ⟨so_iload_n d_Z_read_103 rfl rfl,
  List.forall_mem_cons.mpr ⟨so_baload d_Z_read_104 rfl,
  List.forall_mem_cons.mpr ⟨so_bipush (by decide) d_Z_read_105 rfl,
  List.forall_mem_cons.mpr ⟨so_icmp_eq d_Z_read_107 (by decide) rfl,
  fun _ h => absurd h List.not_mem_nil⟩⟩⟩⟩⟩⟩⟩⟩⟩⟩⟩⟩⟩⟩⟩⟩
def cd_Z_read_4 : Nat → g_T := g_tab [(110, tr_inc 3 (1) 113), (113, tr_goto 91), (116, tr_ald 0 117), (117, tr_ild 2 118), (118, tr_cst (.int (1)) 119), (119, tr_ii (fun x y => x + y) 120), (120, tr_ild 3 121), (121, tr_cV J_Z_block 10 2 124), (124, tr_ild 3 125), (125, tr_ist 2 126), (126, tr_goto 79), (129, tr_ald 0 130), (130, tr_get 10 24 133), (133, tr_ri)]
set_option maxRecDepth 100000 in
theorem ok_Z_read_4 : ∀ pc, g_S (J_Z_read) pc (cd_Z_read_4 pc) := g_tab_ok <|
  List.forall_mem_cons.mpr ⟨so_iinc d_Z_read_110 (by decide) (Nat.le_of_ble_eq_true rfl) rfl,
  List.forall_mem_cons.mpr ⟨so_goto d_Z_read_113 (by decide),
  List.forall_mem_cons.mpr ⟨so_aload_n d_Z_read_116 rfl rfl,
  List.forall_mem_cons.mpr ⟨so_iload_n d_Z_read_117 rfl rfl,
  List.forall_mem_cons.mpr ⟨so_iconst (by decide) d_Z_read_118 rfl,
  List.forall_mem_cons.mpr ⟨so_iadd d_Z_read_119 rfl,
  List.forall_mem_cons.mpr ⟨so_iload_n d_Z_read_120 rfl rfl,
  List.forall_mem_cons.mpr ⟨so_cV g_good d_Z_read_121 ⟨w_5_80, (Nat.le_of_ble_eq_true rfl), (Nat.le_of_ble_eq_true rfl), w_1_12, ⟨by decide, by decide⟩, by decide +kernel⟩ (rfl : vwCl[10]? = some (R_Z, F_Z, 40)) w_5_77 w_5_79 w_p38 rfl,
  List.forall_mem_cons.mpr ⟨so_iload_n d_Z_read_124 rfl rfl,
  List.forall_mem_cons.mpr ⟨so_istore_n d_Z_read_125 rfl (Nat.le_of_ble_eq_true rfl) rfl,
  List.forall_mem_cons.mpr ⟨so_goto d_Z_read_126 (by decide),
  List.forall_mem_cons.mpr ⟨so_aload_n d_Z_read_129 rfl rfl,
  List.forall_mem_cons.mpr ⟨so_get d_Z_read_130 (rfl : vwCl[10]? = some (R_Z, F_Z, 40)) (Nat.le_of_ble_eq_true rfl) i_Z w_4_122 rfl,
  List.forall_mem_cons.mpr ⟨so_iret d_Z_read_133 rfl,
  fun _ h => absurd h List.not_mem_nil⟩⟩⟩⟩⟩⟩⟩⟩⟩⟩⟩⟩⟩⟩
def cd_Z_read : Nat → g_T := g_chk [(25, cd_Z_read_0), (49, cd_Z_read_1), (80, cd_Z_read_2), (107, cd_Z_read_3), (133, cd_Z_read_4)]
theorem ok_Z_read : ∀ pc, g_S (J_Z_read) pc (cd_Z_read pc) := g_chk_ok <|
  List.forall_mem_cons.mpr ⟨ok_Z_read_0,
  List.forall_mem_cons.mpr ⟨ok_Z_read_1,
  List.forall_mem_cons.mpr ⟨ok_Z_read_2,
  List.forall_mem_cons.mpr ⟨ok_Z_read_3,
  List.forall_mem_cons.mpr ⟨ok_Z_read_4,
  fun _ h => absurd h List.not_mem_nil⟩⟩⟩⟩⟩
abbrev J_Z_kept : g_J := (y_Z_kept, prog_12_method_34_code, 3, (some .int), (1, 25), [], none)
theorem d_Z_kept_0 : decode prog_12_method_34_code 0 = .ok (.aload_n 0, 1) := by decide +kernel
theorem d_Z_kept_1 : decode prog_12_method_34_code 1 = .ok (.iconst 0, 1) := by decide +kernel
theorem d_Z_kept_2 : decode prog_12_method_34_code 2 = .ok (.putfield 69, 3) := by decide +kernel
theorem d_Z_kept_5 : decode prog_12_method_34_code 5 = .ok (.iload_n 1, 1) := by decide +kernel
theorem d_Z_kept_6 : decode prog_12_method_34_code 6 = .ok (.i2l, 1) := by decide +kernel
theorem d_Z_kept_7 : decode prog_12_method_34_code 7 = .ok (.lconst 0, 1) := by decide +kernel
theorem d_Z_kept_8 : decode prog_12_method_34_code 8 = .ok (.aload_n 0, 1) := by decide +kernel
theorem d_Z_kept_9 : decode prog_12_method_34_code 9 = .ok (.getfield 218, 3) := by decide +kernel
theorem d_Z_kept_12 : decode prog_12_method_34_code 12 = .ok (.iconst 1, 1) := by decide +kernel
theorem d_Z_kept_13 : decode prog_12_method_34_code 13 = .ok (.isub, 1) := by decide +kernel
theorem d_Z_kept_14 : decode prog_12_method_34_code 14 = .ok (.i2l, 1) := by decide +kernel
theorem d_Z_kept_15 : decode prog_12_method_34_code 15 = .ok (.invokestatic 74, 3) := by decide +kernel
theorem d_Z_kept_18 : decode prog_12_method_34_code 18 = .ok (.ifCond .eq 15, 3) := by decide +kernel
theorem d_Z_kept_21 : decode prog_12_method_34_code 21 = .ok (.iload_n 2, 1) := by decide +kernel
theorem d_Z_kept_22 : decode prog_12_method_34_code 22 = .ok (.i2l, 1) := by decide +kernel
theorem d_Z_kept_23 : decode prog_12_method_34_code 23 = .ok (.lconst 0, 1) := by decide +kernel
theorem d_Z_kept_24 : decode prog_12_method_34_code 24 = .ok (.ldc2_w 230, 3) := by decide +kernel
theorem d_Z_kept_27 : decode prog_12_method_34_code 27 = .ok (.invokestatic 74, 3) := by decide +kernel
theorem d_Z_kept_30 : decode prog_12_method_34_code 30 = .ok (.ifCond .ne 9, 3) := by decide +kernel
theorem d_Z_kept_33 : decode prog_12_method_34_code 33 = .ok (.aload_n 0, 1) := by decide +kernel
theorem d_Z_kept_34 : decode prog_12_method_34_code 34 = .ok (.iconst 1, 1) := by decide +kernel
theorem d_Z_kept_35 : decode prog_12_method_34_code 35 = .ok (.invokevirtual 78, 3) := by decide +kernel
theorem d_Z_kept_38 : decode prog_12_method_34_code 38 = .ok (.ireturn, 1) := by decide +kernel
theorem d_Z_kept_39 : decode prog_12_method_34_code 39 = .ok (.iload_n 2, 1) := by decide +kernel
theorem d_Z_kept_40 : decode prog_12_method_34_code 40 = .ok (.ifCond .ne 12, 3) := by decide +kernel
theorem d_Z_kept_43 : decode prog_12_method_34_code 43 = .ok (.aload_n 0, 1) := by decide +kernel
theorem d_Z_kept_44 : decode prog_12_method_34_code 44 = .ok (.getfield 39, 3) := by decide +kernel
theorem d_Z_kept_47 : decode prog_12_method_34_code 47 = .ok (.iload_n 1, 1) := by decide +kernel
theorem d_Z_kept_48 : decode prog_12_method_34_code 48 = .ok (.iaload, 1) := by decide +kernel
theorem d_Z_kept_49 : decode prog_12_method_34_code 49 = .ok (.goto 65, 3) := by decide +kernel
theorem d_Z_kept_52 : decode prog_12_method_34_code 52 = .ok (.iload_n 2, 1) := by decide +kernel
theorem d_Z_kept_53 : decode prog_12_method_34_code 53 = .ok (.iconst 1, 1) := by decide +kernel
theorem d_Z_kept_54 : decode prog_12_method_34_code 54 = .ok (.if_icmp .ne 12, 3) := by decide +kernel
theorem d_Z_kept_57 : decode prog_12_method_34_code 57 = .ok (.aload_n 0, 1) := by decide +kernel
theorem d_Z_kept_58 : decode prog_12_method_34_code 58 = .ok (.getfield 42, 3) := by decide +kernel
theorem d_Z_kept_61 : decode prog_12_method_34_code 61 = .ok (.iload_n 1, 1) := by decide +kernel
theorem d_Z_kept_62 : decode prog_12_method_34_code 62 = .ok (.iaload, 1) := by decide +kernel
theorem d_Z_kept_63 : decode prog_12_method_34_code 63 = .ok (.goto 51, 3) := by decide +kernel
theorem d_Z_kept_66 : decode prog_12_method_34_code 66 = .ok (.iload_n 2, 1) := by decide +kernel
theorem d_Z_kept_67 : decode prog_12_method_34_code 67 = .ok (.iconst 2, 1) := by decide +kernel
theorem d_Z_kept_68 : decode prog_12_method_34_code 68 = .ok (.if_icmp .ne 12, 3) := by decide +kernel
theorem d_Z_kept_71 : decode prog_12_method_34_code 71 = .ok (.aload_n 0, 1) := by decide +kernel
theorem d_Z_kept_72 : decode prog_12_method_34_code 72 = .ok (.getfield 45, 3) := by decide +kernel
theorem d_Z_kept_75 : decode prog_12_method_34_code 75 = .ok (.iload_n 1, 1) := by decide +kernel
theorem d_Z_kept_76 : decode prog_12_method_34_code 76 = .ok (.iaload, 1) := by decide +kernel
theorem d_Z_kept_77 : decode prog_12_method_34_code 77 = .ok (.goto 37, 3) := by decide +kernel
theorem d_Z_kept_80 : decode prog_12_method_34_code 80 = .ok (.iload_n 2, 1) := by decide +kernel
theorem d_Z_kept_81 : decode prog_12_method_34_code 81 = .ok (.iconst 3, 1) := by decide +kernel
theorem d_Z_kept_82 : decode prog_12_method_34_code 82 = .ok (.if_icmp .ne 12, 3) := by decide +kernel
theorem d_Z_kept_85 : decode prog_12_method_34_code 85 = .ok (.aload_n 0, 1) := by decide +kernel
theorem d_Z_kept_86 : decode prog_12_method_34_code 86 = .ok (.getfield 48, 3) := by decide +kernel
theorem d_Z_kept_89 : decode prog_12_method_34_code 89 = .ok (.iload_n 1, 1) := by decide +kernel
theorem d_Z_kept_90 : decode prog_12_method_34_code 90 = .ok (.iaload, 1) := by decide +kernel
theorem d_Z_kept_91 : decode prog_12_method_34_code 91 = .ok (.goto 23, 3) := by decide +kernel
theorem d_Z_kept_94 : decode prog_12_method_34_code 94 = .ok (.iload_n 2, 1) := by decide +kernel
theorem d_Z_kept_95 : decode prog_12_method_34_code 95 = .ok (.iconst 4, 1) := by decide +kernel
theorem d_Z_kept_96 : decode prog_12_method_34_code 96 = .ok (.if_icmp .ne 12, 3) := by decide +kernel
theorem d_Z_kept_99 : decode prog_12_method_34_code 99 = .ok (.aload_n 0, 1) := by decide +kernel
theorem d_Z_kept_100 : decode prog_12_method_34_code 100 = .ok (.getfield 51, 3) := by decide +kernel
theorem d_Z_kept_103 : decode prog_12_method_34_code 103 = .ok (.iload_n 1, 1) := by decide +kernel
theorem d_Z_kept_104 : decode prog_12_method_34_code 104 = .ok (.iaload, 1) := by decide +kernel
theorem d_Z_kept_105 : decode prog_12_method_34_code 105 = .ok (.goto 9, 3) := by decide +kernel
theorem d_Z_kept_108 : decode prog_12_method_34_code 108 = .ok (.aload_n 0, 1) := by decide +kernel
theorem d_Z_kept_109 : decode prog_12_method_34_code 109 = .ok (.getfield 54, 3) := by decide +kernel
theorem d_Z_kept_112 : decode prog_12_method_34_code 112 = .ok (.iload_n 1, 1) := by decide +kernel
theorem d_Z_kept_113 : decode prog_12_method_34_code 113 = .ok (.iaload, 1) := by decide +kernel
theorem d_Z_kept_114 : decode prog_12_method_34_code 114 = .ok (.ireturn, 1) := by decide +kernel
def cd_Z_kept_0 : Nat → g_T := g_tab [(0, tr_ald 0 1), (1, tr_cst (.int (0)) 2), (2, tr_put 10 0 (.int) 5), (5, tr_ild 1 6), (6, tr_i2l 7), (7, tr_cst (.long (0)) 8), (8, tr_ald 0 9), (9, tr_get 10 24 12), (12, tr_cst (.int (1)) 13), (13, tr_ii (fun x y => x - y) 14), (14, tr_i2l 15), (15, tr_cS J_Z_within 3 18), (18, tr_if1 (fun x => x = 0) 33 21), (21, tr_ild 2 22), (22, tr_i2l 23), (23, tr_cst (.long (0)) 24)]
set_option maxRecDepth 100000 in
theorem ok_Z_kept_0 : ∀ pc, g_S (J_Z_kept) pc (cd_Z_kept_0 pc) := g_tab_ok <|
  List.forall_mem_cons.mpr ⟨so_aload_n d_Z_kept_0 rfl rfl,
  List.forall_mem_cons.mpr ⟨so_iconst (by decide) d_Z_kept_1 rfl,
  List.forall_mem_cons.mpr ⟨so_put ft_Z d_Z_kept_2 (rfl : vwCl[10]? = some (R_Z, F_Z, 40)) (Nat.le_of_ble_eq_true rfl) i_Z w_4_98 tk_Z n_Z rfl rfl rfl,
  List.forall_mem_cons.mpr ⟨so_iload_n d_Z_kept_5 rfl rfl,
  List.forall_mem_cons.mpr ⟨so_i2l d_Z_kept_6 rfl,
  List.forall_mem_cons.mpr ⟨so_lconst (by decide) d_Z_kept_7 rfl,
  List.forall_mem_cons.mpr ⟨so_aload_n d_Z_kept_8 rfl rfl,
  List.forall_mem_cons.mpr ⟨so_get d_Z_kept_9 (rfl : vwCl[10]? = some (R_Z, F_Z, 40)) (Nat.le_of_ble_eq_true rfl) i_Z w_4_122 rfl,
  List.forall_mem_cons.mpr ⟨so_iconst (by decide) d_Z_kept_12 rfl,
  List.forall_mem_cons.mpr ⟨so_isub d_Z_kept_13 rfl,
  List.forall_mem_cons.mpr ⟨so_i2l d_Z_kept_14 rfl,
  List.forall_mem_cons.mpr ⟨so_cS g_good d_Z_kept_15 ⟨w_4_230, (Nat.le_of_ble_eq_true rfl), (Nat.le_of_ble_eq_true rfl), w_1_12, ⟨by decide, by decide⟩, by decide +kernel⟩ w_4_228 w_4_229 rfl,
  List.forall_mem_cons.mpr ⟨so_if_eq d_Z_kept_18 (by decide) rfl,
  List.forall_mem_cons.mpr ⟨so_iload_n d_Z_kept_21 rfl rfl,
  List.forall_mem_cons.mpr ⟨so_i2l d_Z_kept_22 rfl,
  List.forall_mem_cons.mpr ⟨so_lconst (by decide) d_Z_kept_23 rfl,
  fun _ h => absurd h List.not_mem_nil⟩⟩⟩⟩⟩⟩⟩⟩⟩⟩⟩⟩⟩⟩⟩⟩
def cd_Z_kept_1 : Nat → g_T := g_tab [(24, tr_cst (.long (5)) 27), (27, tr_cS J_Z_within 3 30), (30, tr_if1 (fun x => ¬ x = 0) 39 33), (33, tr_ald 0 34), (34, tr_cst (.int (1)) 35), (35, tr_cV J_Z_fail 10 1 38), (38, tr_ri), (39, tr_ild 2 40), (40, tr_if1 (fun x => ¬ x = 0) 52 43), (43, tr_ald 0 44), (44, tr_get 10 26 47), (47, tr_ild 1 48), (48, tr_ial 49), (49, tr_goto 114), (52, tr_ild 2 53), (53, tr_cst (.int (1)) 54)]
set_option maxRecDepth 100000 in
theorem ok_Z_kept_1 : ∀ pc, g_S (J_Z_kept) pc (cd_Z_kept_1 pc) := g_tab_ok <|
  List.forall_mem_cons.mpr ⟨so_ldc2 w_5_119 d_Z_kept_24 rfl,
  List.forall_mem_cons.mpr ⟨so_cS g_good d_Z_kept_27 ⟨w_4_230, (Nat.le_of_ble_eq_true rfl), (Nat.le_of_ble_eq_true rfl), w_1_12, ⟨by decide, by decide⟩, by decide +kernel⟩ w_4_228 w_4_229 rfl,
  List.forall_mem_cons.mpr ⟨so_if_ne d_Z_kept_30 (by decide) rfl,
  List.forall_mem_cons.mpr ⟨so_aload_n d_Z_kept_33 rfl rfl,
  List.forall_mem_cons.mpr ⟨so_iconst (by decide) d_Z_kept_34 rfl,
  List.forall_mem_cons.mpr ⟨so_cV g_good d_Z_kept_35 ⟨w_4_234, (Nat.le_of_ble_eq_true rfl), (Nat.le_of_ble_eq_true rfl), w_1_12, ⟨by decide, by decide⟩, by decide +kernel⟩ (rfl : vwCl[10]? = some (R_Z, F_Z, 40)) w_4_231 w_4_233 w_p27 rfl,
  List.forall_mem_cons.mpr ⟨so_iret d_Z_kept_38 rfl,
  List.forall_mem_cons.mpr ⟨so_iload_n d_Z_kept_39 rfl rfl,
  List.forall_mem_cons.mpr ⟨so_if_ne d_Z_kept_40 (by decide) rfl,
  List.forall_mem_cons.mpr ⟨so_aload_n d_Z_kept_43 rfl rfl,
  List.forall_mem_cons.mpr ⟨so_get d_Z_kept_44 (rfl : vwCl[10]? = some (R_Z, F_Z, 40)) (Nat.le_of_ble_eq_true rfl) i_Z w_4_124 rfl,
  List.forall_mem_cons.mpr ⟨so_iload_n d_Z_kept_47 rfl rfl,
  List.forall_mem_cons.mpr ⟨so_iaload d_Z_kept_48 rfl,
  List.forall_mem_cons.mpr ⟨so_goto d_Z_kept_49 (by decide),
  List.forall_mem_cons.mpr ⟨so_iload_n d_Z_kept_52 rfl rfl,
  List.forall_mem_cons.mpr ⟨so_iconst (by decide) d_Z_kept_53 rfl,
  fun _ h => absurd h List.not_mem_nil⟩⟩⟩⟩⟩⟩⟩⟩⟩⟩⟩⟩⟩⟩⟩⟩
def cd_Z_kept_2 : Nat → g_T := g_tab [(54, tr_if2 (fun x y => ¬ x = y) 66 57), (57, tr_ald 0 58), (58, tr_get 10 27 61), (61, tr_ild 1 62), (62, tr_ial 63), (63, tr_goto 114), (66, tr_ild 2 67), (67, tr_cst (.int (2)) 68), (68, tr_if2 (fun x y => ¬ x = y) 80 71), (71, tr_ald 0 72), (72, tr_get 10 28 75), (75, tr_ild 1 76), (76, tr_ial 77), (77, tr_goto 114), (80, tr_ild 2 81), (81, tr_cst (.int (3)) 82)]
set_option maxRecDepth 100000 in
theorem ok_Z_kept_2 : ∀ pc, g_S (J_Z_kept) pc (cd_Z_kept_2 pc) := g_tab_ok <|
  List.forall_mem_cons.mpr ⟨so_icmp_ne d_Z_kept_54 (by decide) rfl,
  List.forall_mem_cons.mpr ⟨so_aload_n d_Z_kept_57 rfl rfl,
  List.forall_mem_cons.mpr ⟨so_get d_Z_kept_58 (rfl : vwCl[10]? = some (R_Z, F_Z, 40)) (Nat.le_of_ble_eq_true rfl) i_Z w_4_125 rfl,
  List.forall_mem_cons.mpr ⟨so_iload_n d_Z_kept_61 rfl rfl,
  List.forall_mem_cons.mpr ⟨so_iaload d_Z_kept_62 rfl,
  List.forall_mem_cons.mpr ⟨so_goto d_Z_kept_63 (by decide),
  List.forall_mem_cons.mpr ⟨so_iload_n d_Z_kept_66 rfl rfl,
  List.forall_mem_cons.mpr ⟨so_iconst (by decide) d_Z_kept_67 rfl,
  List.forall_mem_cons.mpr ⟨so_icmp_ne d_Z_kept_68 (by decide) rfl,
  List.forall_mem_cons.mpr ⟨so_aload_n d_Z_kept_71 rfl rfl,
  List.forall_mem_cons.mpr ⟨so_get d_Z_kept_72 (rfl : vwCl[10]? = some (R_Z, F_Z, 40)) (Nat.le_of_ble_eq_true rfl) i_Z w_4_126 rfl,
  List.forall_mem_cons.mpr ⟨so_iload_n d_Z_kept_75 rfl rfl,
  List.forall_mem_cons.mpr ⟨so_iaload d_Z_kept_76 rfl,
  List.forall_mem_cons.mpr ⟨so_goto d_Z_kept_77 (by decide),
  List.forall_mem_cons.mpr ⟨so_iload_n d_Z_kept_80 rfl rfl,
  List.forall_mem_cons.mpr ⟨so_iconst (by decide) d_Z_kept_81 rfl,
  fun _ h => absurd h List.not_mem_nil⟩⟩⟩⟩⟩⟩⟩⟩⟩⟩⟩⟩⟩⟩⟩⟩
def cd_Z_kept_3 : Nat → g_T := g_tab [(82, tr_if2 (fun x y => ¬ x = y) 94 85), (85, tr_ald 0 86), (86, tr_get 10 29 89), (89, tr_ild 1 90), (90, tr_ial 91), (91, tr_goto 114), (94, tr_ild 2 95), (95, tr_cst (.int (4)) 96), (96, tr_if2 (fun x y => ¬ x = y) 108 99), (99, tr_ald 0 100), (100, tr_get 10 30 103), (103, tr_ild 1 104), (104, tr_ial 105), (105, tr_goto 114), (108, tr_ald 0 109), (109, tr_get 10 31 112)]
set_option maxRecDepth 100000 in
theorem ok_Z_kept_3 : ∀ pc, g_S (J_Z_kept) pc (cd_Z_kept_3 pc) := g_tab_ok <|
  List.forall_mem_cons.mpr ⟨so_icmp_ne d_Z_kept_82 (by decide) rfl,
  List.forall_mem_cons.mpr ⟨so_aload_n d_Z_kept_85 rfl rfl,
  List.forall_mem_cons.mpr ⟨so_get d_Z_kept_86 (rfl : vwCl[10]? = some (R_Z, F_Z, 40)) (Nat.le_of_ble_eq_true rfl) i_Z w_4_127 rfl,
  List.forall_mem_cons.mpr ⟨so_iload_n d_Z_kept_89 rfl rfl,
  List.forall_mem_cons.mpr ⟨so_iaload d_Z_kept_90 rfl,
  List.forall_mem_cons.mpr ⟨so_goto d_Z_kept_91 (by decide),
  List.forall_mem_cons.mpr ⟨so_iload_n d_Z_kept_94 rfl rfl,
  List.forall_mem_cons.mpr ⟨so_iconst (by decide) d_Z_kept_95 rfl,
  List.forall_mem_cons.mpr ⟨so_icmp_ne d_Z_kept_96 (by decide) rfl,
  List.forall_mem_cons.mpr ⟨so_aload_n d_Z_kept_99 rfl rfl,
  List.forall_mem_cons.mpr ⟨so_get d_Z_kept_100 (rfl : vwCl[10]? = some (R_Z, F_Z, 40)) (Nat.le_of_ble_eq_true rfl) i_Z w_4_128 rfl,
  List.forall_mem_cons.mpr ⟨so_iload_n d_Z_kept_103 rfl rfl,
  List.forall_mem_cons.mpr ⟨so_iaload d_Z_kept_104 rfl,
  List.forall_mem_cons.mpr ⟨so_goto d_Z_kept_105 (by decide),
  List.forall_mem_cons.mpr ⟨so_aload_n d_Z_kept_108 rfl rfl,
  List.forall_mem_cons.mpr ⟨so_get d_Z_kept_109 (rfl : vwCl[10]? = some (R_Z, F_Z, 40)) (Nat.le_of_ble_eq_true rfl) i_Z w_4_129 rfl,
  fun _ h => absurd h List.not_mem_nil⟩⟩⟩⟩⟩⟩⟩⟩⟩⟩⟩⟩⟩⟩⟩⟩
def cd_Z_kept_4 : Nat → g_T := g_tab [(112, tr_ild 1 113), (113, tr_ial 114), (114, tr_ri)]
set_option maxRecDepth 100000 in
theorem ok_Z_kept_4 : ∀ pc, g_S (J_Z_kept) pc (cd_Z_kept_4 pc) := g_tab_ok <|
  List.forall_mem_cons.mpr ⟨so_iload_n d_Z_kept_112 rfl rfl,
  List.forall_mem_cons.mpr ⟨so_iaload d_Z_kept_113 rfl,
  List.forall_mem_cons.mpr ⟨so_iret d_Z_kept_114 rfl,
  fun _ h => absurd h List.not_mem_nil⟩⟩⟩
def cd_Z_kept : Nat → g_T := g_chk [(23, cd_Z_kept_0), (53, cd_Z_kept_1), (81, cd_Z_kept_2), (109, cd_Z_kept_3), (114, cd_Z_kept_4)]
theorem ok_Z_kept : ∀ pc, g_S (J_Z_kept) pc (cd_Z_kept pc) := g_chk_ok <|
  List.forall_mem_cons.mpr ⟨ok_Z_kept_0,
  List.forall_mem_cons.mpr ⟨ok_Z_kept_1,
  List.forall_mem_cons.mpr ⟨ok_Z_kept_2,
  List.forall_mem_cons.mpr ⟨ok_Z_kept_3,
  List.forall_mem_cons.mpr ⟨ok_Z_kept_4,
  fun _ h => absurd h List.not_mem_nil⟩⟩⟩⟩⟩
abbrev J_Z_isBefore : g_J := (y_Z_isBefore, prog_12_method_35_code, 3, (some .boolean), (0, 0), [], none)
theorem d_Z_isBefore_0 : decode prog_12_method_35_code 0 = .ok (.aload_n 0, 1) := by decide +kernel
theorem d_Z_isBefore_1 : decode prog_12_method_35_code 1 = .ok (.getfield 51, 3) := by decide +kernel
theorem d_Z_isBefore_4 : decode prog_12_method_35_code 4 = .ok (.iload_n 1, 1) := by decide +kernel
theorem d_Z_isBefore_5 : decode prog_12_method_35_code 5 = .ok (.iaload, 1) := by decide +kernel
theorem d_Z_isBefore_6 : decode prog_12_method_35_code 6 = .ok (.aload_n 0, 1) := by decide +kernel
theorem d_Z_isBefore_7 : decode prog_12_method_35_code 7 = .ok (.getfield 51, 3) := by decide +kernel
theorem d_Z_isBefore_10 : decode prog_12_method_35_code 10 = .ok (.iload_n 2, 1) := by decide +kernel
theorem d_Z_isBefore_11 : decode prog_12_method_35_code 11 = .ok (.iaload, 1) := by decide +kernel
theorem d_Z_isBefore_12 : decode prog_12_method_35_code 12 = .ok (.if_icmp .eq 24, 3) := by decide +kernel
theorem d_Z_isBefore_15 : decode prog_12_method_35_code 15 = .ok (.aload_n 0, 1) := by decide +kernel
theorem d_Z_isBefore_16 : decode prog_12_method_35_code 16 = .ok (.getfield 51, 3) := by decide +kernel
theorem d_Z_isBefore_19 : decode prog_12_method_35_code 19 = .ok (.iload_n 1, 1) := by decide +kernel
theorem d_Z_isBefore_20 : decode prog_12_method_35_code 20 = .ok (.iaload, 1) := by decide +kernel
theorem d_Z_isBefore_21 : decode prog_12_method_35_code 21 = .ok (.aload_n 0, 1) := by decide +kernel
theorem d_Z_isBefore_22 : decode prog_12_method_35_code 22 = .ok (.getfield 51, 3) := by decide +kernel
theorem d_Z_isBefore_25 : decode prog_12_method_35_code 25 = .ok (.iload_n 2, 1) := by decide +kernel
theorem d_Z_isBefore_26 : decode prog_12_method_35_code 26 = .ok (.iaload, 1) := by decide +kernel
theorem d_Z_isBefore_27 : decode prog_12_method_35_code 27 = .ok (.if_icmp .ge 7, 3) := by decide +kernel
theorem d_Z_isBefore_30 : decode prog_12_method_35_code 30 = .ok (.iconst 1, 1) := by decide +kernel
theorem d_Z_isBefore_31 : decode prog_12_method_35_code 31 = .ok (.goto 4, 3) := by decide +kernel
theorem d_Z_isBefore_34 : decode prog_12_method_35_code 34 = .ok (.iconst 0, 1) := by decide +kernel
theorem d_Z_isBefore_35 : decode prog_12_method_35_code 35 = .ok (.ireturn, 1) := by decide +kernel
theorem d_Z_isBefore_36 : decode prog_12_method_35_code 36 = .ok (.aload_n 0, 1) := by decide +kernel
theorem d_Z_isBefore_37 : decode prog_12_method_35_code 37 = .ok (.getfield 48, 3) := by decide +kernel
theorem d_Z_isBefore_40 : decode prog_12_method_35_code 40 = .ok (.iload_n 1, 1) := by decide +kernel
theorem d_Z_isBefore_41 : decode prog_12_method_35_code 41 = .ok (.iaload, 1) := by decide +kernel
theorem d_Z_isBefore_42 : decode prog_12_method_35_code 42 = .ok (.aload_n 0, 1) := by decide +kernel
theorem d_Z_isBefore_43 : decode prog_12_method_35_code 43 = .ok (.getfield 48, 3) := by decide +kernel
theorem d_Z_isBefore_46 : decode prog_12_method_35_code 46 = .ok (.iload_n 2, 1) := by decide +kernel
theorem d_Z_isBefore_47 : decode prog_12_method_35_code 47 = .ok (.iaload, 1) := by decide +kernel
theorem d_Z_isBefore_48 : decode prog_12_method_35_code 48 = .ok (.if_icmp .eq 24, 3) := by decide +kernel
theorem d_Z_isBefore_51 : decode prog_12_method_35_code 51 = .ok (.aload_n 0, 1) := by decide +kernel
theorem d_Z_isBefore_52 : decode prog_12_method_35_code 52 = .ok (.getfield 48, 3) := by decide +kernel
theorem d_Z_isBefore_55 : decode prog_12_method_35_code 55 = .ok (.iload_n 1, 1) := by decide +kernel
theorem d_Z_isBefore_56 : decode prog_12_method_35_code 56 = .ok (.iaload, 1) := by decide +kernel
theorem d_Z_isBefore_57 : decode prog_12_method_35_code 57 = .ok (.aload_n 0, 1) := by decide +kernel
theorem d_Z_isBefore_58 : decode prog_12_method_35_code 58 = .ok (.getfield 48, 3) := by decide +kernel
theorem d_Z_isBefore_61 : decode prog_12_method_35_code 61 = .ok (.iload_n 2, 1) := by decide +kernel
theorem d_Z_isBefore_62 : decode prog_12_method_35_code 62 = .ok (.iaload, 1) := by decide +kernel
theorem d_Z_isBefore_63 : decode prog_12_method_35_code 63 = .ok (.if_icmp .ge 7, 3) := by decide +kernel
theorem d_Z_isBefore_66 : decode prog_12_method_35_code 66 = .ok (.iconst 1, 1) := by decide +kernel
theorem d_Z_isBefore_67 : decode prog_12_method_35_code 67 = .ok (.goto 4, 3) := by decide +kernel
theorem d_Z_isBefore_70 : decode prog_12_method_35_code 70 = .ok (.iconst 0, 1) := by decide +kernel
theorem d_Z_isBefore_71 : decode prog_12_method_35_code 71 = .ok (.ireturn, 1) := by decide +kernel
theorem d_Z_isBefore_72 : decode prog_12_method_35_code 72 = .ok (.iload_n 1, 1) := by decide +kernel
theorem d_Z_isBefore_73 : decode prog_12_method_35_code 73 = .ok (.iload_n 2, 1) := by decide +kernel
theorem d_Z_isBefore_74 : decode prog_12_method_35_code 74 = .ok (.if_icmp .ge 7, 3) := by decide +kernel
theorem d_Z_isBefore_77 : decode prog_12_method_35_code 77 = .ok (.iconst 1, 1) := by decide +kernel
theorem d_Z_isBefore_78 : decode prog_12_method_35_code 78 = .ok (.goto 4, 3) := by decide +kernel
theorem d_Z_isBefore_81 : decode prog_12_method_35_code 81 = .ok (.iconst 0, 1) := by decide +kernel
theorem d_Z_isBefore_82 : decode prog_12_method_35_code 82 = .ok (.ireturn, 1) := by decide +kernel
def cd_Z_isBefore_0 : Nat → g_T := g_tab [(0, tr_ald 0 1), (1, tr_get 10 30 4), (4, tr_ild 1 5), (5, tr_ial 6), (6, tr_ald 0 7), (7, tr_get 10 30 10), (10, tr_ild 2 11), (11, tr_ial 12), (12, tr_if2 (fun x y => x = y) 36 15), (15, tr_ald 0 16), (16, tr_get 10 30 19), (19, tr_ild 1 20), (20, tr_ial 21), (21, tr_ald 0 22), (22, tr_get 10 30 25), (25, tr_ild 2 26)]
set_option maxRecDepth 100000 in
theorem ok_Z_isBefore_0 : ∀ pc, g_S (J_Z_isBefore) pc (cd_Z_isBefore_0 pc) := g_tab_ok <|
  List.forall_mem_cons.mpr ⟨so_aload_n d_Z_isBefore_0 rfl rfl,
  List.forall_mem_cons.mpr ⟨so_get d_Z_isBefore_1 (rfl : vwCl[10]? = some (R_Z, F_Z, 40)) (Nat.le_of_ble_eq_true rfl) i_Z w_4_128 rfl,
  List.forall_mem_cons.mpr ⟨so_iload_n d_Z_isBefore_4 rfl rfl,
  List.forall_mem_cons.mpr ⟨so_iaload d_Z_isBefore_5 rfl,
  List.forall_mem_cons.mpr ⟨so_aload_n d_Z_isBefore_6 rfl rfl,
  List.forall_mem_cons.mpr ⟨so_get d_Z_isBefore_7 (rfl : vwCl[10]? = some (R_Z, F_Z, 40)) (Nat.le_of_ble_eq_true rfl) i_Z w_4_128 rfl,
  List.forall_mem_cons.mpr ⟨so_iload_n d_Z_isBefore_10 rfl rfl,
  List.forall_mem_cons.mpr ⟨so_iaload d_Z_isBefore_11 rfl,
  List.forall_mem_cons.mpr ⟨so_icmp_eq d_Z_isBefore_12 (by decide) rfl,
  List.forall_mem_cons.mpr ⟨so_aload_n d_Z_isBefore_15 rfl rfl,
  List.forall_mem_cons.mpr ⟨so_get d_Z_isBefore_16 (rfl : vwCl[10]? = some (R_Z, F_Z, 40)) (Nat.le_of_ble_eq_true rfl) i_Z w_4_128 rfl,
  List.forall_mem_cons.mpr ⟨so_iload_n d_Z_isBefore_19 rfl rfl,
  List.forall_mem_cons.mpr ⟨so_iaload d_Z_isBefore_20 rfl,
  List.forall_mem_cons.mpr ⟨so_aload_n d_Z_isBefore_21 rfl rfl,
  List.forall_mem_cons.mpr ⟨so_get d_Z_isBefore_22 (rfl : vwCl[10]? = some (R_Z, F_Z, 40)) (Nat.le_of_ble_eq_true rfl) i_Z w_4_128 rfl,
  List.forall_mem_cons.mpr ⟨so_iload_n d_Z_isBefore_25 rfl rfl,
  fun _ h => absurd h List.not_mem_nil⟩⟩⟩⟩⟩⟩⟩⟩⟩⟩⟩⟩⟩⟩⟩⟩
def cd_Z_isBefore_1 : Nat → g_T := g_tab [(26, tr_ial 27), (27, tr_if2 (fun x y => y ≤ x) 34 30), (30, tr_cst (.int (1)) 31), (31, tr_goto 35), (34, tr_cst (.int (0)) 35), (35, tr_rz), (36, tr_ald 0 37), (37, tr_get 10 29 40), (40, tr_ild 1 41), (41, tr_ial 42), (42, tr_ald 0 43), (43, tr_get 10 29 46), (46, tr_ild 2 47), (47, tr_ial 48), (48, tr_if2 (fun x y => x = y) 72 51), (51, tr_ald 0 52)]
set_option maxRecDepth 100000 in
theorem ok_Z_isBefore_1 : ∀ pc, g_S (J_Z_isBefore) pc (cd_Z_isBefore_1 pc) := g_tab_ok <|
  List.forall_mem_cons.mpr ⟨so_iaload d_Z_isBefore_26 rfl,
  List.forall_mem_cons.mpr ⟨so_icmp_ge d_Z_isBefore_27 (by decide) rfl,
  List.forall_mem_cons.mpr ⟨so_iconst (by decide) d_Z_isBefore_30 rfl,
  List.forall_mem_cons.mpr ⟨so_goto d_Z_isBefore_31 (by decide),
  List.forall_mem_cons.mpr ⟨so_iconst (by decide) d_Z_isBefore_34 rfl,
  List.forall_mem_cons.mpr ⟨so_zret d_Z_isBefore_35 rfl,
  List.forall_mem_cons.mpr ⟨so_aload_n d_Z_isBefore_36 rfl rfl,
  List.forall_mem_cons.mpr ⟨so_get d_Z_isBefore_37 (rfl : vwCl[10]? = some (R_Z, F_Z, 40)) (Nat.le_of_ble_eq_true rfl) i_Z w_4_127 rfl,
  List.forall_mem_cons.mpr ⟨so_iload_n d_Z_isBefore_40 rfl rfl,
  List.forall_mem_cons.mpr ⟨so_iaload d_Z_isBefore_41 rfl,
  List.forall_mem_cons.mpr ⟨so_aload_n d_Z_isBefore_42 rfl rfl,
  List.forall_mem_cons.mpr ⟨so_get d_Z_isBefore_43 (rfl : vwCl[10]? = some (R_Z, F_Z, 40)) (Nat.le_of_ble_eq_true rfl) i_Z w_4_127 rfl,
  List.forall_mem_cons.mpr ⟨so_iload_n d_Z_isBefore_46 rfl rfl,
  List.forall_mem_cons.mpr ⟨so_iaload d_Z_isBefore_47 rfl,
  List.forall_mem_cons.mpr ⟨so_icmp_eq d_Z_isBefore_48 (by decide) rfl,
  List.forall_mem_cons.mpr ⟨so_aload_n d_Z_isBefore_51 rfl rfl,
  fun _ h => absurd h List.not_mem_nil⟩⟩⟩⟩⟩⟩⟩⟩⟩⟩⟩⟩⟩⟩⟩⟩
def cd_Z_isBefore_2 : Nat → g_T := g_tab [(52, tr_get 10 29 55), (55, tr_ild 1 56), (56, tr_ial 57), (57, tr_ald 0 58), (58, tr_get 10 29 61), (61, tr_ild 2 62), (62, tr_ial 63), (63, tr_if2 (fun x y => y ≤ x) 70 66), (66, tr_cst (.int (1)) 67), (67, tr_goto 71), (70, tr_cst (.int (0)) 71), (71, tr_rz), (72, tr_ild 1 73), (73, tr_ild 2 74), (74, tr_if2 (fun x y => y ≤ x) 81 77), (77, tr_cst (.int (1)) 78)]
set_option maxRecDepth 100000 in
theorem ok_Z_isBefore_2 : ∀ pc, g_S (J_Z_isBefore) pc (cd_Z_isBefore_2 pc) := g_tab_ok <|
  List.forall_mem_cons.mpr ⟨so_get d_Z_isBefore_52 (rfl : vwCl[10]? = some (R_Z, F_Z, 40)) (Nat.le_of_ble_eq_true rfl) i_Z w_4_127 rfl,
  List.forall_mem_cons.mpr ⟨so_iload_n d_Z_isBefore_55 rfl rfl,
  List.forall_mem_cons.mpr ⟨so_iaload d_Z_isBefore_56 rfl,
  List.forall_mem_cons.mpr ⟨so_aload_n d_Z_isBefore_57 rfl rfl,
  List.forall_mem_cons.mpr ⟨so_get d_Z_isBefore_58 (rfl : vwCl[10]? = some (R_Z, F_Z, 40)) (Nat.le_of_ble_eq_true rfl) i_Z w_4_127 rfl,
  List.forall_mem_cons.mpr ⟨so_iload_n d_Z_isBefore_61 rfl rfl,
  List.forall_mem_cons.mpr ⟨so_iaload d_Z_isBefore_62 rfl,
  List.forall_mem_cons.mpr ⟨so_icmp_ge d_Z_isBefore_63 (by decide) rfl,
  List.forall_mem_cons.mpr ⟨so_iconst (by decide) d_Z_isBefore_66 rfl,
  List.forall_mem_cons.mpr ⟨so_goto d_Z_isBefore_67 (by decide),
  List.forall_mem_cons.mpr ⟨so_iconst (by decide) d_Z_isBefore_70 rfl,
  List.forall_mem_cons.mpr ⟨so_zret d_Z_isBefore_71 rfl,
  List.forall_mem_cons.mpr ⟨so_iload_n d_Z_isBefore_72 rfl rfl,
  List.forall_mem_cons.mpr ⟨so_iload_n d_Z_isBefore_73 rfl rfl,
  List.forall_mem_cons.mpr ⟨so_icmp_ge d_Z_isBefore_74 (by decide) rfl,
  List.forall_mem_cons.mpr ⟨so_iconst (by decide) d_Z_isBefore_77 rfl,
  fun _ h => absurd h List.not_mem_nil⟩⟩⟩⟩⟩⟩⟩⟩⟩⟩⟩⟩⟩⟩⟩⟩
def cd_Z_isBefore_3 : Nat → g_T := g_tab [(78, tr_goto 82), (81, tr_cst (.int (0)) 82), (82, tr_rz)]
set_option maxRecDepth 100000 in
theorem ok_Z_isBefore_3 : ∀ pc, g_S (J_Z_isBefore) pc (cd_Z_isBefore_3 pc) := g_tab_ok <|
  List.forall_mem_cons.mpr ⟨so_goto d_Z_isBefore_78 (by decide),
  List.forall_mem_cons.mpr ⟨so_iconst (by decide) d_Z_isBefore_81 rfl,
  List.forall_mem_cons.mpr ⟨so_zret d_Z_isBefore_82 rfl,
  fun _ h => absurd h List.not_mem_nil⟩⟩⟩
def cd_Z_isBefore : Nat → g_T := g_chk [(25, cd_Z_isBefore_0), (51, cd_Z_isBefore_1), (77, cd_Z_isBefore_2), (82, cd_Z_isBefore_3)]
theorem ok_Z_isBefore : ∀ pc, g_S (J_Z_isBefore) pc (cd_Z_isBefore pc) := g_chk_ok <|
  List.forall_mem_cons.mpr ⟨ok_Z_isBefore_0,
  List.forall_mem_cons.mpr ⟨ok_Z_isBefore_1,
  List.forall_mem_cons.mpr ⟨ok_Z_isBefore_2,
  List.forall_mem_cons.mpr ⟨ok_Z_isBefore_3,
  fun _ h => absurd h List.not_mem_nil⟩⟩⟩⟩
abbrev J_Z_merged : g_J := (y_Z_merged, prog_12_method_36_code, 6, (some .int), (1, 25), [], none)
theorem d_Z_merged_0 : decode prog_12_method_36_code 0 = .ok (.aload_n 0, 1) := by decide +kernel
theorem d_Z_merged_1 : decode prog_12_method_36_code 1 = .ok (.iconst 0, 1) := by decide +kernel
theorem d_Z_merged_2 : decode prog_12_method_36_code 2 = .ok (.putfield 69, 3) := by decide +kernel
theorem d_Z_merged_5 : decode prog_12_method_36_code 5 = .ok (.iload_n 1, 1) := by decide +kernel
theorem d_Z_merged_6 : decode prog_12_method_36_code 6 = .ok (.i2l, 1) := by decide +kernel
theorem d_Z_merged_7 : decode prog_12_method_36_code 7 = .ok (.lconst 0, 1) := by decide +kernel
theorem d_Z_merged_8 : decode prog_12_method_36_code 8 = .ok (.aload_n 0, 1) := by decide +kernel
theorem d_Z_merged_9 : decode prog_12_method_36_code 9 = .ok (.getfield 218, 3) := by decide +kernel
theorem d_Z_merged_12 : decode prog_12_method_36_code 12 = .ok (.iconst 1, 1) := by decide +kernel
theorem d_Z_merged_13 : decode prog_12_method_36_code 13 = .ok (.isub, 1) := by decide +kernel
theorem d_Z_merged_14 : decode prog_12_method_36_code 14 = .ok (.i2l, 1) := by decide +kernel
theorem d_Z_merged_15 : decode prog_12_method_36_code 15 = .ok (.invokestatic 74, 3) := by decide +kernel
theorem d_Z_merged_18 : decode prog_12_method_36_code 18 = .ok (.ifCond .ne 9, 3) := by decide +kernel
theorem d_Z_merged_21 : decode prog_12_method_36_code 21 = .ok (.aload_n 0, 1) := by decide +kernel
theorem d_Z_merged_22 : decode prog_12_method_36_code 22 = .ok (.iconst 1, 1) := by decide +kernel
theorem d_Z_merged_23 : decode prog_12_method_36_code 23 = .ok (.invokevirtual 78, 3) := by decide +kernel
theorem d_Z_merged_26 : decode prog_12_method_36_code 26 = .ok (.ireturn, 1) := by decide +kernel
theorem d_Z_merged_27 : decode prog_12_method_36_code 27 = .ok (.iconst 0, 1) := by decide +kernel
theorem d_Z_merged_28 : decode prog_12_method_36_code 28 = .ok (.istore_n 2, 1) := by decide +kernel
theorem d_Z_merged_29 : decode prog_12_method_36_code 29 = .ok (.iconst 0, 1) := by decide +kernel
theorem d_Z_merged_30 : decode prog_12_method_36_code 30 = .ok (.istore_n 3, 1) := by decide +kernel
theorem d_Z_merged_31 : decode prog_12_method_36_code 31 = .ok (.iload_n 3, 1) := by decide +kernel
theorem d_Z_merged_32 : decode prog_12_method_36_code 32 = .ok (.aload_n 0, 1) := by decide +kernel
theorem d_Z_merged_33 : decode prog_12_method_36_code 33 = .ok (.getfield 218, 3) := by decide +kernel
theorem d_Z_merged_36 : decode prog_12_method_36_code 36 = .ok (.if_icmp .ge 62, 3) := by decide +kernel
theorem d_Z_merged_39 : decode prog_12_method_36_code 39 = .ok (.iconst 0, 1) := by decide +kernel
theorem d_Z_merged_40 : decode prog_12_method_36_code 40 = .ok (.istore 4, 2) := by decide +kernel
theorem d_Z_merged_42 : decode prog_12_method_36_code 42 = .ok (.iconst 0, 1) := by decide +kernel
theorem d_Z_merged_43 : decode prog_12_method_36_code 43 = .ok (.istore 5, 2) := by decide +kernel
theorem d_Z_merged_45 : decode prog_12_method_36_code 45 = .ok (.iload 5, 2) := by decide +kernel
theorem d_Z_merged_47 : decode prog_12_method_36_code 47 = .ok (.aload_n 0, 1) := by decide +kernel
theorem d_Z_merged_48 : decode prog_12_method_36_code 48 = .ok (.getfield 218, 3) := by decide +kernel
theorem d_Z_merged_51 : decode prog_12_method_36_code 51 = .ok (.if_icmp .ge 29, 3) := by decide +kernel
theorem d_Z_merged_54 : decode prog_12_method_36_code 54 = .ok (.iload 4, 2) := by decide +kernel
theorem d_Z_merged_56 : decode prog_12_method_36_code 56 = .ok (.aload_n 0, 1) := by decide +kernel
theorem d_Z_merged_57 : decode prog_12_method_36_code 57 = .ok (.iload 5, 2) := by decide +kernel
theorem d_Z_merged_59 : decode prog_12_method_36_code 59 = .ok (.iload_n 3, 1) := by decide +kernel
theorem d_Z_merged_60 : decode prog_12_method_36_code 60 = .ok (.invokevirtual 232, 3) := by decide +kernel
theorem d_Z_merged_63 : decode prog_12_method_36_code 63 = .ok (.ifCond .eq 7, 3) := by decide +kernel
theorem d_Z_merged_66 : decode prog_12_method_36_code 66 = .ok (.iconst 1, 1) := by decide +kernel
theorem d_Z_merged_67 : decode prog_12_method_36_code 67 = .ok (.goto 4, 3) := by decide +kernel
theorem d_Z_merged_70 : decode prog_12_method_36_code 70 = .ok (.iconst 0, 1) := by decide +kernel
theorem d_Z_merged_71 : decode prog_12_method_36_code 71 = .ok (.iadd, 1) := by decide +kernel
theorem d_Z_merged_72 : decode prog_12_method_36_code 72 = .ok (.istore 4, 2) := by decide +kernel
theorem d_Z_merged_74 : decode prog_12_method_36_code 74 = .ok (.iinc 5 1, 3) := by decide +kernel
theorem d_Z_merged_77 : decode prog_12_method_36_code 77 = .ok (.goto (-32), 3) := by decide +kernel
theorem d_Z_merged_80 : decode prog_12_method_36_code 80 = .ok (.iload 4, 2) := by decide +kernel
theorem d_Z_merged_82 : decode prog_12_method_36_code 82 = .ok (.iload_n 1, 1) := by decide +kernel
theorem d_Z_merged_83 : decode prog_12_method_36_code 83 = .ok (.if_icmp .ne 7, 3) := by decide +kernel
theorem d_Z_merged_86 : decode prog_12_method_36_code 86 = .ok (.iload_n 3, 1) := by decide +kernel
theorem d_Z_merged_87 : decode prog_12_method_36_code 87 = .ok (.goto 4, 3) := by decide +kernel
theorem d_Z_merged_90 : decode prog_12_method_36_code 90 = .ok (.iload_n 2, 1) := by decide +kernel
theorem d_Z_merged_91 : decode prog_12_method_36_code 91 = .ok (.istore_n 2, 1) := by decide +kernel
theorem d_Z_merged_92 : decode prog_12_method_36_code 92 = .ok (.iinc 3 1, 3) := by decide +kernel
theorem d_Z_merged_95 : decode prog_12_method_36_code 95 = .ok (.goto (-64), 3) := by decide +kernel
theorem d_Z_merged_98 : decode prog_12_method_36_code 98 = .ok (.iload_n 2, 1) := by decide +kernel
theorem d_Z_merged_99 : decode prog_12_method_36_code 99 = .ok (.ireturn, 1) := by decide +kernel
def cd_Z_merged_0 : Nat → g_T := g_tab [(0, tr_ald 0 1), (1, tr_cst (.int (0)) 2), (2, tr_put 10 0 (.int) 5), (5, tr_ild 1 6), (6, tr_i2l 7), (7, tr_cst (.long (0)) 8), (8, tr_ald 0 9), (9, tr_get 10 24 12), (12, tr_cst (.int (1)) 13), (13, tr_ii (fun x y => x - y) 14), (14, tr_i2l 15), (15, tr_cS J_Z_within 3 18), (18, tr_if1 (fun x => ¬ x = 0) 27 21), (21, tr_ald 0 22), (22, tr_cst (.int (1)) 23), (23, tr_cV J_Z_fail 10 1 26)]
set_option maxRecDepth 100000 in
theorem ok_Z_merged_0 : ∀ pc, g_S (J_Z_merged) pc (cd_Z_merged_0 pc) := g_tab_ok <|
  List.forall_mem_cons.mpr ⟨so_aload_n d_Z_merged_0 rfl rfl,
  List.forall_mem_cons.mpr ⟨so_iconst (by decide) d_Z_merged_1 rfl,
  List.forall_mem_cons.mpr ⟨so_put ft_Z d_Z_merged_2 (rfl : vwCl[10]? = some (R_Z, F_Z, 40)) (Nat.le_of_ble_eq_true rfl) i_Z w_4_98 tk_Z n_Z rfl rfl rfl,
  List.forall_mem_cons.mpr ⟨so_iload_n d_Z_merged_5 rfl rfl,
  List.forall_mem_cons.mpr ⟨so_i2l d_Z_merged_6 rfl,
  List.forall_mem_cons.mpr ⟨so_lconst (by decide) d_Z_merged_7 rfl,
  List.forall_mem_cons.mpr ⟨so_aload_n d_Z_merged_8 rfl rfl,
  List.forall_mem_cons.mpr ⟨so_get d_Z_merged_9 (rfl : vwCl[10]? = some (R_Z, F_Z, 40)) (Nat.le_of_ble_eq_true rfl) i_Z w_4_122 rfl,
  List.forall_mem_cons.mpr ⟨so_iconst (by decide) d_Z_merged_12 rfl,
  List.forall_mem_cons.mpr ⟨so_isub d_Z_merged_13 rfl,
  List.forall_mem_cons.mpr ⟨so_i2l d_Z_merged_14 rfl,
  List.forall_mem_cons.mpr ⟨so_cS g_good d_Z_merged_15 ⟨w_4_230, (Nat.le_of_ble_eq_true rfl), (Nat.le_of_ble_eq_true rfl), w_1_12, ⟨by decide, by decide⟩, by decide +kernel⟩ w_4_228 w_4_229 rfl,
  List.forall_mem_cons.mpr ⟨so_if_ne d_Z_merged_18 (by decide) rfl,
  List.forall_mem_cons.mpr ⟨so_aload_n d_Z_merged_21 rfl rfl,
  List.forall_mem_cons.mpr ⟨so_iconst (by decide) d_Z_merged_22 rfl,
  List.forall_mem_cons.mpr ⟨so_cV g_good d_Z_merged_23 ⟨w_4_234, (Nat.le_of_ble_eq_true rfl), (Nat.le_of_ble_eq_true rfl), w_1_12, ⟨by decide, by decide⟩, by decide +kernel⟩ (rfl : vwCl[10]? = some (R_Z, F_Z, 40)) w_4_231 w_4_233 w_p27 rfl,
  fun _ h => absurd h List.not_mem_nil⟩⟩⟩⟩⟩⟩⟩⟩⟩⟩⟩⟩⟩⟩⟩⟩
def cd_Z_merged_1 : Nat → g_T := g_tab [(26, tr_ri), (27, tr_cst (.int (0)) 28), (28, tr_ist 2 29), (29, tr_cst (.int (0)) 30), (30, tr_ist 3 31), (31, tr_ild 3 32), (32, tr_ald 0 33), (33, tr_get 10 24 36), (36, tr_if2 (fun x y => y ≤ x) 98 39), (39, tr_cst (.int (0)) 40), (40, tr_ist 4 42), (42, tr_cst (.int (0)) 43), (43, tr_ist 5 45), (45, tr_ild 5 47), (47, tr_ald 0 48), (48, tr_get 10 24 51)]
set_option maxRecDepth 100000 in
theorem ok_Z_merged_1 : ∀ pc, g_S (J_Z_merged) pc (cd_Z_merged_1 pc) := g_tab_ok <|
  List.forall_mem_cons.mpr ⟨so_iret d_Z_merged_26 rfl,
  List.forall_mem_cons.mpr ⟨so_iconst (by decide) d_Z_merged_27 rfl,
  List.forall_mem_cons.mpr ⟨so_istore_n d_Z_merged_28 rfl (Nat.le_of_ble_eq_true rfl) rfl,
  List.forall_mem_cons.mpr ⟨so_iconst (by decide) d_Z_merged_29 rfl,
  List.forall_mem_cons.mpr ⟨so_istore_n d_Z_merged_30 rfl (Nat.le_of_ble_eq_true rfl) rfl,
  List.forall_mem_cons.mpr ⟨so_iload_n d_Z_merged_31 rfl rfl,
  List.forall_mem_cons.mpr ⟨so_aload_n d_Z_merged_32 rfl rfl,
  List.forall_mem_cons.mpr ⟨so_get d_Z_merged_33 (rfl : vwCl[10]? = some (R_Z, F_Z, 40)) (Nat.le_of_ble_eq_true rfl) i_Z w_4_122 rfl,
  List.forall_mem_cons.mpr ⟨so_icmp_ge d_Z_merged_36 (by decide) rfl,
  List.forall_mem_cons.mpr ⟨so_iconst (by decide) d_Z_merged_39 rfl,
  List.forall_mem_cons.mpr ⟨so_istore d_Z_merged_40 (Nat.le_of_ble_eq_true rfl) rfl,
  List.forall_mem_cons.mpr ⟨so_iconst (by decide) d_Z_merged_42 rfl,
  List.forall_mem_cons.mpr ⟨so_istore d_Z_merged_43 (Nat.le_of_ble_eq_true rfl) rfl,
  List.forall_mem_cons.mpr ⟨so_iload d_Z_merged_45 rfl,
  List.forall_mem_cons.mpr ⟨so_aload_n d_Z_merged_47 rfl rfl,
  List.forall_mem_cons.mpr ⟨so_get d_Z_merged_48 (rfl : vwCl[10]? = some (R_Z, F_Z, 40)) (Nat.le_of_ble_eq_true rfl) i_Z w_4_122 rfl,
  fun _ h => absurd h List.not_mem_nil⟩⟩⟩⟩⟩⟩⟩⟩⟩⟩⟩⟩⟩⟩⟩⟩
def cd_Z_merged_2 : Nat → g_T := g_tab [(51, tr_if2 (fun x y => y ≤ x) 80 54), (54, tr_ild 4 56), (56, tr_ald 0 57), (57, tr_ild 5 59), (59, tr_ild 3 60), (60, tr_cV J_Z_isBefore 10 2 63), (63, tr_if1 (fun x => x = 0) 70 66), (66, tr_cst (.int (1)) 67), (67, tr_goto 71), (70, tr_cst (.int (0)) 71), (71, tr_ii (fun x y => x + y) 72), (72, tr_ist 4 74), (74, tr_inc 5 (1) 77), (77, tr_goto 45), (80, tr_ild 4 82), (82, tr_ild 1 83)]
set_option maxRecDepth 100000 in
theorem ok_Z_merged_2 : ∀ pc, g_S (J_Z_merged) pc (cd_Z_merged_2 pc) := g_tab_ok <|
  List.forall_mem_cons.mpr ⟨so_icmp_ge d_Z_merged_51 (by decide) rfl,
  List.forall_mem_cons.mpr ⟨so_iload d_Z_merged_54 rfl,
  List.forall_mem_cons.mpr ⟨so_aload_n d_Z_merged_56 rfl rfl,
  List.forall_mem_cons.mpr ⟨so_iload d_Z_merged_57 rfl,
  List.forall_mem_cons.mpr ⟨so_iload_n d_Z_merged_59 rfl rfl,
  List.forall_mem_cons.mpr ⟨so_cV g_good d_Z_merged_60 ⟨w_5_127, (Nat.le_of_ble_eq_true rfl), (Nat.le_of_ble_eq_true rfl), w_1_12, ⟨by decide, by decide⟩, by decide +kernel⟩ (rfl : vwCl[10]? = some (R_Z, F_Z, 40)) w_5_124 w_5_126 w_p47 rfl,
  List.forall_mem_cons.mpr ⟨so_if_eq d_Z_merged_63 (by decide) rfl,
  List.forall_mem_cons.mpr ⟨so_iconst (by decide) d_Z_merged_66 rfl,
  List.forall_mem_cons.mpr ⟨so_goto d_Z_merged_67 (by decide),
  List.forall_mem_cons.mpr ⟨so_iconst (by decide) d_Z_merged_70 rfl,
  List.forall_mem_cons.mpr ⟨so_iadd d_Z_merged_71 rfl,
  List.forall_mem_cons.mpr ⟨so_istore d_Z_merged_72 (Nat.le_of_ble_eq_true rfl) rfl,
  List.forall_mem_cons.mpr ⟨so_iinc d_Z_merged_74 (by decide) (Nat.le_of_ble_eq_true rfl) rfl,
  List.forall_mem_cons.mpr ⟨so_goto d_Z_merged_77 (by decide),
  List.forall_mem_cons.mpr ⟨so_iload d_Z_merged_80 rfl,
  List.forall_mem_cons.mpr ⟨so_iload_n d_Z_merged_82 rfl rfl,
  fun _ h => absurd h List.not_mem_nil⟩⟩⟩⟩⟩⟩⟩⟩⟩⟩⟩⟩⟩⟩⟩⟩
def cd_Z_merged_3 : Nat → g_T := g_tab [(83, tr_if2 (fun x y => ¬ x = y) 90 86), (86, tr_ild 3 87), (87, tr_goto 91), (90, tr_ild 2 91), (91, tr_ist 2 92), (92, tr_inc 3 (1) 95), (95, tr_goto 31), (98, tr_ild 2 99), (99, tr_ri)]
set_option maxRecDepth 100000 in
theorem ok_Z_merged_3 : ∀ pc, g_S (J_Z_merged) pc (cd_Z_merged_3 pc) := g_tab_ok <|
  List.forall_mem_cons.mpr ⟨so_icmp_ne d_Z_merged_83 (by decide) rfl,
  List.forall_mem_cons.mpr ⟨so_iload_n d_Z_merged_86 rfl rfl,
  List.forall_mem_cons.mpr ⟨so_goto d_Z_merged_87 (by decide),
  List.forall_mem_cons.mpr ⟨so_iload_n d_Z_merged_90 rfl rfl,
  List.forall_mem_cons.mpr ⟨so_istore_n d_Z_merged_91 rfl (Nat.le_of_ble_eq_true rfl) rfl,
  List.forall_mem_cons.mpr ⟨so_iinc d_Z_merged_92 (by decide) (Nat.le_of_ble_eq_true rfl) rfl,
  List.forall_mem_cons.mpr ⟨so_goto d_Z_merged_95 (by decide),
  List.forall_mem_cons.mpr ⟨so_iload_n d_Z_merged_98 rfl rfl,
  List.forall_mem_cons.mpr ⟨so_iret d_Z_merged_99 rfl,
  fun _ h => absurd h List.not_mem_nil⟩⟩⟩⟩⟩⟩⟩⟩⟩
def cd_Z_merged : Nat → g_T := g_chk [(23, cd_Z_merged_0), (48, cd_Z_merged_1), (82, cd_Z_merged_2), (99, cd_Z_merged_3)]
theorem ok_Z_merged : ∀ pc, g_S (J_Z_merged) pc (cd_Z_merged pc) := g_chk_ok <|
  List.forall_mem_cons.mpr ⟨ok_Z_merged_0,
  List.forall_mem_cons.mpr ⟨ok_Z_merged_1,
  List.forall_mem_cons.mpr ⟨ok_Z_merged_2,
  List.forall_mem_cons.mpr ⟨ok_Z_merged_3,
  fun _ h => absurd h List.not_mem_nil⟩⟩⟩⟩
abbrev J_Z_count : g_J := (y_Z_count, prog_12_method_37_code, 2, (some .int), (0, 0), [], none)
theorem d_Z_count_0 : decode prog_12_method_37_code 0 = .ok (.aload_n 0, 1) := by decide +kernel
theorem d_Z_count_1 : decode prog_12_method_37_code 1 = .ok (.iconst 0, 1) := by decide +kernel
theorem d_Z_count_2 : decode prog_12_method_37_code 2 = .ok (.putfield 69, 3) := by decide +kernel
theorem d_Z_count_5 : decode prog_12_method_37_code 5 = .ok (.iload_n 1, 1) := by decide +kernel
theorem d_Z_count_6 : decode prog_12_method_37_code 6 = .ok (.tableswitch 95 0 8 #[50, 55, 60, 65, 70, 75, 80, 85, 90], 50) := by decide +kernel
theorem d_Z_count_56 : decode prog_12_method_37_code 56 = .ok (.aload_n 0, 1) := by decide +kernel
theorem d_Z_count_57 : decode prog_12_method_37_code 57 = .ok (.getfield 142, 3) := by decide +kernel
theorem d_Z_count_60 : decode prog_12_method_37_code 60 = .ok (.ireturn, 1) := by decide +kernel
theorem d_Z_count_61 : decode prog_12_method_37_code 61 = .ok (.aload_n 0, 1) := by decide +kernel
theorem d_Z_count_62 : decode prog_12_method_37_code 62 = .ok (.getfield 108, 3) := by decide +kernel
theorem d_Z_count_65 : decode prog_12_method_37_code 65 = .ok (.ireturn, 1) := by decide +kernel
theorem d_Z_count_66 : decode prog_12_method_37_code 66 = .ok (.aload_n 0, 1) := by decide +kernel
theorem d_Z_count_67 : decode prog_12_method_37_code 67 = .ok (.getfield 157, 3) := by decide +kernel
theorem d_Z_count_70 : decode prog_12_method_37_code 70 = .ok (.ireturn, 1) := by decide +kernel
theorem d_Z_count_71 : decode prog_12_method_37_code 71 = .ok (.aload_n 0, 1) := by decide +kernel
theorem d_Z_count_72 : decode prog_12_method_37_code 72 = .ok (.getfield 148, 3) := by decide +kernel
theorem d_Z_count_75 : decode prog_12_method_37_code 75 = .ok (.ireturn, 1) := by decide +kernel
theorem d_Z_count_76 : decode prog_12_method_37_code 76 = .ok (.aload_n 0, 1) := by decide +kernel
theorem d_Z_count_77 : decode prog_12_method_37_code 77 = .ok (.getfield 224, 3) := by decide +kernel
theorem d_Z_count_80 : decode prog_12_method_37_code 80 = .ok (.ireturn, 1) := by decide +kernel
theorem d_Z_count_81 : decode prog_12_method_37_code 81 = .ok (.aload_n 0, 1) := by decide +kernel
theorem d_Z_count_82 : decode prog_12_method_37_code 82 = .ok (.getfield 215, 3) := by decide +kernel
theorem d_Z_count_85 : decode prog_12_method_37_code 85 = .ok (.ireturn, 1) := by decide +kernel
theorem d_Z_count_86 : decode prog_12_method_37_code 86 = .ok (.aload_n 0, 1) := by decide +kernel
theorem d_Z_count_87 : decode prog_12_method_37_code 87 = .ok (.getfield 208, 3) := by decide +kernel
theorem d_Z_count_90 : decode prog_12_method_37_code 90 = .ok (.ireturn, 1) := by decide +kernel
theorem d_Z_count_91 : decode prog_12_method_37_code 91 = .ok (.aload_n 0, 1) := by decide +kernel
theorem d_Z_count_92 : decode prog_12_method_37_code 92 = .ok (.getfield 218, 3) := by decide +kernel
theorem d_Z_count_95 : decode prog_12_method_37_code 95 = .ok (.ireturn, 1) := by decide +kernel
theorem d_Z_count_96 : decode prog_12_method_37_code 96 = .ok (.aload_n 0, 1) := by decide +kernel
theorem d_Z_count_97 : decode prog_12_method_37_code 97 = .ok (.getfield 221, 3) := by decide +kernel
theorem d_Z_count_100 : decode prog_12_method_37_code 100 = .ok (.ireturn, 1) := by decide +kernel
theorem d_Z_count_101 : decode prog_12_method_37_code 101 = .ok (.iconst (-1), 1) := by decide +kernel
theorem d_Z_count_102 : decode prog_12_method_37_code 102 = .ok (.ireturn, 1) := by decide +kernel
def cd_Z_count_0 : Nat → g_T := g_tab [(0, tr_ald 0 1), (1, tr_cst (.int (0)) 2), (2, tr_put 10 0 (.int) 5), (5, tr_ild 1 6), (6, tr_sw [(0, 56), (1, 61), (2, 66), (3, 71), (4, 76), (5, 81), (6, 86), (7, 91), (8, 96)] 101), (56, tr_ald 0 57), (57, tr_get 10 1 60), (60, tr_ri), (61, tr_ald 0 62), (62, tr_get 10 5 65), (65, tr_ri), (66, tr_ald 0 67), (67, tr_get 10 11 70), (70, tr_ri), (71, tr_ald 0 72), (72, tr_get 10 12 75)]
set_option maxRecDepth 100000 in
theorem ok_Z_count_0 : ∀ pc, g_S (J_Z_count) pc (cd_Z_count_0 pc) := g_tab_ok <|
  List.forall_mem_cons.mpr ⟨so_aload_n d_Z_count_0 rfl rfl,
  List.forall_mem_cons.mpr ⟨so_iconst (by decide) d_Z_count_1 rfl,
  List.forall_mem_cons.mpr ⟨so_put ft_Z d_Z_count_2 (rfl : vwCl[10]? = some (R_Z, F_Z, 40)) (Nat.le_of_ble_eq_true rfl) i_Z w_4_98 tk_Z n_Z rfl rfl rfl,
  List.forall_mem_cons.mpr ⟨so_iload_n d_Z_count_5 rfl rfl,
  List.forall_mem_cons.mpr ⟨so_tsw d_Z_count_6 (by decide) (by decide) (by decide) (by decide),
  List.forall_mem_cons.mpr ⟨so_aload_n d_Z_count_56 rfl rfl,
  List.forall_mem_cons.mpr ⟨so_get d_Z_count_57 (rfl : vwCl[10]? = some (R_Z, F_Z, 40)) (Nat.le_of_ble_eq_true rfl) i_Z w_4_99 rfl,
  List.forall_mem_cons.mpr ⟨so_iret d_Z_count_60 rfl,
  List.forall_mem_cons.mpr ⟨so_aload_n d_Z_count_61 rfl rfl,
  List.forall_mem_cons.mpr ⟨so_get d_Z_count_62 (rfl : vwCl[10]? = some (R_Z, F_Z, 40)) (Nat.le_of_ble_eq_true rfl) i_Z w_4_103 rfl,
  List.forall_mem_cons.mpr ⟨so_iret d_Z_count_65 rfl,
  List.forall_mem_cons.mpr ⟨so_aload_n d_Z_count_66 rfl rfl,
  List.forall_mem_cons.mpr ⟨so_get d_Z_count_67 (rfl : vwCl[10]? = some (R_Z, F_Z, 40)) (Nat.le_of_ble_eq_true rfl) i_Z w_4_109 rfl,
  List.forall_mem_cons.mpr ⟨so_iret d_Z_count_70 rfl,
  List.forall_mem_cons.mpr ⟨so_aload_n d_Z_count_71 rfl rfl,
  List.forall_mem_cons.mpr ⟨so_get d_Z_count_72 (rfl : vwCl[10]? = some (R_Z, F_Z, 40)) (Nat.le_of_ble_eq_true rfl) i_Z w_4_110 rfl,
  fun _ h => absurd h List.not_mem_nil⟩⟩⟩⟩⟩⟩⟩⟩⟩⟩⟩⟩⟩⟩⟩⟩
def cd_Z_count_1 : Nat → g_T := g_tab [(75, tr_ri), (76, tr_ald 0 77), (77, tr_get 10 21 80), (80, tr_ri), (81, tr_ald 0 82), (82, tr_get 10 22 85), (85, tr_ri), (86, tr_ald 0 87), (87, tr_get 10 23 90), (90, tr_ri), (91, tr_ald 0 92), (92, tr_get 10 24 95), (95, tr_ri), (96, tr_ald 0 97), (97, tr_get 10 25 100), (100, tr_ri)]
set_option maxRecDepth 100000 in
theorem ok_Z_count_1 : ∀ pc, g_S (J_Z_count) pc (cd_Z_count_1 pc) := g_tab_ok <|
  List.forall_mem_cons.mpr ⟨so_iret d_Z_count_75 rfl,
  List.forall_mem_cons.mpr ⟨so_aload_n d_Z_count_76 rfl rfl,
  List.forall_mem_cons.mpr ⟨so_get d_Z_count_77 (rfl : vwCl[10]? = some (R_Z, F_Z, 40)) (Nat.le_of_ble_eq_true rfl) i_Z w_4_119 rfl,
  List.forall_mem_cons.mpr ⟨so_iret d_Z_count_80 rfl,
  List.forall_mem_cons.mpr ⟨so_aload_n d_Z_count_81 rfl rfl,
  List.forall_mem_cons.mpr ⟨so_get d_Z_count_82 (rfl : vwCl[10]? = some (R_Z, F_Z, 40)) (Nat.le_of_ble_eq_true rfl) i_Z w_4_120 rfl,
  List.forall_mem_cons.mpr ⟨so_iret d_Z_count_85 rfl,
  List.forall_mem_cons.mpr ⟨so_aload_n d_Z_count_86 rfl rfl,
  List.forall_mem_cons.mpr ⟨so_get d_Z_count_87 (rfl : vwCl[10]? = some (R_Z, F_Z, 40)) (Nat.le_of_ble_eq_true rfl) i_Z w_4_121 rfl,
  List.forall_mem_cons.mpr ⟨so_iret d_Z_count_90 rfl,
  List.forall_mem_cons.mpr ⟨so_aload_n d_Z_count_91 rfl rfl,
  List.forall_mem_cons.mpr ⟨so_get d_Z_count_92 (rfl : vwCl[10]? = some (R_Z, F_Z, 40)) (Nat.le_of_ble_eq_true rfl) i_Z w_4_122 rfl,
  List.forall_mem_cons.mpr ⟨so_iret d_Z_count_95 rfl,
  List.forall_mem_cons.mpr ⟨so_aload_n d_Z_count_96 rfl rfl,
  List.forall_mem_cons.mpr ⟨so_get d_Z_count_97 (rfl : vwCl[10]? = some (R_Z, F_Z, 40)) (Nat.le_of_ble_eq_true rfl) i_Z w_4_123 rfl,
  List.forall_mem_cons.mpr ⟨so_iret d_Z_count_100 rfl,
  fun _ h => absurd h List.not_mem_nil⟩⟩⟩⟩⟩⟩⟩⟩⟩⟩⟩⟩⟩⟩⟩⟩
def cd_Z_count_2 : Nat → g_T := g_tab [(101, tr_cst (.int (-1)) 102), (102, tr_ri)]
set_option maxRecDepth 100000 in
theorem ok_Z_count_2 : ∀ pc, g_S (J_Z_count) pc (cd_Z_count_2 pc) := g_tab_ok <|
  List.forall_mem_cons.mpr ⟨so_iconst (by decide) d_Z_count_101 rfl,
  List.forall_mem_cons.mpr ⟨so_iret d_Z_count_102 rfl,
  fun _ h => absurd h List.not_mem_nil⟩⟩
def cd_Z_count : Nat → g_T := g_chk [(72, cd_Z_count_0), (100, cd_Z_count_1), (102, cd_Z_count_2)]
theorem ok_Z_count : ∀ pc, g_S (J_Z_count) pc (cd_Z_count pc) := g_chk_ok <|
  List.forall_mem_cons.mpr ⟨ok_Z_count_0,
  List.forall_mem_cons.mpr ⟨ok_Z_count_1,
  List.forall_mem_cons.mpr ⟨ok_Z_count_2,
  fun _ h => absurd h List.not_mem_nil⟩⟩⟩
