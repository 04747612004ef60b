/-! tables, by program (wip/whole/gen/mkt.py T !T_numberOf !T_sumOf !T_differenceOf) -/
abbrev J_T_init : g_J := (y_T_init, prog_1_method_1_code, 2, none, (6, 125), [], none)
theorem d_T_init_0 : decode prog_1_method_1_code 0 = .ok (.aload_n 0, 1) := by decide +kernel
theorem d_T_init_1 : decode prog_1_method_1_code 1 = .ok (.invokespecial 3, 3) := by decide +kernel
theorem d_T_init_4 : decode prog_1_method_1_code 4 = .ok (.aload_n 0, 1) := by decide +kernel
theorem d_T_init_5 : decode prog_1_method_1_code 5 = .ok (.new 9, 3) := by decide +kernel
theorem d_T_init_8 : decode prog_1_method_1_code 8 = .ok (.dup, 1) := by decide +kernel
theorem d_T_init_9 : decode prog_1_method_1_code 9 = .ok (.sipush 16384, 3) := by decide +kernel
theorem d_T_init_12 : decode prog_1_method_1_code 12 = .ok (.invokespecial 11, 3) := by decide +kernel
theorem d_T_init_15 : decode prog_1_method_1_code 15 = .ok (.putfield 14, 3) := by decide +kernel
theorem d_T_init_18 : decode prog_1_method_1_code 18 = .ok (.aload_n 0, 1) := by decide +kernel
theorem d_T_init_19 : decode prog_1_method_1_code 19 = .ok (.new 9, 3) := by decide +kernel
theorem d_T_init_22 : decode prog_1_method_1_code 22 = .ok (.dup, 1) := by decide +kernel
theorem d_T_init_23 : decode prog_1_method_1_code 23 = .ok (.iconst 4, 1) := by decide +kernel
theorem d_T_init_24 : decode prog_1_method_1_code 24 = .ok (.invokespecial 11, 3) := by decide +kernel
theorem d_T_init_27 : decode prog_1_method_1_code 27 = .ok (.putfield 18, 3) := by decide +kernel
theorem d_T_init_30 : decode prog_1_method_1_code 30 = .ok (.iconst 0, 1) := by decide +kernel
theorem d_T_init_31 : decode prog_1_method_1_code 31 = .ok (.istore_n 1, 1) := by decide +kernel
theorem d_T_init_32 : decode prog_1_method_1_code 32 = .ok (.iload_n 1, 1) := by decide +kernel
theorem d_T_init_33 : decode prog_1_method_1_code 33 = .ok (.iconst 4, 1) := by decide +kernel
theorem d_T_init_34 : decode prog_1_method_1_code 34 = .ok (.if_icmp .ge 18, 3) := by decide +kernel
theorem d_T_init_37 : decode prog_1_method_1_code 37 = .ok (.aload_n 0, 1) := by decide +kernel
theorem d_T_init_38 : decode prog_1_method_1_code 38 = .ok (.getfield 18, 3) := by decide +kernel
theorem d_T_init_41 : decode prog_1_method_1_code 41 = .ok (.iconst 0, 1) := by decide +kernel
theorem d_T_init_42 : decode prog_1_method_1_code 42 = .ok (.invokevirtual 21, 3) := by decide +kernel
theorem d_T_init_45 : decode prog_1_method_1_code 45 = .ok (.pop, 1) := by decide +kernel
theorem d_T_init_46 : decode prog_1_method_1_code 46 = .ok (.iinc 1 1, 3) := by decide +kernel
theorem d_T_init_49 : decode prog_1_method_1_code 49 = .ok (.goto (-17), 3) := by decide +kernel
theorem d_T_init_52 : decode prog_1_method_1_code 52 = .ok (.aload_n 0, 1) := by decide +kernel
theorem d_T_init_53 : decode prog_1_method_1_code 53 = .ok (.new 25, 3) := by decide +kernel
theorem d_T_init_56 : decode prog_1_method_1_code 56 = .ok (.dup, 1) := by decide +kernel
theorem d_T_init_57 : decode prog_1_method_1_code 57 = .ok (.invokespecial 27, 3) := by decide +kernel
theorem d_T_init_60 : decode prog_1_method_1_code 60 = .ok (.putfield 28, 3) := by decide +kernel
theorem d_T_init_63 : decode prog_1_method_1_code 63 = .ok (.aload_n 0, 1) := by decide +kernel
theorem d_T_init_64 : decode prog_1_method_1_code 64 = .ok (.new 32, 3) := by decide +kernel
theorem d_T_init_67 : decode prog_1_method_1_code 67 = .ok (.dup, 1) := by decide +kernel
theorem d_T_init_68 : decode prog_1_method_1_code 68 = .ok (.invokespecial 34, 3) := by decide +kernel
theorem d_T_init_71 : decode prog_1_method_1_code 71 = .ok (.putfield 35, 3) := by decide +kernel
theorem d_T_init_74 : decode prog_1_method_1_code 74 = .ok (.aload_n 0, 1) := by decide +kernel
theorem d_T_init_75 : decode prog_1_method_1_code 75 = .ok (.new 39, 3) := by decide +kernel
theorem d_T_init_78 : decode prog_1_method_1_code 78 = .ok (.dup, 1) := by decide +kernel
theorem d_T_init_79 : decode prog_1_method_1_code 79 = .ok (.invokespecial 41, 3) := by decide +kernel
theorem d_T_init_82 : decode prog_1_method_1_code 82 = .ok (.putfield 42, 3) := by decide +kernel
theorem d_T_init_85 : decode prog_1_method_1_code 85 = .ok (.aload_n 0, 1) := by decide +kernel
theorem d_T_init_86 : decode prog_1_method_1_code 86 = .ok (.sipush 511, 3) := by decide +kernel
theorem d_T_init_89 : decode prog_1_method_1_code 89 = .ok (.putfield 46, 3) := by decide +kernel
theorem d_T_init_92 : decode prog_1_method_1_code 92 = .ok (.return_, 1) := by decide +kernel
def cd_T_init_0 : Nat → g_T := g_tab [(0, tr_ald 0 1), (1, tr_oi 4), (4, tr_ald 0 5), (5, tr_new 0 2 [.null, .int 0] 8), (8, tr_dup 9), (9, tr_cst (.int (16384)) 12), (12, tr_cI J_I_init 1 15), (15, tr_put 9 0 (.object "TracePacks$Ints") 18), (18, tr_ald 0 19), (19, tr_new 0 2 [.null, .int 0] 22), (22, tr_dup 23), (23, tr_cst (.int (4)) 24), (24, tr_cI J_I_init 1 27), (27, tr_put 9 1 (.object "TracePacks$Ints") 30), (30, tr_cst (.int (0)) 31), (31, tr_ist 1 32)]
set_option maxRecDepth 100000 in
theorem ok_T_init_0 : ∀ pc, g_S (J_T_init) pc (cd_T_init_0 pc) := g_tab_ok <|
  List.forall_mem_cons.mpr ⟨so_aload_n d_T_init_0 rfl rfl,
  List.forall_mem_cons.mpr ⟨so_oi d_T_init_1 w_1_24 w_1_25 w_1_26 ⟨(Nat.le_of_ble_eq_true rfl), (Nat.le_of_ble_eq_true rfl)⟩ rfl,
  List.forall_mem_cons.mpr ⟨so_aload_n d_T_init_4 rfl rfl,
  List.forall_mem_cons.mpr ⟨so_new ft_I d_T_init_5 (rfl : vwCl[0]? = some (R_I, F_I, 2)) i_I w_1_27 w_1_28 w_1_2 tk_I (by decide) rfl,
  List.forall_mem_cons.mpr ⟨so_dup d_T_init_8 rfl,
  List.forall_mem_cons.mpr ⟨so_sipush (by decide) d_T_init_9 rfl,
  List.forall_mem_cons.mpr ⟨so_cI g_good d_T_init_12 ⟨w_1_31, (Nat.le_of_ble_eq_true rfl), (Nat.le_of_ble_eq_true rfl), w_1_2, ⟨by decide, by decide⟩, by decide +kernel⟩ rfl rfl w_1_29 w_1_30 rfl,
  List.forall_mem_cons.mpr ⟨so_putF ft_T d_T_init_15 (rfl : vwCl[9]? = some (R_T, F_T, 9)) (Nat.le_of_ble_eq_true rfl) i_T w_1_233 tk_T n_T rfl rfl rfl rfl rfl,
  List.forall_mem_cons.mpr ⟨so_aload_n d_T_init_18 rfl rfl,
  List.forall_mem_cons.mpr ⟨so_new ft_I d_T_init_19 (rfl : vwCl[0]? = some (R_I, F_I, 2)) i_I w_1_27 w_1_28 w_1_2 tk_I (by decide) rfl,
  List.forall_mem_cons.mpr ⟨so_dup d_T_init_22 rfl,
  List.forall_mem_cons.mpr ⟨so_iconst (by decide) d_T_init_23 rfl,
  List.forall_mem_cons.mpr ⟨so_cI g_good d_T_init_24 ⟨w_1_31, (Nat.le_of_ble_eq_true rfl), (Nat.le_of_ble_eq_true rfl), w_1_2, ⟨by decide, by decide⟩, by decide +kernel⟩ rfl rfl w_1_29 w_1_30 rfl,
  List.forall_mem_cons.mpr ⟨so_putF ft_T d_T_init_27 (rfl : vwCl[9]? = some (R_T, F_T, 9)) (Nat.le_of_ble_eq_true rfl) i_T w_1_234 tk_T n_T rfl rfl rfl rfl rfl,
  List.forall_mem_cons.mpr ⟨so_iconst (by decide) d_T_init_30 rfl,
  List.forall_mem_cons.mpr ⟨so_istore_n d_T_init_31 rfl (Nat.le_of_ble_eq_true rfl) rfl,
  fun _ h => absurd h List.not_mem_nil⟩⟩⟩⟩⟩⟩⟩⟩⟩⟩⟩⟩⟩⟩⟩⟩
def cd_T_init_1 : Nat → g_T := g_tab [(32, tr_ild 1 33), (33, tr_cst (.int (4)) 34), (34, tr_if2 (fun x y => y ≤ x) 52 37), (37, tr_ald 0 38), (38, tr_get 9 1 41), (41, tr_cst (.int (0)) 42), (42, tr_cV J_I_add 0 1 45), (45, tr_pop 46), (46, tr_inc 1 (1) 49), (49, tr_goto 32), (52, tr_ald 0 53), (53, tr_new 2 5 [.null, .null, .null, .int 0, .int 0] 56), (56, tr_dup 57), (57, tr_cI J_B_init 0 60), (60, tr_put 9 2 (.object "TracePacks$Block") 63), (63, tr_ald 0 64)]
set_option maxRecDepth 100000 in
theorem ok_T_init_1 : ∀ pc, g_S (J_T_init) pc (cd_T_init_1 pc) := g_tab_ok <|
  List.forall_mem_cons.mpr ⟨so_iload_n d_T_init_32 rfl rfl,
  List.forall_mem_cons.mpr ⟨so_iconst (by decide) d_T_init_33 rfl,
  List.forall_mem_cons.mpr ⟨so_icmp_ge d_T_init_34 (by decide) rfl,
  List.forall_mem_cons.mpr ⟨so_aload_n d_T_init_37 rfl rfl,
  List.forall_mem_cons.mpr ⟨so_get d_T_init_38 (rfl : vwCl[9]? = some (R_T, F_T, 9)) (Nat.le_of_ble_eq_true rfl) i_T w_1_234 rfl,
  List.forall_mem_cons.mpr ⟨so_iconst (by decide) d_T_init_41 rfl,
  List.forall_mem_cons.mpr ⟨so_cV g_good d_T_init_42 ⟨w_1_47, (Nat.le_of_ble_eq_true rfl), (Nat.le_of_ble_eq_true rfl), w_1_2, ⟨by decide, by decide⟩, by decide +kernel⟩ (rfl : vwCl[0]? = some (R_I, F_I, 2)) w_1_44 w_1_45 w_1_46 rfl,
  List.forall_mem_cons.mpr ⟨so_pop d_T_init_45 rfl,
  List.forall_mem_cons.mpr ⟨so_iinc d_T_init_46 (by decide) (Nat.le_of_ble_eq_true rfl) rfl,
  List.forall_mem_cons.mpr ⟨so_goto d_T_init_49 (by decide),
  List.forall_mem_cons.mpr ⟨so_aload_n d_T_init_52 rfl rfl,
  List.forall_mem_cons.mpr ⟨so_new ft_B d_T_init_53 (rfl : vwCl[2]? = some (R_B, F_B, 5)) i_B w_1_48 w_1_49 w_1_4 tk_B (by decide) rfl,
  List.forall_mem_cons.mpr ⟨so_dup d_T_init_56 rfl,
  List.forall_mem_cons.mpr ⟨so_cIN g_good d_T_init_57 ⟨w_1_52, (Nat.le_of_ble_eq_true rfl), (Nat.le_of_ble_eq_true rfl), w_1_4, ⟨by decide, by decide⟩, by decide +kernel⟩ rfl rfl w_1_50 w_1_51 rfl,
  List.forall_mem_cons.mpr ⟨so_putF ft_T d_T_init_60 (rfl : vwCl[9]? = some (R_T, F_T, 9)) (Nat.le_of_ble_eq_true rfl) i_T w_1_235 tk_T n_T rfl rfl rfl rfl rfl,
  List.forall_mem_cons.mpr ⟨so_aload_n d_T_init_63 rfl rfl,
  fun _ h => absurd h List.not_mem_nil⟩⟩⟩⟩⟩⟩⟩⟩⟩⟩⟩⟩⟩⟩⟩⟩
def cd_T_init_2 : Nat → g_T := g_tab [(64, tr_new 6 3 [.null, .null, .int 0] 67), (67, tr_dup 68), (68, tr_cI J_Q_init 0 71), (71, tr_put 9 3 (.object "TracePacks$Packer") 74), (74, tr_ald 0 75), (75, tr_new 8 6 [.null, .null, .int 0, .int 0, .int 0, .int 0] 78), (78, tr_dup 79), (79, tr_cI J_R_init 0 82), (82, tr_put 9 4 (.object "TracePacks$Reader") 85), (85, tr_ald 0 86), (86, tr_cst (.int (511)) 89), (89, tr_put 9 6 (.int) 92), (92, tr_rv)]
set_option maxRecDepth 100000 in
theorem ok_T_init_2 : ∀ pc, g_S (J_T_init) pc (cd_T_init_2 pc) := g_tab_ok <|
  List.forall_mem_cons.mpr ⟨so_new ft_Q d_T_init_64 (rfl : vwCl[6]? = some (R_Q, F_Q, 3)) i_Q w_1_72 w_1_73 w_1_5 tk_Q (by decide) rfl,
  List.forall_mem_cons.mpr ⟨so_dup d_T_init_67 rfl,
  List.forall_mem_cons.mpr ⟨so_cIN g_good d_T_init_68 ⟨w_1_76, (Nat.le_of_ble_eq_true rfl), (Nat.le_of_ble_eq_true rfl), w_1_5, ⟨by decide, by decide⟩, by decide +kernel⟩ rfl rfl w_1_74 w_1_75 rfl,
  List.forall_mem_cons.mpr ⟨so_putF ft_T d_T_init_71 (rfl : vwCl[9]? = some (R_T, F_T, 9)) (Nat.le_of_ble_eq_true rfl) i_T w_1_236 tk_T n_T rfl rfl rfl rfl rfl,
  List.forall_mem_cons.mpr ⟨so_aload_n d_T_init_74 rfl rfl,
  List.forall_mem_cons.mpr ⟨so_new ft_R d_T_init_75 (rfl : vwCl[8]? = some (R_R, F_R, 6)) i_R w_1_147 w_1_148 w_1_9 tk_R (by decide) rfl,
  List.forall_mem_cons.mpr ⟨so_dup d_T_init_78 rfl,
  List.forall_mem_cons.mpr ⟨so_cIN g_good d_T_init_79 ⟨w_1_151, (Nat.le_of_ble_eq_true rfl), (Nat.le_of_ble_eq_true rfl), w_1_9, ⟨by decide, by decide⟩, by decide +kernel⟩ rfl rfl w_1_149 w_1_150 rfl,
  List.forall_mem_cons.mpr ⟨so_putF ft_T d_T_init_82 (rfl : vwCl[9]? = some (R_T, F_T, 9)) (Nat.le_of_ble_eq_true rfl) i_T w_1_237 tk_T n_T rfl rfl rfl rfl rfl,
  List.forall_mem_cons.mpr ⟨so_aload_n d_T_init_85 rfl rfl,
  List.forall_mem_cons.mpr ⟨so_sipush (by decide) d_T_init_86 rfl,
  List.forall_mem_cons.mpr ⟨so_put ft_T d_T_init_89 (rfl : vwCl[9]? = some (R_T, F_T, 9)) (Nat.le_of_ble_eq_true rfl) i_T w_1_239 tk_T n_T rfl rfl rfl,
  List.forall_mem_cons.mpr ⟨so_vret d_T_init_92 rfl,
  fun _ h => absurd h List.not_mem_nil⟩⟩⟩⟩⟩⟩⟩⟩⟩⟩⟩⟩⟩
def cd_T_init : Nat → g_T := g_chk [(31, cd_T_init_0), (63, cd_T_init_1), (92, cd_T_init_2)]
theorem ok_T_init : ∀ pc, g_S (J_T_init) pc (cd_T_init pc) := g_chk_ok <|
  List.forall_mem_cons.mpr ⟨ok_T_init_0,
  List.forall_mem_cons.mpr ⟨ok_T_init_1,
  List.forall_mem_cons.mpr ⟨ok_T_init_2,
  fun _ h => absurd h List.not_mem_nil⟩⟩⟩
abbrev J_T_count : g_J := (y_T_count, prog_1_method_13_code, 2, (some .int), (2, 40), [], none)
theorem d_T_count_0 : decode prog_1_method_13_code 0 = .ok (.iload_n 1, 1) := by decide +kernel
theorem d_T_count_1 : decode prog_1_method_13_code 1 = .ok (.tableswitch 120 0 8 #[51, 59, 67, 72, 77, 85, 93, 101, 112], 51) := by decide +kernel
theorem d_T_count_52 : decode prog_1_method_13_code 52 = .ok (.aload_n 0, 1) := by decide +kernel
theorem d_T_count_53 : decode prog_1_method_13_code 53 = .ok (.getfield 14, 3) := by decide +kernel
theorem d_T_count_56 : decode prog_1_method_13_code 56 = .ok (.invokevirtual 101, 3) := by decide +kernel
theorem d_T_count_59 : decode prog_1_method_13_code 59 = .ok (.ireturn, 1) := by decide +kernel
theorem d_T_count_60 : decode prog_1_method_13_code 60 = .ok (.aload_n 0, 1) := by decide +kernel
theorem d_T_count_61 : decode prog_1_method_13_code 61 = .ok (.getfield 28, 3) := by decide +kernel
theorem d_T_count_64 : decode prog_1_method_13_code 64 = .ok (.invokevirtual 81, 3) := by decide +kernel
theorem d_T_count_67 : decode prog_1_method_13_code 67 = .ok (.ireturn, 1) := by decide +kernel
theorem d_T_count_68 : decode prog_1_method_13_code 68 = .ok (.aload_n 0, 1) := by decide +kernel
theorem d_T_count_69 : decode prog_1_method_13_code 69 = .ok (.getfield 98, 3) := by decide +kernel
theorem d_T_count_72 : decode prog_1_method_13_code 72 = .ok (.ireturn, 1) := by decide +kernel
theorem d_T_count_73 : decode prog_1_method_13_code 73 = .ok (.aload_n 0, 1) := by decide +kernel
theorem d_T_count_74 : decode prog_1_method_13_code 74 = .ok (.getfield 144, 3) := by decide +kernel
theorem d_T_count_77 : decode prog_1_method_13_code 77 = .ok (.ireturn, 1) := by decide +kernel
theorem d_T_count_78 : decode prog_1_method_13_code 78 = .ok (.aload_n 0, 1) := by decide +kernel
theorem d_T_count_79 : decode prog_1_method_13_code 79 = .ok (.getfield 42, 3) := by decide +kernel
theorem d_T_count_82 : decode prog_1_method_13_code 82 = .ok (.invokevirtual 147, 3) := by decide +kernel
theorem d_T_count_85 : decode prog_1_method_13_code 85 = .ok (.ireturn, 1) := by decide +kernel
theorem d_T_count_86 : decode prog_1_method_13_code 86 = .ok (.aload_n 0, 1) := by decide +kernel
theorem d_T_count_87 : decode prog_1_method_13_code 87 = .ok (.getfield 42, 3) := by decide +kernel
theorem d_T_count_90 : decode prog_1_method_13_code 90 = .ok (.invokevirtual 150, 3) := by decide +kernel
theorem d_T_count_93 : decode prog_1_method_13_code 93 = .ok (.ireturn, 1) := by decide +kernel
theorem d_T_count_94 : decode prog_1_method_13_code 94 = .ok (.aload_n 0, 1) := by decide +kernel
theorem d_T_count_95 : decode prog_1_method_13_code 95 = .ok (.getfield 42, 3) := by decide +kernel
theorem d_T_count_98 : decode prog_1_method_13_code 98 = .ok (.invokevirtual 153, 3) := by decide +kernel
theorem d_T_count_101 : decode prog_1_method_13_code 101 = .ok (.ireturn, 1) := by decide +kernel
theorem d_T_count_102 : decode prog_1_method_13_code 102 = .ok (.aload_n 0, 1) := by decide +kernel
theorem d_T_count_103 : decode prog_1_method_13_code 103 = .ok (.getfield 42, 3) := by decide +kernel
theorem d_T_count_106 : decode prog_1_method_13_code 106 = .ok (.invokevirtual 126, 3) := by decide +kernel
theorem d_T_count_109 : decode prog_1_method_13_code 109 = .ok (.invokevirtual 130, 3) := by decide +kernel
theorem d_T_count_112 : decode prog_1_method_13_code 112 = .ok (.ireturn, 1) := by decide +kernel
theorem d_T_count_113 : decode prog_1_method_13_code 113 = .ok (.aload_n 0, 1) := by decide +kernel
theorem d_T_count_114 : decode prog_1_method_13_code 114 = .ok (.getfield 42, 3) := by decide +kernel
theorem d_T_count_117 : decode prog_1_method_13_code 117 = .ok (.invokevirtual 156, 3) := by decide +kernel
theorem d_T_count_120 : decode prog_1_method_13_code 120 = .ok (.ireturn, 1) := by decide +kernel
theorem d_T_count_121 : decode prog_1_method_13_code 121 = .ok (.iconst (-1), 1) := by decide +kernel
theorem d_T_count_122 : decode prog_1_method_13_code 122 = .ok (.ireturn, 1) := by decide +kernel
def cd_T_count_0 : Nat → g_T := g_tab [(0, tr_ild 1 1), (1, tr_sw [(0, 52), (1, 60), (2, 68), (3, 73), (4, 78), (5, 86), (6, 94), (7, 102), (8, 113)] 121), (52, tr_ald 0 53), (53, tr_get 9 0 56), (56, tr_cV J_I_size 0 0 59), (59, tr_ri), (60, tr_ald 0 61), (61, tr_get 9 2 64), (64, tr_cV J_B_size 2 0 67), (67, tr_ri), (68, tr_ald 0 69), (69, tr_get 9 7 72), (72, tr_ri), (73, tr_ald 0 74), (74, tr_get 9 8 77), (77, tr_ri)]
set_option maxRecDepth 100000 in
theorem ok_T_count_0 : ∀ pc, g_S (J_T_count) pc (cd_T_count_0 pc) := g_tab_ok <|
  List.forall_mem_cons.mpr ⟨so_iload_n d_T_count_0 rfl rfl,
  List.forall_mem_cons.mpr ⟨so_tsw d_T_count_1 (by decide) (by decide) (by decide) (by decide),
  List.forall_mem_cons.mpr ⟨so_aload_n d_T_count_52 rfl rfl,
  List.forall_mem_cons.mpr ⟨so_get d_T_count_53 (rfl : vwCl[9]? = some (R_T, F_T, 9)) (Nat.le_of_ble_eq_true rfl) i_T w_1_233 rfl,
  List.forall_mem_cons.mpr ⟨so_cV g_good d_T_count_56 ⟨w_2_28, (Nat.le_of_ble_eq_true rfl), (Nat.le_of_ble_eq_true rfl), w_1_2, ⟨by decide, by decide⟩, by decide +kernel⟩ (rfl : vwCl[0]? = some (R_I, F_I, 2)) w_2_25 w_2_26 w_2_27 rfl,
  List.forall_mem_cons.mpr ⟨so_iret d_T_count_59 rfl,
  List.forall_mem_cons.mpr ⟨so_aload_n d_T_count_60 rfl rfl,
  List.forall_mem_cons.mpr ⟨so_get d_T_count_61 (rfl : vwCl[9]? = some (R_T, F_T, 9)) (Nat.le_of_ble_eq_true rfl) i_T w_1_235 rfl,
  List.forall_mem_cons.mpr ⟨so_cV g_good d_T_count_64 ⟨w_2_32, (Nat.le_of_ble_eq_true rfl), (Nat.le_of_ble_eq_true rfl), w_1_4, ⟨by decide, by decide⟩, by decide +kernel⟩ (rfl : vwCl[2]? = some (R_B, F_B, 5)) w_2_29 w_2_30 w_2_31 rfl,
  List.forall_mem_cons.mpr ⟨so_iret d_T_count_67 rfl,
  List.forall_mem_cons.mpr ⟨so_aload_n d_T_count_68 rfl rfl,
  List.forall_mem_cons.mpr ⟨so_get d_T_count_69 (rfl : vwCl[9]? = some (R_T, F_T, 9)) (Nat.le_of_ble_eq_true rfl) i_T w_2_0 rfl,
  List.forall_mem_cons.mpr ⟨so_iret d_T_count_72 rfl,
  List.forall_mem_cons.mpr ⟨so_aload_n d_T_count_73 rfl rfl,
  List.forall_mem_cons.mpr ⟨so_get d_T_count_74 (rfl : vwCl[9]? = some (R_T, F_T, 9)) (Nat.le_of_ble_eq_true rfl) i_T w_2_1 rfl,
  List.forall_mem_cons.mpr ⟨so_iret d_T_count_77 rfl,
  fun _ h => absurd h List.not_mem_nil⟩⟩⟩⟩⟩⟩⟩⟩⟩⟩⟩⟩⟩⟩⟩⟩
def cd_T_count_1 : Nat → g_T := g_tab [(78, tr_ald 0 79), (79, tr_get 9 4 82), (82, tr_cV J_R_passedOver 8 0 85), (85, tr_ri), (86, tr_ald 0 87), (87, tr_get 9 4 90), (90, tr_cV J_R_blocks 8 0 93), (93, tr_ri), (94, tr_ald 0 95), (95, tr_get 9 4 98), (98, tr_cV J_R_broken 8 0 101), (101, tr_ri), (102, tr_ald 0 103), (103, tr_get 9 4 106), (106, tr_cV J_R_rows 8 0 109), (109, tr_cV J_K_size 5 0 112)]
set_option maxRecDepth 100000 in
theorem ok_T_count_1 : ∀ pc, g_S (J_T_count) pc (cd_T_count_1 pc) := g_tab_ok <|
  List.forall_mem_cons.mpr ⟨so_aload_n d_T_count_78 rfl rfl,
  List.forall_mem_cons.mpr ⟨so_get d_T_count_79 (rfl : vwCl[9]? = some (R_T, F_T, 9)) (Nat.le_of_ble_eq_true rfl) i_T w_1_237 rfl,
  List.forall_mem_cons.mpr ⟨so_cV g_good d_T_count_82 ⟨w_2_37, (Nat.le_of_ble_eq_true rfl), (Nat.le_of_ble_eq_true rfl), w_1_9, ⟨by decide, by decide⟩, by decide +kernel⟩ (rfl : vwCl[8]? = some (R_R, F_R, 6)) w_2_34 w_2_35 w_2_36 rfl,
  List.forall_mem_cons.mpr ⟨so_iret d_T_count_85 rfl,
  List.forall_mem_cons.mpr ⟨so_aload_n d_T_count_86 rfl rfl,
  List.forall_mem_cons.mpr ⟨so_get d_T_count_87 (rfl : vwCl[9]? = some (R_T, F_T, 9)) (Nat.le_of_ble_eq_true rfl) i_T w_1_237 rfl,
  List.forall_mem_cons.mpr ⟨so_cV g_good d_T_count_90 ⟨w_2_41, (Nat.le_of_ble_eq_true rfl), (Nat.le_of_ble_eq_true rfl), w_1_9, ⟨by decide, by decide⟩, by decide +kernel⟩ (rfl : vwCl[8]? = some (R_R, F_R, 6)) w_2_38 w_2_39 w_2_40 rfl,
  List.forall_mem_cons.mpr ⟨so_iret d_T_count_93 rfl,
  List.forall_mem_cons.mpr ⟨so_aload_n d_T_count_94 rfl rfl,
  List.forall_mem_cons.mpr ⟨so_get d_T_count_95 (rfl : vwCl[9]? = some (R_T, F_T, 9)) (Nat.le_of_ble_eq_true rfl) i_T w_1_237 rfl,
  List.forall_mem_cons.mpr ⟨so_cV g_good d_T_count_98 ⟨w_2_45, (Nat.le_of_ble_eq_true rfl), (Nat.le_of_ble_eq_true rfl), w_1_9, ⟨by decide, by decide⟩, by decide +kernel⟩ (rfl : vwCl[8]? = some (R_R, F_R, 6)) w_2_42 w_2_43 w_2_44 rfl,
  List.forall_mem_cons.mpr ⟨so_iret d_T_count_101 rfl,
  List.forall_mem_cons.mpr ⟨so_aload_n d_T_count_102 rfl rfl,
  List.forall_mem_cons.mpr ⟨so_get d_T_count_103 (rfl : vwCl[9]? = some (R_T, F_T, 9)) (Nat.le_of_ble_eq_true rfl) i_T w_1_237 rfl,
  List.forall_mem_cons.mpr ⟨so_cV g_good d_T_count_106 ⟨w_2_49, (Nat.le_of_ble_eq_true rfl), (Nat.le_of_ble_eq_true rfl), w_1_9, ⟨by decide, by decide⟩, by decide +kernel⟩ (rfl : vwCl[8]? = some (R_R, F_R, 6)) w_2_46 w_2_47 w_2_48 rfl,
  List.forall_mem_cons.mpr ⟨so_cV g_good d_T_count_109 ⟨w_2_53, (Nat.le_of_ble_eq_true rfl), (Nat.le_of_ble_eq_true rfl), w_1_11, ⟨by decide, by decide⟩, by decide +kernel⟩ (rfl : vwCl[5]? = some (R_K, F_K, 9)) w_2_50 w_2_51 w_2_52 rfl,
  fun _ h => absurd h List.not_mem_nil⟩⟩⟩⟩⟩⟩⟩⟩⟩⟩⟩⟩⟩⟩⟩⟩
def cd_T_count_2 : Nat → g_T := g_tab [(112, tr_ri), (113, tr_ald 0 114), (114, tr_get 9 4 117), (117, tr_cV J_R_notKept 8 0 120), (120, tr_ri), (121, tr_cst (.int (-1)) 122), (122, tr_ri)]
set_option maxRecDepth 100000 in
theorem ok_T_count_2 : ∀ pc, g_S (J_T_count) pc (cd_T_count_2 pc) := g_tab_ok <|
  List.forall_mem_cons.mpr ⟨so_iret d_T_count_112 rfl,
  List.forall_mem_cons.mpr ⟨so_aload_n d_T_count_113 rfl rfl,
  List.forall_mem_cons.mpr ⟨so_get d_T_count_114 (rfl : vwCl[9]? = some (R_T, F_T, 9)) (Nat.le_of_ble_eq_true rfl) i_T w_1_237 rfl,
  List.forall_mem_cons.mpr ⟨so_cV g_good d_T_count_117 ⟨w_2_58, (Nat.le_of_ble_eq_true rfl), (Nat.le_of_ble_eq_true rfl), w_1_9, ⟨by decide, by decide⟩, by decide +kernel⟩ (rfl : vwCl[8]? = some (R_R, F_R, 6)) w_2_55 w_2_56 w_2_57 rfl,
  List.forall_mem_cons.mpr ⟨so_iret d_T_count_120 rfl,
  List.forall_mem_cons.mpr ⟨so_iconst (by decide) d_T_count_121 rfl,
  List.forall_mem_cons.mpr ⟨so_iret d_T_count_122 rfl,
  fun _ h => absurd h List.not_mem_nil⟩⟩⟩⟩⟩⟩⟩
def cd_T_count : Nat → g_T := g_chk [(77, cd_T_count_0), (109, cd_T_count_1), (122, cd_T_count_2)]
theorem ok_T_count : ∀ pc, g_S (J_T_count) pc (cd_T_count pc) := g_chk_ok <|
  List.forall_mem_cons.mpr ⟨ok_T_count_0,
  List.forall_mem_cons.mpr ⟨ok_T_count_1,
  List.forall_mem_cons.mpr ⟨ok_T_count_2,
  fun _ h => absurd h List.not_mem_nil⟩⟩⟩
abbrev J_T_thread : g_J := (y_T_thread, prog_1_method_2_code, 3, (some .int), (6, 100), [], none)
theorem d_T_thread_0 : decode prog_1_method_2_code 0 = .ok (.iload_n 1, 1) := by decide +kernel
theorem d_T_thread_1 : decode prog_1_method_2_code 1 = .ok (.ifCond .lt 8, 3) := by decide +kernel
theorem d_T_thread_4 : decode prog_1_method_2_code 4 = .ok (.iload_n 1, 1) := by decide +kernel
theorem d_T_thread_5 : decode prog_1_method_2_code 5 = .ok (.iconst 4, 1) := by decide +kernel
theorem d_T_thread_6 : decode prog_1_method_2_code 6 = .ok (.if_icmp .lt 13, 3) := by decide +kernel
theorem d_T_thread_9 : decode prog_1_method_2_code 9 = .ok (.new 50, 3) := by decide +kernel
theorem d_T_thread_12 : decode prog_1_method_2_code 12 = .ok (.dup, 1) := by decide +kernel
theorem d_T_thread_13 : decode prog_1_method_2_code 13 = .ok (.ldc 52, 2) := by decide +kernel
theorem d_T_thread_15 : decode prog_1_method_2_code 15 = .ok (.invokespecial 54, 3) := by decide +kernel
theorem d_T_thread_18 : decode prog_1_method_2_code 18 = .ok (.athrow, 1) := by decide +kernel
theorem d_T_thread_19 : decode prog_1_method_2_code 19 = .ok (.aload_n 0, 1) := by decide +kernel
theorem d_T_thread_20 : decode prog_1_method_2_code 20 = .ok (.getfield 57, 3) := by decide +kernel
theorem d_T_thread_23 : decode prog_1_method_2_code 23 = .ok (.istore_n 2, 1) := by decide +kernel
theorem d_T_thread_24 : decode prog_1_method_2_code 24 = .ok (.aload_n 0, 1) := by decide +kernel
theorem d_T_thread_25 : decode prog_1_method_2_code 25 = .ok (.iload_n 1, 1) := by decide +kernel
theorem d_T_thread_26 : decode prog_1_method_2_code 26 = .ok (.putfield 57, 3) := by decide +kernel
theorem d_T_thread_29 : decode prog_1_method_2_code 29 = .ok (.iload_n 2, 1) := by decide +kernel
theorem d_T_thread_30 : decode prog_1_method_2_code 30 = .ok (.ireturn, 1) := by decide +kernel
def cd_T_thread_0 : Nat → g_T := g_tab [(0, tr_ild 1 1), (1, tr_if1 (fun x => x < 0) 9 4), (4, tr_ild 1 5), (5, tr_cst (.int (4)) 6), (6, tr_if2 (fun x y => x < y) 19 9), (9, tr_thr z_X1), (12, tr_dup 13), (19, tr_ald 0 20), (20, tr_get 9 5 23), (23, tr_ist 2 24), (24, tr_ald 0 25), (25, tr_ild 1 26), (26, tr_put 9 5 (.int) 29), (29, tr_ild 2 30), (30, tr_ri)]
set_option maxRecDepth 100000 in
theorem ok_T_thread_0 : ∀ pc, g_S (J_T_thread) pc (cd_T_thread_0 pc) := g_tab_ok <|
  List.forall_mem_cons.mpr ⟨so_iload_n d_T_thread_0 rfl rfl,
  List.forall_mem_cons.mpr ⟨so_if_lt d_T_thread_1 (by decide) rfl,
  List.forall_mem_cons.mpr ⟨so_iload_n d_T_thread_4 rfl rfl,
  List.forall_mem_cons.mpr ⟨so_iconst (by decide) d_T_thread_5 rfl,
  List.forall_mem_cons.mpr ⟨so_icmp_lt d_T_thread_6 (by decide) rfl,
  List.forall_mem_cons.mpr ⟨so_thr (tx := "no such thread") rfl d_T_thread_9 d_T_thread_12 d_T_thread_13 d_T_thread_15 d_T_thread_18 z_at1 w_2_67 w_1_16 (by decide +kernel) (by decide +kernel) rfl (Nat.le_of_ble_eq_true rfl) (Nat.le_of_ble_eq_true rfl),
  List.forall_mem_cons.mpr ⟨so_dup d_T_thread_12 rfl,
  List.forall_mem_cons.mpr ⟨so_aload_n d_T_thread_19 rfl rfl,
  List.forall_mem_cons.mpr ⟨so_get d_T_thread_20 (rfl : vwCl[9]? = some (R_T, F_T, 9)) (Nat.le_of_ble_eq_true rfl) i_T w_1_238 rfl,
  List.forall_mem_cons.mpr ⟨so_istore_n d_T_thread_23 rfl (Nat.le_of_ble_eq_true rfl) rfl,
  List.forall_mem_cons.mpr ⟨so_aload_n d_T_thread_24 rfl rfl,
  List.forall_mem_cons.mpr ⟨so_iload_n d_T_thread_25 rfl rfl,
  List.forall_mem_cons.mpr ⟨so_put ft_T d_T_thread_26 (rfl : vwCl[9]? = some (R_T, F_T, 9)) (Nat.le_of_ble_eq_true rfl) i_T w_1_238 tk_T n_T rfl rfl rfl,
  List.forall_mem_cons.mpr ⟨so_iload_n d_T_thread_29 rfl rfl,
  List.forall_mem_cons.mpr ⟨so_iret d_T_thread_30 rfl,
  fun _ h => absurd h List.not_mem_nil⟩⟩⟩⟩⟩⟩⟩⟩⟩⟩⟩⟩⟩⟩⟩
def cd_T_thread : Nat → g_T := g_chk [(30, cd_T_thread_0)]
theorem ok_T_thread : ∀ pc, g_S (J_T_thread) pc (cd_T_thread pc) := g_chk_ok <|
  List.forall_mem_cons.mpr ⟨ok_T_thread_0,
  fun _ h => absurd h List.not_mem_nil⟩
abbrev J_T_isRow : g_J := (y_T_isRow, prog_1_method_14_code, 4, (some .boolean), (1, 21), [], none)
theorem d_T_isRow_0 : decode prog_1_method_14_code 0 = .ok (.iload_n 1, 1) := by decide +kernel
theorem d_T_isRow_1 : decode prog_1_method_14_code 1 = .ok (.ifCond .lt 8, 3) := by decide +kernel
theorem d_T_isRow_4 : decode prog_1_method_14_code 4 = .ok (.iload_n 1, 1) := by decide +kernel
theorem d_T_isRow_5 : decode prog_1_method_14_code 5 = .ok (.iconst 4, 1) := by decide +kernel
theorem d_T_isRow_6 : decode prog_1_method_14_code 6 = .ok (.if_icmp .le 5, 3) := by decide +kernel
theorem d_T_isRow_9 : decode prog_1_method_14_code 9 = .ok (.iconst 0, 1) := by decide +kernel
theorem d_T_isRow_10 : decode prog_1_method_14_code 10 = .ok (.ireturn, 1) := by decide +kernel
theorem d_T_isRow_11 : decode prog_1_method_14_code 11 = .ok (.iload_n 1, 1) := by decide +kernel
theorem d_T_isRow_12 : decode prog_1_method_14_code 12 = .ok (.ifCond .ne 14, 3) := by decide +kernel
theorem d_T_isRow_15 : decode prog_1_method_14_code 15 = .ok (.iload_n 2, 1) := by decide +kernel
theorem d_T_isRow_16 : decode prog_1_method_14_code 16 = .ok (.ifCond .eq 10, 3) := by decide +kernel
theorem d_T_isRow_19 : decode prog_1_method_14_code 19 = .ok (.iload_n 2, 1) := by decide +kernel
theorem d_T_isRow_20 : decode prog_1_method_14_code 20 = .ok (.iconst 1, 1) := by decide +kernel
theorem d_T_isRow_21 : decode prog_1_method_14_code 21 = .ok (.if_icmp .eq 5, 3) := by decide +kernel
theorem d_T_isRow_24 : decode prog_1_method_14_code 24 = .ok (.iconst 0, 1) := by decide +kernel
theorem d_T_isRow_25 : decode prog_1_method_14_code 25 = .ok (.ireturn, 1) := by decide +kernel
theorem d_T_isRow_26 : decode prog_1_method_14_code 26 = .ok (.iload_n 1, 1) := by decide +kernel
theorem d_T_isRow_27 : decode prog_1_method_14_code 27 = .ok (.iconst 4, 1) := by decide +kernel
theorem d_T_isRow_28 : decode prog_1_method_14_code 28 = .ok (.if_icmp .ne 20, 3) := by decide +kernel
theorem d_T_isRow_31 : decode prog_1_method_14_code 31 = .ok (.iload_n 2, 1) := by decide +kernel
theorem d_T_isRow_32 : decode prog_1_method_14_code 32 = .ok (.aload_n 0, 1) := by decide +kernel
theorem d_T_isRow_33 : decode prog_1_method_14_code 33 = .ok (.getfield 18, 3) := by decide +kernel
theorem d_T_isRow_36 : decode prog_1_method_14_code 36 = .ok (.aload_n 0, 1) := by decide +kernel
theorem d_T_isRow_37 : decode prog_1_method_14_code 37 = .ok (.getfield 57, 3) := by decide +kernel
theorem d_T_isRow_40 : decode prog_1_method_14_code 40 = .ok (.invokevirtual 85, 3) := by decide +kernel
theorem d_T_isRow_43 : decode prog_1_method_14_code 43 = .ok (.if_icmp .ge 5, 3) := by decide +kernel
theorem d_T_isRow_46 : decode prog_1_method_14_code 46 = .ok (.iconst 0, 1) := by decide +kernel
theorem d_T_isRow_47 : decode prog_1_method_14_code 47 = .ok (.ireturn, 1) := by decide +kernel
theorem d_T_isRow_48 : decode prog_1_method_14_code 48 = .ok (.iload_n 1, 1) := by decide +kernel
theorem d_T_isRow_49 : decode prog_1_method_14_code 49 = .ok (.iconst 3, 1) := by decide +kernel
theorem d_T_isRow_50 : decode prog_1_method_14_code 50 = .ok (.if_icmp .eq 7, 3) := by decide +kernel
theorem d_T_isRow_53 : decode prog_1_method_14_code 53 = .ok (.iload_n 3, 1) := by decide +kernel
theorem d_T_isRow_54 : decode prog_1_method_14_code 54 = .ok (.ifCond .ne 7, 3) := by decide +kernel
theorem d_T_isRow_57 : decode prog_1_method_14_code 57 = .ok (.iconst 1, 1) := by decide +kernel
theorem d_T_isRow_58 : decode prog_1_method_14_code 58 = .ok (.goto 4, 3) := by decide +kernel
theorem d_T_isRow_61 : decode prog_1_method_14_code 61 = .ok (.iconst 0, 1) := by decide +kernel
theorem d_T_isRow_62 : decode prog_1_method_14_code 62 = .ok (.ireturn, 1) := by decide +kernel
def cd_T_isRow_0 : Nat → g_T := g_tab [(0, tr_ild 1 1), (1, tr_if1 (fun x => x < 0) 9 4), (4, tr_ild 1 5), (5, tr_cst (.int (4)) 6), (6, tr_if2 (fun x y => x ≤ y) 11 9), (9, tr_cst (.int (0)) 10), (10, tr_rz), (11, tr_ild 1 12), (12, tr_if1 (fun x => ¬ x = 0) 26 15), (15, tr_ild 2 16), (16, tr_if1 (fun x => x = 0) 26 19), (19, tr_ild 2 20), (20, tr_cst (.int (1)) 21), (21, tr_if2 (fun x y => x = y) 26 24), (24, tr_cst (.int (0)) 25), (25, tr_rz)]
set_option maxRecDepth 100000 in
theorem ok_T_isRow_0 : ∀ pc, g_S (J_T_isRow) pc (cd_T_isRow_0 pc) := g_tab_ok <|
  List.forall_mem_cons.mpr ⟨so_iload_n d_T_isRow_0 rfl rfl,
  List.forall_mem_cons.mpr ⟨so_if_lt d_T_isRow_1 (by decide) rfl,
  List.forall_mem_cons.mpr ⟨so_iload_n d_T_isRow_4 rfl rfl,
  List.forall_mem_cons.mpr ⟨so_iconst (by decide) d_T_isRow_5 rfl,
  List.forall_mem_cons.mpr ⟨so_icmp_le d_T_isRow_6 (by decide) rfl,
  List.forall_mem_cons.mpr ⟨so_iconst (by decide) d_T_isRow_9 rfl,
  List.forall_mem_cons.mpr ⟨so_zret d_T_isRow_10 rfl,
  List.forall_mem_cons.mpr ⟨so_iload_n d_T_isRow_11 rfl rfl,
  List.forall_mem_cons.mpr ⟨so_if_ne d_T_isRow_12 (by decide) rfl,
  List.forall_mem_cons.mpr ⟨so_iload_n d_T_isRow_15 rfl rfl,
  List.forall_mem_cons.mpr ⟨so_if_eq d_T_isRow_16 (by decide) rfl,
  List.forall_mem_cons.mpr ⟨so_iload_n d_T_isRow_19 rfl rfl,
  List.forall_mem_cons.mpr ⟨so_iconst (by decide) d_T_isRow_20 rfl,
  List.forall_mem_cons.mpr ⟨so_icmp_eq d_T_isRow_21 (by decide) rfl,
  List.forall_mem_cons.mpr ⟨so_iconst (by decide) d_T_isRow_24 rfl,
  List.forall_mem_cons.mpr ⟨so_zret d_T_isRow_25 rfl,
  fun _ h => absurd h List.not_mem_nil⟩⟩⟩⟩⟩⟩⟩⟩⟩⟩⟩⟩⟩⟩⟩⟩
def cd_T_isRow_1 : Nat → g_T := g_tab [(26, tr_ild 1 27), (27, tr_cst (.int (4)) 28), (28, tr_if2 (fun x y => ¬ x = y) 48 31), (31, tr_ild 2 32), (32, tr_ald 0 33), (33, tr_get 9 1 36), (36, tr_ald 0 37), (37, tr_get 9 5 40), (40, tr_cV J_I_at 0 1 43), (43, tr_if2 (fun x y => y ≤ x) 48 46), (46, tr_cst (.int (0)) 47), (47, tr_rz), (48, tr_ild 1 49), (49, tr_cst (.int (3)) 50), (50, tr_if2 (fun x y => x = y) 57 53), (53, tr_ild 3 54)]
set_option maxRecDepth 100000 in
theorem ok_T_isRow_1 : ∀ pc, g_S (J_T_isRow) pc (cd_T_isRow_1 pc) := g_tab_ok <|
  List.forall_mem_cons.mpr ⟨so_iload_n d_T_isRow_26 rfl rfl,
  List.forall_mem_cons.mpr ⟨so_iconst (by decide) d_T_isRow_27 rfl,
  List.forall_mem_cons.mpr ⟨so_icmp_ne d_T_isRow_28 (by decide) rfl,
  List.forall_mem_cons.mpr ⟨so_iload_n d_T_isRow_31 rfl rfl,
  List.forall_mem_cons.mpr ⟨so_aload_n d_T_isRow_32 rfl rfl,
  List.forall_mem_cons.mpr ⟨so_get d_T_isRow_33 (rfl : vwCl[9]? = some (R_T, F_T, 9)) (Nat.le_of_ble_eq_true rfl) i_T w_1_234 rfl,
  List.forall_mem_cons.mpr ⟨so_aload_n d_T_isRow_36 rfl rfl,
  List.forall_mem_cons.mpr ⟨so_get d_T_isRow_37 (rfl : vwCl[9]? = some (R_T, F_T, 9)) (Nat.le_of_ble_eq_true rfl) i_T w_1_238 rfl,
  List.forall_mem_cons.mpr ⟨so_cV g_good d_T_isRow_40 ⟨w_2_151, (Nat.le_of_ble_eq_true rfl), (Nat.le_of_ble_eq_true rfl), w_1_2, ⟨by decide, by decide⟩, by decide +kernel⟩ (rfl : vwCl[0]? = some (R_I, F_I, 2)) w_2_148 w_2_149 w_2_150 rfl,
  List.forall_mem_cons.mpr ⟨so_icmp_ge d_T_isRow_43 (by decide) rfl,
  List.forall_mem_cons.mpr ⟨so_iconst (by decide) d_T_isRow_46 rfl,
  List.forall_mem_cons.mpr ⟨so_zret d_T_isRow_47 rfl,
  List.forall_mem_cons.mpr ⟨so_iload_n d_T_isRow_48 rfl rfl,
  List.forall_mem_cons.mpr ⟨so_iconst (by decide) d_T_isRow_49 rfl,
  List.forall_mem_cons.mpr ⟨so_icmp_eq d_T_isRow_50 (by decide) rfl,
  List.forall_mem_cons.mpr ⟨so_iload_n d_T_isRow_53 rfl rfl,
  fun _ h => absurd h List.not_mem_nil⟩⟩⟩⟩⟩⟩⟩⟩⟩⟩⟩⟩⟩⟩⟩⟩
def cd_T_isRow_2 : Nat → g_T := g_tab [(54, tr_if1 (fun x => ¬ x = 0) 61 57), (57, tr_cst (.int (1)) 58), (58, tr_goto 62), (61, tr_cst (.int (0)) 62), (62, tr_rz)]
set_option maxRecDepth 100000 in
theorem ok_T_isRow_2 : ∀ pc, g_S (J_T_isRow) pc (cd_T_isRow_2 pc) := g_tab_ok <|
  List.forall_mem_cons.mpr ⟨so_if_ne d_T_isRow_54 (by decide) rfl,
  List.forall_mem_cons.mpr ⟨so_iconst (by decide) d_T_isRow_57 rfl,
  List.forall_mem_cons.mpr ⟨so_goto d_T_isRow_58 (by decide),
  List.forall_mem_cons.mpr ⟨so_iconst (by decide) d_T_isRow_61 rfl,
  List.forall_mem_cons.mpr ⟨so_zret d_T_isRow_62 rfl,
  fun _ h => absurd h List.not_mem_nil⟩⟩⟩⟩⟩
def cd_T_isRow : Nat → g_T := g_chk [(25, cd_T_isRow_0), (53, cd_T_isRow_1), (62, cd_T_isRow_2)]
theorem ok_T_isRow : ∀ pc, g_S (J_T_isRow) pc (cd_T_isRow pc) := g_chk_ok <|
  List.forall_mem_cons.mpr ⟨ok_T_isRow_0,
  List.forall_mem_cons.mpr ⟨ok_T_isRow_1,
  List.forall_mem_cons.mpr ⟨ok_T_isRow_2,
  fun _ h => absurd h List.not_mem_nil⟩⟩⟩
abbrev J_T_closeOpen : g_J := (y_T_closeOpen, prog_1_method_15_code, 1, (some .boolean), (5, 116), [], none)
theorem d_T_closeOpen_0 : decode prog_1_method_15_code 0 = .ok (.aload_n 0, 1) := by decide +kernel
theorem d_T_closeOpen_1 : decode prog_1_method_15_code 1 = .ok (.getfield 35, 3) := by decide +kernel
theorem d_T_closeOpen_4 : decode prog_1_method_15_code 4 = .ok (.aload_n 0, 1) := by decide +kernel
theorem d_T_closeOpen_5 : decode prog_1_method_15_code 5 = .ok (.getfield 28, 3) := by decide +kernel
theorem d_T_closeOpen_8 : decode prog_1_method_15_code 8 = .ok (.invokevirtual 159, 3) := by decide +kernel
theorem d_T_closeOpen_11 : decode prog_1_method_15_code 11 = .ok (.aload_n 0, 1) := by decide +kernel
theorem d_T_closeOpen_12 : decode prog_1_method_15_code 12 = .ok (.getfield 35, 3) := by decide +kernel
theorem d_T_closeOpen_15 : decode prog_1_method_15_code 15 = .ok (.aload_n 0, 1) := by decide +kernel
theorem d_T_closeOpen_16 : decode prog_1_method_15_code 16 = .ok (.getfield 14, 3) := by decide +kernel
theorem d_T_closeOpen_19 : decode prog_1_method_15_code 19 = .ok (.invokevirtual 163, 3) := by decide +kernel
theorem d_T_closeOpen_22 : decode prog_1_method_15_code 22 = .ok (.ifCond .ne 5, 3) := by decide +kernel
theorem d_T_closeOpen_25 : decode prog_1_method_15_code 25 = .ok (.iconst 0, 1) := by decide +kernel
theorem d_T_closeOpen_26 : decode prog_1_method_15_code 26 = .ok (.ireturn, 1) := by decide +kernel
theorem d_T_closeOpen_27 : decode prog_1_method_15_code 27 = .ok (.aload_n 0, 1) := by decide +kernel
theorem d_T_closeOpen_28 : decode prog_1_method_15_code 28 = .ok (.getfield 28, 3) := by decide +kernel
theorem d_T_closeOpen_31 : decode prog_1_method_15_code 31 = .ok (.invokevirtual 167, 3) := by decide +kernel
theorem d_T_closeOpen_34 : decode prog_1_method_15_code 34 = .ok (.aload_n 0, 1) := by decide +kernel
theorem d_T_closeOpen_35 : decode prog_1_method_15_code 35 = .ok (.dup, 1) := by decide +kernel
theorem d_T_closeOpen_36 : decode prog_1_method_15_code 36 = .ok (.getfield 144, 3) := by decide +kernel
theorem d_T_closeOpen_39 : decode prog_1_method_15_code 39 = .ok (.iconst 1, 1) := by decide +kernel
theorem d_T_closeOpen_40 : decode prog_1_method_15_code 40 = .ok (.iadd, 1) := by decide +kernel
theorem d_T_closeOpen_41 : decode prog_1_method_15_code 41 = .ok (.putfield 144, 3) := by decide +kernel
theorem d_T_closeOpen_44 : decode prog_1_method_15_code 44 = .ok (.iconst 1, 1) := by decide +kernel
theorem d_T_closeOpen_45 : decode prog_1_method_15_code 45 = .ok (.ireturn, 1) := by decide +kernel
def cd_T_closeOpen_0 : Nat → g_T := g_tab [(0, tr_ald 0 1), (1, tr_get 9 3 4), (4, tr_ald 0 5), (5, tr_get 9 2 8), (8, tr_cV J_Q_fill 6 1 11), (11, tr_ald 0 12), (12, tr_get 9 3 15), (15, tr_ald 0 16), (16, tr_get 9 0 19), (19, tr_cV J_Q_moveBehind 6 1 22), (22, tr_if1 (fun x => ¬ x = 0) 27 25), (25, tr_cst (.int (0)) 26), (26, tr_rz), (27, tr_ald 0 28), (28, tr_get 9 2 31), (31, tr_cV J_B_clear 2 0 34)]
set_option maxRecDepth 100000 in
theorem ok_T_closeOpen_0 : ∀ pc, g_S (J_T_closeOpen) pc (cd_T_closeOpen_0 pc) := g_tab_ok <|
  List.forall_mem_cons.mpr ⟨so_aload_n d_T_closeOpen_0 rfl rfl,
  List.forall_mem_cons.mpr ⟨so_get d_T_closeOpen_1 (rfl : vwCl[9]? = some (R_T, F_T, 9)) (Nat.le_of_ble_eq_true rfl) i_T w_1_236 rfl,
  List.forall_mem_cons.mpr ⟨so_aload_n d_T_closeOpen_4 rfl rfl,
  List.forall_mem_cons.mpr ⟨so_get d_T_closeOpen_5 (rfl : vwCl[9]? = some (R_T, F_T, 9)) (Nat.le_of_ble_eq_true rfl) i_T w_1_235 rfl,
  List.forall_mem_cons.mpr ⟨so_cV g_good d_T_closeOpen_8 ⟨w_2_180, (Nat.le_of_ble_eq_true rfl), (Nat.le_of_ble_eq_true rfl), w_1_5, ⟨by decide, by decide⟩, by decide +kernel⟩ (rfl : vwCl[6]? = some (R_Q, F_Q, 3)) w_2_177 w_2_178 w_2_179 rfl,
  List.forall_mem_cons.mpr ⟨so_aload_n d_T_closeOpen_11 rfl rfl,
  List.forall_mem_cons.mpr ⟨so_get d_T_closeOpen_12 (rfl : vwCl[9]? = some (R_T, F_T, 9)) (Nat.le_of_ble_eq_true rfl) i_T w_1_236 rfl,
  List.forall_mem_cons.mpr ⟨so_aload_n d_T_closeOpen_15 rfl rfl,
  List.forall_mem_cons.mpr ⟨so_get d_T_closeOpen_16 (rfl : vwCl[9]? = some (R_T, F_T, 9)) (Nat.le_of_ble_eq_true rfl) i_T w_1_233 rfl,
  List.forall_mem_cons.mpr ⟨so_cV g_good d_T_closeOpen_19 ⟨w_3_49, (Nat.le_of_ble_eq_true rfl), (Nat.le_of_ble_eq_true rfl), w_1_5, ⟨by decide, by decide⟩, by decide +kernel⟩ (rfl : vwCl[6]? = some (R_Q, F_Q, 3)) w_3_46 w_3_47 w_3_48 rfl,
  List.forall_mem_cons.mpr ⟨so_if_ne d_T_closeOpen_22 (by decide) rfl,
  List.forall_mem_cons.mpr ⟨so_iconst (by decide) d_T_closeOpen_25 rfl,
  List.forall_mem_cons.mpr ⟨so_zret d_T_closeOpen_26 rfl,
  List.forall_mem_cons.mpr ⟨so_aload_n d_T_closeOpen_27 rfl rfl,
  List.forall_mem_cons.mpr ⟨so_get d_T_closeOpen_28 (rfl : vwCl[9]? = some (R_T, F_T, 9)) (Nat.le_of_ble_eq_true rfl) i_T w_1_235 rfl,
  List.forall_mem_cons.mpr ⟨so_cV g_good d_T_closeOpen_31 ⟨w_3_61, (Nat.le_of_ble_eq_true rfl), (Nat.le_of_ble_eq_true rfl), w_1_4, ⟨by decide, by decide⟩, by decide +kernel⟩ (rfl : vwCl[2]? = some (R_B, F_B, 5)) w_3_58 w_3_59 w_3_60 rfl,
  fun _ h => absurd h List.not_mem_nil⟩⟩⟩⟩⟩⟩⟩⟩⟩⟩⟩⟩⟩⟩⟩⟩
def cd_T_closeOpen_1 : Nat → g_T := g_tab [(34, tr_ald 0 35), (35, tr_dup 36), (36, tr_get 9 8 39), (39, tr_cst (.int (1)) 40), (40, tr_ii (fun x y => x + y) 41), (41, tr_put 9 8 (.int) 44), (44, tr_cst (.int (1)) 45), (45, tr_rz)]
set_option maxRecDepth 100000 in
theorem ok_T_closeOpen_1 : ∀ pc, g_S (J_T_closeOpen) pc (cd_T_closeOpen_1 pc) := g_tab_ok <|
  List.forall_mem_cons.mpr ⟨so_aload_n d_T_closeOpen_34 rfl rfl,
  List.forall_mem_cons.mpr ⟨so_dup d_T_closeOpen_35 rfl,
  List.forall_mem_cons.mpr ⟨so_get d_T_closeOpen_36 (rfl : vwCl[9]? = some (R_T, F_T, 9)) (Nat.le_of_ble_eq_true rfl) i_T w_2_1 rfl,
  List.forall_mem_cons.mpr ⟨so_iconst (by decide) d_T_closeOpen_39 rfl,
  List.forall_mem_cons.mpr ⟨so_iadd d_T_closeOpen_40 rfl,
  List.forall_mem_cons.mpr ⟨so_put ft_T d_T_closeOpen_41 (rfl : vwCl[9]? = some (R_T, F_T, 9)) (Nat.le_of_ble_eq_true rfl) i_T w_2_1 tk_T n_T rfl rfl rfl,
  List.forall_mem_cons.mpr ⟨so_iconst (by decide) d_T_closeOpen_44 rfl,
  List.forall_mem_cons.mpr ⟨so_zret d_T_closeOpen_45 rfl,
  fun _ h => absurd h List.not_mem_nil⟩⟩⟩⟩⟩⟩⟩⟩
def cd_T_closeOpen : Nat → g_T := g_chk [(31, cd_T_closeOpen_0), (45, cd_T_closeOpen_1)]
theorem ok_T_closeOpen : ∀ pc, g_S (J_T_closeOpen) pc (cd_T_closeOpen pc) := g_chk_ok <|
  List.forall_mem_cons.mpr ⟨ok_T_closeOpen_0,
  List.forall_mem_cons.mpr ⟨ok_T_closeOpen_1,
  fun _ h => absurd h List.not_mem_nil⟩⟩
abbrev J_T_row : g_J := (y_T_row, prog_1_method_3_code, 4, (some .int), (6, 136), [], none)
theorem d_T_row_0 : decode prog_1_method_3_code 0 = .ok (.aload_n 0, 1) := by decide +kernel
theorem d_T_row_1 : decode prog_1_method_3_code 1 = .ok (.iload_n 1, 1) := by decide +kernel
theorem d_T_row_2 : decode prog_1_method_3_code 2 = .ok (.iload_n 2, 1) := by decide +kernel
theorem d_T_row_3 : decode prog_1_method_3_code 3 = .ok (.iload_n 3, 1) := by decide +kernel
theorem d_T_row_4 : decode prog_1_method_3_code 4 = .ok (.invokevirtual 60, 3) := by decide +kernel
theorem d_T_row_7 : decode prog_1_method_3_code 7 = .ok (.ifCond .ne 13, 3) := by decide +kernel
theorem d_T_row_10 : decode prog_1_method_3_code 10 = .ok (.new 64, 3) := by decide +kernel
theorem d_T_row_13 : decode prog_1_method_3_code 13 = .ok (.dup, 1) := by decide +kernel
theorem d_T_row_14 : decode prog_1_method_3_code 14 = .ok (.ldc 66, 2) := by decide +kernel
theorem d_T_row_16 : decode prog_1_method_3_code 16 = .ok (.invokespecial 68, 3) := by decide +kernel
theorem d_T_row_19 : decode prog_1_method_3_code 19 = .ok (.athrow, 1) := by decide +kernel
theorem d_T_row_20 : decode prog_1_method_3_code 20 = .ok (.aload_n 0, 1) := by decide +kernel
theorem d_T_row_21 : decode prog_1_method_3_code 21 = .ok (.getfield 28, 3) := by decide +kernel
theorem d_T_row_24 : decode prog_1_method_3_code 24 = .ok (.aload_n 0, 1) := by decide +kernel
theorem d_T_row_25 : decode prog_1_method_3_code 25 = .ok (.getfield 57, 3) := by decide +kernel
theorem d_T_row_28 : decode prog_1_method_3_code 28 = .ok (.invokevirtual 69, 3) := by decide +kernel
theorem d_T_row_31 : decode prog_1_method_3_code 31 = .ok (.ifCond .eq 20, 3) := by decide +kernel
theorem d_T_row_34 : decode prog_1_method_3_code 34 = .ok (.aload_n 0, 1) := by decide +kernel
theorem d_T_row_35 : decode prog_1_method_3_code 35 = .ok (.invokevirtual 72, 3) := by decide +kernel
theorem d_T_row_38 : decode prog_1_method_3_code 38 = .ok (.ifCond .ne 13, 3) := by decide +kernel
theorem d_T_row_41 : decode prog_1_method_3_code 41 = .ok (.new 76, 3) := by decide +kernel
theorem d_T_row_44 : decode prog_1_method_3_code 44 = .ok (.dup, 1) := by decide +kernel
theorem d_T_row_45 : decode prog_1_method_3_code 45 = .ok (.ldc 78, 2) := by decide +kernel
theorem d_T_row_47 : decode prog_1_method_3_code 47 = .ok (.invokespecial 80, 3) := by decide +kernel
theorem d_T_row_50 : decode prog_1_method_3_code 50 = .ok (.athrow, 1) := by decide +kernel
theorem d_T_row_51 : decode prog_1_method_3_code 51 = .ok (.aload_n 0, 1) := by decide +kernel
theorem d_T_row_52 : decode prog_1_method_3_code 52 = .ok (.getfield 28, 3) := by decide +kernel
theorem d_T_row_55 : decode prog_1_method_3_code 55 = .ok (.invokevirtual 81, 3) := by decide +kernel
theorem d_T_row_58 : decode prog_1_method_3_code 58 = .ok (.ifCond .ne 25, 3) := by decide +kernel
theorem d_T_row_61 : decode prog_1_method_3_code 61 = .ok (.aload_n 0, 1) := by decide +kernel
theorem d_T_row_62 : decode prog_1_method_3_code 62 = .ok (.getfield 28, 3) := by decide +kernel
theorem d_T_row_65 : decode prog_1_method_3_code 65 = .ok (.aload_n 0, 1) := by decide +kernel
theorem d_T_row_66 : decode prog_1_method_3_code 66 = .ok (.getfield 57, 3) := by decide +kernel
theorem d_T_row_69 : decode prog_1_method_3_code 69 = .ok (.aload_n 0, 1) := by decide +kernel
theorem d_T_row_70 : decode prog_1_method_3_code 70 = .ok (.getfield 18, 3) := by decide +kernel
theorem d_T_row_73 : decode prog_1_method_3_code 73 = .ok (.aload_n 0, 1) := by decide +kernel
theorem d_T_row_74 : decode prog_1_method_3_code 74 = .ok (.getfield 57, 3) := by decide +kernel
theorem d_T_row_77 : decode prog_1_method_3_code 77 = .ok (.invokevirtual 85, 3) := by decide +kernel
theorem d_T_row_80 : decode prog_1_method_3_code 80 = .ok (.invokevirtual 89, 3) := by decide +kernel
theorem d_T_row_83 : decode prog_1_method_3_code 83 = .ok (.aload_n 0, 1) := by decide +kernel
theorem d_T_row_84 : decode prog_1_method_3_code 84 = .ok (.getfield 28, 3) := by decide +kernel
theorem d_T_row_87 : decode prog_1_method_3_code 87 = .ok (.iload_n 1, 1) := by decide +kernel
theorem d_T_row_88 : decode prog_1_method_3_code 88 = .ok (.iload_n 2, 1) := by decide +kernel
theorem d_T_row_89 : decode prog_1_method_3_code 89 = .ok (.iload_n 3, 1) := by decide +kernel
theorem d_T_row_90 : decode prog_1_method_3_code 90 = .ok (.invokevirtual 93, 3) := by decide +kernel
theorem d_T_row_93 : decode prog_1_method_3_code 93 = .ok (.pop, 1) := by decide +kernel
theorem d_T_row_94 : decode prog_1_method_3_code 94 = .ok (.iload_n 1, 1) := by decide +kernel
theorem d_T_row_95 : decode prog_1_method_3_code 95 = .ok (.iconst 4, 1) := by decide +kernel
theorem d_T_row_96 : decode prog_1_method_3_code 96 = .ok (.if_icmp .ne 15, 3) := by decide +kernel
theorem d_T_row_99 : decode prog_1_method_3_code 99 = .ok (.aload_n 0, 1) := by decide +kernel
theorem d_T_row_100 : decode prog_1_method_3_code 100 = .ok (.getfield 18, 3) := by decide +kernel
theorem d_T_row_103 : decode prog_1_method_3_code 103 = .ok (.aload_n 0, 1) := by decide +kernel
theorem d_T_row_104 : decode prog_1_method_3_code 104 = .ok (.getfield 57, 3) := by decide +kernel
theorem d_T_row_107 : decode prog_1_method_3_code 107 = .ok (.iload_n 2, 1) := by decide +kernel
theorem d_T_row_108 : decode prog_1_method_3_code 108 = .ok (.invokevirtual 95, 3) := by decide +kernel
theorem d_T_row_111 : decode prog_1_method_3_code 111 = .ok (.aload_n 0, 1) := by decide +kernel
theorem d_T_row_112 : decode prog_1_method_3_code 112 = .ok (.dup, 1) := by decide +kernel
theorem d_T_row_113 : decode prog_1_method_3_code 113 = .ok (.getfield 98, 3) := by decide +kernel
theorem d_T_row_116 : decode prog_1_method_3_code 116 = .ok (.iconst 1, 1) := by decide +kernel
theorem d_T_row_117 : decode prog_1_method_3_code 117 = .ok (.iadd, 1) := by decide +kernel
theorem d_T_row_118 : decode prog_1_method_3_code 118 = .ok (.putfield 98, 3) := by decide +kernel
theorem d_T_row_121 : decode prog_1_method_3_code 121 = .ok (.aload_n 0, 1) := by decide +kernel
theorem d_T_row_122 : decode prog_1_method_3_code 122 = .ok (.getfield 28, 3) := by decide +kernel
theorem d_T_row_125 : decode prog_1_method_3_code 125 = .ok (.invokevirtual 81, 3) := by decide +kernel
theorem d_T_row_128 : decode prog_1_method_3_code 128 = .ok (.ireturn, 1) := by decide +kernel
def cd_T_row_0 : Nat → g_T := g_tab [(0, tr_ald 0 1), (1, tr_ild 1 2), (2, tr_ild 2 3), (3, tr_ild 3 4), (4, tr_cV J_T_isRow 9 3 7), (7, tr_if1 (fun x => ¬ x = 0) 20 10), (10, tr_thr z_X2), (13, tr_dup 14), (20, tr_ald 0 21), (21, tr_get 9 2 24), (24, tr_ald 0 25), (25, tr_get 9 5 28), (28, tr_cV J_B_isClosedBy 2 1 31), (31, tr_if1 (fun x => x = 0) 51 34), (34, tr_ald 0 35), (35, tr_cV J_T_closeOpen 9 0 38)]
set_option maxRecDepth 100000 in
theorem ok_T_row_0 : ∀ pc, g_S (J_T_row) pc (cd_T_row_0 pc) := g_tab_ok <|
  List.forall_mem_cons.mpr ⟨so_aload_n d_T_row_0 rfl rfl,
  List.forall_mem_cons.mpr ⟨so_iload_n d_T_row_1 rfl rfl,
  List.forall_mem_cons.mpr ⟨so_iload_n d_T_row_2 rfl rfl,
  List.forall_mem_cons.mpr ⟨so_iload_n d_T_row_3 rfl rfl,
  List.forall_mem_cons.mpr ⟨so_cV g_good d_T_row_4 ⟨w_2_147, (Nat.le_of_ble_eq_true rfl), (Nat.le_of_ble_eq_true rfl), w_1_1, ⟨by decide, by decide⟩, by decide +kernel⟩ (rfl : vwCl[9]? = some (R_T, F_T, 9)) w_2_144 w_2_146 w_p1 rfl,
  List.forall_mem_cons.mpr ⟨so_if_ne d_T_row_7 (by decide) rfl,
  List.forall_mem_cons.mpr ⟨so_thr (tx := "no such row") rfl d_T_row_10 d_T_row_13 d_T_row_14 d_T_row_16 d_T_row_19 z_at2 w_2_152 w_1_17 (by decide +kernel) (by decide +kernel) rfl (Nat.le_of_ble_eq_true rfl) (Nat.le_of_ble_eq_true rfl),
  List.forall_mem_cons.mpr ⟨so_dup d_T_row_13 rfl,
  List.forall_mem_cons.mpr ⟨so_aload_n d_T_row_20 rfl rfl,
  List.forall_mem_cons.mpr ⟨so_get d_T_row_21 (rfl : vwCl[9]? = some (R_T, F_T, 9)) (Nat.le_of_ble_eq_true rfl) i_T w_1_235 rfl,
  List.forall_mem_cons.mpr ⟨so_aload_n d_T_row_24 rfl rfl,
  List.forall_mem_cons.mpr ⟨so_get d_T_row_25 (rfl : vwCl[9]? = some (R_T, F_T, 9)) (Nat.le_of_ble_eq_true rfl) i_T w_1_238 rfl,
  List.forall_mem_cons.mpr ⟨so_cV g_good d_T_row_28 ⟨w_2_171, (Nat.le_of_ble_eq_true rfl), (Nat.le_of_ble_eq_true rfl), w_1_4, ⟨by decide, by decide⟩, by decide +kernel⟩ (rfl : vwCl[2]? = some (R_B, F_B, 5)) w_2_168 w_2_169 w_2_170 rfl,
  List.forall_mem_cons.mpr ⟨so_if_eq d_T_row_31 (by decide) rfl,
  List.forall_mem_cons.mpr ⟨so_aload_n d_T_row_34 rfl rfl,
  List.forall_mem_cons.mpr ⟨so_cV g_good d_T_row_35 ⟨w_2_176, (Nat.le_of_ble_eq_true rfl), (Nat.le_of_ble_eq_true rfl), w_1_1, ⟨by decide, by decide⟩, by decide +kernel⟩ (rfl : vwCl[9]? = some (R_T, F_T, 9)) w_2_173 w_2_175 w_p2 rfl,
  fun _ h => absurd h List.not_mem_nil⟩⟩⟩⟩⟩⟩⟩⟩⟩⟩⟩⟩⟩⟩⟩⟩
def cd_T_row_1 : Nat → g_T := g_tab [(38, tr_if1 (fun x => ¬ x = 0) 51 41), (41, tr_thr z_X3), (44, tr_dup 45), (51, tr_ald 0 52), (52, tr_get 9 2 55), (55, tr_cV J_B_size 2 0 58), (58, tr_if1 (fun x => ¬ x = 0) 83 61), (61, tr_ald 0 62), (62, tr_get 9 2 65), (65, tr_ald 0 66), (66, tr_get 9 5 69), (69, tr_ald 0 70), (70, tr_get 9 1 73), (73, tr_ald 0 74), (74, tr_get 9 5 77), (77, tr_cV J_I_at 0 1 80)]
set_option maxRecDepth 100000 in
theorem ok_T_row_1 : ∀ pc, g_S (J_T_row) pc (cd_T_row_1 pc) := g_tab_ok <|
  List.forall_mem_cons.mpr ⟨so_if_ne d_T_row_38 (by decide) rfl,
  List.forall_mem_cons.mpr ⟨so_thr (tx := "the pack would be too long") rfl d_T_row_41 d_T_row_44 d_T_row_45 d_T_row_47 d_T_row_50 z_at3 w_3_63 w_1_18 (by decide +kernel) (by decide +kernel) rfl (Nat.le_of_ble_eq_true rfl) (Nat.le_of_ble_eq_true rfl),
  List.forall_mem_cons.mpr ⟨so_dup d_T_row_44 rfl,
  List.forall_mem_cons.mpr ⟨so_aload_n d_T_row_51 rfl rfl,
  List.forall_mem_cons.mpr ⟨so_get d_T_row_52 (rfl : vwCl[9]? = some (R_T, F_T, 9)) (Nat.le_of_ble_eq_true rfl) i_T w_1_235 rfl,
  List.forall_mem_cons.mpr ⟨so_cV g_good d_T_row_55 ⟨w_2_32, (Nat.le_of_ble_eq_true rfl), (Nat.le_of_ble_eq_true rfl), w_1_4, ⟨by decide, by decide⟩, by decide +kernel⟩ (rfl : vwCl[2]? = some (R_B, F_B, 5)) w_2_29 w_2_30 w_2_31 rfl,
  List.forall_mem_cons.mpr ⟨so_if_ne d_T_row_58 (by decide) rfl,
  List.forall_mem_cons.mpr ⟨so_aload_n d_T_row_61 rfl rfl,
  List.forall_mem_cons.mpr ⟨so_get d_T_row_62 (rfl : vwCl[9]? = some (R_T, F_T, 9)) (Nat.le_of_ble_eq_true rfl) i_T w_1_235 rfl,
  List.forall_mem_cons.mpr ⟨so_aload_n d_T_row_65 rfl rfl,
  List.forall_mem_cons.mpr ⟨so_get d_T_row_66 (rfl : vwCl[9]? = some (R_T, F_T, 9)) (Nat.le_of_ble_eq_true rfl) i_T w_1_238 rfl,
  List.forall_mem_cons.mpr ⟨so_aload_n d_T_row_69 rfl rfl,
  List.forall_mem_cons.mpr ⟨so_get d_T_row_70 (rfl : vwCl[9]? = some (R_T, F_T, 9)) (Nat.le_of_ble_eq_true rfl) i_T w_1_234 rfl,
  List.forall_mem_cons.mpr ⟨so_aload_n d_T_row_73 rfl rfl,
  List.forall_mem_cons.mpr ⟨so_get d_T_row_74 (rfl : vwCl[9]? = some (R_T, F_T, 9)) (Nat.le_of_ble_eq_true rfl) i_T w_1_238 rfl,
  List.forall_mem_cons.mpr ⟨so_cV g_good d_T_row_77 ⟨w_2_151, (Nat.le_of_ble_eq_true rfl), (Nat.le_of_ble_eq_true rfl), w_1_2, ⟨by decide, by decide⟩, by decide +kernel⟩ (rfl : vwCl[0]? = some (R_I, F_I, 2)) w_2_148 w_2_149 w_2_150 rfl,
  fun _ h => absurd h List.not_mem_nil⟩⟩⟩⟩⟩⟩⟩⟩⟩⟩⟩⟩⟩⟩⟩⟩
def cd_T_row_2 : Nat → g_T := g_tab [(80, tr_cV J_B_begin 2 2 83), (83, tr_ald 0 84), (84, tr_get 9 2 87), (87, tr_ild 1 88), (88, tr_ild 2 89), (89, tr_ild 3 90), (90, tr_cV J_B_add 2 3 93), (93, tr_pop 94), (94, tr_ild 1 95), (95, tr_cst (.int (4)) 96), (96, tr_if2 (fun x y => ¬ x = y) 111 99), (99, tr_ald 0 100), (100, tr_get 9 1 103), (103, tr_ald 0 104), (104, tr_get 9 5 107), (107, tr_ild 2 108)]
set_option maxRecDepth 100000 in
theorem ok_T_row_2 : ∀ pc, g_S (J_T_row) pc (cd_T_row_2 pc) := g_tab_ok <|
  List.forall_mem_cons.mpr ⟨so_cV g_good d_T_row_80 ⟨w_3_82, (Nat.le_of_ble_eq_true rfl), (Nat.le_of_ble_eq_true rfl), w_1_4, ⟨by decide, by decide⟩, by decide +kernel⟩ (rfl : vwCl[2]? = some (R_B, F_B, 5)) w_3_79 w_3_80 w_3_81 rfl,
  List.forall_mem_cons.mpr ⟨so_aload_n d_T_row_83 rfl rfl,
  List.forall_mem_cons.mpr ⟨so_get d_T_row_84 (rfl : vwCl[9]? = some (R_T, F_T, 9)) (Nat.le_of_ble_eq_true rfl) i_T w_1_235 rfl,
  List.forall_mem_cons.mpr ⟨so_iload_n d_T_row_87 rfl rfl,
  List.forall_mem_cons.mpr ⟨so_iload_n d_T_row_88 rfl rfl,
  List.forall_mem_cons.mpr ⟨so_iload_n d_T_row_89 rfl rfl,
  List.forall_mem_cons.mpr ⟨so_cV g_good d_T_row_90 ⟨w_3_87, (Nat.le_of_ble_eq_true rfl), (Nat.le_of_ble_eq_true rfl), w_1_4, ⟨by decide, by decide⟩, by decide +kernel⟩ (rfl : vwCl[2]? = some (R_B, F_B, 5)) w_3_84 w_3_85 w_3_86 rfl,
  List.forall_mem_cons.mpr ⟨so_pop d_T_row_93 rfl,
  List.forall_mem_cons.mpr ⟨so_iload_n d_T_row_94 rfl rfl,
  List.forall_mem_cons.mpr ⟨so_iconst (by decide) d_T_row_95 rfl,
  List.forall_mem_cons.mpr ⟨so_icmp_ne d_T_row_96 (by decide) rfl,
  List.forall_mem_cons.mpr ⟨so_aload_n d_T_row_99 rfl rfl,
  List.forall_mem_cons.mpr ⟨so_get d_T_row_100 (rfl : vwCl[9]? = some (R_T, F_T, 9)) (Nat.le_of_ble_eq_true rfl) i_T w_1_234 rfl,
  List.forall_mem_cons.mpr ⟨so_aload_n d_T_row_103 rfl rfl,
  List.forall_mem_cons.mpr ⟨so_get d_T_row_104 (rfl : vwCl[9]? = some (R_T, F_T, 9)) (Nat.le_of_ble_eq_true rfl) i_T w_1_238 rfl,
  List.forall_mem_cons.mpr ⟨so_iload_n d_T_row_107 rfl rfl,
  fun _ h => absurd h List.not_mem_nil⟩⟩⟩⟩⟩⟩⟩⟩⟩⟩⟩⟩⟩⟩⟩⟩
def cd_T_row_3 : Nat → g_T := g_tab [(108, tr_cV J_I_set 0 2 111), (111, tr_ald 0 112), (112, tr_dup 113), (113, tr_get 9 7 116), (116, tr_cst (.int (1)) 117), (117, tr_ii (fun x y => x + y) 118), (118, tr_put 9 7 (.int) 121), (121, tr_ald 0 122), (122, tr_get 9 2 125), (125, tr_cV J_B_size 2 0 128), (128, tr_ri)]
set_option maxRecDepth 100000 in
theorem ok_T_row_3 : ∀ pc, g_S (J_T_row) pc (cd_T_row_3 pc) := g_tab_ok <|
  List.forall_mem_cons.mpr ⟨so_cV g_good d_T_row_108 ⟨w_3_40, (Nat.le_of_ble_eq_true rfl), (Nat.le_of_ble_eq_true rfl), w_1_2, ⟨by decide, by decide⟩, by decide +kernel⟩ (rfl : vwCl[0]? = some (R_I, F_I, 2)) w_3_89 w_3_38 w_3_39 rfl,
  List.forall_mem_cons.mpr ⟨so_aload_n d_T_row_111 rfl rfl,
  List.forall_mem_cons.mpr ⟨so_dup d_T_row_112 rfl,
  List.forall_mem_cons.mpr ⟨so_get d_T_row_113 (rfl : vwCl[9]? = some (R_T, F_T, 9)) (Nat.le_of_ble_eq_true rfl) i_T w_2_0 rfl,
  List.forall_mem_cons.mpr ⟨so_iconst (by decide) d_T_row_116 rfl,
  List.forall_mem_cons.mpr ⟨so_iadd d_T_row_117 rfl,
  List.forall_mem_cons.mpr ⟨so_put ft_T d_T_row_118 (rfl : vwCl[9]? = some (R_T, F_T, 9)) (Nat.le_of_ble_eq_true rfl) i_T w_2_0 tk_T n_T rfl rfl rfl,
  List.forall_mem_cons.mpr ⟨so_aload_n d_T_row_121 rfl rfl,
  List.forall_mem_cons.mpr ⟨so_get d_T_row_122 (rfl : vwCl[9]? = some (R_T, F_T, 9)) (Nat.le_of_ble_eq_true rfl) i_T w_1_235 rfl,
  List.forall_mem_cons.mpr ⟨so_cV g_good d_T_row_125 ⟨w_2_32, (Nat.le_of_ble_eq_true rfl), (Nat.le_of_ble_eq_true rfl), w_1_4, ⟨by decide, by decide⟩, by decide +kernel⟩ (rfl : vwCl[2]? = some (R_B, F_B, 5)) w_2_29 w_2_30 w_2_31 rfl,
  List.forall_mem_cons.mpr ⟨so_iret d_T_row_128 rfl,
  fun _ h => absurd h List.not_mem_nil⟩⟩⟩⟩⟩⟩⟩⟩⟩⟩⟩
def cd_T_row : Nat → g_T := g_chk [(35, cd_T_row_0), (77, cd_T_row_1), (107, cd_T_row_2), (128, cd_T_row_3)]
theorem ok_T_row : ∀ pc, g_S (J_T_row) pc (cd_T_row pc) := g_chk_ok <|
  List.forall_mem_cons.mpr ⟨ok_T_row_0,
  List.forall_mem_cons.mpr ⟨ok_T_row_1,
  List.forall_mem_cons.mpr ⟨ok_T_row_2,
  List.forall_mem_cons.mpr ⟨ok_T_row_3,
  fun _ h => absurd h List.not_mem_nil⟩⟩⟩⟩
abbrev J_T_mark : g_J := (y_T_mark, prog_1_method_4_code, 1, (some .int), (6, 136), [], none)
theorem d_T_mark_0 : decode prog_1_method_4_code 0 = .ok (.aload_n 0, 1) := by decide +kernel
theorem d_T_mark_1 : decode prog_1_method_4_code 1 = .ok (.getfield 28, 3) := by decide +kernel
theorem d_T_mark_4 : decode prog_1_method_4_code 4 = .ok (.invokevirtual 81, 3) := by decide +kernel
theorem d_T_mark_7 : decode prog_1_method_4_code 7 = .ok (.ifCond .le 20, 3) := by decide +kernel
theorem d_T_mark_10 : decode prog_1_method_4_code 10 = .ok (.aload_n 0, 1) := by decide +kernel
theorem d_T_mark_11 : decode prog_1_method_4_code 11 = .ok (.invokevirtual 72, 3) := by decide +kernel
theorem d_T_mark_14 : decode prog_1_method_4_code 14 = .ok (.ifCond .ne 13, 3) := by decide +kernel
theorem d_T_mark_17 : decode prog_1_method_4_code 17 = .ok (.new 76, 3) := by decide +kernel
theorem d_T_mark_20 : decode prog_1_method_4_code 20 = .ok (.dup, 1) := by decide +kernel
theorem d_T_mark_21 : decode prog_1_method_4_code 21 = .ok (.ldc 78, 2) := by decide +kernel
theorem d_T_mark_23 : decode prog_1_method_4_code 23 = .ok (.invokespecial 80, 3) := by decide +kernel
theorem d_T_mark_26 : decode prog_1_method_4_code 26 = .ok (.athrow, 1) := by decide +kernel
theorem d_T_mark_27 : decode prog_1_method_4_code 27 = .ok (.aload_n 0, 1) := by decide +kernel
theorem d_T_mark_28 : decode prog_1_method_4_code 28 = .ok (.getfield 14, 3) := by decide +kernel
theorem d_T_mark_31 : decode prog_1_method_4_code 31 = .ok (.invokevirtual 101, 3) := by decide +kernel
theorem d_T_mark_34 : decode prog_1_method_4_code 34 = .ok (.ireturn, 1) := by decide +kernel
def cd_T_mark_0 : Nat → g_T := g_tab [(0, tr_ald 0 1), (1, tr_get 9 2 4), (4, tr_cV J_B_size 2 0 7), (7, tr_if1 (fun x => x ≤ 0) 27 10), (10, tr_ald 0 11), (11, tr_cV J_T_closeOpen 9 0 14), (14, tr_if1 (fun x => ¬ x = 0) 27 17), (17, tr_thr z_X3), (20, tr_dup 21), (27, tr_ald 0 28), (28, tr_get 9 0 31), (31, tr_cV J_I_size 0 0 34), (34, tr_ri)]
set_option maxRecDepth 100000 in
theorem ok_T_mark_0 : ∀ pc, g_S (J_T_mark) pc (cd_T_mark_0 pc) := g_tab_ok <|
  List.forall_mem_cons.mpr ⟨so_aload_n d_T_mark_0 rfl rfl,
  List.forall_mem_cons.mpr ⟨so_get d_T_mark_1 (rfl : vwCl[9]? = some (R_T, F_T, 9)) (Nat.le_of_ble_eq_true rfl) i_T w_1_235 rfl,
  List.forall_mem_cons.mpr ⟨so_cV g_good d_T_mark_4 ⟨w_2_32, (Nat.le_of_ble_eq_true rfl), (Nat.le_of_ble_eq_true rfl), w_1_4, ⟨by decide, by decide⟩, by decide +kernel⟩ (rfl : vwCl[2]? = some (R_B, F_B, 5)) w_2_29 w_2_30 w_2_31 rfl,
  List.forall_mem_cons.mpr ⟨so_if_le d_T_mark_7 (by decide) rfl,
  List.forall_mem_cons.mpr ⟨so_aload_n d_T_mark_10 rfl rfl,
  List.forall_mem_cons.mpr ⟨so_cV g_good d_T_mark_11 ⟨w_2_176, (Nat.le_of_ble_eq_true rfl), (Nat.le_of_ble_eq_true rfl), w_1_1, ⟨by decide, by decide⟩, by decide +kernel⟩ (rfl : vwCl[9]? = some (R_T, F_T, 9)) w_2_173 w_2_175 w_p2 rfl,
  List.forall_mem_cons.mpr ⟨so_if_ne d_T_mark_14 (by decide) rfl,
  List.forall_mem_cons.mpr ⟨so_thr (tx := "the pack would be too long") rfl d_T_mark_17 d_T_mark_20 d_T_mark_21 d_T_mark_23 d_T_mark_26 z_at3 w_3_63 w_1_18 (by decide +kernel) (by decide +kernel) rfl (Nat.le_of_ble_eq_true rfl) (Nat.le_of_ble_eq_true rfl),
  List.forall_mem_cons.mpr ⟨so_dup d_T_mark_20 rfl,
  List.forall_mem_cons.mpr ⟨so_aload_n d_T_mark_27 rfl rfl,
  List.forall_mem_cons.mpr ⟨so_get d_T_mark_28 (rfl : vwCl[9]? = some (R_T, F_T, 9)) (Nat.le_of_ble_eq_true rfl) i_T w_1_233 rfl,
  List.forall_mem_cons.mpr ⟨so_cV g_good d_T_mark_31 ⟨w_2_28, (Nat.le_of_ble_eq_true rfl), (Nat.le_of_ble_eq_true rfl), w_1_2, ⟨by decide, by decide⟩, by decide +kernel⟩ (rfl : vwCl[0]? = some (R_I, F_I, 2)) w_2_25 w_2_26 w_2_27 rfl,
  List.forall_mem_cons.mpr ⟨so_iret d_T_mark_34 rfl,
  fun _ h => absurd h List.not_mem_nil⟩⟩⟩⟩⟩⟩⟩⟩⟩⟩⟩⟩⟩
def cd_T_mark : Nat → g_T := g_chk [(34, cd_T_mark_0)]
theorem ok_T_mark : ∀ pc, g_S (J_T_mark) pc (cd_T_mark pc) := g_chk_ok <|
  List.forall_mem_cons.mpr ⟨ok_T_mark_0,
  fun _ h => absurd h List.not_mem_nil⟩
abbrev J_T_byteAt : g_J := (y_T_byteAt, prog_1_method_5_code, 2, (some .int), (6, 100), [], none)
theorem d_T_byteAt_0 : decode prog_1_method_5_code 0 = .ok (.aload_n 0, 1) := by decide +kernel
theorem d_T_byteAt_1 : decode prog_1_method_5_code 1 = .ok (.getfield 14, 3) := by decide +kernel
theorem d_T_byteAt_4 : decode prog_1_method_5_code 4 = .ok (.iload_n 1, 1) := by decide +kernel
theorem d_T_byteAt_5 : decode prog_1_method_5_code 5 = .ok (.invokevirtual 102, 3) := by decide +kernel
theorem d_T_byteAt_8 : decode prog_1_method_5_code 8 = .ok (.ifCond .ne 13, 3) := by decide +kernel
theorem d_T_byteAt_11 : decode prog_1_method_5_code 11 = .ok (.new 50, 3) := by decide +kernel
theorem d_T_byteAt_14 : decode prog_1_method_5_code 14 = .ok (.dup, 1) := by decide +kernel
theorem d_T_byteAt_15 : decode prog_1_method_5_code 15 = .ok (.ldc 105, 2) := by decide +kernel
theorem d_T_byteAt_17 : decode prog_1_method_5_code 17 = .ok (.invokespecial 54, 3) := by decide +kernel
theorem d_T_byteAt_20 : decode prog_1_method_5_code 20 = .ok (.athrow, 1) := by decide +kernel
theorem d_T_byteAt_21 : decode prog_1_method_5_code 21 = .ok (.aload_n 0, 1) := by decide +kernel
theorem d_T_byteAt_22 : decode prog_1_method_5_code 22 = .ok (.getfield 14, 3) := by decide +kernel
theorem d_T_byteAt_25 : decode prog_1_method_5_code 25 = .ok (.iload_n 1, 1) := by decide +kernel
theorem d_T_byteAt_26 : decode prog_1_method_5_code 26 = .ok (.invokevirtual 85, 3) := by decide +kernel
theorem d_T_byteAt_29 : decode prog_1_method_5_code 29 = .ok (.ireturn, 1) := by decide +kernel
def cd_T_byteAt_0 : Nat → g_T := g_tab [(0, tr_ald 0 1), (1, tr_get 9 0 4), (4, tr_ild 1 5), (5, tr_cV J_I_has 0 1 8), (8, tr_if1 (fun x => ¬ x = 0) 21 11), (11, tr_thr z_X1), (14, tr_dup 15), (21, tr_ald 0 22), (22, tr_get 9 0 25), (25, tr_ild 1 26), (26, tr_cV J_I_at 0 1 29), (29, tr_ri)]
set_option maxRecDepth 100000 in
theorem ok_T_byteAt_0 : ∀ pc, g_S (J_T_byteAt) pc (cd_T_byteAt_0 pc) := g_tab_ok <|
  List.forall_mem_cons.mpr ⟨so_aload_n d_T_byteAt_0 rfl rfl,
  List.forall_mem_cons.mpr ⟨so_get d_T_byteAt_1 (rfl : vwCl[9]? = some (R_T, F_T, 9)) (Nat.le_of_ble_eq_true rfl) i_T w_1_233 rfl,
  List.forall_mem_cons.mpr ⟨so_iload_n d_T_byteAt_4 rfl rfl,
  List.forall_mem_cons.mpr ⟨so_cV g_good d_T_byteAt_5 ⟨w_3_107, (Nat.le_of_ble_eq_true rfl), (Nat.le_of_ble_eq_true rfl), w_1_2, ⟨by decide, by decide⟩, by decide +kernel⟩ (rfl : vwCl[0]? = some (R_I, F_I, 2)) w_3_104 w_3_105 w_3_106 rfl,
  List.forall_mem_cons.mpr ⟨so_if_ne d_T_byteAt_8 (by decide) rfl,
  List.forall_mem_cons.mpr ⟨so_thr (tx := "no such byte") rfl d_T_byteAt_11 d_T_byteAt_14 d_T_byteAt_15 d_T_byteAt_17 d_T_byteAt_20 z_at1 w_2_67 w_1_16 (by decide +kernel) (by decide +kernel) rfl (Nat.le_of_ble_eq_true rfl) (Nat.le_of_ble_eq_true rfl),
  List.forall_mem_cons.mpr ⟨so_dup d_T_byteAt_14 rfl,
  List.forall_mem_cons.mpr ⟨so_aload_n d_T_byteAt_21 rfl rfl,
  List.forall_mem_cons.mpr ⟨so_get d_T_byteAt_22 (rfl : vwCl[9]? = some (R_T, F_T, 9)) (Nat.le_of_ble_eq_true rfl) i_T w_1_233 rfl,
  List.forall_mem_cons.mpr ⟨so_iload_n d_T_byteAt_25 rfl rfl,
  List.forall_mem_cons.mpr ⟨so_cV g_good d_T_byteAt_26 ⟨w_2_151, (Nat.le_of_ble_eq_true rfl), (Nat.le_of_ble_eq_true rfl), w_1_2, ⟨by decide, by decide⟩, by decide +kernel⟩ (rfl : vwCl[0]? = some (R_I, F_I, 2)) w_2_148 w_2_149 w_2_150 rfl,
  List.forall_mem_cons.mpr ⟨so_iret d_T_byteAt_29 rfl,
  fun _ h => absurd h List.not_mem_nil⟩⟩⟩⟩⟩⟩⟩⟩⟩⟩⟩⟩
def cd_T_byteAt : Nat → g_T := g_chk [(29, cd_T_byteAt_0)]
theorem ok_T_byteAt : ∀ pc, g_S (J_T_byteAt) pc (cd_T_byteAt pc) := g_chk_ok <|
  List.forall_mem_cons.mpr ⟨ok_T_byteAt_0,
  fun _ h => absurd h List.not_mem_nil⟩
abbrev J_T_flip : g_J := (y_T_flip, prog_1_method_6_code, 3, (some .int), (6, 100), [], none)
theorem d_T_flip_0 : decode prog_1_method_6_code 0 = .ok (.aload_n 0, 1) := by decide +kernel
theorem d_T_flip_1 : decode prog_1_method_6_code 1 = .ok (.getfield 14, 3) := by decide +kernel
theorem d_T_flip_4 : decode prog_1_method_6_code 4 = .ok (.iload_n 1, 1) := by decide +kernel
theorem d_T_flip_5 : decode prog_1_method_6_code 5 = .ok (.invokevirtual 102, 3) := by decide +kernel
theorem d_T_flip_8 : decode prog_1_method_6_code 8 = .ok (.ifCond .ne 13, 3) := by decide +kernel
theorem d_T_flip_11 : decode prog_1_method_6_code 11 = .ok (.new 50, 3) := by decide +kernel
theorem d_T_flip_14 : decode prog_1_method_6_code 14 = .ok (.dup, 1) := by decide +kernel
theorem d_T_flip_15 : decode prog_1_method_6_code 15 = .ok (.ldc 105, 2) := by decide +kernel
theorem d_T_flip_17 : decode prog_1_method_6_code 17 = .ok (.invokespecial 54, 3) := by decide +kernel
theorem d_T_flip_20 : decode prog_1_method_6_code 20 = .ok (.athrow, 1) := by decide +kernel
theorem d_T_flip_21 : decode prog_1_method_6_code 21 = .ok (.iload_n 2, 1) := by decide +kernel
theorem d_T_flip_22 : decode prog_1_method_6_code 22 = .ok (.ifCond .lt 10, 3) := by decide +kernel
theorem d_T_flip_25 : decode prog_1_method_6_code 25 = .ok (.iload_n 2, 1) := by decide +kernel
theorem d_T_flip_26 : decode prog_1_method_6_code 26 = .ok (.sipush 255, 3) := by decide +kernel
theorem d_T_flip_29 : decode prog_1_method_6_code 29 = .ok (.if_icmp .le 13, 3) := by decide +kernel
theorem d_T_flip_32 : decode prog_1_method_6_code 32 = .ok (.new 64, 3) := by decide +kernel
theorem d_T_flip_35 : decode prog_1_method_6_code 35 = .ok (.dup, 1) := by decide +kernel
theorem d_T_flip_36 : decode prog_1_method_6_code 36 = .ok (.ldc 107, 2) := by decide +kernel
theorem d_T_flip_38 : decode prog_1_method_6_code 38 = .ok (.invokespecial 68, 3) := by decide +kernel
theorem d_T_flip_41 : decode prog_1_method_6_code 41 = .ok (.athrow, 1) := by decide +kernel
theorem d_T_flip_42 : decode prog_1_method_6_code 42 = .ok (.aload_n 0, 1) := by decide +kernel
theorem d_T_flip_43 : decode prog_1_method_6_code 43 = .ok (.getfield 14, 3) := by decide +kernel
theorem d_T_flip_46 : decode prog_1_method_6_code 46 = .ok (.iload_n 1, 1) := by decide +kernel
theorem d_T_flip_47 : decode prog_1_method_6_code 47 = .ok (.aload_n 0, 1) := by decide +kernel
theorem d_T_flip_48 : decode prog_1_method_6_code 48 = .ok (.getfield 14, 3) := by decide +kernel
theorem d_T_flip_51 : decode prog_1_method_6_code 51 = .ok (.iload_n 1, 1) := by decide +kernel
theorem d_T_flip_52 : decode prog_1_method_6_code 52 = .ok (.invokevirtual 85, 3) := by decide +kernel
theorem d_T_flip_55 : decode prog_1_method_6_code 55 = .ok (.iload_n 2, 1) := by decide +kernel
theorem d_T_flip_56 : decode prog_1_method_6_code 56 = .ok (.ixor, 1) := by decide +kernel
theorem d_T_flip_57 : decode prog_1_method_6_code 57 = .ok (.invokevirtual 95, 3) := by decide +kernel
theorem d_T_flip_60 : decode prog_1_method_6_code 60 = .ok (.aload_n 0, 1) := by decide +kernel
theorem d_T_flip_61 : decode prog_1_method_6_code 61 = .ok (.getfield 14, 3) := by decide +kernel
theorem d_T_flip_64 : decode prog_1_method_6_code 64 = .ok (.iload_n 1, 1) := by decide +kernel
theorem d_T_flip_65 : decode prog_1_method_6_code 65 = .ok (.invokevirtual 85, 3) := by decide +kernel
theorem d_T_flip_68 : decode prog_1_method_6_code 68 = .ok (.ireturn, 1) := by decide +kernel
def cd_T_flip_0 : Nat → g_T := g_tab [(0, tr_ald 0 1), (1, tr_get 9 0 4), (4, tr_ild 1 5), (5, tr_cV J_I_has 0 1 8), (8, tr_if1 (fun x => ¬ x = 0) 21 11), (11, tr_thr z_X1), (14, tr_dup 15), (21, tr_ild 2 22), (22, tr_if1 (fun x => x < 0) 32 25), (25, tr_ild 2 26), (26, tr_cst (.int (255)) 29), (29, tr_if2 (fun x y => x ≤ y) 42 32), (32, tr_thr z_X2), (35, tr_dup 36), (42, tr_ald 0 43), (43, tr_get 9 0 46)]
set_option maxRecDepth 100000 in
theorem ok_T_flip_0 : ∀ pc, g_S (J_T_flip) pc (cd_T_flip_0 pc) := g_tab_ok <|
  List.forall_mem_cons.mpr ⟨so_aload_n d_T_flip_0 rfl rfl,
  List.forall_mem_cons.mpr ⟨so_get d_T_flip_1 (rfl : vwCl[9]? = some (R_T, F_T, 9)) (Nat.le_of_ble_eq_true rfl) i_T w_1_233 rfl,
  List.forall_mem_cons.mpr ⟨so_iload_n d_T_flip_4 rfl rfl,
  List.forall_mem_cons.mpr ⟨so_cV g_good d_T_flip_5 ⟨w_3_107, (Nat.le_of_ble_eq_true rfl), (Nat.le_of_ble_eq_true rfl), w_1_2, ⟨by decide, by decide⟩, by decide +kernel⟩ (rfl : vwCl[0]? = some (R_I, F_I, 2)) w_3_104 w_3_105 w_3_106 rfl,
  List.forall_mem_cons.mpr ⟨so_if_ne d_T_flip_8 (by decide) rfl,
  List.forall_mem_cons.mpr ⟨so_thr (tx := "no such byte") rfl d_T_flip_11 d_T_flip_14 d_T_flip_15 d_T_flip_17 d_T_flip_20 z_at1 w_2_67 w_1_16 (by decide +kernel) (by decide +kernel) rfl (Nat.le_of_ble_eq_true rfl) (Nat.le_of_ble_eq_true rfl),
  List.forall_mem_cons.mpr ⟨so_dup d_T_flip_14 rfl,
  List.forall_mem_cons.mpr ⟨so_iload_n d_T_flip_21 rfl rfl,
  List.forall_mem_cons.mpr ⟨so_if_lt d_T_flip_22 (by decide) rfl,
  List.forall_mem_cons.mpr ⟨so_iload_n d_T_flip_25 rfl rfl,
  List.forall_mem_cons.mpr ⟨so_sipush (by decide) d_T_flip_26 rfl,
  List.forall_mem_cons.mpr ⟨so_icmp_le d_T_flip_29 (by decide) rfl,
  List.forall_mem_cons.mpr ⟨so_thr (tx := "the mask is no byte") rfl d_T_flip_32 d_T_flip_35 d_T_flip_36 d_T_flip_38 d_T_flip_41 z_at2 w_2_152 w_1_17 (by decide +kernel) (by decide +kernel) rfl (Nat.le_of_ble_eq_true rfl) (Nat.le_of_ble_eq_true rfl),
  List.forall_mem_cons.mpr ⟨so_dup d_T_flip_35 rfl,
  List.forall_mem_cons.mpr ⟨so_aload_n d_T_flip_42 rfl rfl,
  List.forall_mem_cons.mpr ⟨so_get d_T_flip_43 (rfl : vwCl[9]? = some (R_T, F_T, 9)) (Nat.le_of_ble_eq_true rfl) i_T w_1_233 rfl,
  fun _ h => absurd h List.not_mem_nil⟩⟩⟩⟩⟩⟩⟩⟩⟩⟩⟩⟩⟩⟩⟩⟩
def cd_T_flip_1 : Nat → g_T := g_tab [(46, tr_ild 1 47), (47, tr_ald 0 48), (48, tr_get 9 0 51), (51, tr_ild 1 52), (52, tr_cV J_I_at 0 1 55), (55, tr_ild 2 56), (56, tr_ii (fun x y => x ^^^ y) 57), (57, tr_cV J_I_set 0 2 60), (60, tr_ald 0 61), (61, tr_get 9 0 64), (64, tr_ild 1 65), (65, tr_cV J_I_at 0 1 68), (68, tr_ri)]
set_option maxRecDepth 100000 in
theorem ok_T_flip_1 : ∀ pc, g_S (J_T_flip) pc (cd_T_flip_1 pc) := g_tab_ok <|
  List.forall_mem_cons.mpr ⟨so_iload_n d_T_flip_46 rfl rfl,
  List.forall_mem_cons.mpr ⟨so_aload_n d_T_flip_47 rfl rfl,
  List.forall_mem_cons.mpr ⟨so_get d_T_flip_48 (rfl : vwCl[9]? = some (R_T, F_T, 9)) (Nat.le_of_ble_eq_true rfl) i_T w_1_233 rfl,
  List.forall_mem_cons.mpr ⟨so_iload_n d_T_flip_51 rfl rfl,
  List.forall_mem_cons.mpr ⟨so_cV g_good d_T_flip_52 ⟨w_2_151, (Nat.le_of_ble_eq_true rfl), (Nat.le_of_ble_eq_true rfl), w_1_2, ⟨by decide, by decide⟩, by decide +kernel⟩ (rfl : vwCl[0]? = some (R_I, F_I, 2)) w_2_148 w_2_149 w_2_150 rfl,
  List.forall_mem_cons.mpr ⟨so_iload_n d_T_flip_55 rfl rfl,
  List.forall_mem_cons.mpr ⟨so_ixor d_T_flip_56 rfl,
  List.forall_mem_cons.mpr ⟨so_cV g_good d_T_flip_57 ⟨w_3_40, (Nat.le_of_ble_eq_true rfl), (Nat.le_of_ble_eq_true rfl), w_1_2, ⟨by decide, by decide⟩, by decide +kernel⟩ (rfl : vwCl[0]? = some (R_I, F_I, 2)) w_3_89 w_3_38 w_3_39 rfl,
  List.forall_mem_cons.mpr ⟨so_aload_n d_T_flip_60 rfl rfl,
  List.forall_mem_cons.mpr ⟨so_get d_T_flip_61 (rfl : vwCl[9]? = some (R_T, F_T, 9)) (Nat.le_of_ble_eq_true rfl) i_T w_1_233 rfl,
  List.forall_mem_cons.mpr ⟨so_iload_n d_T_flip_64 rfl rfl,
  List.forall_mem_cons.mpr ⟨so_cV g_good d_T_flip_65 ⟨w_2_151, (Nat.le_of_ble_eq_true rfl), (Nat.le_of_ble_eq_true rfl), w_1_2, ⟨by decide, by decide⟩, by decide +kernel⟩ (rfl : vwCl[0]? = some (R_I, F_I, 2)) w_2_148 w_2_149 w_2_150 rfl,
  List.forall_mem_cons.mpr ⟨so_iret d_T_flip_68 rfl,
  fun _ h => absurd h List.not_mem_nil⟩⟩⟩⟩⟩⟩⟩⟩⟩⟩⟩⟩⟩
def cd_T_flip : Nat → g_T := g_chk [(43, cd_T_flip_0), (68, cd_T_flip_1)]
theorem ok_T_flip : ∀ pc, g_S (J_T_flip) pc (cd_T_flip pc) := g_chk_ok <|
  List.forall_mem_cons.mpr ⟨ok_T_flip_0,
  List.forall_mem_cons.mpr ⟨ok_T_flip_1,
  fun _ h => absurd h List.not_mem_nil⟩⟩
abbrev J_T_put : g_J := (y_T_put, prog_1_method_7_code, 2, (some .int), (6, 100), [], none)
theorem d_T_put_0 : decode prog_1_method_7_code 0 = .ok (.iload_n 1, 1) := by decide +kernel
theorem d_T_put_1 : decode prog_1_method_7_code 1 = .ok (.ifCond .lt 10, 3) := by decide +kernel
theorem d_T_put_4 : decode prog_1_method_7_code 4 = .ok (.iload_n 1, 1) := by decide +kernel
theorem d_T_put_5 : decode prog_1_method_7_code 5 = .ok (.sipush 255, 3) := by decide +kernel
theorem d_T_put_8 : decode prog_1_method_7_code 8 = .ok (.if_icmp .le 13, 3) := by decide +kernel
theorem d_T_put_11 : decode prog_1_method_7_code 11 = .ok (.new 64, 3) := by decide +kernel
theorem d_T_put_14 : decode prog_1_method_7_code 14 = .ok (.dup, 1) := by decide +kernel
theorem d_T_put_15 : decode prog_1_method_7_code 15 = .ok (.ldc 109, 2) := by decide +kernel
theorem d_T_put_17 : decode prog_1_method_7_code 17 = .ok (.invokespecial 68, 3) := by decide +kernel
theorem d_T_put_20 : decode prog_1_method_7_code 20 = .ok (.athrow, 1) := by decide +kernel
theorem d_T_put_21 : decode prog_1_method_7_code 21 = .ok (.aload_n 0, 1) := by decide +kernel
theorem d_T_put_22 : decode prog_1_method_7_code 22 = .ok (.getfield 14, 3) := by decide +kernel
theorem d_T_put_25 : decode prog_1_method_7_code 25 = .ok (.iload_n 1, 1) := by decide +kernel
theorem d_T_put_26 : decode prog_1_method_7_code 26 = .ok (.invokevirtual 21, 3) := by decide +kernel
theorem d_T_put_29 : decode prog_1_method_7_code 29 = .ok (.ifCond .ne 13, 3) := by decide +kernel
theorem d_T_put_32 : decode prog_1_method_7_code 32 = .ok (.new 76, 3) := by decide +kernel
theorem d_T_put_35 : decode prog_1_method_7_code 35 = .ok (.dup, 1) := by decide +kernel
theorem d_T_put_36 : decode prog_1_method_7_code 36 = .ok (.ldc 111, 2) := by decide +kernel
theorem d_T_put_38 : decode prog_1_method_7_code 38 = .ok (.invokespecial 80, 3) := by decide +kernel
theorem d_T_put_41 : decode prog_1_method_7_code 41 = .ok (.athrow, 1) := by decide +kernel
theorem d_T_put_42 : decode prog_1_method_7_code 42 = .ok (.aload_n 0, 1) := by decide +kernel
theorem d_T_put_43 : decode prog_1_method_7_code 43 = .ok (.getfield 14, 3) := by decide +kernel
theorem d_T_put_46 : decode prog_1_method_7_code 46 = .ok (.invokevirtual 101, 3) := by decide +kernel
theorem d_T_put_49 : decode prog_1_method_7_code 49 = .ok (.ireturn, 1) := by decide +kernel
def cd_T_put_0 : Nat → g_T := g_tab [(0, tr_ild 1 1), (1, tr_if1 (fun x => x < 0) 11 4), (4, tr_ild 1 5), (5, tr_cst (.int (255)) 8), (8, tr_if2 (fun x y => x ≤ y) 21 11), (11, tr_thr z_X2), (14, tr_dup 15), (21, tr_ald 0 22), (22, tr_get 9 0 25), (25, tr_ild 1 26), (26, tr_cV J_I_add 0 1 29), (29, tr_if1 (fun x => ¬ x = 0) 42 32), (32, tr_thr z_X3), (35, tr_dup 36), (42, tr_ald 0 43), (43, tr_get 9 0 46)]
set_option maxRecDepth 100000 in
theorem ok_T_put_0 : ∀ pc, g_S (J_T_put) pc (cd_T_put_0 pc) := g_tab_ok <|
  List.forall_mem_cons.mpr ⟨so_iload_n d_T_put_0 rfl rfl,
  List.forall_mem_cons.mpr ⟨so_if_lt d_T_put_1 (by decide) rfl,
  List.forall_mem_cons.mpr ⟨so_iload_n d_T_put_4 rfl rfl,
  List.forall_mem_cons.mpr ⟨so_sipush (by decide) d_T_put_5 rfl,
  List.forall_mem_cons.mpr ⟨so_icmp_le d_T_put_8 (by decide) rfl,
  List.forall_mem_cons.mpr ⟨so_thr (tx := "no byte") rfl d_T_put_11 d_T_put_14 d_T_put_15 d_T_put_17 d_T_put_20 z_at2 w_2_152 w_1_17 (by decide +kernel) (by decide +kernel) rfl (Nat.le_of_ble_eq_true rfl) (Nat.le_of_ble_eq_true rfl),
  List.forall_mem_cons.mpr ⟨so_dup d_T_put_14 rfl,
  List.forall_mem_cons.mpr ⟨so_aload_n d_T_put_21 rfl rfl,
  List.forall_mem_cons.mpr ⟨so_get d_T_put_22 (rfl : vwCl[9]? = some (R_T, F_T, 9)) (Nat.le_of_ble_eq_true rfl) i_T w_1_233 rfl,
  List.forall_mem_cons.mpr ⟨so_iload_n d_T_put_25 rfl rfl,
  List.forall_mem_cons.mpr ⟨so_cV g_good d_T_put_26 ⟨w_1_47, (Nat.le_of_ble_eq_true rfl), (Nat.le_of_ble_eq_true rfl), w_1_2, ⟨by decide, by decide⟩, by decide +kernel⟩ (rfl : vwCl[0]? = some (R_I, F_I, 2)) w_1_44 w_1_45 w_1_46 rfl,
  List.forall_mem_cons.mpr ⟨so_if_ne d_T_put_29 (by decide) rfl,
  List.forall_mem_cons.mpr ⟨so_thr (tx := "the pack is full") rfl d_T_put_32 d_T_put_35 d_T_put_36 d_T_put_38 d_T_put_41 z_at3 w_3_63 w_1_18 (by decide +kernel) (by decide +kernel) rfl (Nat.le_of_ble_eq_true rfl) (Nat.le_of_ble_eq_true rfl),
  List.forall_mem_cons.mpr ⟨so_dup d_T_put_35 rfl,
  List.forall_mem_cons.mpr ⟨so_aload_n d_T_put_42 rfl rfl,
  List.forall_mem_cons.mpr ⟨so_get d_T_put_43 (rfl : vwCl[9]? = some (R_T, F_T, 9)) (Nat.le_of_ble_eq_true rfl) i_T w_1_233 rfl,
  fun _ h => absurd h List.not_mem_nil⟩⟩⟩⟩⟩⟩⟩⟩⟩⟩⟩⟩⟩⟩⟩⟩
def cd_T_put_1 : Nat → g_T := g_tab [(46, tr_cV J_I_size 0 0 49), (49, tr_ri)]
set_option maxRecDepth 100000 in
theorem ok_T_put_1 : ∀ pc, g_S (J_T_put) pc (cd_T_put_1 pc) := g_tab_ok <|
  List.forall_mem_cons.mpr ⟨so_cV g_good d_T_put_46 ⟨w_2_28, (Nat.le_of_ble_eq_true rfl), (Nat.le_of_ble_eq_true rfl), w_1_2, ⟨by decide, by decide⟩, by decide +kernel⟩ (rfl : vwCl[0]? = some (R_I, F_I, 2)) w_2_25 w_2_26 w_2_27 rfl,
  List.forall_mem_cons.mpr ⟨so_iret d_T_put_49 rfl,
  fun _ h => absurd h List.not_mem_nil⟩⟩
def cd_T_put : Nat → g_T := g_chk [(43, cd_T_put_0), (49, cd_T_put_1)]
theorem ok_T_put : ∀ pc, g_S (J_T_put) pc (cd_T_put pc) := g_chk_ok <|
  List.forall_mem_cons.mpr ⟨ok_T_put_0,
  List.forall_mem_cons.mpr ⟨ok_T_put_1,
  fun _ h => absurd h List.not_mem_nil⟩⟩
abbrev J_T_cut : g_J := (y_T_cut, prog_1_method_8_code, 3, (some .int), (6, 100), [], none)
theorem d_T_cut_0 : decode prog_1_method_8_code 0 = .ok (.iload_n 1, 1) := by decide +kernel
theorem d_T_cut_1 : decode prog_1_method_8_code 1 = .ok (.ifCond .lt 14, 3) := by decide +kernel
theorem d_T_cut_4 : decode prog_1_method_8_code 4 = .ok (.iload_n 1, 1) := by decide +kernel
theorem d_T_cut_5 : decode prog_1_method_8_code 5 = .ok (.aload_n 0, 1) := by decide +kernel
theorem d_T_cut_6 : decode prog_1_method_8_code 6 = .ok (.getfield 14, 3) := by decide +kernel
theorem d_T_cut_9 : decode prog_1_method_8_code 9 = .ok (.invokevirtual 101, 3) := by decide +kernel
theorem d_T_cut_12 : decode prog_1_method_8_code 12 = .ok (.if_icmp .le 13, 3) := by decide +kernel
theorem d_T_cut_15 : decode prog_1_method_8_code 15 = .ok (.new 64, 3) := by decide +kernel
theorem d_T_cut_18 : decode prog_1_method_8_code 18 = .ok (.dup, 1) := by decide +kernel
theorem d_T_cut_19 : decode prog_1_method_8_code 19 = .ok (.ldc 113, 2) := by decide +kernel
theorem d_T_cut_21 : decode prog_1_method_8_code 21 = .ok (.invokespecial 68, 3) := by decide +kernel
theorem d_T_cut_24 : decode prog_1_method_8_code 24 = .ok (.athrow, 1) := by decide +kernel
theorem d_T_cut_25 : decode prog_1_method_8_code 25 = .ok (.aload_n 0, 1) := by decide +kernel
theorem d_T_cut_26 : decode prog_1_method_8_code 26 = .ok (.getfield 14, 3) := by decide +kernel
theorem d_T_cut_29 : decode prog_1_method_8_code 29 = .ok (.invokevirtual 101, 3) := by decide +kernel
theorem d_T_cut_32 : decode prog_1_method_8_code 32 = .ok (.iload_n 1, 1) := by decide +kernel
theorem d_T_cut_33 : decode prog_1_method_8_code 33 = .ok (.isub, 1) := by decide +kernel
theorem d_T_cut_34 : decode prog_1_method_8_code 34 = .ok (.istore_n 2, 1) := by decide +kernel
theorem d_T_cut_35 : decode prog_1_method_8_code 35 = .ok (.aload_n 0, 1) := by decide +kernel
theorem d_T_cut_36 : decode prog_1_method_8_code 36 = .ok (.getfield 14, 3) := by decide +kernel
theorem d_T_cut_39 : decode prog_1_method_8_code 39 = .ok (.iload_n 1, 1) := by decide +kernel
theorem d_T_cut_40 : decode prog_1_method_8_code 40 = .ok (.invokevirtual 115, 3) := by decide +kernel
theorem d_T_cut_43 : decode prog_1_method_8_code 43 = .ok (.iload_n 2, 1) := by decide +kernel
theorem d_T_cut_44 : decode prog_1_method_8_code 44 = .ok (.ireturn, 1) := by decide +kernel
def cd_T_cut_0 : Nat → g_T := g_tab [(0, tr_ild 1 1), (1, tr_if1 (fun x => x < 0) 15 4), (4, tr_ild 1 5), (5, tr_ald 0 6), (6, tr_get 9 0 9), (9, tr_cV J_I_size 0 0 12), (12, tr_if2 (fun x y => x ≤ y) 25 15), (15, tr_thr z_X2), (18, tr_dup 19), (25, tr_ald 0 26), (26, tr_get 9 0 29), (29, tr_cV J_I_size 0 0 32), (32, tr_ild 1 33), (33, tr_ii (fun x y => x - y) 34), (34, tr_ist 2 35), (35, tr_ald 0 36)]
set_option maxRecDepth 100000 in
theorem ok_T_cut_0 : ∀ pc, g_S (J_T_cut) pc (cd_T_cut_0 pc) := g_tab_ok <|
  List.forall_mem_cons.mpr ⟨so_iload_n d_T_cut_0 rfl rfl,
  List.forall_mem_cons.mpr ⟨so_if_lt d_T_cut_1 (by decide) rfl,
  List.forall_mem_cons.mpr ⟨so_iload_n d_T_cut_4 rfl rfl,
  List.forall_mem_cons.mpr ⟨so_aload_n d_T_cut_5 rfl rfl,
  List.forall_mem_cons.mpr ⟨so_get d_T_cut_6 (rfl : vwCl[9]? = some (R_T, F_T, 9)) (Nat.le_of_ble_eq_true rfl) i_T w_1_233 rfl,
  List.forall_mem_cons.mpr ⟨so_cV g_good d_T_cut_9 ⟨w_2_28, (Nat.le_of_ble_eq_true rfl), (Nat.le_of_ble_eq_true rfl), w_1_2, ⟨by decide, by decide⟩, by decide +kernel⟩ (rfl : vwCl[0]? = some (R_I, F_I, 2)) w_2_25 w_2_26 w_2_27 rfl,
  List.forall_mem_cons.mpr ⟨so_icmp_le d_T_cut_12 (by decide) rfl,
  List.forall_mem_cons.mpr ⟨so_thr (tx := "the pack has not so many bytes") rfl d_T_cut_15 d_T_cut_18 d_T_cut_19 d_T_cut_21 d_T_cut_24 z_at2 w_2_152 w_1_17 (by decide +kernel) (by decide +kernel) rfl (Nat.le_of_ble_eq_true rfl) (Nat.le_of_ble_eq_true rfl),
  List.forall_mem_cons.mpr ⟨so_dup d_T_cut_18 rfl,
  List.forall_mem_cons.mpr ⟨so_aload_n d_T_cut_25 rfl rfl,
  List.forall_mem_cons.mpr ⟨so_get d_T_cut_26 (rfl : vwCl[9]? = some (R_T, F_T, 9)) (Nat.le_of_ble_eq_true rfl) i_T w_1_233 rfl,
  List.forall_mem_cons.mpr ⟨so_cV g_good d_T_cut_29 ⟨w_2_28, (Nat.le_of_ble_eq_true rfl), (Nat.le_of_ble_eq_true rfl), w_1_2, ⟨by decide, by decide⟩, by decide +kernel⟩ (rfl : vwCl[0]? = some (R_I, F_I, 2)) w_2_25 w_2_26 w_2_27 rfl,
  List.forall_mem_cons.mpr ⟨so_iload_n d_T_cut_32 rfl rfl,
  List.forall_mem_cons.mpr ⟨so_isub d_T_cut_33 rfl,
  List.forall_mem_cons.mpr ⟨so_istore_n d_T_cut_34 rfl (Nat.le_of_ble_eq_true rfl) rfl,
  List.forall_mem_cons.mpr ⟨so_aload_n d_T_cut_35 rfl rfl,
  fun _ h => absurd h List.not_mem_nil⟩⟩⟩⟩⟩⟩⟩⟩⟩⟩⟩⟩⟩⟩⟩⟩
def cd_T_cut_1 : Nat → g_T := g_tab [(36, tr_get 9 0 39), (39, tr_ild 1 40), (40, tr_cV J_I_shorten 0 1 43), (43, tr_ild 2 44), (44, tr_ri)]
set_option maxRecDepth 100000 in
theorem ok_T_cut_1 : ∀ pc, g_S (J_T_cut) pc (cd_T_cut_1 pc) := g_tab_ok <|
  List.forall_mem_cons.mpr ⟨so_get d_T_cut_36 (rfl : vwCl[9]? = some (R_T, F_T, 9)) (Nat.le_of_ble_eq_true rfl) i_T w_1_233 rfl,
  List.forall_mem_cons.mpr ⟨so_iload_n d_T_cut_39 rfl rfl,
  List.forall_mem_cons.mpr ⟨so_cV g_good d_T_cut_40 ⟨w_2_184, (Nat.le_of_ble_eq_true rfl), (Nat.le_of_ble_eq_true rfl), w_1_2, ⟨by decide, by decide⟩, by decide +kernel⟩ (rfl : vwCl[0]? = some (R_I, F_I, 2)) w_3_134 w_2_182 w_2_183 rfl,
  List.forall_mem_cons.mpr ⟨so_iload_n d_T_cut_43 rfl rfl,
  List.forall_mem_cons.mpr ⟨so_iret d_T_cut_44 rfl,
  fun _ h => absurd h List.not_mem_nil⟩⟩⟩⟩⟩
def cd_T_cut : Nat → g_T := g_chk [(35, cd_T_cut_0), (44, cd_T_cut_1)]
theorem ok_T_cut : ∀ pc, g_S (J_T_cut) pc (cd_T_cut pc) := g_chk_ok <|
  List.forall_mem_cons.mpr ⟨ok_T_cut_0,
  List.forall_mem_cons.mpr ⟨ok_T_cut_1,
  fun _ h => absurd h List.not_mem_nil⟩⟩
abbrev J_T_choose : g_J := (y_T_choose, prog_1_method_9_code, 4, (some .int), (6, 100), [], none)
theorem d_T_choose_0 : decode prog_1_method_9_code 0 = .ok (.iload_n 1, 1) := by decide +kernel
theorem d_T_choose_1 : decode prog_1_method_9_code 1 = .ok (.ifCond .lt 19, 3) := by decide +kernel
theorem d_T_choose_4 : decode prog_1_method_9_code 4 = .ok (.iload_n 1, 1) := by decide +kernel
theorem d_T_choose_5 : decode prog_1_method_9_code 5 = .ok (.bipush 31, 2) := by decide +kernel
theorem d_T_choose_7 : decode prog_1_method_9_code 7 = .ok (.if_icmp .gt 13, 3) := by decide +kernel
theorem d_T_choose_10 : decode prog_1_method_9_code 10 = .ok (.iload_n 2, 1) := by decide +kernel
theorem d_T_choose_11 : decode prog_1_method_9_code 11 = .ok (.ifCond .lt 9, 3) := by decide +kernel
theorem d_T_choose_14 : decode prog_1_method_9_code 14 = .ok (.iload_n 2, 1) := by decide +kernel
theorem d_T_choose_15 : decode prog_1_method_9_code 15 = .ok (.bipush 15, 2) := by decide +kernel
theorem d_T_choose_17 : decode prog_1_method_9_code 17 = .ok (.if_icmp .le 13, 3) := by decide +kernel
theorem d_T_choose_20 : decode prog_1_method_9_code 20 = .ok (.new 64, 3) := by decide +kernel
theorem d_T_choose_23 : decode prog_1_method_9_code 23 = .ok (.dup, 1) := by decide +kernel
theorem d_T_choose_24 : decode prog_1_method_9_code 24 = .ok (.ldc 118, 2) := by decide +kernel
theorem d_T_choose_26 : decode prog_1_method_9_code 26 = .ok (.invokespecial 68, 3) := by decide +kernel
theorem d_T_choose_29 : decode prog_1_method_9_code 29 = .ok (.athrow, 1) := by decide +kernel
theorem d_T_choose_30 : decode prog_1_method_9_code 30 = .ok (.aload_n 0, 1) := by decide +kernel
theorem d_T_choose_31 : decode prog_1_method_9_code 31 = .ok (.getfield 46, 3) := by decide +kernel
theorem d_T_choose_34 : decode prog_1_method_9_code 34 = .ok (.istore_n 3, 1) := by decide +kernel
theorem d_T_choose_35 : decode prog_1_method_9_code 35 = .ok (.aload_n 0, 1) := by decide +kernel
theorem d_T_choose_36 : decode prog_1_method_9_code 36 = .ok (.iload_n 1, 1) := by decide +kernel
theorem d_T_choose_37 : decode prog_1_method_9_code 37 = .ok (.bipush 32, 2) := by decide +kernel
theorem d_T_choose_39 : decode prog_1_method_9_code 39 = .ok (.iload_n 2, 1) := by decide +kernel
theorem d_T_choose_40 : decode prog_1_method_9_code 40 = .ok (.imul, 1) := by decide +kernel
theorem d_T_choose_41 : decode prog_1_method_9_code 41 = .ok (.iadd, 1) := by decide +kernel
theorem d_T_choose_42 : decode prog_1_method_9_code 42 = .ok (.putfield 46, 3) := by decide +kernel
theorem d_T_choose_45 : decode prog_1_method_9_code 45 = .ok (.iload_n 3, 1) := by decide +kernel
theorem d_T_choose_46 : decode prog_1_method_9_code 46 = .ok (.ireturn, 1) := by decide +kernel
def cd_T_choose_0 : Nat → g_T := g_tab [(0, tr_ild 1 1), (1, tr_if1 (fun x => x < 0) 20 4), (4, tr_ild 1 5), (5, tr_cst (.int (31)) 7), (7, tr_if2 (fun x y => y < x) 20 10), (10, tr_ild 2 11), (11, tr_if1 (fun x => x < 0) 20 14), (14, tr_ild 2 15), (15, tr_cst (.int (15)) 17), (17, tr_if2 (fun x y => x ≤ y) 30 20), (20, tr_thr z_X2), (23, tr_dup 24), (30, tr_ald 0 31), (31, tr_get 9 6 34), (34, tr_ist 3 35), (35, tr_ald 0 36)]
set_option maxRecDepth 100000 in
theorem ok_T_choose_0 : ∀ pc, g_S (J_T_choose) pc (cd_T_choose_0 pc) := g_tab_ok <|
  List.forall_mem_cons.mpr ⟨so_iload_n d_T_choose_0 rfl rfl,
  List.forall_mem_cons.mpr ⟨so_if_lt d_T_choose_1 (by decide) rfl,
  List.forall_mem_cons.mpr ⟨so_iload_n d_T_choose_4 rfl rfl,
  List.forall_mem_cons.mpr ⟨so_bipush (by decide) d_T_choose_5 rfl,
  List.forall_mem_cons.mpr ⟨so_icmp_gt d_T_choose_7 (by decide) rfl,
  List.forall_mem_cons.mpr ⟨so_iload_n d_T_choose_10 rfl rfl,
  List.forall_mem_cons.mpr ⟨so_if_lt d_T_choose_11 (by decide) rfl,
  List.forall_mem_cons.mpr ⟨so_iload_n d_T_choose_14 rfl rfl,
  List.forall_mem_cons.mpr ⟨so_bipush (by decide) d_T_choose_15 rfl,
  List.forall_mem_cons.mpr ⟨so_icmp_le d_T_choose_17 (by decide) rfl,
  List.forall_mem_cons.mpr ⟨so_thr (tx := "no such kinds or threads") rfl d_T_choose_20 d_T_choose_23 d_T_choose_24 d_T_choose_26 d_T_choose_29 z_at2 w_2_152 w_1_17 (by decide +kernel) (by decide +kernel) rfl (Nat.le_of_ble_eq_true rfl) (Nat.le_of_ble_eq_true rfl),
  List.forall_mem_cons.mpr ⟨so_dup d_T_choose_23 rfl,
  List.forall_mem_cons.mpr ⟨so_aload_n d_T_choose_30 rfl rfl,
  List.forall_mem_cons.mpr ⟨so_get d_T_choose_31 (rfl : vwCl[9]? = some (R_T, F_T, 9)) (Nat.le_of_ble_eq_true rfl) i_T w_1_239 rfl,
  List.forall_mem_cons.mpr ⟨so_istore_n d_T_choose_34 rfl (Nat.le_of_ble_eq_true rfl) rfl,
  List.forall_mem_cons.mpr ⟨so_aload_n d_T_choose_35 rfl rfl,
  fun _ h => absurd h List.not_mem_nil⟩⟩⟩⟩⟩⟩⟩⟩⟩⟩⟩⟩⟩⟩⟩⟩
def cd_T_choose_1 : Nat → g_T := g_tab [(36, tr_ild 1 37), (37, tr_cst (.int (32)) 39), (39, tr_ild 2 40), (40, tr_ii (fun x y => x * y) 41), (41, tr_ii (fun x y => x + y) 42), (42, tr_put 9 6 (.int) 45), (45, tr_ild 3 46), (46, tr_ri)]
set_option maxRecDepth 100000 in
theorem ok_T_choose_1 : ∀ pc, g_S (J_T_choose) pc (cd_T_choose_1 pc) := g_tab_ok <|
  List.forall_mem_cons.mpr ⟨so_iload_n d_T_choose_36 rfl rfl,
  List.forall_mem_cons.mpr ⟨so_bipush (by decide) d_T_choose_37 rfl,
  List.forall_mem_cons.mpr ⟨so_iload_n d_T_choose_39 rfl rfl,
  List.forall_mem_cons.mpr ⟨so_imul d_T_choose_40 rfl,
  List.forall_mem_cons.mpr ⟨so_iadd d_T_choose_41 rfl,
  List.forall_mem_cons.mpr ⟨so_put ft_T d_T_choose_42 (rfl : vwCl[9]? = some (R_T, F_T, 9)) (Nat.le_of_ble_eq_true rfl) i_T w_1_239 tk_T n_T rfl rfl rfl,
  List.forall_mem_cons.mpr ⟨so_iload_n d_T_choose_45 rfl rfl,
  List.forall_mem_cons.mpr ⟨so_iret d_T_choose_46 rfl,
  fun _ h => absurd h List.not_mem_nil⟩⟩⟩⟩⟩⟩⟩⟩
def cd_T_choose : Nat → g_T := g_chk [(35, cd_T_choose_0), (46, cd_T_choose_1)]
theorem ok_T_choose : ∀ pc, g_S (J_T_choose) pc (cd_T_choose pc) := g_chk_ok <|
  List.forall_mem_cons.mpr ⟨ok_T_choose_0,
  List.forall_mem_cons.mpr ⟨ok_T_choose_1,
  fun _ h => absurd h List.not_mem_nil⟩⟩
abbrev J_T_read : g_J := (y_T_read, prog_1_method_10_code, 2, (some .int), (6, 150), [], none)
theorem d_T_read_0 : decode prog_1_method_10_code 0 = .ok (.iload_n 1, 1) := by decide +kernel
theorem d_T_read_1 : decode prog_1_method_10_code 1 = .ok (.ifCond .lt 14, 3) := by decide +kernel
theorem d_T_read_4 : decode prog_1_method_10_code 4 = .ok (.iload_n 1, 1) := by decide +kernel
theorem d_T_read_5 : decode prog_1_method_10_code 5 = .ok (.aload_n 0, 1) := by decide +kernel
theorem d_T_read_6 : decode prog_1_method_10_code 6 = .ok (.getfield 14, 3) := by decide +kernel
theorem d_T_read_9 : decode prog_1_method_10_code 9 = .ok (.invokevirtual 101, 3) := by decide +kernel
theorem d_T_read_12 : decode prog_1_method_10_code 12 = .ok (.if_icmp .le 13, 3) := by decide +kernel
theorem d_T_read_15 : decode prog_1_method_10_code 15 = .ok (.new 50, 3) := by decide +kernel
theorem d_T_read_18 : decode prog_1_method_10_code 18 = .ok (.dup, 1) := by decide +kernel
theorem d_T_read_19 : decode prog_1_method_10_code 19 = .ok (.ldc 120, 2) := by decide +kernel
theorem d_T_read_21 : decode prog_1_method_10_code 21 = .ok (.invokespecial 54, 3) := by decide +kernel
theorem d_T_read_24 : decode prog_1_method_10_code 24 = .ok (.athrow, 1) := by decide +kernel
theorem d_T_read_25 : decode prog_1_method_10_code 25 = .ok (.aload_n 0, 1) := by decide +kernel
theorem d_T_read_26 : decode prog_1_method_10_code 26 = .ok (.getfield 42, 3) := by decide +kernel
theorem d_T_read_29 : decode prog_1_method_10_code 29 = .ok (.aload_n 0, 1) := by decide +kernel
theorem d_T_read_30 : decode prog_1_method_10_code 30 = .ok (.getfield 14, 3) := by decide +kernel
theorem d_T_read_33 : decode prog_1_method_10_code 33 = .ok (.iload_n 1, 1) := by decide +kernel
theorem d_T_read_34 : decode prog_1_method_10_code 34 = .ok (.aload_n 0, 1) := by decide +kernel
theorem d_T_read_35 : decode prog_1_method_10_code 35 = .ok (.getfield 46, 3) := by decide +kernel
theorem d_T_read_38 : decode prog_1_method_10_code 38 = .ok (.invokevirtual 122, 3) := by decide +kernel
theorem d_T_read_41 : decode prog_1_method_10_code 41 = .ok (.aload_n 0, 1) := by decide +kernel
theorem d_T_read_42 : decode prog_1_method_10_code 42 = .ok (.getfield 42, 3) := by decide +kernel
theorem d_T_read_45 : decode prog_1_method_10_code 45 = .ok (.invokevirtual 126, 3) := by decide +kernel
theorem d_T_read_48 : decode prog_1_method_10_code 48 = .ok (.invokevirtual 130, 3) := by decide +kernel
theorem d_T_read_51 : decode prog_1_method_10_code 51 = .ok (.ireturn, 1) := by decide +kernel
def cd_T_read_0 : Nat → g_T := g_tab [(0, tr_ild 1 1), (1, tr_if1 (fun x => x < 0) 15 4), (4, tr_ild 1 5), (5, tr_ald 0 6), (6, tr_get 9 0 9), (9, tr_cV J_I_size 0 0 12), (12, tr_if2 (fun x y => x ≤ y) 25 15), (15, tr_thr z_X1), (18, tr_dup 19), (25, tr_ald 0 26), (26, tr_get 9 4 29), (29, tr_ald 0 30), (30, tr_get 9 0 33), (33, tr_ild 1 34), (34, tr_ald 0 35), (35, tr_get 9 6 38)]
set_option maxRecDepth 100000 in
theorem ok_T_read_0 : ∀ pc, g_S (J_T_read) pc (cd_T_read_0 pc) := g_tab_ok <|
  List.forall_mem_cons.mpr ⟨so_iload_n d_T_read_0 rfl rfl,
  List.forall_mem_cons.mpr ⟨so_if_lt d_T_read_1 (by decide) rfl,
  List.forall_mem_cons.mpr ⟨so_iload_n d_T_read_4 rfl rfl,
  List.forall_mem_cons.mpr ⟨so_aload_n d_T_read_5 rfl rfl,
  List.forall_mem_cons.mpr ⟨so_get d_T_read_6 (rfl : vwCl[9]? = some (R_T, F_T, 9)) (Nat.le_of_ble_eq_true rfl) i_T w_1_233 rfl,
  List.forall_mem_cons.mpr ⟨so_cV g_good d_T_read_9 ⟨w_2_28, (Nat.le_of_ble_eq_true rfl), (Nat.le_of_ble_eq_true rfl), w_1_2, ⟨by decide, by decide⟩, by decide +kernel⟩ (rfl : vwCl[0]? = some (R_I, F_I, 2)) w_2_25 w_2_26 w_2_27 rfl,
  List.forall_mem_cons.mpr ⟨so_icmp_le d_T_read_12 (by decide) rfl,
  List.forall_mem_cons.mpr ⟨so_thr (tx := "no such byte to read from") rfl d_T_read_15 d_T_read_18 d_T_read_19 d_T_read_21 d_T_read_24 z_at1 w_2_67 w_1_16 (by decide +kernel) (by decide +kernel) rfl (Nat.le_of_ble_eq_true rfl) (Nat.le_of_ble_eq_true rfl),
  List.forall_mem_cons.mpr ⟨so_dup d_T_read_18 rfl,
  List.forall_mem_cons.mpr ⟨so_aload_n d_T_read_25 rfl rfl,
  List.forall_mem_cons.mpr ⟨so_get d_T_read_26 (rfl : vwCl[9]? = some (R_T, F_T, 9)) (Nat.le_of_ble_eq_true rfl) i_T w_1_237 rfl,
  List.forall_mem_cons.mpr ⟨so_aload_n d_T_read_29 rfl rfl,
  List.forall_mem_cons.mpr ⟨so_get d_T_read_30 (rfl : vwCl[9]? = some (R_T, F_T, 9)) (Nat.le_of_ble_eq_true rfl) i_T w_1_233 rfl,
  List.forall_mem_cons.mpr ⟨so_iload_n d_T_read_33 rfl rfl,
  List.forall_mem_cons.mpr ⟨so_aload_n d_T_read_34 rfl rfl,
  List.forall_mem_cons.mpr ⟨so_get d_T_read_35 (rfl : vwCl[9]? = some (R_T, F_T, 9)) (Nat.le_of_ble_eq_true rfl) i_T w_1_239 rfl,
  fun _ h => absurd h List.not_mem_nil⟩⟩⟩⟩⟩⟩⟩⟩⟩⟩⟩⟩⟩⟩⟩⟩
def cd_T_read_1 : Nat → g_T := g_tab [(38, tr_cV J_R_readFrom 8 3 41), (41, tr_ald 0 42), (42, tr_get 9 4 45), (45, tr_cV J_R_rows 8 0 48), (48, tr_cV J_K_size 5 0 51), (51, tr_ri)]
set_option maxRecDepth 100000 in
theorem ok_T_read_1 : ∀ pc, g_S (J_T_read) pc (cd_T_read_1 pc) := g_tab_ok <|
  List.forall_mem_cons.mpr ⟨so_cV g_good d_T_read_38 ⟨w_3_154, (Nat.le_of_ble_eq_true rfl), (Nat.le_of_ble_eq_true rfl), w_1_9, ⟨by decide, by decide⟩, by decide +kernel⟩ (rfl : vwCl[8]? = some (R_R, F_R, 6)) w_3_151 w_3_152 w_3_153 rfl,
  List.forall_mem_cons.mpr ⟨so_aload_n d_T_read_41 rfl rfl,
  List.forall_mem_cons.mpr ⟨so_get d_T_read_42 (rfl : vwCl[9]? = some (R_T, F_T, 9)) (Nat.le_of_ble_eq_true rfl) i_T w_1_237 rfl,
  List.forall_mem_cons.mpr ⟨so_cV g_good d_T_read_45 ⟨w_2_49, (Nat.le_of_ble_eq_true rfl), (Nat.le_of_ble_eq_true rfl), w_1_9, ⟨by decide, by decide⟩, by decide +kernel⟩ (rfl : vwCl[8]? = some (R_R, F_R, 6)) w_2_46 w_2_47 w_2_48 rfl,
  List.forall_mem_cons.mpr ⟨so_cV g_good d_T_read_48 ⟨w_2_53, (Nat.le_of_ble_eq_true rfl), (Nat.le_of_ble_eq_true rfl), w_1_11, ⟨by decide, by decide⟩, by decide +kernel⟩ (rfl : vwCl[5]? = some (R_K, F_K, 9)) w_2_50 w_2_51 w_2_52 rfl,
  List.forall_mem_cons.mpr ⟨so_iret d_T_read_51 rfl,
  fun _ h => absurd h List.not_mem_nil⟩⟩⟩⟩⟩⟩
def cd_T_read : Nat → g_T := g_chk [(35, cd_T_read_0), (51, cd_T_read_1)]
theorem ok_T_read : ∀ pc, g_S (J_T_read) pc (cd_T_read pc) := g_chk_ok <|
  List.forall_mem_cons.mpr ⟨ok_T_read_0,
  List.forall_mem_cons.mpr ⟨ok_T_read_1,
  fun _ h => absurd h List.not_mem_nil⟩⟩
abbrev J_T_kept : g_J := (y_T_kept, prog_1_method_11_code, 3, (some .int), (6, 100), [], none)
theorem d_T_kept_0 : decode prog_1_method_11_code 0 = .ok (.aload_n 0, 1) := by decide +kernel
theorem d_T_kept_1 : decode prog_1_method_11_code 1 = .ok (.getfield 42, 3) := by decide +kernel
theorem d_T_kept_4 : decode prog_1_method_11_code 4 = .ok (.invokevirtual 126, 3) := by decide +kernel
theorem d_T_kept_7 : decode prog_1_method_11_code 7 = .ok (.iload_n 1, 1) := by decide +kernel
theorem d_T_kept_8 : decode prog_1_method_11_code 8 = .ok (.iload_n 2, 1) := by decide +kernel
theorem d_T_kept_9 : decode prog_1_method_11_code 9 = .ok (.invokevirtual 133, 3) := by decide +kernel
theorem d_T_kept_12 : decode prog_1_method_11_code 12 = .ok (.ifCond .ne 13, 3) := by decide +kernel
theorem d_T_kept_15 : decode prog_1_method_11_code 15 = .ok (.new 50, 3) := by decide +kernel
theorem d_T_kept_18 : decode prog_1_method_11_code 18 = .ok (.dup, 1) := by decide +kernel
theorem d_T_kept_19 : decode prog_1_method_11_code 19 = .ok (.ldc 136, 2) := by decide +kernel
theorem d_T_kept_21 : decode prog_1_method_11_code 21 = .ok (.invokespecial 54, 3) := by decide +kernel
theorem d_T_kept_24 : decode prog_1_method_11_code 24 = .ok (.athrow, 1) := by decide +kernel
theorem d_T_kept_25 : decode prog_1_method_11_code 25 = .ok (.aload_n 0, 1) := by decide +kernel
theorem d_T_kept_26 : decode prog_1_method_11_code 26 = .ok (.getfield 42, 3) := by decide +kernel
theorem d_T_kept_29 : decode prog_1_method_11_code 29 = .ok (.invokevirtual 126, 3) := by decide +kernel
theorem d_T_kept_32 : decode prog_1_method_11_code 32 = .ok (.iload_n 1, 1) := by decide +kernel
theorem d_T_kept_33 : decode prog_1_method_11_code 33 = .ok (.iload_n 2, 1) := by decide +kernel
theorem d_T_kept_34 : decode prog_1_method_11_code 34 = .ok (.invokevirtual 138, 3) := by decide +kernel
theorem d_T_kept_37 : decode prog_1_method_11_code 37 = .ok (.ireturn, 1) := by decide +kernel
def cd_T_kept_0 : Nat → g_T := g_tab [(0, tr_ald 0 1), (1, tr_get 9 4 4), (4, tr_cV J_R_rows 8 0 7), (7, tr_ild 1 8), (8, tr_ild 2 9), (9, tr_cV J_K_has 5 2 12), (12, tr_if1 (fun x => ¬ x = 0) 25 15), (15, tr_thr z_X1), (18, tr_dup 19), (25, tr_ald 0 26), (26, tr_get 9 4 29), (29, tr_cV J_R_rows 8 0 32), (32, tr_ild 1 33), (33, tr_ild 2 34), (34, tr_cV J_K_at 5 2 37), (37, tr_ri)]
set_option maxRecDepth 100000 in
theorem ok_T_kept_0 : ∀ pc, g_S (J_T_kept) pc (cd_T_kept_0 pc) := g_tab_ok <|
  List.forall_mem_cons.mpr ⟨so_aload_n d_T_kept_0 rfl rfl,
  List.forall_mem_cons.mpr ⟨so_get d_T_kept_1 (rfl : vwCl[9]? = some (R_T, F_T, 9)) (Nat.le_of_ble_eq_true rfl) i_T w_1_237 rfl,
  List.forall_mem_cons.mpr ⟨so_cV g_good d_T_kept_4 ⟨w_2_49, (Nat.le_of_ble_eq_true rfl), (Nat.le_of_ble_eq_true rfl), w_1_9, ⟨by decide, by decide⟩, by decide +kernel⟩ (rfl : vwCl[8]? = some (R_R, F_R, 6)) w_2_46 w_2_47 w_2_48 rfl,
  List.forall_mem_cons.mpr ⟨so_iload_n d_T_kept_7 rfl rfl,
  List.forall_mem_cons.mpr ⟨so_iload_n d_T_kept_8 rfl rfl,
  List.forall_mem_cons.mpr ⟨so_cV g_good d_T_kept_9 ⟨w_4_57, (Nat.le_of_ble_eq_true rfl), (Nat.le_of_ble_eq_true rfl), w_1_11, ⟨by decide, by decide⟩, by decide +kernel⟩ (rfl : vwCl[5]? = some (R_K, F_K, 9)) w_4_54 w_4_55 w_4_56 rfl,
  List.forall_mem_cons.mpr ⟨so_if_ne d_T_kept_12 (by decide) rfl,
  List.forall_mem_cons.mpr ⟨so_thr (tx := "no such row, or nothing of it") rfl d_T_kept_15 d_T_kept_18 d_T_kept_19 d_T_kept_21 d_T_kept_24 z_at1 w_2_67 w_1_16 (by decide +kernel) (by decide +kernel) rfl (Nat.le_of_ble_eq_true rfl) (Nat.le_of_ble_eq_true rfl),
  List.forall_mem_cons.mpr ⟨so_dup d_T_kept_18 rfl,
  List.forall_mem_cons.mpr ⟨so_aload_n d_T_kept_25 rfl rfl,
  List.forall_mem_cons.mpr ⟨so_get d_T_kept_26 (rfl : vwCl[9]? = some (R_T, F_T, 9)) (Nat.le_of_ble_eq_true rfl) i_T w_1_237 rfl,
  List.forall_mem_cons.mpr ⟨so_cV g_good d_T_kept_29 ⟨w_2_49, (Nat.le_of_ble_eq_true rfl), (Nat.le_of_ble_eq_true rfl), w_1_9, ⟨by decide, by decide⟩, by decide +kernel⟩ (rfl : vwCl[8]? = some (R_R, F_R, 6)) w_2_46 w_2_47 w_2_48 rfl,
  List.forall_mem_cons.mpr ⟨so_iload_n d_T_kept_32 rfl rfl,
  List.forall_mem_cons.mpr ⟨so_iload_n d_T_kept_33 rfl rfl,
  List.forall_mem_cons.mpr ⟨so_cV g_good d_T_kept_34 ⟨w_4_63, (Nat.le_of_ble_eq_true rfl), (Nat.le_of_ble_eq_true rfl), w_1_11, ⟨by decide, by decide⟩, by decide +kernel⟩ (rfl : vwCl[5]? = some (R_K, F_K, 9)) w_4_60 w_4_61 w_4_62 rfl,
  List.forall_mem_cons.mpr ⟨so_iret d_T_kept_37 rfl,
  fun _ h => absurd h List.not_mem_nil⟩⟩⟩⟩⟩⟩⟩⟩⟩⟩⟩⟩⟩⟩⟩⟩
def cd_T_kept : Nat → g_T := g_chk [(37, cd_T_kept_0)]
theorem ok_T_kept : ∀ pc, g_S (J_T_kept) pc (cd_T_kept pc) := g_chk_ok <|
  List.forall_mem_cons.mpr ⟨ok_T_kept_0,
  fun _ h => absurd h List.not_mem_nil⟩
abbrev J_T_merged : g_J := (y_T_merged, prog_1_method_12_code, 2, (some .int), (6, 113), [], none)
theorem d_T_merged_0 : decode prog_1_method_12_code 0 = .ok (.iload_n 1, 1) := by decide +kernel
theorem d_T_merged_1 : decode prog_1_method_12_code 1 = .ok (.ifCond .lt 17, 3) := by decide +kernel
theorem d_T_merged_4 : decode prog_1_method_12_code 4 = .ok (.iload_n 1, 1) := by decide +kernel
theorem d_T_merged_5 : decode prog_1_method_12_code 5 = .ok (.aload_n 0, 1) := by decide +kernel
theorem d_T_merged_6 : decode prog_1_method_12_code 6 = .ok (.getfield 42, 3) := by decide +kernel
theorem d_T_merged_9 : decode prog_1_method_12_code 9 = .ok (.invokevirtual 126, 3) := by decide +kernel
theorem d_T_merged_12 : decode prog_1_method_12_code 12 = .ok (.invokevirtual 130, 3) := by decide +kernel
theorem d_T_merged_15 : decode prog_1_method_12_code 15 = .ok (.if_icmp .lt 13, 3) := by decide +kernel
theorem d_T_merged_18 : decode prog_1_method_12_code 18 = .ok (.new 50, 3) := by decide +kernel
theorem d_T_merged_21 : decode prog_1_method_12_code 21 = .ok (.dup, 1) := by decide +kernel
theorem d_T_merged_22 : decode prog_1_method_12_code 22 = .ok (.ldc 66, 2) := by decide +kernel
theorem d_T_merged_24 : decode prog_1_method_12_code 24 = .ok (.invokespecial 54, 3) := by decide +kernel
theorem d_T_merged_27 : decode prog_1_method_12_code 27 = .ok (.athrow, 1) := by decide +kernel
theorem d_T_merged_28 : decode prog_1_method_12_code 28 = .ok (.aload_n 0, 1) := by decide +kernel
theorem d_T_merged_29 : decode prog_1_method_12_code 29 = .ok (.getfield 42, 3) := by decide +kernel
theorem d_T_merged_32 : decode prog_1_method_12_code 32 = .ok (.invokevirtual 126, 3) := by decide +kernel
theorem d_T_merged_35 : decode prog_1_method_12_code 35 = .ok (.iload_n 1, 1) := by decide +kernel
theorem d_T_merged_36 : decode prog_1_method_12_code 36 = .ok (.invokevirtual 141, 3) := by decide +kernel
theorem d_T_merged_39 : decode prog_1_method_12_code 39 = .ok (.ireturn, 1) := by decide +kernel
def cd_T_merged_0 : Nat → g_T := g_tab [(0, tr_ild 1 1), (1, tr_if1 (fun x => x < 0) 18 4), (4, tr_ild 1 5), (5, tr_ald 0 6), (6, tr_get 9 4 9), (9, tr_cV J_R_rows 8 0 12), (12, tr_cV J_K_size 5 0 15), (15, tr_if2 (fun x y => x < y) 28 18), (18, tr_thr z_X1), (21, tr_dup 22), (28, tr_ald 0 29), (29, tr_get 9 4 32), (32, tr_cV J_R_rows 8 0 35), (35, tr_ild 1 36), (36, tr_cV J_K_byTime 5 1 39), (39, tr_ri)]
set_option maxRecDepth 100000 in
theorem ok_T_merged_0 : ∀ pc, g_S (J_T_merged) pc (cd_T_merged_0 pc) := g_tab_ok <|
  List.forall_mem_cons.mpr ⟨so_iload_n d_T_merged_0 rfl rfl,
  List.forall_mem_cons.mpr ⟨so_if_lt d_T_merged_1 (by decide) rfl,
  List.forall_mem_cons.mpr ⟨so_iload_n d_T_merged_4 rfl rfl,
  List.forall_mem_cons.mpr ⟨so_aload_n d_T_merged_5 rfl rfl,
  List.forall_mem_cons.mpr ⟨so_get d_T_merged_6 (rfl : vwCl[9]? = some (R_T, F_T, 9)) (Nat.le_of_ble_eq_true rfl) i_T w_1_237 rfl,
  List.forall_mem_cons.mpr ⟨so_cV g_good d_T_merged_9 ⟨w_2_49, (Nat.le_of_ble_eq_true rfl), (Nat.le_of_ble_eq_true rfl), w_1_9, ⟨by decide, by decide⟩, by decide +kernel⟩ (rfl : vwCl[8]? = some (R_R, F_R, 6)) w_2_46 w_2_47 w_2_48 rfl,
  List.forall_mem_cons.mpr ⟨so_cV g_good d_T_merged_12 ⟨w_2_53, (Nat.le_of_ble_eq_true rfl), (Nat.le_of_ble_eq_true rfl), w_1_11, ⟨by decide, by decide⟩, by decide +kernel⟩ (rfl : vwCl[5]? = some (R_K, F_K, 9)) w_2_50 w_2_51 w_2_52 rfl,
  List.forall_mem_cons.mpr ⟨so_icmp_lt d_T_merged_15 (by decide) rfl,
  List.forall_mem_cons.mpr ⟨so_thr (tx := "no such row") rfl d_T_merged_18 d_T_merged_21 d_T_merged_22 d_T_merged_24 d_T_merged_27 z_at1 w_2_67 w_1_16 (by decide +kernel) (by decide +kernel) rfl (Nat.le_of_ble_eq_true rfl) (Nat.le_of_ble_eq_true rfl),
  List.forall_mem_cons.mpr ⟨so_dup d_T_merged_21 rfl,
  List.forall_mem_cons.mpr ⟨so_aload_n d_T_merged_28 rfl rfl,
  List.forall_mem_cons.mpr ⟨so_get d_T_merged_29 (rfl : vwCl[9]? = some (R_T, F_T, 9)) (Nat.le_of_ble_eq_true rfl) i_T w_1_237 rfl,
  List.forall_mem_cons.mpr ⟨so_cV g_good d_T_merged_32 ⟨w_2_49, (Nat.le_of_ble_eq_true rfl), (Nat.le_of_ble_eq_true rfl), w_1_9, ⟨by decide, by decide⟩, by decide +kernel⟩ (rfl : vwCl[8]? = some (R_R, F_R, 6)) w_2_46 w_2_47 w_2_48 rfl,
  List.forall_mem_cons.mpr ⟨so_iload_n d_T_merged_35 rfl rfl,
  List.forall_mem_cons.mpr ⟨so_cV g_good d_T_merged_36 ⟨w_4_75, (Nat.le_of_ble_eq_true rfl), (Nat.le_of_ble_eq_true rfl), w_1_11, ⟨by decide, by decide⟩, by decide +kernel⟩ (rfl : vwCl[5]? = some (R_K, F_K, 9)) w_4_72 w_4_73 w_4_74 rfl,
  List.forall_mem_cons.mpr ⟨so_iret d_T_merged_39 rfl,
  fun _ h => absurd h List.not_mem_nil⟩⟩⟩⟩⟩⟩⟩⟩⟩⟩⟩⟩⟩⟩⟩⟩
def cd_T_merged : Nat → g_T := g_chk [(39, cd_T_merged_0)]
theorem ok_T_merged : ∀ pc, g_S (J_T_merged) pc (cd_T_merged pc) := g_chk_ok <|
  List.forall_mem_cons.mpr ⟨ok_T_merged_0,
  fun _ h => absurd h List.not_mem_nil⟩
