/-! tables, by program (wip/whole/gen/mkt.py U) -/
abbrev J_U_init : g_J := (y_U_init, prog_10_method_1_code, 1, none, (4, 85), [], none)
theorem d_U_init_0 : decode prog_10_method_1_code 0 = .ok (.aload_n 0, 1) := by decide +kernel
theorem d_U_init_1 : decode prog_10_method_1_code 1 = .ok (.invokespecial 3, 3) := by decide +kernel
theorem d_U_init_4 : decode prog_10_method_1_code 4 = .ok (.aload_n 0, 1) := by decide +kernel
theorem d_U_init_5 : decode prog_10_method_1_code 5 = .ok (.new 9, 3) := by decide +kernel
theorem d_U_init_8 : decode prog_10_method_1_code 8 = .ok (.dup, 1) := by decide +kernel
theorem d_U_init_9 : decode prog_10_method_1_code 9 = .ok (.sipush 1008, 3) := by decide +kernel
theorem d_U_init_12 : decode prog_10_method_1_code 12 = .ok (.invokespecial 11, 3) := by decide +kernel
theorem d_U_init_15 : decode prog_10_method_1_code 15 = .ok (.putfield 14, 3) := by decide +kernel
theorem d_U_init_18 : decode prog_10_method_1_code 18 = .ok (.aload_n 0, 1) := by decide +kernel
theorem d_U_init_19 : decode prog_10_method_1_code 19 = .ok (.new 20, 3) := by decide +kernel
theorem d_U_init_22 : decode prog_10_method_1_code 22 = .ok (.dup, 1) := by decide +kernel
theorem d_U_init_23 : decode prog_10_method_1_code 23 = .ok (.invokespecial 22, 3) := by decide +kernel
theorem d_U_init_26 : decode prog_10_method_1_code 26 = .ok (.putfield 23, 3) := by decide +kernel
theorem d_U_init_29 : decode prog_10_method_1_code 29 = .ok (.aload_n 0, 1) := by decide +kernel
theorem d_U_init_30 : decode prog_10_method_1_code 30 = .ok (.new 27, 3) := by decide +kernel
theorem d_U_init_33 : decode prog_10_method_1_code 33 = .ok (.dup, 1) := by decide +kernel
theorem d_U_init_34 : decode prog_10_method_1_code 34 = .ok (.invokespecial 29, 3) := by decide +kernel
theorem d_U_init_37 : decode prog_10_method_1_code 37 = .ok (.putfield 30, 3) := by decide +kernel
theorem d_U_init_40 : decode prog_10_method_1_code 40 = .ok (.return_, 1) := by decide +kernel
def cd_U_init_0 : Nat → g_T := g_tab [(0, tr_ald 0 1), (1, tr_oi 4), (4, tr_ald 0 5), (5, tr_new 0 2 [.null, .int 0] 8), (8, tr_dup 9), (9, tr_cst (.int (1008)) 12), (12, tr_cI J_I_init 1 15), (15, tr_put 7 0 (.object "TracePacks$Ints") 18), (18, tr_ald 0 19), (19, tr_new 4 5 [.null, .null, .null, .int 0, .int 0] 22), (22, tr_dup 23), (23, tr_cI J_M_init 0 26), (26, tr_put 7 1 (.object "TracePacks$Memory") 29), (29, tr_ald 0 30), (30, tr_new 2 5 [.null, .null, .null, .int 0, .int 0] 33), (33, tr_dup 34)]
set_option maxRecDepth 100000 in
theorem ok_U_init_0 : ∀ pc, g_S (J_U_init) pc (cd_U_init_0 pc) := g_tab_ok <|
  List.forall_mem_cons.mpr ⟨so_aload_n d_U_init_0 rfl rfl,
  List.forall_mem_cons.mpr ⟨so_oi d_U_init_1 w_1_158 w_1_25 w_1_26 ⟨(Nat.le_of_ble_eq_true rfl), (Nat.le_of_ble_eq_true rfl)⟩ rfl,
  List.forall_mem_cons.mpr ⟨so_aload_n d_U_init_4 rfl rfl,
  List.forall_mem_cons.mpr ⟨so_new ft_I d_U_init_5 (rfl : vwCl[0]? = some (R_I, F_I, 2)) i_I w_1_159 w_1_28 w_1_2 tk_I (by decide) rfl,
  List.forall_mem_cons.mpr ⟨so_dup d_U_init_8 rfl,
  List.forall_mem_cons.mpr ⟨so_sipush (by decide) d_U_init_9 rfl,
  List.forall_mem_cons.mpr ⟨so_cI g_good d_U_init_12 ⟨w_1_31, (Nat.le_of_ble_eq_true rfl), (Nat.le_of_ble_eq_true rfl), w_1_2, ⟨by decide, by decide⟩, by decide +kernel⟩ rfl rfl w_1_160 w_1_30 rfl,
  List.forall_mem_cons.mpr ⟨so_putF ft_U d_U_init_15 (rfl : vwCl[7]? = some (R_U, F_U, 4)) (Nat.le_of_ble_eq_true rfl) i_U w_1_165 tk_U n_U rfl rfl rfl rfl rfl,
  List.forall_mem_cons.mpr ⟨so_aload_n d_U_init_18 rfl rfl,
  List.forall_mem_cons.mpr ⟨so_new ft_M d_U_init_19 (rfl : vwCl[4]? = some (R_M, F_M, 5)) i_M w_1_161 w_1_81 w_1_6 tk_M (by decide) rfl,
  List.forall_mem_cons.mpr ⟨so_dup d_U_init_22 rfl,
  List.forall_mem_cons.mpr ⟨so_cIN g_good d_U_init_23 ⟨w_1_84, (Nat.le_of_ble_eq_true rfl), (Nat.le_of_ble_eq_true rfl), w_1_6, ⟨by decide, by decide⟩, by decide +kernel⟩ rfl rfl w_1_162 w_1_83 rfl,
  List.forall_mem_cons.mpr ⟨so_putF ft_U d_U_init_26 (rfl : vwCl[7]? = some (R_U, F_U, 4)) (Nat.le_of_ble_eq_true rfl) i_U w_1_166 tk_U n_U rfl rfl rfl rfl rfl,
  List.forall_mem_cons.mpr ⟨so_aload_n d_U_init_29 rfl rfl,
  List.forall_mem_cons.mpr ⟨so_new ft_B d_U_init_30 (rfl : vwCl[2]? = some (R_B, F_B, 5)) i_B w_1_163 w_1_49 w_1_4 tk_B (by decide) rfl,
  List.forall_mem_cons.mpr ⟨so_dup d_U_init_33 rfl,
  fun _ h => absurd h List.not_mem_nil⟩⟩⟩⟩⟩⟩⟩⟩⟩⟩⟩⟩⟩⟩⟩⟩
def cd_U_init_1 : Nat → g_T := g_tab [(34, tr_cI J_B_init 0 37), (37, tr_put 7 2 (.object "TracePacks$Block") 40), (40, tr_rv)]
set_option maxRecDepth 100000 in
theorem ok_U_init_1 : ∀ pc, g_S (J_U_init) pc (cd_U_init_1 pc) := g_tab_ok <|
  List.forall_mem_cons.mpr ⟨so_cIN g_good d_U_init_34 ⟨w_1_52, (Nat.le_of_ble_eq_true rfl), (Nat.le_of_ble_eq_true rfl), w_1_4, ⟨by decide, by decide⟩, by decide +kernel⟩ rfl rfl w_1_164 w_1_51 rfl,
  List.forall_mem_cons.mpr ⟨so_putF ft_U d_U_init_37 (rfl : vwCl[7]? = some (R_U, F_U, 4)) (Nat.le_of_ble_eq_true rfl) i_U w_1_167 tk_U n_U rfl rfl rfl rfl rfl,
  List.forall_mem_cons.mpr ⟨so_vret d_U_init_40 rfl,
  fun _ h => absurd h List.not_mem_nil⟩⟩⟩
def cd_U_init : Nat → g_T := g_chk [(33, cd_U_init_0), (40, cd_U_init_1)]
theorem ok_U_init : ∀ pc, g_S (J_U_init) pc (cd_U_init pc) := g_chk_ok <|
  List.forall_mem_cons.mpr ⟨ok_U_init_0,
  List.forall_mem_cons.mpr ⟨ok_U_init_1,
  fun _ h => absurd h List.not_mem_nil⟩⟩
abbrev J_U_unshielded : g_J := (y_U_unshielded, prog_10_method_5_code, 1, (some .int), (0, 0), [], none)
theorem d_U_unshielded_0 : decode prog_10_method_5_code 0 = .ok (.iload_n 0, 1) := by decide +kernel
theorem d_U_unshielded_1 : decode prog_10_method_5_code 1 = .ok (.bipush 94, 2) := by decide +kernel
theorem d_U_unshielded_3 : decode prog_10_method_5_code 3 = .ok (.if_icmp .ne 6, 3) := by decide +kernel
theorem d_U_unshielded_6 : decode prog_10_method_5_code 6 = .ok (.bipush 126, 2) := by decide +kernel
theorem d_U_unshielded_8 : decode prog_10_method_5_code 8 = .ok (.ireturn, 1) := by decide +kernel
theorem d_U_unshielded_9 : decode prog_10_method_5_code 9 = .ok (.iload_n 0, 1) := by decide +kernel
theorem d_U_unshielded_10 : decode prog_10_method_5_code 10 = .ok (.bipush 93, 2) := by decide +kernel
theorem d_U_unshielded_12 : decode prog_10_method_5_code 12 = .ok (.if_icmp .ne 8, 3) := by decide +kernel
theorem d_U_unshielded_15 : decode prog_10_method_5_code 15 = .ok (.bipush 125, 2) := by decide +kernel
theorem d_U_unshielded_17 : decode prog_10_method_5_code 17 = .ok (.goto 4, 3) := by decide +kernel
theorem d_U_unshielded_20 : decode prog_10_method_5_code 20 = .ok (.iconst (-1), 1) := by decide +kernel
theorem d_U_unshielded_21 : decode prog_10_method_5_code 21 = .ok (.ireturn, 1) := by decide +kernel
def cd_U_unshielded_0 : Nat → g_T := g_tab [(0, tr_ild 0 1), (1, tr_cst (.int (94)) 3), (3, tr_if2 (fun x y => ¬ x = y) 9 6), (6, tr_cst (.int (126)) 8), (8, tr_ri), (9, tr_ild 0 10), (10, tr_cst (.int (93)) 12), (12, tr_if2 (fun x y => ¬ x = y) 20 15), (15, tr_cst (.int (125)) 17), (17, tr_goto 21), (20, tr_cst (.int (-1)) 21), (21, tr_ri)]
set_option maxRecDepth 100000 in
theorem ok_U_unshielded_0 : ∀ pc, g_S (J_U_unshielded) pc (cd_U_unshielded_0 pc) := g_tab_ok <|
  List.forall_mem_cons.mpr ⟨so_iload_n d_U_unshielded_0 rfl rfl,
  List.forall_mem_cons.mpr ⟨so_bipush (by decide) d_U_unshielded_1 rfl,
  List.forall_mem_cons.mpr ⟨so_icmp_ne d_U_unshielded_3 (by decide) rfl,
  List.forall_mem_cons.mpr ⟨so_bipush (by decide) d_U_unshielded_6 rfl,
  List.forall_mem_cons.mpr ⟨so_iret d_U_unshielded_8 rfl,
  List.forall_mem_cons.mpr ⟨so_iload_n d_U_unshielded_9 rfl rfl,
  List.forall_mem_cons.mpr ⟨so_bipush (by decide) d_U_unshielded_10 rfl,
  List.forall_mem_cons.mpr ⟨so_icmp_ne d_U_unshielded_12 (by decide) rfl,
  List.forall_mem_cons.mpr ⟨so_bipush (by decide) d_U_unshielded_15 rfl,
  List.forall_mem_cons.mpr ⟨so_goto d_U_unshielded_17 (by decide),
  List.forall_mem_cons.mpr ⟨so_iconst (by decide) d_U_unshielded_20 rfl,
  List.forall_mem_cons.mpr ⟨so_iret d_U_unshielded_21 rfl,
  fun _ h => absurd h List.not_mem_nil⟩⟩⟩⟩⟩⟩⟩⟩⟩⟩⟩⟩
def cd_U_unshielded : Nat → g_T := g_chk [(21, cd_U_unshielded_0)]
theorem ok_U_unshielded : ∀ pc, g_S (J_U_unshielded) pc (cd_U_unshielded pc) := g_chk_ok <|
  List.forall_mem_cons.mpr ⟨ok_U_unshielded_0,
  fun _ h => absurd h List.not_mem_nil⟩
abbrev J_U_unshield : g_J := (y_U_unshield, prog_10_method_4_code, 7, (some .boolean), (1, 21), [], none)
theorem d_U_unshield_0 : decode prog_10_method_4_code 0 = .ok (.aload_n 0, 1) := by decide +kernel
theorem d_U_unshield_1 : decode prog_10_method_4_code 1 = .ok (.getfield 14, 3) := by decide +kernel
theorem d_U_unshield_4 : decode prog_10_method_4_code 4 = .ok (.iconst 0, 1) := by decide +kernel
theorem d_U_unshield_5 : decode prog_10_method_4_code 5 = .ok (.invokevirtual 65, 3) := by decide +kernel
theorem d_U_unshield_8 : decode prog_10_method_4_code 8 = .ok (.iconst 0, 1) := by decide +kernel
theorem d_U_unshield_9 : decode prog_10_method_4_code 9 = .ok (.istore 4, 2) := by decide +kernel
theorem d_U_unshield_11 : decode prog_10_method_4_code 11 = .ok (.iload_n 2, 1) := by decide +kernel
theorem d_U_unshield_12 : decode prog_10_method_4_code 12 = .ok (.istore 5, 2) := by decide +kernel
theorem d_U_unshield_14 : decode prog_10_method_4_code 14 = .ok (.iload 5, 2) := by decide +kernel
theorem d_U_unshield_16 : decode prog_10_method_4_code 16 = .ok (.iload_n 3, 1) := by decide +kernel
theorem d_U_unshield_17 : decode prog_10_method_4_code 17 = .ok (.if_icmp .ge 70, 3) := by decide +kernel
theorem d_U_unshield_20 : decode prog_10_method_4_code 20 = .ok (.aload_n 1, 1) := by decide +kernel
theorem d_U_unshield_21 : decode prog_10_method_4_code 21 = .ok (.iload 5, 2) := by decide +kernel
theorem d_U_unshield_23 : decode prog_10_method_4_code 23 = .ok (.invokevirtual 45, 3) := by decide +kernel
theorem d_U_unshield_26 : decode prog_10_method_4_code 26 = .ok (.istore 6, 2) := by decide +kernel
theorem d_U_unshield_28 : decode prog_10_method_4_code 28 = .ok (.iload 4, 2) := by decide +kernel
theorem d_U_unshield_30 : decode prog_10_method_4_code 30 = .ok (.ifCond .ne 16, 3) := by decide +kernel
theorem d_U_unshield_33 : decode prog_10_method_4_code 33 = .ok (.iload 6, 2) := by decide +kernel
theorem d_U_unshield_35 : decode prog_10_method_4_code 35 = .ok (.bipush 125, 2) := by decide +kernel
theorem d_U_unshield_37 : decode prog_10_method_4_code 37 = .ok (.if_icmp .ne 9, 3) := by decide +kernel
theorem d_U_unshield_40 : decode prog_10_method_4_code 40 = .ok (.iconst 1, 1) := by decide +kernel
theorem d_U_unshield_41 : decode prog_10_method_4_code 41 = .ok (.istore 4, 2) := by decide +kernel
theorem d_U_unshield_43 : decode prog_10_method_4_code 43 = .ok (.goto 38, 3) := by decide +kernel
theorem d_U_unshield_46 : decode prog_10_method_4_code 46 = .ok (.iload 4, 2) := by decide +kernel
theorem d_U_unshield_48 : decode prog_10_method_4_code 48 = .ok (.ifCond .eq 13, 3) := by decide +kernel
theorem d_U_unshield_51 : decode prog_10_method_4_code 51 = .ok (.iload 6, 2) := by decide +kernel
theorem d_U_unshield_53 : decode prog_10_method_4_code 53 = .ok (.invokestatic 68, 3) := by decide +kernel
theorem d_U_unshield_56 : decode prog_10_method_4_code 56 = .ok (.istore 6, 2) := by decide +kernel
theorem d_U_unshield_58 : decode prog_10_method_4_code 58 = .ok (.iconst 0, 1) := by decide +kernel
theorem d_U_unshield_59 : decode prog_10_method_4_code 59 = .ok (.istore 4, 2) := by decide +kernel
theorem d_U_unshield_61 : decode prog_10_method_4_code 61 = .ok (.iload 6, 2) := by decide +kernel
theorem d_U_unshield_63 : decode prog_10_method_4_code 63 = .ok (.iconst (-1), 1) := by decide +kernel
theorem d_U_unshield_64 : decode prog_10_method_4_code 64 = .ok (.if_icmp .eq 15, 3) := by decide +kernel
theorem d_U_unshield_67 : decode prog_10_method_4_code 67 = .ok (.aload_n 0, 1) := by decide +kernel
theorem d_U_unshield_68 : decode prog_10_method_4_code 68 = .ok (.getfield 14, 3) := by decide +kernel
theorem d_U_unshield_71 : decode prog_10_method_4_code 71 = .ok (.iload 6, 2) := by decide +kernel
theorem d_U_unshield_73 : decode prog_10_method_4_code 73 = .ok (.invokevirtual 71, 3) := by decide +kernel
theorem d_U_unshield_76 : decode prog_10_method_4_code 76 = .ok (.ifCond .ne 5, 3) := by decide +kernel
theorem d_U_unshield_79 : decode prog_10_method_4_code 79 = .ok (.iconst 0, 1) := by decide +kernel
theorem d_U_unshield_80 : decode prog_10_method_4_code 80 = .ok (.ireturn, 1) := by decide +kernel
theorem d_U_unshield_81 : decode prog_10_method_4_code 81 = .ok (.iinc 5 1, 3) := by decide +kernel
theorem d_U_unshield_84 : decode prog_10_method_4_code 84 = .ok (.goto (-70), 3) := by decide +kernel
theorem d_U_unshield_87 : decode prog_10_method_4_code 87 = .ok (.iload 4, 2) := by decide +kernel
theorem d_U_unshield_89 : decode prog_10_method_4_code 89 = .ok (.ifCond .ne 7, 3) := by decide +kernel
theorem d_U_unshield_92 : decode prog_10_method_4_code 92 = .ok (.iconst 1, 1) := by decide +kernel
theorem d_U_unshield_93 : decode prog_10_method_4_code 93 = .ok (.goto 4, 3) := by decide +kernel
theorem d_U_unshield_96 : decode prog_10_method_4_code 96 = .ok (.iconst 0, 1) := by decide +kernel
theorem d_U_unshield_97 : decode prog_10_method_4_code 97 = .ok (.ireturn, 1) := by decide +kernel
def cd_U_unshield_0 : Nat → g_T := g_tab [(0, tr_ald 0 1), (1, tr_get 7 0 4), (4, tr_cst (.int (0)) 5), (5, tr_cV J_I_shorten 0 1 8), (8, tr_cst (.int (0)) 9), (9, tr_ist 4 11), (11, tr_ild 2 12), (12, tr_ist 5 14), (14, tr_ild 5 16), (16, tr_ild 3 17), (17, tr_if2 (fun x y => y ≤ x) 87 20), (20, tr_ald 1 21), (21, tr_ild 5 23), (23, tr_cV J_I_at 0 1 26), (26, tr_ist 6 28), (28, tr_ild 4 30)]
set_option maxRecDepth 100000 in
theorem ok_U_unshield_0 : ∀ pc, g_S (J_U_unshield) pc (cd_U_unshield_0 pc) := g_tab_ok <|
  List.forall_mem_cons.mpr ⟨so_aload_n d_U_unshield_0 rfl rfl,
  List.forall_mem_cons.mpr ⟨so_get d_U_unshield_1 (rfl : vwCl[7]? = some (R_U, F_U, 4)) (Nat.le_of_ble_eq_true rfl) i_U w_1_165 rfl,
  List.forall_mem_cons.mpr ⟨so_iconst (by decide) d_U_unshield_4 rfl,
  List.forall_mem_cons.mpr ⟨so_cV g_good d_U_unshield_5 ⟨w_2_184, (Nat.le_of_ble_eq_true rfl), (Nat.le_of_ble_eq_true rfl), w_1_2, ⟨by decide, by decide⟩, by decide +kernel⟩ (rfl : vwCl[0]? = some (R_I, F_I, 2)) w_3_177 w_2_182 w_2_183 rfl,
  List.forall_mem_cons.mpr ⟨so_iconst (by decide) d_U_unshield_8 rfl,
  List.forall_mem_cons.mpr ⟨so_istore d_U_unshield_9 (Nat.le_of_ble_eq_true rfl) rfl,
  List.forall_mem_cons.mpr ⟨so_iload_n d_U_unshield_11 rfl rfl,
  List.forall_mem_cons.mpr ⟨so_istore d_U_unshield_12 (Nat.le_of_ble_eq_true rfl) rfl,
  List.forall_mem_cons.mpr ⟨so_iload d_U_unshield_14 rfl,
  List.forall_mem_cons.mpr ⟨so_iload_n d_U_unshield_16 rfl rfl,
  List.forall_mem_cons.mpr ⟨so_icmp_ge d_U_unshield_17 (by decide) rfl,
  List.forall_mem_cons.mpr ⟨so_aload_n d_U_unshield_20 rfl rfl,
  List.forall_mem_cons.mpr ⟨so_iload d_U_unshield_21 rfl,
  List.forall_mem_cons.mpr ⟨so_cV g_good d_U_unshield_23 ⟨w_2_151, (Nat.le_of_ble_eq_true rfl), (Nat.le_of_ble_eq_true rfl), w_1_2, ⟨by decide, by decide⟩, by decide +kernel⟩ (rfl : vwCl[0]? = some (R_I, F_I, 2)) w_3_178 w_2_149 w_2_150 rfl,
  List.forall_mem_cons.mpr ⟨so_istore d_U_unshield_26 (Nat.le_of_ble_eq_true rfl) rfl,
  List.forall_mem_cons.mpr ⟨so_iload d_U_unshield_28 rfl,
  fun _ h => absurd h List.not_mem_nil⟩⟩⟩⟩⟩⟩⟩⟩⟩⟩⟩⟩⟩⟩⟩⟩
def cd_U_unshield_1 : Nat → g_T := g_tab [(30, tr_if1 (fun x => ¬ x = 0) 46 33), (33, tr_ild 6 35), (35, tr_cst (.int (125)) 37), (37, tr_if2 (fun x y => ¬ x = y) 46 40), (40, tr_cst (.int (1)) 41), (41, tr_ist 4 43), (43, tr_goto 81), (46, tr_ild 4 48), (48, tr_if1 (fun x => x = 0) 61 51), (51, tr_ild 6 53), (53, tr_cS J_U_unshielded 1 56), (56, tr_ist 6 58), (58, tr_cst (.int (0)) 59), (59, tr_ist 4 61), (61, tr_ild 6 63), (63, tr_cst (.int (-1)) 64)]
set_option maxRecDepth 100000 in
theorem ok_U_unshield_1 : ∀ pc, g_S (J_U_unshield) pc (cd_U_unshield_1 pc) := g_tab_ok <|
  List.forall_mem_cons.mpr ⟨so_if_ne d_U_unshield_30 (by decide) rfl,
  List.forall_mem_cons.mpr ⟨so_iload d_U_unshield_33 rfl,
  List.forall_mem_cons.mpr ⟨so_bipush (by decide) d_U_unshield_35 rfl,
  List.forall_mem_cons.mpr ⟨so_icmp_ne d_U_unshield_37 (by decide) rfl,
  List.forall_mem_cons.mpr ⟨so_iconst (by decide) d_U_unshield_40 rfl,
  List.forall_mem_cons.mpr ⟨so_istore d_U_unshield_41 (Nat.le_of_ble_eq_true rfl) rfl,
  List.forall_mem_cons.mpr ⟨so_goto d_U_unshield_43 (by decide),
  List.forall_mem_cons.mpr ⟨so_iload d_U_unshield_46 rfl,
  List.forall_mem_cons.mpr ⟨so_if_eq d_U_unshield_48 (by decide) rfl,
  List.forall_mem_cons.mpr ⟨so_iload d_U_unshield_51 rfl,
  List.forall_mem_cons.mpr ⟨so_cS g_good d_U_unshield_53 ⟨w_3_181, (Nat.le_of_ble_eq_true rfl), (Nat.le_of_ble_eq_true rfl), w_1_10, ⟨by decide, by decide⟩, by decide +kernel⟩ w_3_179 w_3_180 rfl,
  List.forall_mem_cons.mpr ⟨so_istore d_U_unshield_56 (Nat.le_of_ble_eq_true rfl) rfl,
  List.forall_mem_cons.mpr ⟨so_iconst (by decide) d_U_unshield_58 rfl,
  List.forall_mem_cons.mpr ⟨so_istore d_U_unshield_59 (Nat.le_of_ble_eq_true rfl) rfl,
  List.forall_mem_cons.mpr ⟨so_iload d_U_unshield_61 rfl,
  List.forall_mem_cons.mpr ⟨so_iconst (by decide) d_U_unshield_63 rfl,
  fun _ h => absurd h List.not_mem_nil⟩⟩⟩⟩⟩⟩⟩⟩⟩⟩⟩⟩⟩⟩⟩⟩
def cd_U_unshield_2 : Nat → g_T := g_tab [(64, tr_if2 (fun x y => x = y) 79 67), (67, tr_ald 0 68), (68, tr_get 7 0 71), (71, tr_ild 6 73), (73, tr_cV J_I_add 0 1 76), (76, tr_if1 (fun x => ¬ x = 0) 81 79), (79, tr_cst (.int (0)) 80), (80, tr_rz), (81, tr_inc 5 (1) 84), (84, tr_goto 14), (87, tr_ild 4 89), (89, tr_if1 (fun x => ¬ x = 0) 96 92), (92, tr_cst (.int (1)) 93), (93, tr_goto 97), (96, tr_cst (.int (0)) 97), (97, tr_rz)]
set_option maxRecDepth 100000 in
theorem ok_U_unshield_2 : ∀ pc, g_S (J_U_unshield) pc (cd_U_unshield_2 pc) := g_tab_ok <|
  List.forall_mem_cons.mpr ⟨so_icmp_eq d_U_unshield_64 (by decide) rfl,
  List.forall_mem_cons.mpr ⟨so_aload_n d_U_unshield_67 rfl rfl,
  List.forall_mem_cons.mpr ⟨so_get d_U_unshield_68 (rfl : vwCl[7]? = some (R_U, F_U, 4)) (Nat.le_of_ble_eq_true rfl) i_U w_1_165 rfl,
  List.forall_mem_cons.mpr ⟨so_iload d_U_unshield_71 rfl,
  List.forall_mem_cons.mpr ⟨so_cV g_good d_U_unshield_73 ⟨w_1_47, (Nat.le_of_ble_eq_true rfl), (Nat.le_of_ble_eq_true rfl), w_1_2, ⟨by decide, by decide⟩, by decide +kernel⟩ (rfl : vwCl[0]? = some (R_I, F_I, 2)) w_3_182 w_1_45 w_1_46 rfl,
  List.forall_mem_cons.mpr ⟨so_if_ne d_U_unshield_76 (by decide) rfl,
  List.forall_mem_cons.mpr ⟨so_iconst (by decide) d_U_unshield_79 rfl,
  List.forall_mem_cons.mpr ⟨so_zret d_U_unshield_80 rfl,
  List.forall_mem_cons.mpr ⟨so_iinc d_U_unshield_81 (by decide) (Nat.le_of_ble_eq_true rfl) rfl,
  List.forall_mem_cons.mpr ⟨so_goto d_U_unshield_84 (by decide),
  List.forall_mem_cons.mpr ⟨so_iload d_U_unshield_87 rfl,
  List.forall_mem_cons.mpr ⟨so_if_ne d_U_unshield_89 (by decide) rfl,
  List.forall_mem_cons.mpr ⟨so_iconst (by decide) d_U_unshield_92 rfl,
  List.forall_mem_cons.mpr ⟨so_goto d_U_unshield_93 (by decide),
  List.forall_mem_cons.mpr ⟨so_iconst (by decide) d_U_unshield_96 rfl,
  List.forall_mem_cons.mpr ⟨so_zret d_U_unshield_97 rfl,
  fun _ h => absurd h List.not_mem_nil⟩⟩⟩⟩⟩⟩⟩⟩⟩⟩⟩⟩⟩⟩⟩⟩
def cd_U_unshield : Nat → g_T := g_chk [(28, cd_U_unshield_0), (63, cd_U_unshield_1), (97, cd_U_unshield_2)]
theorem ok_U_unshield : ∀ pc, g_S (J_U_unshield) pc (cd_U_unshield pc) := g_chk_ok <|
  List.forall_mem_cons.mpr ⟨ok_U_unshield_0,
  List.forall_mem_cons.mpr ⟨ok_U_unshield_1,
  List.forall_mem_cons.mpr ⟨ok_U_unshield_2,
  fun _ h => absurd h List.not_mem_nil⟩⟩⟩
abbrev J_U_takeSum : g_J := (y_U_takeSum, prog_10_method_6_code, 3, (some .boolean), (2, 45), [], none)
theorem d_U_takeSum_0 : decode prog_10_method_6_code 0 = .ok (.aload_n 0, 1) := by decide +kernel
theorem d_U_takeSum_1 : decode prog_10_method_6_code 1 = .ok (.getfield 14, 3) := by decide +kernel
theorem d_U_takeSum_4 : decode prog_10_method_6_code 4 = .ok (.invokevirtual 64, 3) := by decide +kernel
theorem d_U_takeSum_7 : decode prog_10_method_6_code 7 = .ok (.bipush 9, 2) := by decide +kernel
theorem d_U_takeSum_9 : decode prog_10_method_6_code 9 = .ok (.if_icmp .ge 5, 3) := by decide +kernel
theorem d_U_takeSum_12 : decode prog_10_method_6_code 12 = .ok (.iconst 0, 1) := by decide +kernel
theorem d_U_takeSum_13 : decode prog_10_method_6_code 13 = .ok (.ireturn, 1) := by decide +kernel
theorem d_U_takeSum_14 : decode prog_10_method_6_code 14 = .ok (.aload_n 0, 1) := by decide +kernel
theorem d_U_takeSum_15 : decode prog_10_method_6_code 15 = .ok (.getfield 14, 3) := by decide +kernel
theorem d_U_takeSum_18 : decode prog_10_method_6_code 18 = .ok (.invokevirtual 64, 3) := by decide +kernel
theorem d_U_takeSum_21 : decode prog_10_method_6_code 21 = .ok (.iconst 2, 1) := by decide +kernel
theorem d_U_takeSum_22 : decode prog_10_method_6_code 22 = .ok (.isub, 1) := by decide +kernel
theorem d_U_takeSum_23 : decode prog_10_method_6_code 23 = .ok (.istore_n 1, 1) := by decide +kernel
theorem d_U_takeSum_24 : decode prog_10_method_6_code 24 = .ok (.aload_n 0, 1) := by decide +kernel
theorem d_U_takeSum_25 : decode prog_10_method_6_code 25 = .ok (.getfield 14, 3) := by decide +kernel
theorem d_U_takeSum_28 : decode prog_10_method_6_code 28 = .ok (.iload_n 1, 1) := by decide +kernel
theorem d_U_takeSum_29 : decode prog_10_method_6_code 29 = .ok (.invokevirtual 45, 3) := by decide +kernel
theorem d_U_takeSum_32 : decode prog_10_method_6_code 32 = .ok (.bipush 8, 2) := by decide +kernel
theorem d_U_takeSum_34 : decode prog_10_method_6_code 34 = .ok (.ishl, 1) := by decide +kernel
theorem d_U_takeSum_35 : decode prog_10_method_6_code 35 = .ok (.aload_n 0, 1) := by decide +kernel
theorem d_U_takeSum_36 : decode prog_10_method_6_code 36 = .ok (.getfield 14, 3) := by decide +kernel
theorem d_U_takeSum_39 : decode prog_10_method_6_code 39 = .ok (.iload_n 1, 1) := by decide +kernel
theorem d_U_takeSum_40 : decode prog_10_method_6_code 40 = .ok (.iconst 1, 1) := by decide +kernel
theorem d_U_takeSum_41 : decode prog_10_method_6_code 41 = .ok (.iadd, 1) := by decide +kernel
theorem d_U_takeSum_42 : decode prog_10_method_6_code 42 = .ok (.invokevirtual 45, 3) := by decide +kernel
theorem d_U_takeSum_45 : decode prog_10_method_6_code 45 = .ok (.iadd, 1) := by decide +kernel
theorem d_U_takeSum_46 : decode prog_10_method_6_code 46 = .ok (.istore_n 2, 1) := by decide +kernel
theorem d_U_takeSum_47 : decode prog_10_method_6_code 47 = .ok (.aload_n 0, 1) := by decide +kernel
theorem d_U_takeSum_48 : decode prog_10_method_6_code 48 = .ok (.getfield 14, 3) := by decide +kernel
theorem d_U_takeSum_51 : decode prog_10_method_6_code 51 = .ok (.iload_n 1, 1) := by decide +kernel
theorem d_U_takeSum_52 : decode prog_10_method_6_code 52 = .ok (.invokevirtual 65, 3) := by decide +kernel
theorem d_U_takeSum_55 : decode prog_10_method_6_code 55 = .ok (.iload_n 2, 1) := by decide +kernel
theorem d_U_takeSum_56 : decode prog_10_method_6_code 56 = .ok (.aload_n 0, 1) := by decide +kernel
theorem d_U_takeSum_57 : decode prog_10_method_6_code 57 = .ok (.getfield 14, 3) := by decide +kernel
theorem d_U_takeSum_60 : decode prog_10_method_6_code 60 = .ok (.iload_n 1, 1) := by decide +kernel
theorem d_U_takeSum_61 : decode prog_10_method_6_code 61 = .ok (.invokestatic 74, 3) := by decide +kernel
theorem d_U_takeSum_64 : decode prog_10_method_6_code 64 = .ok (.if_icmp .ne 7, 3) := by decide +kernel
theorem d_U_takeSum_67 : decode prog_10_method_6_code 67 = .ok (.iconst 1, 1) := by decide +kernel
theorem d_U_takeSum_68 : decode prog_10_method_6_code 68 = .ok (.goto 4, 3) := by decide +kernel
theorem d_U_takeSum_71 : decode prog_10_method_6_code 71 = .ok (.iconst 0, 1) := by decide +kernel
theorem d_U_takeSum_72 : decode prog_10_method_6_code 72 = .ok (.ireturn, 1) := by decide +kernel
def cd_U_takeSum_0 : Nat → g_T := g_tab [(0, tr_ald 0 1), (1, tr_get 7 0 4), (4, tr_cV J_I_size 0 0 7), (7, tr_cst (.int (9)) 9), (9, tr_if2 (fun x y => y ≤ x) 14 12), (12, tr_cst (.int (0)) 13), (13, tr_rz), (14, tr_ald 0 15), (15, tr_get 7 0 18), (18, tr_cV J_I_size 0 0 21), (21, tr_cst (.int (2)) 22), (22, tr_ii (fun x y => x - y) 23), (23, tr_ist 1 24), (24, tr_ald 0 25), (25, tr_get 7 0 28), (28, tr_ild 1 29)]
set_option maxRecDepth 100000 in
theorem ok_U_takeSum_0 : ∀ pc, g_S (J_U_takeSum) pc (cd_U_takeSum_0 pc) := g_tab_ok <|
  List.forall_mem_cons.mpr ⟨so_aload_n d_U_takeSum_0 rfl rfl,
  List.forall_mem_cons.mpr ⟨so_get d_U_takeSum_1 (rfl : vwCl[7]? = some (R_U, F_U, 4)) (Nat.le_of_ble_eq_true rfl) i_U w_1_165 rfl,
  List.forall_mem_cons.mpr ⟨so_cV g_good d_U_takeSum_4 ⟨w_2_28, (Nat.le_of_ble_eq_true rfl), (Nat.le_of_ble_eq_true rfl), w_1_2, ⟨by decide, by decide⟩, by decide +kernel⟩ (rfl : vwCl[0]? = some (R_I, F_I, 2)) w_3_187 w_2_26 w_2_27 rfl,
  List.forall_mem_cons.mpr ⟨so_bipush (by decide) d_U_takeSum_7 rfl,
  List.forall_mem_cons.mpr ⟨so_icmp_ge d_U_takeSum_9 (by decide) rfl,
  List.forall_mem_cons.mpr ⟨so_iconst (by decide) d_U_takeSum_12 rfl,
  List.forall_mem_cons.mpr ⟨so_zret d_U_takeSum_13 rfl,
  List.forall_mem_cons.mpr ⟨so_aload_n d_U_takeSum_14 rfl rfl,
  List.forall_mem_cons.mpr ⟨so_get d_U_takeSum_15 (rfl : vwCl[7]? = some (R_U, F_U, 4)) (Nat.le_of_ble_eq_true rfl) i_U w_1_165 rfl,
  List.forall_mem_cons.mpr ⟨so_cV g_good d_U_takeSum_18 ⟨w_2_28, (Nat.le_of_ble_eq_true rfl), (Nat.le_of_ble_eq_true rfl), w_1_2, ⟨by decide, by decide⟩, by decide +kernel⟩ (rfl : vwCl[0]? = some (R_I, F_I, 2)) w_3_187 w_2_26 w_2_27 rfl,
  List.forall_mem_cons.mpr ⟨so_iconst (by decide) d_U_takeSum_21 rfl,
  List.forall_mem_cons.mpr ⟨so_isub d_U_takeSum_22 rfl,
  List.forall_mem_cons.mpr ⟨so_istore_n d_U_takeSum_23 rfl (Nat.le_of_ble_eq_true rfl) rfl,
  List.forall_mem_cons.mpr ⟨so_aload_n d_U_takeSum_24 rfl rfl,
  List.forall_mem_cons.mpr ⟨so_get d_U_takeSum_25 (rfl : vwCl[7]? = some (R_U, F_U, 4)) (Nat.le_of_ble_eq_true rfl) i_U w_1_165 rfl,
  List.forall_mem_cons.mpr ⟨so_iload_n d_U_takeSum_28 rfl rfl,
  fun _ h => absurd h List.not_mem_nil⟩⟩⟩⟩⟩⟩⟩⟩⟩⟩⟩⟩⟩⟩⟩⟩
def cd_U_takeSum_1 : Nat → g_T := g_tab [(29, tr_cV J_I_at 0 1 32), (32, tr_cst (.int (8)) 34), (34, tr_ii (fun x y => x <<< (y &&& 31)) 35), (35, tr_ald 0 36), (36, tr_get 7 0 39), (39, tr_ild 1 40), (40, tr_cst (.int (1)) 41), (41, tr_ii (fun x y => x + y) 42), (42, tr_cV J_I_at 0 1 45), (45, tr_ii (fun x y => x + y) 46), (46, tr_ist 2 47), (47, tr_ald 0 48), (48, tr_get 7 0 51), (51, tr_ild 1 52), (52, tr_cV J_I_shorten 0 1 55), (55, tr_ild 2 56)]
set_option maxRecDepth 100000 in
theorem ok_U_takeSum_1 : ∀ pc, g_S (J_U_takeSum) pc (cd_U_takeSum_1 pc) := g_tab_ok <|
  List.forall_mem_cons.mpr ⟨so_cV g_good d_U_takeSum_29 ⟨w_2_151, (Nat.le_of_ble_eq_true rfl), (Nat.le_of_ble_eq_true rfl), w_1_2, ⟨by decide, by decide⟩, by decide +kernel⟩ (rfl : vwCl[0]? = some (R_I, F_I, 2)) w_3_178 w_2_149 w_2_150 rfl,
  List.forall_mem_cons.mpr ⟨so_bipush (by decide) d_U_takeSum_32 rfl,
  List.forall_mem_cons.mpr ⟨so_ishl d_U_takeSum_34 rfl,
  List.forall_mem_cons.mpr ⟨so_aload_n d_U_takeSum_35 rfl rfl,
  List.forall_mem_cons.mpr ⟨so_get d_U_takeSum_36 (rfl : vwCl[7]? = some (R_U, F_U, 4)) (Nat.le_of_ble_eq_true rfl) i_U w_1_165 rfl,
  List.forall_mem_cons.mpr ⟨so_iload_n d_U_takeSum_39 rfl rfl,
  List.forall_mem_cons.mpr ⟨so_iconst (by decide) d_U_takeSum_40 rfl,
  List.forall_mem_cons.mpr ⟨so_iadd d_U_takeSum_41 rfl,
  List.forall_mem_cons.mpr ⟨so_cV g_good d_U_takeSum_42 ⟨w_2_151, (Nat.le_of_ble_eq_true rfl), (Nat.le_of_ble_eq_true rfl), w_1_2, ⟨by decide, by decide⟩, by decide +kernel⟩ (rfl : vwCl[0]? = some (R_I, F_I, 2)) w_3_178 w_2_149 w_2_150 rfl,
  List.forall_mem_cons.mpr ⟨so_iadd d_U_takeSum_45 rfl,
  List.forall_mem_cons.mpr ⟨so_istore_n d_U_takeSum_46 rfl (Nat.le_of_ble_eq_true rfl) rfl,
  List.forall_mem_cons.mpr ⟨so_aload_n d_U_takeSum_47 rfl rfl,
  List.forall_mem_cons.mpr ⟨so_get d_U_takeSum_48 (rfl : vwCl[7]? = some (R_U, F_U, 4)) (Nat.le_of_ble_eq_true rfl) i_U w_1_165 rfl,
  List.forall_mem_cons.mpr ⟨so_iload_n d_U_takeSum_51 rfl rfl,
  List.forall_mem_cons.mpr ⟨so_cV g_good d_U_takeSum_52 ⟨w_2_184, (Nat.le_of_ble_eq_true rfl), (Nat.le_of_ble_eq_true rfl), w_1_2, ⟨by decide, by decide⟩, by decide +kernel⟩ (rfl : vwCl[0]? = some (R_I, F_I, 2)) w_3_177 w_2_182 w_2_183 rfl,
  List.forall_mem_cons.mpr ⟨so_iload_n d_U_takeSum_55 rfl rfl,
  fun _ h => absurd h List.not_mem_nil⟩⟩⟩⟩⟩⟩⟩⟩⟩⟩⟩⟩⟩⟩⟩⟩
def cd_U_takeSum_2 : Nat → g_T := g_tab [(56, tr_ald 0 57), (57, tr_get 7 0 60), (60, tr_ild 1 61), (61, tr_cS J_T_sumOf 2 64), (64, tr_if2 (fun x y => ¬ x = y) 71 67), (67, tr_cst (.int (1)) 68), (68, tr_goto 72), (71, tr_cst (.int (0)) 72), (72, tr_rz)]
set_option maxRecDepth 100000 in
theorem ok_U_takeSum_2 : ∀ pc, g_S (J_U_takeSum) pc (cd_U_takeSum_2 pc) := g_tab_ok <|
  List.forall_mem_cons.mpr ⟨so_aload_n d_U_takeSum_56 rfl rfl,
  List.forall_mem_cons.mpr ⟨so_get d_U_takeSum_57 (rfl : vwCl[7]? = some (R_U, F_U, 4)) (Nat.le_of_ble_eq_true rfl) i_U w_1_165 rfl,
  List.forall_mem_cons.mpr ⟨so_iload_n d_U_takeSum_60 rfl rfl,
  List.forall_mem_cons.mpr ⟨so_cSN g_good d_U_takeSum_61 ⟨w_3_45, (Nat.le_of_ble_eq_true rfl), (Nat.le_of_ble_eq_true rfl), w_1_1, ⟨by decide, by decide⟩, by decide +kernel⟩ w_3_188 w_3_44 rfl,
  List.forall_mem_cons.mpr ⟨so_icmp_ne d_U_takeSum_64 (by decide) rfl,
  List.forall_mem_cons.mpr ⟨so_iconst (by decide) d_U_takeSum_67 rfl,
  List.forall_mem_cons.mpr ⟨so_goto d_U_takeSum_68 (by decide),
  List.forall_mem_cons.mpr ⟨so_iconst (by decide) d_U_takeSum_71 rfl,
  List.forall_mem_cons.mpr ⟨so_zret d_U_takeSum_72 rfl,
  fun _ h => absurd h List.not_mem_nil⟩⟩⟩⟩⟩⟩⟩⟩⟩
def cd_U_takeSum : Nat → g_T := g_chk [(28, cd_U_takeSum_0), (55, cd_U_takeSum_1), (72, cd_U_takeSum_2)]
theorem ok_U_takeSum : ∀ pc, g_S (J_U_takeSum) pc (cd_U_takeSum pc) := g_chk_ok <|
  List.forall_mem_cons.mpr ⟨ok_U_takeSum_0,
  List.forall_mem_cons.mpr ⟨ok_U_takeSum_1,
  List.forall_mem_cons.mpr ⟨ok_U_takeSum_2,
  fun _ h => absurd h List.not_mem_nil⟩⟩⟩
abbrev J_U_takeWord : g_J := (y_U_takeWord, prog_10_method_17_code, 4, (some .long), (1, 21), [], none)
theorem d_U_takeWord_0 : decode prog_10_method_17_code 0 = .ok (.aload_n 0, 1) := by decide +kernel
theorem d_U_takeWord_1 : decode prog_10_method_17_code 1 = .ok (.getfield 14, 3) := by decide +kernel
theorem d_U_takeWord_4 : decode prog_10_method_17_code 4 = .ok (.invokevirtual 64, 3) := by decide +kernel
theorem d_U_takeWord_7 : decode prog_10_method_17_code 7 = .ok (.aload_n 0, 1) := by decide +kernel
theorem d_U_takeWord_8 : decode prog_10_method_17_code 8 = .ok (.getfield 49, 3) := by decide +kernel
theorem d_U_takeWord_11 : decode prog_10_method_17_code 11 = .ok (.isub, 1) := by decide +kernel
theorem d_U_takeWord_12 : decode prog_10_method_17_code 12 = .ok (.iconst 4, 1) := by decide +kernel
theorem d_U_takeWord_13 : decode prog_10_method_17_code 13 = .ok (.if_icmp .ge 7, 3) := by decide +kernel
theorem d_U_takeWord_16 : decode prog_10_method_17_code 16 = .ok (.ldc2_w 82, 3) := by decide +kernel
theorem d_U_takeWord_19 : decode prog_10_method_17_code 19 = .ok (.lreturn, 1) := by decide +kernel
theorem d_U_takeWord_20 : decode prog_10_method_17_code 20 = .ok (.lconst 0, 1) := by decide +kernel
theorem d_U_takeWord_21 : decode prog_10_method_17_code 21 = .ok (.lstore_n 1, 1) := by decide +kernel
theorem d_U_takeWord_22 : decode prog_10_method_17_code 22 = .ok (.iconst 0, 1) := by decide +kernel
theorem d_U_takeWord_23 : decode prog_10_method_17_code 23 = .ok (.istore_n 3, 1) := by decide +kernel
theorem d_U_takeWord_24 : decode prog_10_method_17_code 24 = .ok (.iload_n 3, 1) := by decide +kernel
theorem d_U_takeWord_25 : decode prog_10_method_17_code 25 = .ok (.iconst 4, 1) := by decide +kernel
theorem d_U_takeWord_26 : decode prog_10_method_17_code 26 = .ok (.if_icmp .ge 37, 3) := by decide +kernel
theorem d_U_takeWord_29 : decode prog_10_method_17_code 29 = .ok (.lload_n 1, 1) := by decide +kernel
theorem d_U_takeWord_30 : decode prog_10_method_17_code 30 = .ok (.bipush 8, 2) := by decide +kernel
theorem d_U_takeWord_32 : decode prog_10_method_17_code 32 = .ok (.lshl, 1) := by decide +kernel
theorem d_U_takeWord_33 : decode prog_10_method_17_code 33 = .ok (.aload_n 0, 1) := by decide +kernel
theorem d_U_takeWord_34 : decode prog_10_method_17_code 34 = .ok (.getfield 14, 3) := by decide +kernel
theorem d_U_takeWord_37 : decode prog_10_method_17_code 37 = .ok (.aload_n 0, 1) := by decide +kernel
theorem d_U_takeWord_38 : decode prog_10_method_17_code 38 = .ok (.getfield 49, 3) := by decide +kernel
theorem d_U_takeWord_41 : decode prog_10_method_17_code 41 = .ok (.invokevirtual 45, 3) := by decide +kernel
theorem d_U_takeWord_44 : decode prog_10_method_17_code 44 = .ok (.i2l, 1) := by decide +kernel
theorem d_U_takeWord_45 : decode prog_10_method_17_code 45 = .ok (.ladd, 1) := by decide +kernel
theorem d_U_takeWord_46 : decode prog_10_method_17_code 46 = .ok (.lstore_n 1, 1) := by decide +kernel
theorem d_U_takeWord_47 : decode prog_10_method_17_code 47 = .ok (.aload_n 0, 1) := by decide +kernel
theorem d_U_takeWord_48 : decode prog_10_method_17_code 48 = .ok (.dup, 1) := by decide +kernel
theorem d_U_takeWord_49 : decode prog_10_method_17_code 49 = .ok (.getfield 49, 3) := by decide +kernel
theorem d_U_takeWord_52 : decode prog_10_method_17_code 52 = .ok (.iconst 1, 1) := by decide +kernel
theorem d_U_takeWord_53 : decode prog_10_method_17_code 53 = .ok (.iadd, 1) := by decide +kernel
theorem d_U_takeWord_54 : decode prog_10_method_17_code 54 = .ok (.putfield 49, 3) := by decide +kernel
theorem d_U_takeWord_57 : decode prog_10_method_17_code 57 = .ok (.iinc 3 1, 3) := by decide +kernel
theorem d_U_takeWord_60 : decode prog_10_method_17_code 60 = .ok (.goto (-36), 3) := by decide +kernel
theorem d_U_takeWord_63 : decode prog_10_method_17_code 63 = .ok (.lload_n 1, 1) := by decide +kernel
theorem d_U_takeWord_64 : decode prog_10_method_17_code 64 = .ok (.lreturn, 1) := by decide +kernel
def cd_U_takeWord_0 : Nat → g_T := g_tab [(0, tr_ald 0 1), (1, tr_get 7 0 4), (4, tr_cV J_I_size 0 0 7), (7, tr_ald 0 8), (8, tr_get 7 3 11), (11, tr_ii (fun x y => x - y) 12), (12, tr_cst (.int (4)) 13), (13, tr_if2 (fun x y => y ≤ x) 20 16), (16, tr_cst (.long (-1)) 19), (19, tr_rl), (20, tr_cst (.long (0)) 21), (21, tr_lst 1 22), (22, tr_cst (.int (0)) 23), (23, tr_ist 3 24), (24, tr_ild 3 25), (25, tr_cst (.int (4)) 26)]
set_option maxRecDepth 100000 in
theorem ok_U_takeWord_0 : ∀ pc, g_S (J_U_takeWord) pc (cd_U_takeWord_0 pc) := g_tab_ok <|
  List.forall_mem_cons.mpr ⟨so_aload_n d_U_takeWord_0 rfl rfl,
  List.forall_mem_cons.mpr ⟨so_get d_U_takeWord_1 (rfl : vwCl[7]? = some (R_U, F_U, 4)) (Nat.le_of_ble_eq_true rfl) i_U w_1_165 rfl,
  List.forall_mem_cons.mpr ⟨so_cV g_good d_U_takeWord_4 ⟨w_2_28, (Nat.le_of_ble_eq_true rfl), (Nat.le_of_ble_eq_true rfl), w_1_2, ⟨by decide, by decide⟩, by decide +kernel⟩ (rfl : vwCl[0]? = some (R_I, F_I, 2)) w_3_187 w_2_26 w_2_27 rfl,
  List.forall_mem_cons.mpr ⟨so_aload_n d_U_takeWord_7 rfl rfl,
  List.forall_mem_cons.mpr ⟨so_get d_U_takeWord_8 (rfl : vwCl[7]? = some (R_U, F_U, 4)) (Nat.le_of_ble_eq_true rfl) i_U w_1_168 rfl,
  List.forall_mem_cons.mpr ⟨so_isub d_U_takeWord_11 rfl,
  List.forall_mem_cons.mpr ⟨so_iconst (by decide) d_U_takeWord_12 rfl,
  List.forall_mem_cons.mpr ⟨so_icmp_ge d_U_takeWord_13 (by decide) rfl,
  List.forall_mem_cons.mpr ⟨so_ldc2 w_3_197 d_U_takeWord_16 rfl,
  List.forall_mem_cons.mpr ⟨so_lret d_U_takeWord_19 rfl,
  List.forall_mem_cons.mpr ⟨so_lconst (by decide) d_U_takeWord_20 rfl,
  List.forall_mem_cons.mpr ⟨so_lstore_n d_U_takeWord_21 rfl (Nat.le_of_ble_eq_true rfl) rfl,
  List.forall_mem_cons.mpr ⟨so_iconst (by decide) d_U_takeWord_22 rfl,
  List.forall_mem_cons.mpr ⟨so_istore_n d_U_takeWord_23 rfl (Nat.le_of_ble_eq_true rfl) rfl,
  List.forall_mem_cons.mpr ⟨so_iload_n d_U_takeWord_24 rfl rfl,
  List.forall_mem_cons.mpr ⟨so_iconst (by decide) d_U_takeWord_25 rfl,
  fun _ h => absurd h List.not_mem_nil⟩⟩⟩⟩⟩⟩⟩⟩⟩⟩⟩⟩⟩⟩⟩⟩
def cd_U_takeWord_1 : Nat → g_T := g_tab [(26, tr_if2 (fun x y => y ≤ x) 63 29), (29, tr_lld 1 30), (30, tr_cst (.int (8)) 32), (32, tr_li (fun x y => x <<< (y.toInt64 &&& 63)) 33), (33, tr_ald 0 34), (34, tr_get 7 0 37), (37, tr_ald 0 38), (38, tr_get 7 3 41), (41, tr_cV J_I_at 0 1 44), (44, tr_i2l 45), (45, tr_ll (fun x y => x + y) 46), (46, tr_lst 1 47), (47, tr_ald 0 48), (48, tr_dup 49), (49, tr_get 7 3 52), (52, tr_cst (.int (1)) 53)]
set_option maxRecDepth 100000 in
theorem ok_U_takeWord_1 : ∀ pc, g_S (J_U_takeWord) pc (cd_U_takeWord_1 pc) := g_tab_ok <|
  List.forall_mem_cons.mpr ⟨so_icmp_ge d_U_takeWord_26 (by decide) rfl,
  List.forall_mem_cons.mpr ⟨so_lload_n d_U_takeWord_29 rfl rfl,
  List.forall_mem_cons.mpr ⟨so_bipush (by decide) d_U_takeWord_30 rfl,
  List.forall_mem_cons.mpr ⟨so_lshl d_U_takeWord_32 rfl,
  List.forall_mem_cons.mpr ⟨so_aload_n d_U_takeWord_33 rfl rfl,
  List.forall_mem_cons.mpr ⟨so_get d_U_takeWord_34 (rfl : vwCl[7]? = some (R_U, F_U, 4)) (Nat.le_of_ble_eq_true rfl) i_U w_1_165 rfl,
  List.forall_mem_cons.mpr ⟨so_aload_n d_U_takeWord_37 rfl rfl,
  List.forall_mem_cons.mpr ⟨so_get d_U_takeWord_38 (rfl : vwCl[7]? = some (R_U, F_U, 4)) (Nat.le_of_ble_eq_true rfl) i_U w_1_168 rfl,
  List.forall_mem_cons.mpr ⟨so_cV g_good d_U_takeWord_41 ⟨w_2_151, (Nat.le_of_ble_eq_true rfl), (Nat.le_of_ble_eq_true rfl), w_1_2, ⟨by decide, by decide⟩, by decide +kernel⟩ (rfl : vwCl[0]? = some (R_I, F_I, 2)) w_3_178 w_2_149 w_2_150 rfl,
  List.forall_mem_cons.mpr ⟨so_i2l d_U_takeWord_44 rfl,
  List.forall_mem_cons.mpr ⟨so_ladd d_U_takeWord_45 rfl,
  List.forall_mem_cons.mpr ⟨so_lstore_n d_U_takeWord_46 rfl (Nat.le_of_ble_eq_true rfl) rfl,
  List.forall_mem_cons.mpr ⟨so_aload_n d_U_takeWord_47 rfl rfl,
  List.forall_mem_cons.mpr ⟨so_dup d_U_takeWord_48 rfl,
  List.forall_mem_cons.mpr ⟨so_get d_U_takeWord_49 (rfl : vwCl[7]? = some (R_U, F_U, 4)) (Nat.le_of_ble_eq_true rfl) i_U w_1_168 rfl,
  List.forall_mem_cons.mpr ⟨so_iconst (by decide) d_U_takeWord_52 rfl,
  fun _ h => absurd h List.not_mem_nil⟩⟩⟩⟩⟩⟩⟩⟩⟩⟩⟩⟩⟩⟩⟩⟩
def cd_U_takeWord_2 : Nat → g_T := g_tab [(53, tr_ii (fun x y => x + y) 54), (54, tr_put 7 3 (.int) 57), (57, tr_inc 3 (1) 60), (60, tr_goto 24), (63, tr_lld 1 64), (64, tr_rl)]
set_option maxRecDepth 100000 in
theorem ok_U_takeWord_2 : ∀ pc, g_S (J_U_takeWord) pc (cd_U_takeWord_2 pc) := g_tab_ok <|
  List.forall_mem_cons.mpr ⟨so_iadd d_U_takeWord_53 rfl,
  List.forall_mem_cons.mpr ⟨so_put ft_U d_U_takeWord_54 (rfl : vwCl[7]? = some (R_U, F_U, 4)) (Nat.le_of_ble_eq_true rfl) i_U w_1_168 tk_U n_U rfl rfl rfl,
  List.forall_mem_cons.mpr ⟨so_iinc d_U_takeWord_57 (by decide) (Nat.le_of_ble_eq_true rfl) rfl,
  List.forall_mem_cons.mpr ⟨so_goto d_U_takeWord_60 (by decide),
  List.forall_mem_cons.mpr ⟨so_lload_n d_U_takeWord_63 rfl rfl,
  List.forall_mem_cons.mpr ⟨so_lret d_U_takeWord_64 rfl,
  fun _ h => absurd h List.not_mem_nil⟩⟩⟩⟩⟩⟩
def cd_U_takeWord : Nat → g_T := g_chk [(25, cd_U_takeWord_0), (52, cd_U_takeWord_1), (64, cd_U_takeWord_2)]
theorem ok_U_takeWord : ∀ pc, g_S (J_U_takeWord) pc (cd_U_takeWord pc) := g_chk_ok <|
  List.forall_mem_cons.mpr ⟨ok_U_takeWord_0,
  List.forall_mem_cons.mpr ⟨ok_U_takeWord_1,
  List.forall_mem_cons.mpr ⟨ok_U_takeWord_2,
  fun _ h => absurd h List.not_mem_nil⟩⟩⟩
abbrev J_U_takeHead : g_J := (y_U_takeHead, prog_10_method_7_code, 5, (some .boolean), (3, 63), [], none)
theorem d_U_takeHead_0 : decode prog_10_method_7_code 0 = .ok (.aload_n 0, 1) := by decide +kernel
theorem d_U_takeHead_1 : decode prog_10_method_7_code 1 = .ok (.getfield 14, 3) := by decide +kernel
theorem d_U_takeHead_4 : decode prog_10_method_7_code 4 = .ok (.iconst 0, 1) := by decide +kernel
theorem d_U_takeHead_5 : decode prog_10_method_7_code 5 = .ok (.invokevirtual 45, 3) := by decide +kernel
theorem d_U_takeHead_8 : decode prog_10_method_7_code 8 = .ok (.istore_n 1, 1) := by decide +kernel
theorem d_U_takeHead_9 : decode prog_10_method_7_code 9 = .ok (.aload_n 0, 1) := by decide +kernel
theorem d_U_takeHead_10 : decode prog_10_method_7_code 10 = .ok (.getfield 14, 3) := by decide +kernel
theorem d_U_takeHead_13 : decode prog_10_method_7_code 13 = .ok (.iconst 5, 1) := by decide +kernel
theorem d_U_takeHead_14 : decode prog_10_method_7_code 14 = .ok (.invokevirtual 45, 3) := by decide +kernel
theorem d_U_takeHead_17 : decode prog_10_method_7_code 17 = .ok (.istore_n 2, 1) := by decide +kernel
theorem d_U_takeHead_18 : decode prog_10_method_7_code 18 = .ok (.aload_n 0, 1) := by decide +kernel
theorem d_U_takeHead_19 : decode prog_10_method_7_code 19 = .ok (.iconst 1, 1) := by decide +kernel
theorem d_U_takeHead_20 : decode prog_10_method_7_code 20 = .ok (.putfield 49, 3) := by decide +kernel
theorem d_U_takeHead_23 : decode prog_10_method_7_code 23 = .ok (.aload_n 0, 1) := by decide +kernel
theorem d_U_takeHead_24 : decode prog_10_method_7_code 24 = .ok (.invokevirtual 78, 3) := by decide +kernel
theorem d_U_takeHead_27 : decode prog_10_method_7_code 27 = .ok (.lstore_n 3, 1) := by decide +kernel
theorem d_U_takeHead_28 : decode prog_10_method_7_code 28 = .ok (.iload_n 1, 1) := by decide +kernel
theorem d_U_takeHead_29 : decode prog_10_method_7_code 29 = .ok (.iconst 4, 1) := by decide +kernel
theorem d_U_takeHead_30 : decode prog_10_method_7_code 30 = .ok (.if_icmp .ge 30, 3) := by decide +kernel
theorem d_U_takeHead_33 : decode prog_10_method_7_code 33 = .ok (.lload_n 3, 1) := by decide +kernel
theorem d_U_takeHead_34 : decode prog_10_method_7_code 34 = .ok (.ldc2_w 82, 3) := by decide +kernel
theorem d_U_takeHead_37 : decode prog_10_method_7_code 37 = .ok (.lcmp, 1) := by decide +kernel
theorem d_U_takeHead_38 : decode prog_10_method_7_code 38 = .ok (.ifCond .eq 22, 3) := by decide +kernel
theorem d_U_takeHead_41 : decode prog_10_method_7_code 41 = .ok (.lload_n 3, 1) := by decide +kernel
theorem d_U_takeHead_42 : decode prog_10_method_7_code 42 = .ok (.ldc2_w 84, 3) := by decide +kernel
theorem d_U_takeHead_45 : decode prog_10_method_7_code 45 = .ok (.lcmp, 1) := by decide +kernel
theorem d_U_takeHead_46 : decode prog_10_method_7_code 46 = .ok (.ifCond .gt 14, 3) := by decide +kernel
theorem d_U_takeHead_49 : decode prog_10_method_7_code 49 = .ok (.iload_n 2, 1) := by decide +kernel
theorem d_U_takeHead_50 : decode prog_10_method_7_code 50 = .ok (.iconst 1, 1) := by decide +kernel
theorem d_U_takeHead_51 : decode prog_10_method_7_code 51 = .ok (.if_icmp .lt 9, 3) := by decide +kernel
theorem d_U_takeHead_54 : decode prog_10_method_7_code 54 = .ok (.iload_n 2, 1) := by decide +kernel
theorem d_U_takeHead_55 : decode prog_10_method_7_code 55 = .ok (.bipush 100, 2) := by decide +kernel
theorem d_U_takeHead_57 : decode prog_10_method_7_code 57 = .ok (.if_icmp .le 5, 3) := by decide +kernel
theorem d_U_takeHead_60 : decode prog_10_method_7_code 60 = .ok (.iconst 0, 1) := by decide +kernel
theorem d_U_takeHead_61 : decode prog_10_method_7_code 61 = .ok (.ireturn, 1) := by decide +kernel
theorem d_U_takeHead_62 : decode prog_10_method_7_code 62 = .ok (.aload_n 0, 1) := by decide +kernel
theorem d_U_takeHead_63 : decode prog_10_method_7_code 63 = .ok (.getfield 30, 3) := by decide +kernel
theorem d_U_takeHead_66 : decode prog_10_method_7_code 66 = .ok (.iload_n 1, 1) := by decide +kernel
theorem d_U_takeHead_67 : decode prog_10_method_7_code 67 = .ok (.lload_n 3, 1) := by decide +kernel
theorem d_U_takeHead_68 : decode prog_10_method_7_code 68 = .ok (.l2i, 1) := by decide +kernel
theorem d_U_takeHead_69 : decode prog_10_method_7_code 69 = .ok (.invokevirtual 86, 3) := by decide +kernel
theorem d_U_takeHead_72 : decode prog_10_method_7_code 72 = .ok (.aload_n 0, 1) := by decide +kernel
theorem d_U_takeHead_73 : decode prog_10_method_7_code 73 = .ok (.getfield 23, 3) := by decide +kernel
theorem d_U_takeHead_76 : decode prog_10_method_7_code 76 = .ok (.lload_n 3, 1) := by decide +kernel
theorem d_U_takeHead_77 : decode prog_10_method_7_code 77 = .ok (.l2i, 1) := by decide +kernel
theorem d_U_takeHead_78 : decode prog_10_method_7_code 78 = .ok (.invokevirtual 90, 3) := by decide +kernel
theorem d_U_takeHead_81 : decode prog_10_method_7_code 81 = .ok (.aload_n 0, 1) := by decide +kernel
theorem d_U_takeHead_82 : decode prog_10_method_7_code 82 = .ok (.bipush 6, 2) := by decide +kernel
theorem d_U_takeHead_84 : decode prog_10_method_7_code 84 = .ok (.putfield 49, 3) := by decide +kernel
theorem d_U_takeHead_87 : decode prog_10_method_7_code 87 = .ok (.iconst 1, 1) := by decide +kernel
theorem d_U_takeHead_88 : decode prog_10_method_7_code 88 = .ok (.ireturn, 1) := by decide +kernel
def cd_U_takeHead_0 : Nat → g_T := g_tab [(0, tr_ald 0 1), (1, tr_get 7 0 4), (4, tr_cst (.int (0)) 5), (5, tr_cV J_I_at 0 1 8), (8, tr_ist 1 9), (9, tr_ald 0 10), (10, tr_get 7 0 13), (13, tr_cst (.int (5)) 14), (14, tr_cV J_I_at 0 1 17), (17, tr_ist 2 18), (18, tr_ald 0 19), (19, tr_cst (.int (1)) 20), (20, tr_put 7 3 (.int) 23), (23, tr_ald 0 24), (24, tr_cV J_U_takeWord 7 0 27), (27, tr_lst 3 28)]
set_option maxRecDepth 100000 in
theorem ok_U_takeHead_0 : ∀ pc, g_S (J_U_takeHead) pc (cd_U_takeHead_0 pc) := g_tab_ok <|
  List.forall_mem_cons.mpr ⟨so_aload_n d_U_takeHead_0 rfl rfl,
  List.forall_mem_cons.mpr ⟨so_get d_U_takeHead_1 (rfl : vwCl[7]? = some (R_U, F_U, 4)) (Nat.le_of_ble_eq_true rfl) i_U w_1_165 rfl,
  List.forall_mem_cons.mpr ⟨so_iconst (by decide) d_U_takeHead_4 rfl,
  List.forall_mem_cons.mpr ⟨so_cV g_good d_U_takeHead_5 ⟨w_2_151, (Nat.le_of_ble_eq_true rfl), (Nat.le_of_ble_eq_true rfl), w_1_2, ⟨by decide, by decide⟩, by decide +kernel⟩ (rfl : vwCl[0]? = some (R_I, F_I, 2)) w_3_178 w_2_149 w_2_150 rfl,
  List.forall_mem_cons.mpr ⟨so_istore_n d_U_takeHead_8 rfl (Nat.le_of_ble_eq_true rfl) rfl,
  List.forall_mem_cons.mpr ⟨so_aload_n d_U_takeHead_9 rfl rfl,
  List.forall_mem_cons.mpr ⟨so_get d_U_takeHead_10 (rfl : vwCl[7]? = some (R_U, F_U, 4)) (Nat.le_of_ble_eq_true rfl) i_U w_1_165 rfl,
  List.forall_mem_cons.mpr ⟨so_iconst (by decide) d_U_takeHead_13 rfl,
  List.forall_mem_cons.mpr ⟨so_cV g_good d_U_takeHead_14 ⟨w_2_151, (Nat.le_of_ble_eq_true rfl), (Nat.le_of_ble_eq_true rfl), w_1_2, ⟨by decide, by decide⟩, by decide +kernel⟩ (rfl : vwCl[0]? = some (R_I, F_I, 2)) w_3_178 w_2_149 w_2_150 rfl,
  List.forall_mem_cons.mpr ⟨so_istore_n d_U_takeHead_17 rfl (Nat.le_of_ble_eq_true rfl) rfl,
  List.forall_mem_cons.mpr ⟨so_aload_n d_U_takeHead_18 rfl rfl,
  List.forall_mem_cons.mpr ⟨so_iconst (by decide) d_U_takeHead_19 rfl,
  List.forall_mem_cons.mpr ⟨so_put ft_U d_U_takeHead_20 (rfl : vwCl[7]? = some (R_U, F_U, 4)) (Nat.le_of_ble_eq_true rfl) i_U w_1_168 tk_U n_U rfl rfl rfl,
  List.forall_mem_cons.mpr ⟨so_aload_n d_U_takeHead_23 rfl rfl,
  List.forall_mem_cons.mpr ⟨so_cV g_good d_U_takeHead_24 ⟨w_3_196, (Nat.le_of_ble_eq_true rfl), (Nat.le_of_ble_eq_true rfl), w_1_10, ⟨by decide, by decide⟩, by decide +kernel⟩ (rfl : vwCl[7]? = some (R_U, F_U, 4)) w_3_193 w_3_195 w_p15 rfl,
  List.forall_mem_cons.mpr ⟨so_lstore_n d_U_takeHead_27 rfl (Nat.le_of_ble_eq_true rfl) rfl,
  fun _ h => absurd h List.not_mem_nil⟩⟩⟩⟩⟩⟩⟩⟩⟩⟩⟩⟩⟩⟩⟩⟩
def cd_U_takeHead_1 : Nat → g_T := g_tab [(28, tr_ild 1 29), (29, tr_cst (.int (4)) 30), (30, tr_if2 (fun x y => y ≤ x) 60 33), (33, tr_lld 3 34), (34, tr_cst (.long (-1)) 37), (37, tr_lcmp 38), (38, tr_if1 (fun x => x = 0) 60 41), (41, tr_lld 3 42), (42, tr_cst (.long (2147483647)) 45), (45, tr_lcmp 46), (46, tr_if1 (fun x => 0 < x) 60 49), (49, tr_ild 2 50), (50, tr_cst (.int (1)) 51), (51, tr_if2 (fun x y => x < y) 60 54), (54, tr_ild 2 55), (55, tr_cst (.int (100)) 57)]
set_option maxRecDepth 100000 in
theorem ok_U_takeHead_1 : ∀ pc, g_S (J_U_takeHead) pc (cd_U_takeHead_1 pc) := g_tab_ok <|
  List.forall_mem_cons.mpr ⟨so_iload_n d_U_takeHead_28 rfl rfl,
  List.forall_mem_cons.mpr ⟨so_iconst (by decide) d_U_takeHead_29 rfl,
  List.forall_mem_cons.mpr ⟨so_icmp_ge d_U_takeHead_30 (by decide) rfl,
  List.forall_mem_cons.mpr ⟨so_lload_n d_U_takeHead_33 rfl rfl,
  List.forall_mem_cons.mpr ⟨so_ldc2 w_3_197 d_U_takeHead_34 rfl,
  List.forall_mem_cons.mpr ⟨so_lcmp d_U_takeHead_37 rfl,
  List.forall_mem_cons.mpr ⟨so_if_eq d_U_takeHead_38 (by decide) rfl,
  List.forall_mem_cons.mpr ⟨so_lload_n d_U_takeHead_41 rfl rfl,
  List.forall_mem_cons.mpr ⟨so_ldc2 w_3_198 d_U_takeHead_42 rfl,
  List.forall_mem_cons.mpr ⟨so_lcmp d_U_takeHead_45 rfl,
  List.forall_mem_cons.mpr ⟨so_if_gt d_U_takeHead_46 (by decide) rfl,
  List.forall_mem_cons.mpr ⟨so_iload_n d_U_takeHead_49 rfl rfl,
  List.forall_mem_cons.mpr ⟨so_iconst (by decide) d_U_takeHead_50 rfl,
  List.forall_mem_cons.mpr ⟨so_icmp_lt d_U_takeHead_51 (by decide) rfl,
  List.forall_mem_cons.mpr ⟨so_iload_n d_U_takeHead_54 rfl rfl,
  List.forall_mem_cons.mpr ⟨so_bipush (by decide) d_U_takeHead_55 rfl,
  fun _ h => absurd h List.not_mem_nil⟩⟩⟩⟩⟩⟩⟩⟩⟩⟩⟩⟩⟩⟩⟩⟩
def cd_U_takeHead_2 : Nat → g_T := g_tab [(57, tr_if2 (fun x y => x ≤ y) 62 60), (60, tr_cst (.int (0)) 61), (61, tr_rz), (62, tr_ald 0 63), (63, tr_get 7 2 66), (66, tr_ild 1 67), (67, tr_lld 3 68), (68, tr_l2i 69), (69, tr_cV J_B_begin 2 2 72), (72, tr_ald 0 73), (73, tr_get 7 1 76), (76, tr_lld 3 77), (77, tr_l2i 78), (78, tr_cV J_M_begin 4 1 81), (81, tr_ald 0 82), (82, tr_cst (.int (6)) 84)]
set_option maxRecDepth 100000 in
theorem ok_U_takeHead_2 : ∀ pc, g_S (J_U_takeHead) pc (cd_U_takeHead_2 pc) := g_tab_ok <|
  List.forall_mem_cons.mpr ⟨so_icmp_le d_U_takeHead_57 (by decide) rfl,
  List.forall_mem_cons.mpr ⟨so_iconst (by decide) d_U_takeHead_60 rfl,
  List.forall_mem_cons.mpr ⟨so_zret d_U_takeHead_61 rfl,
  List.forall_mem_cons.mpr ⟨so_aload_n d_U_takeHead_62 rfl rfl,
  List.forall_mem_cons.mpr ⟨so_get d_U_takeHead_63 (rfl : vwCl[7]? = some (R_U, F_U, 4)) (Nat.le_of_ble_eq_true rfl) i_U w_1_167 rfl,
  List.forall_mem_cons.mpr ⟨so_iload_n d_U_takeHead_66 rfl rfl,
  List.forall_mem_cons.mpr ⟨so_lload_n d_U_takeHead_67 rfl rfl,
  List.forall_mem_cons.mpr ⟨so_l2i d_U_takeHead_68 rfl,
  List.forall_mem_cons.mpr ⟨so_cV g_good d_U_takeHead_69 ⟨w_3_82, (Nat.le_of_ble_eq_true rfl), (Nat.le_of_ble_eq_true rfl), w_1_4, ⟨by decide, by decide⟩, by decide +kernel⟩ (rfl : vwCl[2]? = some (R_B, F_B, 5)) w_3_199 w_3_80 w_3_81 rfl,
  List.forall_mem_cons.mpr ⟨so_aload_n d_U_takeHead_72 rfl rfl,
  List.forall_mem_cons.mpr ⟨so_get d_U_takeHead_73 (rfl : vwCl[7]? = some (R_U, F_U, 4)) (Nat.le_of_ble_eq_true rfl) i_U w_1_166 rfl,
  List.forall_mem_cons.mpr ⟨so_lload_n d_U_takeHead_76 rfl rfl,
  List.forall_mem_cons.mpr ⟨so_l2i d_U_takeHead_77 rfl,
  List.forall_mem_cons.mpr ⟨so_cV g_good d_U_takeHead_78 ⟨w_2_192, (Nat.le_of_ble_eq_true rfl), (Nat.le_of_ble_eq_true rfl), w_1_6, ⟨by decide, by decide⟩, by decide +kernel⟩ (rfl : vwCl[4]? = some (R_M, F_M, 5)) w_3_200 w_2_190 w_2_191 rfl,
  List.forall_mem_cons.mpr ⟨so_aload_n d_U_takeHead_81 rfl rfl,
  List.forall_mem_cons.mpr ⟨so_bipush (by decide) d_U_takeHead_82 rfl,
  fun _ h => absurd h List.not_mem_nil⟩⟩⟩⟩⟩⟩⟩⟩⟩⟩⟩⟩⟩⟩⟩⟩
def cd_U_takeHead_3 : Nat → g_T := g_tab [(84, tr_put 7 3 (.int) 87), (87, tr_cst (.int (1)) 88), (88, tr_rz)]
set_option maxRecDepth 100000 in
theorem ok_U_takeHead_3 : ∀ pc, g_S (J_U_takeHead) pc (cd_U_takeHead_3 pc) := g_tab_ok <|
  List.forall_mem_cons.mpr ⟨so_put ft_U d_U_takeHead_84 (rfl : vwCl[7]? = some (R_U, F_U, 4)) (Nat.le_of_ble_eq_true rfl) i_U w_1_168 tk_U n_U rfl rfl rfl,
  List.forall_mem_cons.mpr ⟨so_iconst (by decide) d_U_takeHead_87 rfl,
  List.forall_mem_cons.mpr ⟨so_zret d_U_takeHead_88 rfl,
  fun _ h => absurd h List.not_mem_nil⟩⟩⟩
def cd_U_takeHead : Nat → g_T := g_chk [(27, cd_U_takeHead_0), (55, cd_U_takeHead_1), (82, cd_U_takeHead_2), (88, cd_U_takeHead_3)]
theorem ok_U_takeHead : ∀ pc, g_S (J_U_takeHead) pc (cd_U_takeHead pc) := g_chk_ok <|
  List.forall_mem_cons.mpr ⟨ok_U_takeHead_0,
  List.forall_mem_cons.mpr ⟨ok_U_takeHead_1,
  List.forall_mem_cons.mpr ⟨ok_U_takeHead_2,
  List.forall_mem_cons.mpr ⟨ok_U_takeHead_3,
  fun _ h => absurd h List.not_mem_nil⟩⟩⟩⟩
abbrev J_U_isNumberBehind : g_J := (y_U_isNumberBehind, prog_10_method_9_code, 2, (some .boolean), (0, 0), [], none)
theorem d_U_isNumberBehind_0 : decode prog_10_method_9_code 0 = .ok (.iload_n 0, 1) := by decide +kernel
theorem d_U_isNumberBehind_1 : decode prog_10_method_9_code 1 = .ok (.tableswitch 58 1 4 #[31, 33, 44, 56], 31) := by decide +kernel
theorem d_U_isNumberBehind_32 : decode prog_10_method_9_code 32 = .ok (.iconst 1, 1) := by decide +kernel
theorem d_U_isNumberBehind_33 : decode prog_10_method_9_code 33 = .ok (.ireturn, 1) := by decide +kernel
theorem d_U_isNumberBehind_34 : decode prog_10_method_9_code 34 = .ok (.iload_n 1, 1) := by decide +kernel
theorem d_U_isNumberBehind_35 : decode prog_10_method_9_code 35 = .ok (.iconst 1, 1) := by decide +kernel
theorem d_U_isNumberBehind_36 : decode prog_10_method_9_code 36 = .ok (.if_icmp .ne 7, 3) := by decide +kernel
theorem d_U_isNumberBehind_39 : decode prog_10_method_9_code 39 = .ok (.iconst 1, 1) := by decide +kernel
theorem d_U_isNumberBehind_40 : decode prog_10_method_9_code 40 = .ok (.goto 4, 3) := by decide +kernel
theorem d_U_isNumberBehind_43 : decode prog_10_method_9_code 43 = .ok (.iconst 0, 1) := by decide +kernel
theorem d_U_isNumberBehind_44 : decode prog_10_method_9_code 44 = .ok (.ireturn, 1) := by decide +kernel
theorem d_U_isNumberBehind_45 : decode prog_10_method_9_code 45 = .ok (.iload_n 1, 1) := by decide +kernel
theorem d_U_isNumberBehind_46 : decode prog_10_method_9_code 46 = .ok (.bipush 16, 2) := by decide +kernel
theorem d_U_isNumberBehind_48 : decode prog_10_method_9_code 48 = .ok (.if_icmp .lt 7, 3) := by decide +kernel
theorem d_U_isNumberBehind_51 : decode prog_10_method_9_code 51 = .ok (.iconst 1, 1) := by decide +kernel
theorem d_U_isNumberBehind_52 : decode prog_10_method_9_code 52 = .ok (.goto 4, 3) := by decide +kernel
theorem d_U_isNumberBehind_55 : decode prog_10_method_9_code 55 = .ok (.iconst 0, 1) := by decide +kernel
theorem d_U_isNumberBehind_56 : decode prog_10_method_9_code 56 = .ok (.ireturn, 1) := by decide +kernel
theorem d_U_isNumberBehind_57 : decode prog_10_method_9_code 57 = .ok (.iconst 1, 1) := by decide +kernel
theorem d_U_isNumberBehind_58 : decode prog_10_method_9_code 58 = .ok (.ireturn, 1) := by decide +kernel
theorem d_U_isNumberBehind_59 : decode prog_10_method_9_code 59 = .ok (.iconst 0, 1) := by decide +kernel
theorem d_U_isNumberBehind_60 : decode prog_10_method_9_code 60 = .ok (.ireturn, 1) := by decide +kernel
def cd_U_isNumberBehind_0 : Nat → g_T := g_tab [(0, tr_ild 0 1), (1, tr_sw [(1, 32), (2, 34), (3, 45), (4, 57)] 59), (32, tr_cst (.int (1)) 33), (33, tr_rz), (34, tr_ild 1 35), (35, tr_cst (.int (1)) 36), (36, tr_if2 (fun x y => ¬ x = y) 43 39), (39, tr_cst (.int (1)) 40), (40, tr_goto 44), (43, tr_cst (.int (0)) 44), (44, tr_rz), (45, tr_ild 1 46), (46, tr_cst (.int (16)) 48), (48, tr_if2 (fun x y => x < y) 55 51), (51, tr_cst (.int (1)) 52), (52, tr_goto 56)]
set_option maxRecDepth 100000 in
theorem ok_U_isNumberBehind_0 : ∀ pc, g_S (J_U_isNumberBehind) pc (cd_U_isNumberBehind_0 pc) := g_tab_ok <|
  List.forall_mem_cons.mpr ⟨so_iload_n d_U_isNumberBehind_0 rfl rfl,
  List.forall_mem_cons.mpr ⟨so_tsw d_U_isNumberBehind_1 (by decide) (by decide) (by decide) (by decide),
  List.forall_mem_cons.mpr ⟨so_iconst (by decide) d_U_isNumberBehind_32 rfl,
  List.forall_mem_cons.mpr ⟨so_zret d_U_isNumberBehind_33 rfl,
  List.forall_mem_cons.mpr ⟨so_iload_n d_U_isNumberBehind_34 rfl rfl,
  List.forall_mem_cons.mpr ⟨so_iconst (by decide) d_U_isNumberBehind_35 rfl,
  List.forall_mem_cons.mpr ⟨so_icmp_ne d_U_isNumberBehind_36 (by decide) rfl,
  List.forall_mem_cons.mpr ⟨so_iconst (by decide) d_U_isNumberBehind_39 rfl,
  List.forall_mem_cons.mpr ⟨so_goto d_U_isNumberBehind_40 (by decide),
  List.forall_mem_cons.mpr ⟨so_iconst (by decide) d_U_isNumberBehind_43 rfl,
  List.forall_mem_cons.mpr ⟨so_zret d_U_isNumberBehind_44 rfl,
  List.forall_mem_cons.mpr ⟨so_iload_n d_U_isNumberBehind_45 rfl rfl,
  List.forall_mem_cons.mpr ⟨so_bipush (by decide) d_U_isNumberBehind_46 rfl,
  List.forall_mem_cons.mpr ⟨so_icmp_lt d_U_isNumberBehind_48 (by decide) rfl,
  List.forall_mem_cons.mpr ⟨so_iconst (by decide) d_U_isNumberBehind_51 rfl,
  List.forall_mem_cons.mpr ⟨so_goto d_U_isNumberBehind_52 (by decide),
  fun _ h => absurd h List.not_mem_nil⟩⟩⟩⟩⟩⟩⟩⟩⟩⟩⟩⟩⟩⟩⟩⟩
def cd_U_isNumberBehind_1 : Nat → g_T := g_tab [(55, tr_cst (.int (0)) 56), (56, tr_rz), (57, tr_cst (.int (1)) 58), (58, tr_rz), (59, tr_cst (.int (0)) 60), (60, tr_rz)]
set_option maxRecDepth 100000 in
theorem ok_U_isNumberBehind_1 : ∀ pc, g_S (J_U_isNumberBehind) pc (cd_U_isNumberBehind_1 pc) := g_tab_ok <|
  List.forall_mem_cons.mpr ⟨so_iconst (by decide) d_U_isNumberBehind_55 rfl,
  List.forall_mem_cons.mpr ⟨so_zret d_U_isNumberBehind_56 rfl,
  List.forall_mem_cons.mpr ⟨so_iconst (by decide) d_U_isNumberBehind_57 rfl,
  List.forall_mem_cons.mpr ⟨so_zret d_U_isNumberBehind_58 rfl,
  List.forall_mem_cons.mpr ⟨so_iconst (by decide) d_U_isNumberBehind_59 rfl,
  List.forall_mem_cons.mpr ⟨so_zret d_U_isNumberBehind_60 rfl,
  fun _ h => absurd h List.not_mem_nil⟩⟩⟩⟩⟩⟩
def cd_U_isNumberBehind : Nat → g_T := g_chk [(52, cd_U_isNumberBehind_0), (60, cd_U_isNumberBehind_1)]
theorem ok_U_isNumberBehind : ∀ pc, g_S (J_U_isNumberBehind) pc (cd_U_isNumberBehind pc) := g_chk_ok <|
  List.forall_mem_cons.mpr ⟨ok_U_isNumberBehind_0,
  List.forall_mem_cons.mpr ⟨ok_U_isNumberBehind_1,
  fun _ h => absurd h List.not_mem_nil⟩⟩
abbrev J_U_isLastOfNumber : g_J := (y_U_isLastOfNumber, prog_10_method_16_code, 2, (some .boolean), (0, 0), [], none)
theorem d_U_isLastOfNumber_0 : decode prog_10_method_16_code 0 = .ok (.iload_n 1, 1) := by decide +kernel
theorem d_U_isLastOfNumber_1 : decode prog_10_method_16_code 1 = .ok (.iconst 4, 1) := by decide +kernel
theorem d_U_isLastOfNumber_2 : decode prog_10_method_16_code 2 = .ok (.if_icmp .ne 11, 3) := by decide +kernel
theorem d_U_isLastOfNumber_5 : decode prog_10_method_16_code 5 = .ok (.iload_n 0, 1) := by decide +kernel
theorem d_U_isLastOfNumber_6 : decode prog_10_method_16_code 6 = .ok (.bipush 15, 2) := by decide +kernel
theorem d_U_isLastOfNumber_8 : decode prog_10_method_16_code 8 = .ok (.if_icmp .le 5, 3) := by decide +kernel
theorem d_U_isLastOfNumber_11 : decode prog_10_method_16_code 11 = .ok (.iconst 0, 1) := by decide +kernel
theorem d_U_isLastOfNumber_12 : decode prog_10_method_16_code 12 = .ok (.ireturn, 1) := by decide +kernel
theorem d_U_isLastOfNumber_13 : decode prog_10_method_16_code 13 = .ok (.iload_n 1, 1) := by decide +kernel
theorem d_U_isLastOfNumber_14 : decode prog_10_method_16_code 14 = .ok (.ifCond .eq 7, 3) := by decide +kernel
theorem d_U_isLastOfNumber_17 : decode prog_10_method_16_code 17 = .ok (.iload_n 0, 1) := by decide +kernel
theorem d_U_isLastOfNumber_18 : decode prog_10_method_16_code 18 = .ok (.ifCond .eq 7, 3) := by decide +kernel
theorem d_U_isLastOfNumber_21 : decode prog_10_method_16_code 21 = .ok (.iconst 1, 1) := by decide +kernel
theorem d_U_isLastOfNumber_22 : decode prog_10_method_16_code 22 = .ok (.goto 4, 3) := by decide +kernel
theorem d_U_isLastOfNumber_25 : decode prog_10_method_16_code 25 = .ok (.iconst 0, 1) := by decide +kernel
theorem d_U_isLastOfNumber_26 : decode prog_10_method_16_code 26 = .ok (.ireturn, 1) := by decide +kernel
def cd_U_isLastOfNumber_0 : Nat → g_T := g_tab [(0, tr_ild 1 1), (1, tr_cst (.int (4)) 2), (2, tr_if2 (fun x y => ¬ x = y) 13 5), (5, tr_ild 0 6), (6, tr_cst (.int (15)) 8), (8, tr_if2 (fun x y => x ≤ y) 13 11), (11, tr_cst (.int (0)) 12), (12, tr_rz), (13, tr_ild 1 14), (14, tr_if1 (fun x => x = 0) 21 17), (17, tr_ild 0 18), (18, tr_if1 (fun x => x = 0) 25 21), (21, tr_cst (.int (1)) 22), (22, tr_goto 26), (25, tr_cst (.int (0)) 26), (26, tr_rz)]
set_option maxRecDepth 100000 in
theorem ok_U_isLastOfNumber_0 : ∀ pc, g_S (J_U_isLastOfNumber) pc (cd_U_isLastOfNumber_0 pc) := g_tab_ok <|
  List.forall_mem_cons.mpr ⟨so_iload_n d_U_isLastOfNumber_0 rfl rfl,
  List.forall_mem_cons.mpr ⟨so_iconst (by decide) d_U_isLastOfNumber_1 rfl,
  List.forall_mem_cons.mpr ⟨so_icmp_ne d_U_isLastOfNumber_2 (by decide) rfl,
  List.forall_mem_cons.mpr ⟨so_iload_n d_U_isLastOfNumber_5 rfl rfl,
  List.forall_mem_cons.mpr ⟨so_bipush (by decide) d_U_isLastOfNumber_6 rfl,
  List.forall_mem_cons.mpr ⟨so_icmp_le d_U_isLastOfNumber_8 (by decide) rfl,
  List.forall_mem_cons.mpr ⟨so_iconst (by decide) d_U_isLastOfNumber_11 rfl,
  List.forall_mem_cons.mpr ⟨so_zret d_U_isLastOfNumber_12 rfl,
  List.forall_mem_cons.mpr ⟨so_iload_n d_U_isLastOfNumber_13 rfl rfl,
  List.forall_mem_cons.mpr ⟨so_if_eq d_U_isLastOfNumber_14 (by decide) rfl,
  List.forall_mem_cons.mpr ⟨so_iload_n d_U_isLastOfNumber_17 rfl rfl,
  List.forall_mem_cons.mpr ⟨so_if_eq d_U_isLastOfNumber_18 (by decide) rfl,
  List.forall_mem_cons.mpr ⟨so_iconst (by decide) d_U_isLastOfNumber_21 rfl,
  List.forall_mem_cons.mpr ⟨so_goto d_U_isLastOfNumber_22 (by decide),
  List.forall_mem_cons.mpr ⟨so_iconst (by decide) d_U_isLastOfNumber_25 rfl,
  List.forall_mem_cons.mpr ⟨so_zret d_U_isLastOfNumber_26 rfl,
  fun _ h => absurd h List.not_mem_nil⟩⟩⟩⟩⟩⟩⟩⟩⟩⟩⟩⟩⟩⟩⟩⟩
def cd_U_isLastOfNumber : Nat → g_T := g_chk [(26, cd_U_isLastOfNumber_0)]
theorem ok_U_isLastOfNumber : ∀ pc, g_S (J_U_isLastOfNumber) pc (cd_U_isLastOfNumber pc) := g_chk_ok <|
  List.forall_mem_cons.mpr ⟨ok_U_isLastOfNumber_0,
  fun _ h => absurd h List.not_mem_nil⟩
abbrev J_U_takeNumber : g_J := (y_U_takeNumber, prog_10_method_15_code, 5, (some .long), (1, 21), [], none)
theorem d_U_takeNumber_0 : decode prog_10_method_15_code 0 = .ok (.lconst 0, 1) := by decide +kernel
theorem d_U_takeNumber_1 : decode prog_10_method_15_code 1 = .ok (.lstore_n 1, 1) := by decide +kernel
theorem d_U_takeNumber_2 : decode prog_10_method_15_code 2 = .ok (.iconst 0, 1) := by decide +kernel
theorem d_U_takeNumber_3 : decode prog_10_method_15_code 3 = .ok (.istore_n 3, 1) := by decide +kernel
theorem d_U_takeNumber_4 : decode prog_10_method_15_code 4 = .ok (.iload_n 3, 1) := by decide +kernel
theorem d_U_takeNumber_5 : decode prog_10_method_15_code 5 = .ok (.iconst 5, 1) := by decide +kernel
theorem d_U_takeNumber_6 : decode prog_10_method_15_code 6 = .ok (.if_icmp .ge 82, 3) := by decide +kernel
theorem d_U_takeNumber_9 : decode prog_10_method_15_code 9 = .ok (.aload_n 0, 1) := by decide +kernel
theorem d_U_takeNumber_10 : decode prog_10_method_15_code 10 = .ok (.getfield 14, 3) := by decide +kernel
theorem d_U_takeNumber_13 : decode prog_10_method_15_code 13 = .ok (.aload_n 0, 1) := by decide +kernel
theorem d_U_takeNumber_14 : decode prog_10_method_15_code 14 = .ok (.getfield 49, 3) := by decide +kernel
theorem d_U_takeNumber_17 : decode prog_10_method_15_code 17 = .ok (.invokevirtual 45, 3) := by decide +kernel
theorem d_U_takeNumber_20 : decode prog_10_method_15_code 20 = .ok (.istore 4, 2) := by decide +kernel
theorem d_U_takeNumber_22 : decode prog_10_method_15_code 22 = .ok (.aload_n 0, 1) := by decide +kernel
theorem d_U_takeNumber_23 : decode prog_10_method_15_code 23 = .ok (.dup, 1) := by decide +kernel
theorem d_U_takeNumber_24 : decode prog_10_method_15_code 24 = .ok (.getfield 49, 3) := by decide +kernel
theorem d_U_takeNumber_27 : decode prog_10_method_15_code 27 = .ok (.iconst 1, 1) := by decide +kernel
theorem d_U_takeNumber_28 : decode prog_10_method_15_code 28 = .ok (.iadd, 1) := by decide +kernel
theorem d_U_takeNumber_29 : decode prog_10_method_15_code 29 = .ok (.putfield 49, 3) := by decide +kernel
theorem d_U_takeNumber_32 : decode prog_10_method_15_code 32 = .ok (.iload 4, 2) := by decide +kernel
theorem d_U_takeNumber_34 : decode prog_10_method_15_code 34 = .ok (.iconst (-1), 1) := by decide +kernel
theorem d_U_takeNumber_35 : decode prog_10_method_15_code 35 = .ok (.if_icmp .ne 7, 3) := by decide +kernel
theorem d_U_takeNumber_38 : decode prog_10_method_15_code 38 = .ok (.ldc2_w 82, 3) := by decide +kernel
theorem d_U_takeNumber_41 : decode prog_10_method_15_code 41 = .ok (.lreturn, 1) := by decide +kernel
theorem d_U_takeNumber_42 : decode prog_10_method_15_code 42 = .ok (.lload_n 1, 1) := by decide +kernel
theorem d_U_takeNumber_43 : decode prog_10_method_15_code 43 = .ok (.iload 4, 2) := by decide +kernel
theorem d_U_takeNumber_45 : decode prog_10_method_15_code 45 = .ok (.sipush 128, 3) := by decide +kernel
theorem d_U_takeNumber_48 : decode prog_10_method_15_code 48 = .ok (.irem, 1) := by decide +kernel
theorem d_U_takeNumber_49 : decode prog_10_method_15_code 49 = .ok (.i2l, 1) := by decide +kernel
theorem d_U_takeNumber_50 : decode prog_10_method_15_code 50 = .ok (.bipush 7, 2) := by decide +kernel
theorem d_U_takeNumber_52 : decode prog_10_method_15_code 52 = .ok (.iload_n 3, 1) := by decide +kernel
theorem d_U_takeNumber_53 : decode prog_10_method_15_code 53 = .ok (.imul, 1) := by decide +kernel
theorem d_U_takeNumber_54 : decode prog_10_method_15_code 54 = .ok (.lshl, 1) := by decide +kernel
theorem d_U_takeNumber_55 : decode prog_10_method_15_code 55 = .ok (.ladd, 1) := by decide +kernel
theorem d_U_takeNumber_56 : decode prog_10_method_15_code 56 = .ok (.lstore_n 1, 1) := by decide +kernel
theorem d_U_takeNumber_57 : decode prog_10_method_15_code 57 = .ok (.iload 4, 2) := by decide +kernel
theorem d_U_takeNumber_59 : decode prog_10_method_15_code 59 = .ok (.sipush 128, 3) := by decide +kernel
theorem d_U_takeNumber_62 : decode prog_10_method_15_code 62 = .ok (.if_icmp .ge 20, 3) := by decide +kernel
theorem d_U_takeNumber_65 : decode prog_10_method_15_code 65 = .ok (.iload 4, 2) := by decide +kernel
theorem d_U_takeNumber_67 : decode prog_10_method_15_code 67 = .ok (.iload_n 3, 1) := by decide +kernel
theorem d_U_takeNumber_68 : decode prog_10_method_15_code 68 = .ok (.invokestatic 162, 3) := by decide +kernel
theorem d_U_takeNumber_71 : decode prog_10_method_15_code 71 = .ok (.ifCond .eq 7, 3) := by decide +kernel
theorem d_U_takeNumber_74 : decode prog_10_method_15_code 74 = .ok (.lload_n 1, 1) := by decide +kernel
theorem d_U_takeNumber_75 : decode prog_10_method_15_code 75 = .ok (.goto 6, 3) := by decide +kernel
theorem d_U_takeNumber_78 : decode prog_10_method_15_code 78 = .ok (.ldc2_w 82, 3) := by decide +kernel
theorem d_U_takeNumber_81 : decode prog_10_method_15_code 81 = .ok (.lreturn, 1) := by decide +kernel
theorem d_U_takeNumber_82 : decode prog_10_method_15_code 82 = .ok (.iinc 3 1, 3) := by decide +kernel
theorem d_U_takeNumber_85 : decode prog_10_method_15_code 85 = .ok (.goto (-81), 3) := by decide +kernel
theorem d_U_takeNumber_88 : decode prog_10_method_15_code 88 = .ok (.ldc2_w 82, 3) := by decide +kernel
theorem d_U_takeNumber_91 : decode prog_10_method_15_code 91 = .ok (.lreturn, 1) := by decide +kernel
def cd_U_takeNumber_0 : Nat → g_T := g_tab [(0, tr_cst (.long (0)) 1), (1, tr_lst 1 2), (2, tr_cst (.int (0)) 3), (3, tr_ist 3 4), (4, tr_ild 3 5), (5, tr_cst (.int (5)) 6), (6, tr_if2 (fun x y => y ≤ x) 88 9), (9, tr_ald 0 10), (10, tr_get 7 0 13), (13, tr_ald 0 14), (14, tr_get 7 3 17), (17, tr_cV J_I_at 0 1 20), (20, tr_ist 4 22), (22, tr_ald 0 23), (23, tr_dup 24), (24, tr_get 7 3 27)]
set_option maxRecDepth 100000 in
theorem ok_U_takeNumber_0 : ∀ pc, g_S (J_U_takeNumber) pc (cd_U_takeNumber_0 pc) := g_tab_ok <|
  List.forall_mem_cons.mpr ⟨so_lconst (by decide) d_U_takeNumber_0 rfl,
  List.forall_mem_cons.mpr ⟨so_lstore_n d_U_takeNumber_1 rfl (Nat.le_of_ble_eq_true rfl) rfl,
  List.forall_mem_cons.mpr ⟨so_iconst (by decide) d_U_takeNumber_2 rfl,
  List.forall_mem_cons.mpr ⟨so_istore_n d_U_takeNumber_3 rfl (Nat.le_of_ble_eq_true rfl) rfl,
  List.forall_mem_cons.mpr ⟨so_iload_n d_U_takeNumber_4 rfl rfl,
  List.forall_mem_cons.mpr ⟨so_iconst (by decide) d_U_takeNumber_5 rfl,
  List.forall_mem_cons.mpr ⟨so_icmp_ge d_U_takeNumber_6 (by decide) rfl,
  List.forall_mem_cons.mpr ⟨so_aload_n d_U_takeNumber_9 rfl rfl,
  List.forall_mem_cons.mpr ⟨so_get d_U_takeNumber_10 (rfl : vwCl[7]? = some (R_U, F_U, 4)) (Nat.le_of_ble_eq_true rfl) i_U w_1_165 rfl,
  List.forall_mem_cons.mpr ⟨so_aload_n d_U_takeNumber_13 rfl rfl,
  List.forall_mem_cons.mpr ⟨so_get d_U_takeNumber_14 (rfl : vwCl[7]? = some (R_U, F_U, 4)) (Nat.le_of_ble_eq_true rfl) i_U w_1_168 rfl,
  List.forall_mem_cons.mpr ⟨so_cV g_good d_U_takeNumber_17 ⟨w_2_151, (Nat.le_of_ble_eq_true rfl), (Nat.le_of_ble_eq_true rfl), w_1_2, ⟨by decide, by decide⟩, by decide +kernel⟩ (rfl : vwCl[0]? = some (R_I, F_I, 2)) w_3_178 w_2_149 w_2_150 rfl,
  List.forall_mem_cons.mpr ⟨so_istore d_U_takeNumber_20 (Nat.le_of_ble_eq_true rfl) rfl,
  List.forall_mem_cons.mpr ⟨so_aload_n d_U_takeNumber_22 rfl rfl,
  List.forall_mem_cons.mpr ⟨so_dup d_U_takeNumber_23 rfl,
  List.forall_mem_cons.mpr ⟨so_get d_U_takeNumber_24 (rfl : vwCl[7]? = some (R_U, F_U, 4)) (Nat.le_of_ble_eq_true rfl) i_U w_1_168 rfl,
  fun _ h => absurd h List.not_mem_nil⟩⟩⟩⟩⟩⟩⟩⟩⟩⟩⟩⟩⟩⟩⟩⟩
def cd_U_takeNumber_1 : Nat → g_T := g_tab [(27, tr_cst (.int (1)) 28), (28, tr_ii (fun x y => x + y) 29), (29, tr_put 7 3 (.int) 32), (32, tr_ild 4 34), (34, tr_cst (.int (-1)) 35), (35, tr_if2 (fun x y => ¬ x = y) 42 38), (38, tr_cst (.long (-1)) 41), (41, tr_rl), (42, tr_lld 1 43), (43, tr_ild 4 45), (45, tr_cst (.int (128)) 48), (48, tr_iz (fun x y => x - x / y * y) 49), (49, tr_i2l 50), (50, tr_cst (.int (7)) 52), (52, tr_ild 3 53), (53, tr_ii (fun x y => x * y) 54)]
set_option maxRecDepth 100000 in
theorem ok_U_takeNumber_1 : ∀ pc, g_S (J_U_takeNumber) pc (cd_U_takeNumber_1 pc) := g_tab_ok <|
  List.forall_mem_cons.mpr ⟨so_iconst (by decide) d_U_takeNumber_27 rfl,
  List.forall_mem_cons.mpr ⟨so_iadd d_U_takeNumber_28 rfl,
  List.forall_mem_cons.mpr ⟨so_put ft_U d_U_takeNumber_29 (rfl : vwCl[7]? = some (R_U, F_U, 4)) (Nat.le_of_ble_eq_true rfl) i_U w_1_168 tk_U n_U rfl rfl rfl,
  List.forall_mem_cons.mpr ⟨so_iload d_U_takeNumber_32 rfl,
  List.forall_mem_cons.mpr ⟨so_iconst (by decide) d_U_takeNumber_34 rfl,
  List.forall_mem_cons.mpr ⟨so_icmp_ne d_U_takeNumber_35 (by decide) rfl,
  List.forall_mem_cons.mpr ⟨so_ldc2 w_3_197 d_U_takeNumber_38 rfl,
  List.forall_mem_cons.mpr ⟨so_lret d_U_takeNumber_41 rfl,
  List.forall_mem_cons.mpr ⟨so_lload_n d_U_takeNumber_42 rfl rfl,
  List.forall_mem_cons.mpr ⟨so_iload d_U_takeNumber_43 rfl,
  List.forall_mem_cons.mpr ⟨so_sipush (by decide) d_U_takeNumber_45 rfl,
  List.forall_mem_cons.mpr ⟨so_irem d_U_takeNumber_48 rfl,
  List.forall_mem_cons.mpr ⟨so_i2l d_U_takeNumber_49 rfl,
  List.forall_mem_cons.mpr ⟨so_bipush (by decide) d_U_takeNumber_50 rfl,
  List.forall_mem_cons.mpr ⟨so_iload_n d_U_takeNumber_52 rfl rfl,
  List.forall_mem_cons.mpr ⟨so_imul d_U_takeNumber_53 rfl,
  fun _ h => absurd h List.not_mem_nil⟩⟩⟩⟩⟩⟩⟩⟩⟩⟩⟩⟩⟩⟩⟩⟩
def cd_U_takeNumber_2 : Nat → g_T := g_tab [(54, tr_li (fun x y => x <<< (y.toInt64 &&& 63)) 55), (55, tr_ll (fun x y => x + y) 56), (56, tr_lst 1 57), (57, tr_ild 4 59), (59, tr_cst (.int (128)) 62), (62, tr_if2 (fun x y => y ≤ x) 82 65), (65, tr_ild 4 67), (67, tr_ild 3 68), (68, tr_cS J_U_isLastOfNumber 2 71), (71, tr_if1 (fun x => x = 0) 78 74), (74, tr_lld 1 75), (75, tr_goto 81), (78, tr_cst (.long (-1)) 81), (81, tr_rl), (82, tr_inc 3 (1) 85), (85, tr_goto 4)]
set_option maxRecDepth 100000 in
theorem ok_U_takeNumber_2 : ∀ pc, g_S (J_U_takeNumber) pc (cd_U_takeNumber_2 pc) := g_tab_ok <|
  List.forall_mem_cons.mpr ⟨so_lshl d_U_takeNumber_54 rfl,
  List.forall_mem_cons.mpr ⟨so_ladd d_U_takeNumber_55 rfl,
  List.forall_mem_cons.mpr ⟨so_lstore_n d_U_takeNumber_56 rfl (Nat.le_of_ble_eq_true rfl) rfl,
  List.forall_mem_cons.mpr ⟨so_iload d_U_takeNumber_57 rfl,
  List.forall_mem_cons.mpr ⟨so_sipush (by decide) d_U_takeNumber_59 rfl,
  List.forall_mem_cons.mpr ⟨so_icmp_ge d_U_takeNumber_62 (by decide) rfl,
  List.forall_mem_cons.mpr ⟨so_iload d_U_takeNumber_65 rfl,
  List.forall_mem_cons.mpr ⟨so_iload_n d_U_takeNumber_67 rfl rfl,
  List.forall_mem_cons.mpr ⟨so_cS g_good d_U_takeNumber_68 ⟨w_3_215, (Nat.le_of_ble_eq_true rfl), (Nat.le_of_ble_eq_true rfl), w_1_10, ⟨by decide, by decide⟩, by decide +kernel⟩ w_3_213 w_3_214 rfl,
  List.forall_mem_cons.mpr ⟨so_if_eq d_U_takeNumber_71 (by decide) rfl,
  List.forall_mem_cons.mpr ⟨so_lload_n d_U_takeNumber_74 rfl rfl,
  List.forall_mem_cons.mpr ⟨so_goto d_U_takeNumber_75 (by decide),
  List.forall_mem_cons.mpr ⟨so_ldc2 w_3_197 d_U_takeNumber_78 rfl,
  List.forall_mem_cons.mpr ⟨so_lret d_U_takeNumber_81 rfl,
  List.forall_mem_cons.mpr ⟨so_iinc d_U_takeNumber_82 (by decide) (Nat.le_of_ble_eq_true rfl) rfl,
  List.forall_mem_cons.mpr ⟨so_goto d_U_takeNumber_85 (by decide),
  fun _ h => absurd h List.not_mem_nil⟩⟩⟩⟩⟩⟩⟩⟩⟩⟩⟩⟩⟩⟩⟩⟩
def cd_U_takeNumber_3 : Nat → g_T := g_tab [(88, tr_cst (.long (-1)) 91), (91, tr_rl)]
set_option maxRecDepth 100000 in
theorem ok_U_takeNumber_3 : ∀ pc, g_S (J_U_takeNumber) pc (cd_U_takeNumber_3 pc) := g_tab_ok <|
  List.forall_mem_cons.mpr ⟨so_ldc2 w_3_197 d_U_takeNumber_88 rfl,
  List.forall_mem_cons.mpr ⟨so_lret d_U_takeNumber_91 rfl,
  fun _ h => absurd h List.not_mem_nil⟩⟩
def cd_U_takeNumber : Nat → g_T := g_chk [(24, cd_U_takeNumber_0), (53, cd_U_takeNumber_1), (85, cd_U_takeNumber_2), (91, cd_U_takeNumber_3)]
theorem ok_U_takeNumber : ∀ pc, g_S (J_U_takeNumber) pc (cd_U_takeNumber pc) := g_chk_ok <|
  List.forall_mem_cons.mpr ⟨ok_U_takeNumber_0,
  List.forall_mem_cons.mpr ⟨ok_U_takeNumber_1,
  List.forall_mem_cons.mpr ⟨ok_U_takeNumber_2,
  List.forall_mem_cons.mpr ⟨ok_U_takeNumber_3,
  fun _ h => absurd h List.not_mem_nil⟩⟩⟩⟩
abbrev J_U_takeBranches : g_J := (y_U_takeBranches, prog_10_method_10_code, 5, (some .boolean), (2, 44), [], none)
theorem d_U_takeBranches_0 : decode prog_10_method_10_code 0 = .ok (.iload_n 1, 1) := by decide +kernel
theorem d_U_takeBranches_1 : decode prog_10_method_10_code 1 = .ok (.iconst 1, 1) := by decide +kernel
theorem d_U_takeBranches_2 : decode prog_10_method_10_code 2 = .ok (.if_icmp .le 7, 3) := by decide +kernel
theorem d_U_takeBranches_5 : decode prog_10_method_10_code 5 = .ok (.iconst 1, 1) := by decide +kernel
theorem d_U_takeBranches_6 : decode prog_10_method_10_code 6 = .ok (.goto 4, 3) := by decide +kernel
theorem d_U_takeBranches_9 : decode prog_10_method_10_code 9 = .ok (.iconst 0, 1) := by decide +kernel
theorem d_U_takeBranches_10 : decode prog_10_method_10_code 10 = .ok (.istore_n 2, 1) := by decide +kernel
theorem d_U_takeBranches_11 : decode prog_10_method_10_code 11 = .ok (.bipush 8, 2) := by decide +kernel
theorem d_U_takeBranches_13 : decode prog_10_method_10_code 13 = .ok (.istore_n 3, 1) := by decide +kernel
theorem d_U_takeBranches_14 : decode prog_10_method_10_code 14 = .ok (.iload_n 3, 1) := by decide +kernel
theorem d_U_takeBranches_15 : decode prog_10_method_10_code 15 = .ok (.ifCond .le 62, 3) := by decide +kernel
theorem d_U_takeBranches_18 : decode prog_10_method_10_code 18 = .ok (.iload_n 2, 1) := by decide +kernel
theorem d_U_takeBranches_19 : decode prog_10_method_10_code 19 = .ok (.ifCond .eq 58, 3) := by decide +kernel
theorem d_U_takeBranches_22 : decode prog_10_method_10_code 22 = .ok (.iload_n 1, 1) := by decide +kernel
theorem d_U_takeBranches_23 : decode prog_10_method_10_code 23 = .ok (.iconst 2, 1) := by decide +kernel
theorem d_U_takeBranches_24 : decode prog_10_method_10_code 24 = .ok (.iload_n 3, 1) := by decide +kernel
theorem d_U_takeBranches_25 : decode prog_10_method_10_code 25 = .ok (.imul, 1) := by decide +kernel
theorem d_U_takeBranches_26 : decode prog_10_method_10_code 26 = .ok (.if_icmp .lt 7, 3) := by decide +kernel
theorem d_U_takeBranches_29 : decode prog_10_method_10_code 29 = .ok (.iconst 1, 1) := by decide +kernel
theorem d_U_takeBranches_30 : decode prog_10_method_10_code 30 = .ok (.goto 4, 3) := by decide +kernel
theorem d_U_takeBranches_33 : decode prog_10_method_10_code 33 = .ok (.iconst 0, 1) := by decide +kernel
theorem d_U_takeBranches_34 : decode prog_10_method_10_code 34 = .ok (.istore 4, 2) := by decide +kernel
theorem d_U_takeBranches_36 : decode prog_10_method_10_code 36 = .ok (.iload 4, 2) := by decide +kernel
theorem d_U_takeBranches_38 : decode prog_10_method_10_code 38 = .ok (.ifCond .eq 26, 3) := by decide +kernel
theorem d_U_takeBranches_41 : decode prog_10_method_10_code 41 = .ok (.aload_n 0, 1) := by decide +kernel
theorem d_U_takeBranches_42 : decode prog_10_method_10_code 42 = .ok (.getfield 30, 3) := by decide +kernel
theorem d_U_takeBranches_45 : decode prog_10_method_10_code 45 = .ok (.iconst 0, 1) := by decide +kernel
theorem d_U_takeBranches_46 : decode prog_10_method_10_code 46 = .ok (.iload_n 1, 1) := by decide +kernel
theorem d_U_takeBranches_47 : decode prog_10_method_10_code 47 = .ok (.iload_n 3, 1) := by decide +kernel
theorem d_U_takeBranches_48 : decode prog_10_method_10_code 48 = .ok (.iand, 1) := by decide +kernel
theorem d_U_takeBranches_49 : decode prog_10_method_10_code 49 = .ok (.ifCond .eq 7, 3) := by decide +kernel
theorem d_U_takeBranches_52 : decode prog_10_method_10_code 52 = .ok (.iconst 1, 1) := by decide +kernel
theorem d_U_takeBranches_53 : decode prog_10_method_10_code 53 = .ok (.goto 4, 3) := by decide +kernel
theorem d_U_takeBranches_56 : decode prog_10_method_10_code 56 = .ok (.iconst 0, 1) := by decide +kernel
theorem d_U_takeBranches_57 : decode prog_10_method_10_code 57 = .ok (.iconst 0, 1) := by decide +kernel
theorem d_U_takeBranches_58 : decode prog_10_method_10_code 58 = .ok (.invokevirtual 116, 3) := by decide +kernel
theorem d_U_takeBranches_61 : decode prog_10_method_10_code 61 = .ok (.ifCond .eq 7, 3) := by decide +kernel
theorem d_U_takeBranches_64 : decode prog_10_method_10_code 64 = .ok (.iconst 1, 1) := by decide +kernel
theorem d_U_takeBranches_65 : decode prog_10_method_10_code 65 = .ok (.goto 4, 3) := by decide +kernel
theorem d_U_takeBranches_68 : decode prog_10_method_10_code 68 = .ok (.iconst 0, 1) := by decide +kernel
theorem d_U_takeBranches_69 : decode prog_10_method_10_code 69 = .ok (.istore_n 2, 1) := by decide +kernel
theorem d_U_takeBranches_70 : decode prog_10_method_10_code 70 = .ok (.iload_n 3, 1) := by decide +kernel
theorem d_U_takeBranches_71 : decode prog_10_method_10_code 71 = .ok (.iconst 1, 1) := by decide +kernel
theorem d_U_takeBranches_72 : decode prog_10_method_10_code 72 = .ok (.ishr, 1) := by decide +kernel
theorem d_U_takeBranches_73 : decode prog_10_method_10_code 73 = .ok (.istore_n 3, 1) := by decide +kernel
theorem d_U_takeBranches_74 : decode prog_10_method_10_code 74 = .ok (.goto (-60), 3) := by decide +kernel
theorem d_U_takeBranches_77 : decode prog_10_method_10_code 77 = .ok (.iload_n 2, 1) := by decide +kernel
theorem d_U_takeBranches_78 : decode prog_10_method_10_code 78 = .ok (.ireturn, 1) := by decide +kernel
def cd_U_takeBranches_0 : Nat → g_T := g_tab [(0, tr_ild 1 1), (1, tr_cst (.int (1)) 2), (2, tr_if2 (fun x y => x ≤ y) 9 5), (5, tr_cst (.int (1)) 6), (6, tr_goto 10), (9, tr_cst (.int (0)) 10), (10, tr_ist 2 11), (11, tr_cst (.int (8)) 13), (13, tr_ist 3 14), (14, tr_ild 3 15), (15, tr_if1 (fun x => x ≤ 0) 77 18), (18, tr_ild 2 19), (19, tr_if1 (fun x => x = 0) 77 22), (22, tr_ild 1 23), (23, tr_cst (.int (2)) 24), (24, tr_ild 3 25)]
set_option maxRecDepth 100000 in
theorem ok_U_takeBranches_0 : ∀ pc, g_S (J_U_takeBranches) pc (cd_U_takeBranches_0 pc) := g_tab_ok <|
  List.forall_mem_cons.mpr ⟨so_iload_n d_U_takeBranches_0 rfl rfl,
  List.forall_mem_cons.mpr ⟨so_iconst (by decide) d_U_takeBranches_1 rfl,
  List.forall_mem_cons.mpr ⟨so_icmp_le d_U_takeBranches_2 (by decide) rfl,
  List.forall_mem_cons.mpr ⟨so_iconst (by decide) d_U_takeBranches_5 rfl,
  List.forall_mem_cons.mpr ⟨so_goto d_U_takeBranches_6 (by decide),
  List.forall_mem_cons.mpr ⟨so_iconst (by decide) d_U_takeBranches_9 rfl,
  List.forall_mem_cons.mpr ⟨so_istore_n d_U_takeBranches_10 rfl (Nat.le_of_ble_eq_true rfl) rfl,
  List.forall_mem_cons.mpr ⟨so_bipush (by decide) d_U_takeBranches_11 rfl,
  List.forall_mem_cons.mpr ⟨so_istore_n d_U_takeBranches_13 rfl (Nat.le_of_ble_eq_true rfl) rfl,
  List.forall_mem_cons.mpr ⟨so_iload_n d_U_takeBranches_14 rfl rfl,
  List.forall_mem_cons.mpr ⟨so_if_le d_U_takeBranches_15 (by decide) rfl,
  List.forall_mem_cons.mpr ⟨so_iload_n d_U_takeBranches_18 rfl rfl,
  List.forall_mem_cons.mpr ⟨so_if_eq d_U_takeBranches_19 (by decide) rfl,
  List.forall_mem_cons.mpr ⟨so_iload_n d_U_takeBranches_22 rfl rfl,
  List.forall_mem_cons.mpr ⟨so_iconst (by decide) d_U_takeBranches_23 rfl,
  List.forall_mem_cons.mpr ⟨so_iload_n d_U_takeBranches_24 rfl rfl,
  fun _ h => absurd h List.not_mem_nil⟩⟩⟩⟩⟩⟩⟩⟩⟩⟩⟩⟩⟩⟩⟩⟩
def cd_U_takeBranches_1 : Nat → g_T := g_tab [(25, tr_ii (fun x y => x * y) 26), (26, tr_if2 (fun x y => x < y) 33 29), (29, tr_cst (.int (1)) 30), (30, tr_goto 34), (33, tr_cst (.int (0)) 34), (34, tr_ist 4 36), (36, tr_ild 4 38), (38, tr_if1 (fun x => x = 0) 64 41), (41, tr_ald 0 42), (42, tr_get 7 2 45), (45, tr_cst (.int (0)) 46), (46, tr_ild 1 47), (47, tr_ild 3 48), (48, tr_ii (fun x y => x &&& y) 49), (49, tr_if1 (fun x => x = 0) 56 52), (52, tr_cst (.int (1)) 53)]
set_option maxRecDepth 100000 in
theorem ok_U_takeBranches_1 : ∀ pc, g_S (J_U_takeBranches) pc (cd_U_takeBranches_1 pc) := g_tab_ok <|
  List.forall_mem_cons.mpr ⟨so_imul d_U_takeBranches_25 rfl,
  List.forall_mem_cons.mpr ⟨so_icmp_lt d_U_takeBranches_26 (by decide) rfl,
  List.forall_mem_cons.mpr ⟨so_iconst (by decide) d_U_takeBranches_29 rfl,
  List.forall_mem_cons.mpr ⟨so_goto d_U_takeBranches_30 (by decide),
  List.forall_mem_cons.mpr ⟨so_iconst (by decide) d_U_takeBranches_33 rfl,
  List.forall_mem_cons.mpr ⟨so_istore d_U_takeBranches_34 (Nat.le_of_ble_eq_true rfl) rfl,
  List.forall_mem_cons.mpr ⟨so_iload d_U_takeBranches_36 rfl,
  List.forall_mem_cons.mpr ⟨so_if_eq d_U_takeBranches_38 (by decide) rfl,
  List.forall_mem_cons.mpr ⟨so_aload_n d_U_takeBranches_41 rfl rfl,
  List.forall_mem_cons.mpr ⟨so_get d_U_takeBranches_42 (rfl : vwCl[7]? = some (R_U, F_U, 4)) (Nat.le_of_ble_eq_true rfl) i_U w_1_167 rfl,
  List.forall_mem_cons.mpr ⟨so_iconst (by decide) d_U_takeBranches_45 rfl,
  List.forall_mem_cons.mpr ⟨so_iload_n d_U_takeBranches_46 rfl rfl,
  List.forall_mem_cons.mpr ⟨so_iload_n d_U_takeBranches_47 rfl rfl,
  List.forall_mem_cons.mpr ⟨so_iand d_U_takeBranches_48 rfl,
  List.forall_mem_cons.mpr ⟨so_if_eq d_U_takeBranches_49 (by decide) rfl,
  List.forall_mem_cons.mpr ⟨so_iconst (by decide) d_U_takeBranches_52 rfl,
  fun _ h => absurd h List.not_mem_nil⟩⟩⟩⟩⟩⟩⟩⟩⟩⟩⟩⟩⟩⟩⟩⟩
def cd_U_takeBranches_2 : Nat → g_T := g_tab [(53, tr_goto 57), (56, tr_cst (.int (0)) 57), (57, tr_cst (.int (0)) 58), (58, tr_cV J_B_add 2 3 61), (61, tr_if1 (fun x => x = 0) 68 64), (64, tr_cst (.int (1)) 65), (65, tr_goto 69), (68, tr_cst (.int (0)) 69), (69, tr_ist 2 70), (70, tr_ild 3 71), (71, tr_cst (.int (1)) 72), (72, tr_ii (fun x y => x >>> (y &&& 31)) 73), (73, tr_ist 3 74), (74, tr_goto 14), (77, tr_ild 2 78), (78, tr_rz)]
set_option maxRecDepth 100000 in
theorem ok_U_takeBranches_2 : ∀ pc, g_S (J_U_takeBranches) pc (cd_U_takeBranches_2 pc) := g_tab_ok <|
  List.forall_mem_cons.mpr ⟨so_goto d_U_takeBranches_53 (by decide),
  List.forall_mem_cons.mpr ⟨so_iconst (by decide) d_U_takeBranches_56 rfl,
  List.forall_mem_cons.mpr ⟨so_iconst (by decide) d_U_takeBranches_57 rfl,
  List.forall_mem_cons.mpr ⟨so_cV g_good d_U_takeBranches_58 ⟨w_3_87, (Nat.le_of_ble_eq_true rfl), (Nat.le_of_ble_eq_true rfl), w_1_4, ⟨by decide, by decide⟩, by decide +kernel⟩ (rfl : vwCl[2]? = some (R_B, F_B, 5)) w_3_220 w_3_85 w_3_86 rfl,
  List.forall_mem_cons.mpr ⟨so_if_eq d_U_takeBranches_61 (by decide) rfl,
  List.forall_mem_cons.mpr ⟨so_iconst (by decide) d_U_takeBranches_64 rfl,
  List.forall_mem_cons.mpr ⟨so_goto d_U_takeBranches_65 (by decide),
  List.forall_mem_cons.mpr ⟨so_iconst (by decide) d_U_takeBranches_68 rfl,
  List.forall_mem_cons.mpr ⟨so_istore_n d_U_takeBranches_69 rfl (Nat.le_of_ble_eq_true rfl) rfl,
  List.forall_mem_cons.mpr ⟨so_iload_n d_U_takeBranches_70 rfl rfl,
  List.forall_mem_cons.mpr ⟨so_iconst (by decide) d_U_takeBranches_71 rfl,
  List.forall_mem_cons.mpr ⟨so_ishr d_U_takeBranches_72 rfl,
  List.forall_mem_cons.mpr ⟨so_istore_n d_U_takeBranches_73 rfl (Nat.le_of_ble_eq_true rfl) rfl,
  List.forall_mem_cons.mpr ⟨so_goto d_U_takeBranches_74 (by decide),
  List.forall_mem_cons.mpr ⟨so_iload_n d_U_takeBranches_77 rfl rfl,
  List.forall_mem_cons.mpr ⟨so_zret d_U_takeBranches_78 rfl,
  fun _ h => absurd h List.not_mem_nil⟩⟩⟩⟩⟩⟩⟩⟩⟩⟩⟩⟩⟩⟩⟩⟩
def cd_U_takeBranches : Nat → g_T := g_chk [(24, cd_U_takeBranches_0), (52, cd_U_takeBranches_1), (78, cd_U_takeBranches_2)]
theorem ok_U_takeBranches : ∀ pc, g_S (J_U_takeBranches) pc (cd_U_takeBranches pc) := g_chk_ok <|
  List.forall_mem_cons.mpr ⟨ok_U_takeBranches_0,
  List.forall_mem_cons.mpr ⟨ok_U_takeBranches_1,
  List.forall_mem_cons.mpr ⟨ok_U_takeBranches_2,
  fun _ h => absurd h List.not_mem_nil⟩⟩⟩
abbrev J_U_takeJump : g_J := (y_U_takeJump, prog_10_method_11_code, 3, (some .boolean), (2, 44), [], none)
theorem d_U_takeJump_0 : decode prog_10_method_11_code 0 = .ok (.aload_n 0, 1) := by decide +kernel
theorem d_U_takeJump_1 : decode prog_10_method_11_code 1 = .ok (.getfield 23, 3) := by decide +kernel
theorem d_U_takeJump_4 : decode prog_10_method_11_code 4 = .ok (.dup, 1) := by decide +kernel
theorem d_U_takeJump_5 : decode prog_10_method_11_code 5 = .ok (.getfield 119, 3) := by decide +kernel
theorem d_U_takeJump_8 : decode prog_10_method_11_code 8 = .ok (.lload_n 1, 1) := by decide +kernel
theorem d_U_takeJump_9 : decode prog_10_method_11_code 9 = .ok (.invokestatic 122, 3) := by decide +kernel
theorem d_U_takeJump_12 : decode prog_10_method_11_code 12 = .ok (.iadd, 1) := by decide +kernel
theorem d_U_takeJump_13 : decode prog_10_method_11_code 13 = .ok (.putfield 119, 3) := by decide +kernel
theorem d_U_takeJump_16 : decode prog_10_method_11_code 16 = .ok (.aload_n 0, 1) := by decide +kernel
theorem d_U_takeJump_17 : decode prog_10_method_11_code 17 = .ok (.getfield 30, 3) := by decide +kernel
theorem d_U_takeJump_20 : decode prog_10_method_11_code 20 = .ok (.iconst 1, 1) := by decide +kernel
theorem d_U_takeJump_21 : decode prog_10_method_11_code 21 = .ok (.aload_n 0, 1) := by decide +kernel
theorem d_U_takeJump_22 : decode prog_10_method_11_code 22 = .ok (.getfield 23, 3) := by decide +kernel
theorem d_U_takeJump_25 : decode prog_10_method_11_code 25 = .ok (.getfield 119, 3) := by decide +kernel
theorem d_U_takeJump_28 : decode prog_10_method_11_code 28 = .ok (.iconst 0, 1) := by decide +kernel
theorem d_U_takeJump_29 : decode prog_10_method_11_code 29 = .ok (.invokevirtual 116, 3) := by decide +kernel
theorem d_U_takeJump_32 : decode prog_10_method_11_code 32 = .ok (.ireturn, 1) := by decide +kernel
def cd_U_takeJump_0 : Nat → g_T := g_tab [(0, tr_ald 0 1), (1, tr_get 7 1 4), (4, tr_dup 5), (5, tr_get 4 3 8), (8, tr_lld 1 9), (9, tr_cS J_T_differenceOf 1 12), (12, tr_ii (fun x y => x + y) 13), (13, tr_put 4 3 (.int) 16), (16, tr_ald 0 17), (17, tr_get 7 2 20), (20, tr_cst (.int (1)) 21), (21, tr_ald 0 22), (22, tr_get 7 1 25), (25, tr_get 4 3 28), (28, tr_cst (.int (0)) 29), (29, tr_cV J_B_add 2 3 32)]
set_option maxRecDepth 100000 in
theorem ok_U_takeJump_0 : ∀ pc, g_S (J_U_takeJump) pc (cd_U_takeJump_0 pc) := g_tab_ok <|
  List.forall_mem_cons.mpr ⟨so_aload_n d_U_takeJump_0 rfl rfl,
  List.forall_mem_cons.mpr ⟨so_get d_U_takeJump_1 (rfl : vwCl[7]? = some (R_U, F_U, 4)) (Nat.le_of_ble_eq_true rfl) i_U w_1_166 rfl,
  List.forall_mem_cons.mpr ⟨so_dup d_U_takeJump_4 rfl,
  List.forall_mem_cons.mpr ⟨so_getN d_U_takeJump_5 (rfl : vwCl[4]? = some (R_M, F_M, 5)) (Nat.le_of_ble_eq_true rfl) i_M w_1_122 rfl,
  List.forall_mem_cons.mpr ⟨so_lload_n d_U_takeJump_8 rfl rfl,
  List.forall_mem_cons.mpr ⟨so_cSN g_good d_U_takeJump_9 ⟨w_3_227, (Nat.le_of_ble_eq_true rfl), (Nat.le_of_ble_eq_true rfl), w_1_1, ⟨by decide, by decide⟩, by decide +kernel⟩ w_3_225 w_3_226 rfl,
  List.forall_mem_cons.mpr ⟨so_iadd d_U_takeJump_12 rfl,
  List.forall_mem_cons.mpr ⟨so_putN ft_M d_U_takeJump_13 (rfl : vwCl[4]? = some (R_M, F_M, 5)) (Nat.le_of_ble_eq_true rfl) i_M w_1_122 tk_M n_M rfl rfl rfl,
  List.forall_mem_cons.mpr ⟨so_aload_n d_U_takeJump_16 rfl rfl,
  List.forall_mem_cons.mpr ⟨so_get d_U_takeJump_17 (rfl : vwCl[7]? = some (R_U, F_U, 4)) (Nat.le_of_ble_eq_true rfl) i_U w_1_167 rfl,
  List.forall_mem_cons.mpr ⟨so_iconst (by decide) d_U_takeJump_20 rfl,
  List.forall_mem_cons.mpr ⟨so_aload_n d_U_takeJump_21 rfl rfl,
  List.forall_mem_cons.mpr ⟨so_get d_U_takeJump_22 (rfl : vwCl[7]? = some (R_U, F_U, 4)) (Nat.le_of_ble_eq_true rfl) i_U w_1_166 rfl,
  List.forall_mem_cons.mpr ⟨so_getN d_U_takeJump_25 (rfl : vwCl[4]? = some (R_M, F_M, 5)) (Nat.le_of_ble_eq_true rfl) i_M w_1_122 rfl,
  List.forall_mem_cons.mpr ⟨so_iconst (by decide) d_U_takeJump_28 rfl,
  List.forall_mem_cons.mpr ⟨so_cV g_good d_U_takeJump_29 ⟨w_3_87, (Nat.le_of_ble_eq_true rfl), (Nat.le_of_ble_eq_true rfl), w_1_4, ⟨by decide, by decide⟩, by decide +kernel⟩ (rfl : vwCl[2]? = some (R_B, F_B, 5)) w_3_220 w_3_85 w_3_86 rfl,
  fun _ h => absurd h List.not_mem_nil⟩⟩⟩⟩⟩⟩⟩⟩⟩⟩⟩⟩⟩⟩⟩⟩
def cd_U_takeJump_1 : Nat → g_T := g_tab [(32, tr_rz)]
set_option maxRecDepth 100000 in
theorem ok_U_takeJump_1 : ∀ pc, g_S (J_U_takeJump) pc (cd_U_takeJump_1 pc) := g_tab_ok <|
  List.forall_mem_cons.mpr ⟨so_zret d_U_takeJump_32 rfl,
  fun _ h => absurd h List.not_mem_nil⟩
def cd_U_takeJump : Nat → g_T := g_chk [(29, cd_U_takeJump_0), (32, cd_U_takeJump_1)]
theorem ok_U_takeJump : ∀ pc, g_S (J_U_takeJump) pc (cd_U_takeJump pc) := g_chk_ok <|
  List.forall_mem_cons.mpr ⟨ok_U_takeJump_0,
  List.forall_mem_cons.mpr ⟨ok_U_takeJump_1,
  fun _ h => absurd h List.not_mem_nil⟩⟩
abbrev J_U_takeLoad : g_J := (y_U_takeLoad, prog_10_method_12_code, 5, (some .boolean), (2, 44), [], none)
theorem d_U_takeLoad_0 : decode prog_10_method_12_code 0 = .ok (.aload_n 0, 1) := by decide +kernel
theorem d_U_takeLoad_1 : decode prog_10_method_12_code 1 = .ok (.getfield 23, 3) := by decide +kernel
theorem d_U_takeLoad_4 : decode prog_10_method_12_code 4 = .ok (.getfield 126, 3) := by decide +kernel
theorem d_U_takeLoad_7 : decode prog_10_method_12_code 7 = .ok (.astore 4, 2) := by decide +kernel
theorem d_U_takeLoad_9 : decode prog_10_method_12_code 9 = .ok (.aload 4, 2) := by decide +kernel
theorem d_U_takeLoad_11 : decode prog_10_method_12_code 11 = .ok (.iload_n 1, 1) := by decide +kernel
theorem d_U_takeLoad_12 : decode prog_10_method_12_code 12 = .ok (.iconst 1, 1) := by decide +kernel
theorem d_U_takeLoad_13 : decode prog_10_method_12_code 13 = .ok (.if_icmp .ne 15, 3) := by decide +kernel
theorem d_U_takeLoad_16 : decode prog_10_method_12_code 16 = .ok (.aload 4, 2) := by decide +kernel
theorem d_U_takeLoad_18 : decode prog_10_method_12_code 18 = .ok (.lload_n 2, 1) := by decide +kernel
theorem d_U_takeLoad_19 : decode prog_10_method_12_code 19 = .ok (.invokestatic 122, 3) := by decide +kernel
theorem d_U_takeLoad_22 : decode prog_10_method_12_code 22 = .ok (.invokevirtual 130, 3) := by decide +kernel
theorem d_U_takeLoad_25 : decode prog_10_method_12_code 25 = .ok (.goto 8, 3) := by decide +kernel
theorem d_U_takeLoad_28 : decode prog_10_method_12_code 28 = .ok (.aload 4, 2) := by decide +kernel
theorem d_U_takeLoad_30 : decode prog_10_method_12_code 30 = .ok (.invokevirtual 135, 3) := by decide +kernel
theorem d_U_takeLoad_33 : decode prog_10_method_12_code 33 = .ok (.invokevirtual 138, 3) := by decide +kernel
theorem d_U_takeLoad_36 : decode prog_10_method_12_code 36 = .ok (.aload_n 0, 1) := by decide +kernel
theorem d_U_takeLoad_37 : decode prog_10_method_12_code 37 = .ok (.getfield 30, 3) := by decide +kernel
theorem d_U_takeLoad_40 : decode prog_10_method_12_code 40 = .ok (.iconst 2, 1) := by decide +kernel
theorem d_U_takeLoad_41 : decode prog_10_method_12_code 41 = .ok (.aload 4, 2) := by decide +kernel
theorem d_U_takeLoad_43 : decode prog_10_method_12_code 43 = .ok (.invokevirtual 141, 3) := by decide +kernel
theorem d_U_takeLoad_46 : decode prog_10_method_12_code 46 = .ok (.iconst 0, 1) := by decide +kernel
theorem d_U_takeLoad_47 : decode prog_10_method_12_code 47 = .ok (.invokevirtual 116, 3) := by decide +kernel
theorem d_U_takeLoad_50 : decode prog_10_method_12_code 50 = .ok (.ireturn, 1) := by decide +kernel
def cd_U_takeLoad_0 : Nat → g_T := g_tab [(0, tr_ald 0 1), (1, tr_get 7 1 4), (4, tr_get 4 0 7), (7, tr_ast 4 9), (9, tr_ald 4 11), (11, tr_ild 1 12), (12, tr_cst (.int (1)) 13), (13, tr_if2 (fun x y => ¬ x = y) 28 16), (16, tr_ald 4 18), (18, tr_lld 2 19), (19, tr_cS J_T_differenceOf 1 22), (22, tr_cV J_L_after 1 1 25), (25, tr_goto 33), (28, tr_ald 4 30), (30, tr_cV J_L_expected 1 0 33), (33, tr_cV J_L_goTo 1 1 36)]
set_option maxRecDepth 100000 in
theorem ok_U_takeLoad_0 : ∀ pc, g_S (J_U_takeLoad) pc (cd_U_takeLoad_0 pc) := g_tab_ok <|
  List.forall_mem_cons.mpr ⟨so_aload_n d_U_takeLoad_0 rfl rfl,
  List.forall_mem_cons.mpr ⟨so_get d_U_takeLoad_1 (rfl : vwCl[7]? = some (R_U, F_U, 4)) (Nat.le_of_ble_eq_true rfl) i_U w_1_166 rfl,
  List.forall_mem_cons.mpr ⟨so_getN d_U_takeLoad_4 (rfl : vwCl[4]? = some (R_M, F_M, 5)) (Nat.le_of_ble_eq_true rfl) i_M w_1_113 rfl,
  List.forall_mem_cons.mpr ⟨so_astore d_U_takeLoad_7 (Nat.le_of_ble_eq_true rfl) rfl,
  List.forall_mem_cons.mpr ⟨so_aload d_U_takeLoad_9 rfl,
  List.forall_mem_cons.mpr ⟨so_iload_n d_U_takeLoad_11 rfl rfl,
  List.forall_mem_cons.mpr ⟨so_iconst (by decide) d_U_takeLoad_12 rfl,
  List.forall_mem_cons.mpr ⟨so_icmp_ne d_U_takeLoad_13 (by decide) rfl,
  List.forall_mem_cons.mpr ⟨so_aload d_U_takeLoad_16 rfl,
  List.forall_mem_cons.mpr ⟨so_lload_n d_U_takeLoad_18 rfl rfl,
  List.forall_mem_cons.mpr ⟨so_cSN g_good d_U_takeLoad_19 ⟨w_3_227, (Nat.le_of_ble_eq_true rfl), (Nat.le_of_ble_eq_true rfl), w_1_1, ⟨by decide, by decide⟩, by decide +kernel⟩ w_3_225 w_3_226 rfl,
  List.forall_mem_cons.mpr ⟨so_cV g_good d_U_takeLoad_22 ⟨w_3_235, (Nat.le_of_ble_eq_true rfl), (Nat.le_of_ble_eq_true rfl), w_1_7, ⟨by decide, by decide⟩, by decide +kernel⟩ (rfl : vwCl[1]? = some (R_L, F_L, 2)) w_3_232 w_3_233 w_3_234 rfl,
  List.forall_mem_cons.mpr ⟨so_goto d_U_takeLoad_25 (by decide),
  List.forall_mem_cons.mpr ⟨so_aload d_U_takeLoad_28 rfl,
  List.forall_mem_cons.mpr ⟨so_cV g_good d_U_takeLoad_30 ⟨w_3_14, (Nat.le_of_ble_eq_true rfl), (Nat.le_of_ble_eq_true rfl), w_1_7, ⟨by decide, by decide⟩, by decide +kernel⟩ (rfl : vwCl[1]? = some (R_L, F_L, 2)) w_3_236 w_3_12 w_3_13 rfl,
  List.forall_mem_cons.mpr ⟨so_cV g_good d_U_takeLoad_33 ⟨w_3_22, (Nat.le_of_ble_eq_true rfl), (Nat.le_of_ble_eq_true rfl), w_1_7, ⟨by decide, by decide⟩, by decide +kernel⟩ (rfl : vwCl[1]? = some (R_L, F_L, 2)) w_3_237 w_3_20 w_3_21 rfl,
  fun _ h => absurd h List.not_mem_nil⟩⟩⟩⟩⟩⟩⟩⟩⟩⟩⟩⟩⟩⟩⟩⟩
def cd_U_takeLoad_1 : Nat → g_T := g_tab [(36, tr_ald 0 37), (37, tr_get 7 2 40), (40, tr_cst (.int (2)) 41), (41, tr_ald 4 43), (43, tr_cV J_L_last 1 0 46), (46, tr_cst (.int (0)) 47), (47, tr_cV J_B_add 2 3 50), (50, tr_rz)]
set_option maxRecDepth 100000 in
theorem ok_U_takeLoad_1 : ∀ pc, g_S (J_U_takeLoad) pc (cd_U_takeLoad_1 pc) := g_tab_ok <|
  List.forall_mem_cons.mpr ⟨so_aload_n d_U_takeLoad_36 rfl rfl,
  List.forall_mem_cons.mpr ⟨so_get d_U_takeLoad_37 (rfl : vwCl[7]? = some (R_U, F_U, 4)) (Nat.le_of_ble_eq_true rfl) i_U w_1_167 rfl,
  List.forall_mem_cons.mpr ⟨so_iconst (by decide) d_U_takeLoad_40 rfl,
  List.forall_mem_cons.mpr ⟨so_aload d_U_takeLoad_41 rfl,
  List.forall_mem_cons.mpr ⟨so_cV g_good d_U_takeLoad_43 ⟨w_4_1, (Nat.le_of_ble_eq_true rfl), (Nat.le_of_ble_eq_true rfl), w_1_7, ⟨by decide, by decide⟩, by decide +kernel⟩ (rfl : vwCl[1]? = some (R_L, F_L, 2)) w_3_238 w_3_239 w_4_0 rfl,
  List.forall_mem_cons.mpr ⟨so_iconst (by decide) d_U_takeLoad_46 rfl,
  List.forall_mem_cons.mpr ⟨so_cV g_good d_U_takeLoad_47 ⟨w_3_87, (Nat.le_of_ble_eq_true rfl), (Nat.le_of_ble_eq_true rfl), w_1_4, ⟨by decide, by decide⟩, by decide +kernel⟩ (rfl : vwCl[2]? = some (R_B, F_B, 5)) w_3_220 w_3_85 w_3_86 rfl,
  List.forall_mem_cons.mpr ⟨so_zret d_U_takeLoad_50 rfl,
  fun _ h => absurd h List.not_mem_nil⟩⟩⟩⟩⟩⟩⟩⟩
def cd_U_takeLoad : Nat → g_T := g_chk [(33, cd_U_takeLoad_0), (50, cd_U_takeLoad_1)]
theorem ok_U_takeLoad : ∀ pc, g_S (J_U_takeLoad) pc (cd_U_takeLoad pc) := g_chk_ok <|
  List.forall_mem_cons.mpr ⟨ok_U_takeLoad_0,
  List.forall_mem_cons.mpr ⟨ok_U_takeLoad_1,
  fun _ h => absurd h List.not_mem_nil⟩⟩
abbrev J_U_takeStore : g_J := (y_U_takeStore, prog_10_method_13_code, 9, (some .boolean), (2, 46), [], none)
theorem d_U_takeStore_0 : decode prog_10_method_13_code 0 = .ok (.iload_n 1, 1) := by decide +kernel
theorem d_U_takeStore_1 : decode prog_10_method_13_code 1 = .ok (.bipush 16, 2) := by decide +kernel
theorem d_U_takeStore_3 : decode prog_10_method_13_code 3 = .ok (.if_icmp .lt 7, 3) := by decide +kernel
theorem d_U_takeStore_6 : decode prog_10_method_13_code 6 = .ok (.iconst 1, 1) := by decide +kernel
theorem d_U_takeStore_7 : decode prog_10_method_13_code 7 = .ok (.goto 4, 3) := by decide +kernel
theorem d_U_takeStore_10 : decode prog_10_method_13_code 10 = .ok (.iconst 0, 1) := by decide +kernel
theorem d_U_takeStore_11 : decode prog_10_method_13_code 11 = .ok (.istore 4, 2) := by decide +kernel
theorem d_U_takeStore_13 : decode prog_10_method_13_code 13 = .ok (.iload 4, 2) := by decide +kernel
theorem d_U_takeStore_15 : decode prog_10_method_13_code 15 = .ok (.ifCond .eq 10, 3) := by decide +kernel
theorem d_U_takeStore_18 : decode prog_10_method_13_code 18 = .ok (.iload_n 1, 1) := by decide +kernel
theorem d_U_takeStore_19 : decode prog_10_method_13_code 19 = .ok (.bipush 16, 2) := by decide +kernel
theorem d_U_takeStore_21 : decode prog_10_method_13_code 21 = .ok (.isub, 1) := by decide +kernel
theorem d_U_takeStore_22 : decode prog_10_method_13_code 22 = .ok (.goto 4, 3) := by decide +kernel
theorem d_U_takeStore_25 : decode prog_10_method_13_code 25 = .ok (.iload_n 1, 1) := by decide +kernel
theorem d_U_takeStore_26 : decode prog_10_method_13_code 26 = .ok (.istore 5, 2) := by decide +kernel
theorem d_U_takeStore_28 : decode prog_10_method_13_code 28 = .ok (.aload_n 0, 1) := by decide +kernel
theorem d_U_takeStore_29 : decode prog_10_method_13_code 29 = .ok (.getfield 23, 3) := by decide +kernel
theorem d_U_takeStore_32 : decode prog_10_method_13_code 32 = .ok (.getfield 144, 3) := by decide +kernel
theorem d_U_takeStore_35 : decode prog_10_method_13_code 35 = .ok (.iload 5, 2) := by decide +kernel
theorem d_U_takeStore_37 : decode prog_10_method_13_code 37 = .ok (.invokevirtual 148, 3) := by decide +kernel
theorem d_U_takeStore_40 : decode prog_10_method_13_code 40 = .ok (.istore 6, 2) := by decide +kernel
theorem d_U_takeStore_42 : decode prog_10_method_13_code 42 = .ok (.iload 5, 2) := by decide +kernel
theorem d_U_takeStore_44 : decode prog_10_method_13_code 44 = .ok (.bipush 8, 2) := by decide +kernel
theorem d_U_takeStore_46 : decode prog_10_method_13_code 46 = .ok (.if_icmp .ne 28, 3) := by decide +kernel
theorem d_U_takeStore_49 : decode prog_10_method_13_code 49 = .ok (.aload_n 0, 1) := by decide +kernel
theorem d_U_takeStore_50 : decode prog_10_method_13_code 50 = .ok (.invokevirtual 78, 3) := by decide +kernel
theorem d_U_takeStore_53 : decode prog_10_method_13_code 53 = .ok (.lstore 7, 2) := by decide +kernel
theorem d_U_takeStore_55 : decode prog_10_method_13_code 55 = .ok (.lload 7, 2) := by decide +kernel
theorem d_U_takeStore_57 : decode prog_10_method_13_code 57 = .ok (.ldc2_w 82, 3) := by decide +kernel
theorem d_U_takeStore_60 : decode prog_10_method_13_code 60 = .ok (.lcmp, 1) := by decide +kernel
theorem d_U_takeStore_61 : decode prog_10_method_13_code 61 = .ok (.ifCond .ne 5, 3) := by decide +kernel
theorem d_U_takeStore_64 : decode prog_10_method_13_code 64 = .ok (.iconst 0, 1) := by decide +kernel
theorem d_U_takeStore_65 : decode prog_10_method_13_code 65 = .ok (.ireturn, 1) := by decide +kernel
theorem d_U_takeStore_66 : decode prog_10_method_13_code 66 = .ok (.lload 7, 2) := by decide +kernel
theorem d_U_takeStore_68 : decode prog_10_method_13_code 68 = .ok (.l2i, 1) := by decide +kernel
theorem d_U_takeStore_69 : decode prog_10_method_13_code 69 = .ok (.istore 6, 2) := by decide +kernel
theorem d_U_takeStore_71 : decode prog_10_method_13_code 71 = .ok (.goto 20, 3) := by decide +kernel
theorem d_U_takeStore_74 : decode prog_10_method_13_code 74 = .ok (.aload_n 0, 1) := by decide +kernel
theorem d_U_takeStore_75 : decode prog_10_method_13_code 75 = .ok (.getfield 23, 3) := by decide +kernel
theorem d_U_takeStore_78 : decode prog_10_method_13_code 78 = .ok (.getfield 144, 3) := by decide +kernel
theorem d_U_takeStore_81 : decode prog_10_method_13_code 81 = .ok (.iload 5, 2) := by decide +kernel
theorem d_U_takeStore_83 : decode prog_10_method_13_code 83 = .ok (.invokevirtual 151, 3) := by decide +kernel
theorem d_U_takeStore_86 : decode prog_10_method_13_code 86 = .ok (.ifCond .ne 5, 3) := by decide +kernel
theorem d_U_takeStore_89 : decode prog_10_method_13_code 89 = .ok (.iconst 0, 1) := by decide +kernel
theorem d_U_takeStore_90 : decode prog_10_method_13_code 90 = .ok (.ireturn, 1) := by decide +kernel
theorem d_U_takeStore_91 : decode prog_10_method_13_code 91 = .ok (.aload_n 0, 1) := by decide +kernel
theorem d_U_takeStore_92 : decode prog_10_method_13_code 92 = .ok (.getfield 23, 3) := by decide +kernel
theorem d_U_takeStore_95 : decode prog_10_method_13_code 95 = .ok (.getfield 152, 3) := by decide +kernel
theorem d_U_takeStore_98 : decode prog_10_method_13_code 98 = .ok (.astore 7, 2) := by decide +kernel
theorem d_U_takeStore_100 : decode prog_10_method_13_code 100 = .ok (.aload 7, 2) := by decide +kernel
theorem d_U_takeStore_102 : decode prog_10_method_13_code 102 = .ok (.iload 4, 2) := by decide +kernel
theorem d_U_takeStore_104 : decode prog_10_method_13_code 104 = .ok (.ifCond .eq 15, 3) := by decide +kernel
theorem d_U_takeStore_107 : decode prog_10_method_13_code 107 = .ok (.aload 7, 2) := by decide +kernel
theorem d_U_takeStore_109 : decode prog_10_method_13_code 109 = .ok (.lload_n 2, 1) := by decide +kernel
theorem d_U_takeStore_110 : decode prog_10_method_13_code 110 = .ok (.invokestatic 122, 3) := by decide +kernel
theorem d_U_takeStore_113 : decode prog_10_method_13_code 113 = .ok (.invokevirtual 130, 3) := by decide +kernel
theorem d_U_takeStore_116 : decode prog_10_method_13_code 116 = .ok (.goto 8, 3) := by decide +kernel
theorem d_U_takeStore_119 : decode prog_10_method_13_code 119 = .ok (.aload 7, 2) := by decide +kernel
theorem d_U_takeStore_121 : decode prog_10_method_13_code 121 = .ok (.invokevirtual 135, 3) := by decide +kernel
theorem d_U_takeStore_124 : decode prog_10_method_13_code 124 = .ok (.invokevirtual 138, 3) := by decide +kernel
theorem d_U_takeStore_127 : decode prog_10_method_13_code 127 = .ok (.aload_n 0, 1) := by decide +kernel
theorem d_U_takeStore_128 : decode prog_10_method_13_code 128 = .ok (.getfield 23, 3) := by decide +kernel
theorem d_U_takeStore_131 : decode prog_10_method_13_code 131 = .ok (.getfield 144, 3) := by decide +kernel
theorem d_U_takeStore_134 : decode prog_10_method_13_code 134 = .ok (.iload 6, 2) := by decide +kernel
theorem d_U_takeStore_136 : decode prog_10_method_13_code 136 = .ok (.invokevirtual 155, 3) := by decide +kernel
theorem d_U_takeStore_139 : decode prog_10_method_13_code 139 = .ok (.aload_n 0, 1) := by decide +kernel
theorem d_U_takeStore_140 : decode prog_10_method_13_code 140 = .ok (.getfield 30, 3) := by decide +kernel
theorem d_U_takeStore_143 : decode prog_10_method_13_code 143 = .ok (.iconst 3, 1) := by decide +kernel
theorem d_U_takeStore_144 : decode prog_10_method_13_code 144 = .ok (.aload 7, 2) := by decide +kernel
theorem d_U_takeStore_146 : decode prog_10_method_13_code 146 = .ok (.invokevirtual 141, 3) := by decide +kernel
theorem d_U_takeStore_149 : decode prog_10_method_13_code 149 = .ok (.iload 6, 2) := by decide +kernel
theorem d_U_takeStore_151 : decode prog_10_method_13_code 151 = .ok (.invokevirtual 116, 3) := by decide +kernel
theorem d_U_takeStore_154 : decode prog_10_method_13_code 154 = .ok (.ireturn, 1) := by decide +kernel
def cd_U_takeStore_0 : Nat → g_T := g_tab [(0, tr_ild 1 1), (1, tr_cst (.int (16)) 3), (3, tr_if2 (fun x y => x < y) 10 6), (6, tr_cst (.int (1)) 7), (7, tr_goto 11), (10, tr_cst (.int (0)) 11), (11, tr_ist 4 13), (13, tr_ild 4 15), (15, tr_if1 (fun x => x = 0) 25 18), (18, tr_ild 1 19), (19, tr_cst (.int (16)) 21), (21, tr_ii (fun x y => x - y) 22), (22, tr_goto 26), (25, tr_ild 1 26), (26, tr_ist 5 28), (28, tr_ald 0 29)]
set_option maxRecDepth 100000 in
theorem ok_U_takeStore_0 : ∀ pc, g_S (J_U_takeStore) pc (cd_U_takeStore_0 pc) := g_tab_ok <|
  List.forall_mem_cons.mpr ⟨so_iload_n d_U_takeStore_0 rfl rfl,
  List.forall_mem_cons.mpr ⟨so_bipush (by decide) d_U_takeStore_1 rfl,
  List.forall_mem_cons.mpr ⟨so_icmp_lt d_U_takeStore_3 (by decide) rfl,
  List.forall_mem_cons.mpr ⟨so_iconst (by decide) d_U_takeStore_6 rfl,
  List.forall_mem_cons.mpr ⟨so_goto d_U_takeStore_7 (by decide),
  List.forall_mem_cons.mpr ⟨so_iconst (by decide) d_U_takeStore_10 rfl,
  List.forall_mem_cons.mpr ⟨so_istore d_U_takeStore_11 (Nat.le_of_ble_eq_true rfl) rfl,
  List.forall_mem_cons.mpr ⟨so_iload d_U_takeStore_13 rfl,
  List.forall_mem_cons.mpr ⟨so_if_eq d_U_takeStore_15 (by decide) rfl,
  List.forall_mem_cons.mpr ⟨so_iload_n d_U_takeStore_18 rfl rfl,
  List.forall_mem_cons.mpr ⟨so_bipush (by decide) d_U_takeStore_19 rfl,
  List.forall_mem_cons.mpr ⟨so_isub d_U_takeStore_21 rfl,
  List.forall_mem_cons.mpr ⟨so_goto d_U_takeStore_22 (by decide),
  List.forall_mem_cons.mpr ⟨so_iload_n d_U_takeStore_25 rfl rfl,
  List.forall_mem_cons.mpr ⟨so_istore d_U_takeStore_26 (Nat.le_of_ble_eq_true rfl) rfl,
  List.forall_mem_cons.mpr ⟨so_aload_n d_U_takeStore_28 rfl rfl,
  fun _ h => absurd h List.not_mem_nil⟩⟩⟩⟩⟩⟩⟩⟩⟩⟩⟩⟩⟩⟩⟩⟩
def cd_U_takeStore_1 : Nat → g_T := g_tab [(29, tr_get 7 1 32), (32, tr_get 4 2 35), (35, tr_ild 5 37), (37, tr_cV J_V_at 3 1 40), (40, tr_ist 6 42), (42, tr_ild 5 44), (44, tr_cst (.int (8)) 46), (46, tr_if2 (fun x y => ¬ x = y) 74 49), (49, tr_ald 0 50), (50, tr_cV J_U_takeWord 7 0 53), (53, tr_lst 7 55), (55, tr_lld 7 57), (57, tr_cst (.long (-1)) 60), (60, tr_lcmp 61), (61, tr_if1 (fun x => ¬ x = 0) 66 64), (64, tr_cst (.int (0)) 65)]
set_option maxRecDepth 100000 in
theorem ok_U_takeStore_1 : ∀ pc, g_S (J_U_takeStore) pc (cd_U_takeStore_1 pc) := g_tab_ok <|
  List.forall_mem_cons.mpr ⟨so_get d_U_takeStore_29 (rfl : vwCl[7]? = some (R_U, F_U, 4)) (Nat.le_of_ble_eq_true rfl) i_U w_1_166 rfl,
  List.forall_mem_cons.mpr ⟨so_getN d_U_takeStore_32 (rfl : vwCl[4]? = some (R_M, F_M, 5)) (Nat.le_of_ble_eq_true rfl) i_M w_1_119 rfl,
  List.forall_mem_cons.mpr ⟨so_iload d_U_takeStore_35 rfl,
  List.forall_mem_cons.mpr ⟨so_cV g_good d_U_takeStore_37 ⟨w_4_9, (Nat.le_of_ble_eq_true rfl), (Nat.le_of_ble_eq_true rfl), w_1_8, ⟨by decide, by decide⟩, by decide +kernel⟩ (rfl : vwCl[3]? = some (R_V, F_V, 1)) w_4_6 w_4_7 w_4_8 rfl,
  List.forall_mem_cons.mpr ⟨so_istore d_U_takeStore_40 (Nat.le_of_ble_eq_true rfl) rfl,
  List.forall_mem_cons.mpr ⟨so_iload d_U_takeStore_42 rfl,
  List.forall_mem_cons.mpr ⟨so_bipush (by decide) d_U_takeStore_44 rfl,
  List.forall_mem_cons.mpr ⟨so_icmp_ne d_U_takeStore_46 (by decide) rfl,
  List.forall_mem_cons.mpr ⟨so_aload_n d_U_takeStore_49 rfl rfl,
  List.forall_mem_cons.mpr ⟨so_cV g_good d_U_takeStore_50 ⟨w_3_196, (Nat.le_of_ble_eq_true rfl), (Nat.le_of_ble_eq_true rfl), w_1_10, ⟨by decide, by decide⟩, by decide +kernel⟩ (rfl : vwCl[7]? = some (R_U, F_U, 4)) w_3_193 w_3_195 w_p15 rfl,
  List.forall_mem_cons.mpr ⟨so_lstore d_U_takeStore_53 (Nat.le_of_ble_eq_true rfl) rfl,
  List.forall_mem_cons.mpr ⟨so_lload d_U_takeStore_55 rfl,
  List.forall_mem_cons.mpr ⟨so_ldc2 w_3_197 d_U_takeStore_57 rfl,
  List.forall_mem_cons.mpr ⟨so_lcmp d_U_takeStore_60 rfl,
  List.forall_mem_cons.mpr ⟨so_if_ne d_U_takeStore_61 (by decide) rfl,
  List.forall_mem_cons.mpr ⟨so_iconst (by decide) d_U_takeStore_64 rfl,
  fun _ h => absurd h List.not_mem_nil⟩⟩⟩⟩⟩⟩⟩⟩⟩⟩⟩⟩⟩⟩⟩⟩
def cd_U_takeStore_2 : Nat → g_T := g_tab [(65, tr_rz), (66, tr_lld 7 68), (68, tr_l2i 69), (69, tr_ist 6 71), (71, tr_goto 91), (74, tr_ald 0 75), (75, tr_get 7 1 78), (78, tr_get 4 2 81), (81, tr_ild 5 83), (83, tr_cV J_V_has 3 1 86), (86, tr_if1 (fun x => ¬ x = 0) 91 89), (89, tr_cst (.int (0)) 90), (90, tr_rz), (91, tr_ald 0 92), (92, tr_get 7 1 95), (95, tr_get 4 1 98)]
set_option maxRecDepth 100000 in
theorem ok_U_takeStore_2 : ∀ pc, g_S (J_U_takeStore) pc (cd_U_takeStore_2 pc) := g_tab_ok <|
  List.forall_mem_cons.mpr ⟨so_zret d_U_takeStore_65 rfl,
  List.forall_mem_cons.mpr ⟨so_lload d_U_takeStore_66 rfl,
  List.forall_mem_cons.mpr ⟨so_l2i d_U_takeStore_68 rfl,
  List.forall_mem_cons.mpr ⟨so_istore d_U_takeStore_69 (Nat.le_of_ble_eq_true rfl) rfl,
  List.forall_mem_cons.mpr ⟨so_goto d_U_takeStore_71 (by decide),
  List.forall_mem_cons.mpr ⟨so_aload_n d_U_takeStore_74 rfl rfl,
  List.forall_mem_cons.mpr ⟨so_get d_U_takeStore_75 (rfl : vwCl[7]? = some (R_U, F_U, 4)) (Nat.le_of_ble_eq_true rfl) i_U w_1_166 rfl,
  List.forall_mem_cons.mpr ⟨so_getN d_U_takeStore_78 (rfl : vwCl[4]? = some (R_M, F_M, 5)) (Nat.le_of_ble_eq_true rfl) i_M w_1_119 rfl,
  List.forall_mem_cons.mpr ⟨so_iload d_U_takeStore_81 rfl,
  List.forall_mem_cons.mpr ⟨so_cV g_good d_U_takeStore_83 ⟨w_4_13, (Nat.le_of_ble_eq_true rfl), (Nat.le_of_ble_eq_true rfl), w_1_8, ⟨by decide, by decide⟩, by decide +kernel⟩ (rfl : vwCl[3]? = some (R_V, F_V, 1)) w_4_10 w_4_11 w_4_12 rfl,
  List.forall_mem_cons.mpr ⟨so_if_ne d_U_takeStore_86 (by decide) rfl,
  List.forall_mem_cons.mpr ⟨so_iconst (by decide) d_U_takeStore_89 rfl,
  List.forall_mem_cons.mpr ⟨so_zret d_U_takeStore_90 rfl,
  List.forall_mem_cons.mpr ⟨so_aload_n d_U_takeStore_91 rfl rfl,
  List.forall_mem_cons.mpr ⟨so_get d_U_takeStore_92 (rfl : vwCl[7]? = some (R_U, F_U, 4)) (Nat.le_of_ble_eq_true rfl) i_U w_1_166 rfl,
  List.forall_mem_cons.mpr ⟨so_getN d_U_takeStore_95 (rfl : vwCl[4]? = some (R_M, F_M, 5)) (Nat.le_of_ble_eq_true rfl) i_M w_1_116 rfl,
  fun _ h => absurd h List.not_mem_nil⟩⟩⟩⟩⟩⟩⟩⟩⟩⟩⟩⟩⟩⟩⟩⟩
def cd_U_takeStore_3 : Nat → g_T := g_tab [(98, tr_ast 7 100), (100, tr_ald 7 102), (102, tr_ild 4 104), (104, tr_if1 (fun x => x = 0) 119 107), (107, tr_ald 7 109), (109, tr_lld 2 110), (110, tr_cS J_T_differenceOf 1 113), (113, tr_cV J_L_after 1 1 116), (116, tr_goto 124), (119, tr_ald 7 121), (121, tr_cV J_L_expected 1 0 124), (124, tr_cV J_L_goTo 1 1 127), (127, tr_ald 0 128), (128, tr_get 7 1 131), (131, tr_get 4 2 134), (134, tr_ild 6 136)]
set_option maxRecDepth 100000 in
theorem ok_U_takeStore_3 : ∀ pc, g_S (J_U_takeStore) pc (cd_U_takeStore_3 pc) := g_tab_ok <|
  List.forall_mem_cons.mpr ⟨so_astore d_U_takeStore_98 (Nat.le_of_ble_eq_true rfl) rfl,
  List.forall_mem_cons.mpr ⟨so_aload d_U_takeStore_100 rfl,
  List.forall_mem_cons.mpr ⟨so_iload d_U_takeStore_102 rfl,
  List.forall_mem_cons.mpr ⟨so_if_eq d_U_takeStore_104 (by decide) rfl,
  List.forall_mem_cons.mpr ⟨so_aload d_U_takeStore_107 rfl,
  List.forall_mem_cons.mpr ⟨so_lload_n d_U_takeStore_109 rfl rfl,
  List.forall_mem_cons.mpr ⟨so_cSN g_good d_U_takeStore_110 ⟨w_3_227, (Nat.le_of_ble_eq_true rfl), (Nat.le_of_ble_eq_true rfl), w_1_1, ⟨by decide, by decide⟩, by decide +kernel⟩ w_3_225 w_3_226 rfl,
  List.forall_mem_cons.mpr ⟨so_cV g_good d_U_takeStore_113 ⟨w_3_235, (Nat.le_of_ble_eq_true rfl), (Nat.le_of_ble_eq_true rfl), w_1_7, ⟨by decide, by decide⟩, by decide +kernel⟩ (rfl : vwCl[1]? = some (R_L, F_L, 2)) w_3_232 w_3_233 w_3_234 rfl,
  List.forall_mem_cons.mpr ⟨so_goto d_U_takeStore_116 (by decide),
  List.forall_mem_cons.mpr ⟨so_aload d_U_takeStore_119 rfl,
  List.forall_mem_cons.mpr ⟨so_cV g_good d_U_takeStore_121 ⟨w_3_14, (Nat.le_of_ble_eq_true rfl), (Nat.le_of_ble_eq_true rfl), w_1_7, ⟨by decide, by decide⟩, by decide +kernel⟩ (rfl : vwCl[1]? = some (R_L, F_L, 2)) w_3_236 w_3_12 w_3_13 rfl,
  List.forall_mem_cons.mpr ⟨so_cV g_good d_U_takeStore_124 ⟨w_3_22, (Nat.le_of_ble_eq_true rfl), (Nat.le_of_ble_eq_true rfl), w_1_7, ⟨by decide, by decide⟩, by decide +kernel⟩ (rfl : vwCl[1]? = some (R_L, F_L, 2)) w_3_237 w_3_20 w_3_21 rfl,
  List.forall_mem_cons.mpr ⟨so_aload_n d_U_takeStore_127 rfl rfl,
  List.forall_mem_cons.mpr ⟨so_get d_U_takeStore_128 (rfl : vwCl[7]? = some (R_U, F_U, 4)) (Nat.le_of_ble_eq_true rfl) i_U w_1_166 rfl,
  List.forall_mem_cons.mpr ⟨so_getN d_U_takeStore_131 (rfl : vwCl[4]? = some (R_M, F_M, 5)) (Nat.le_of_ble_eq_true rfl) i_M w_1_119 rfl,
  List.forall_mem_cons.mpr ⟨so_iload d_U_takeStore_134 rfl,
  fun _ h => absurd h List.not_mem_nil⟩⟩⟩⟩⟩⟩⟩⟩⟩⟩⟩⟩⟩⟩⟩⟩
def cd_U_takeStore_4 : Nat → g_T := g_tab [(136, tr_cV J_V_use 3 1 139), (139, tr_ald 0 140), (140, tr_get 7 2 143), (143, tr_cst (.int (3)) 144), (144, tr_ald 7 146), (146, tr_cV J_L_last 1 0 149), (149, tr_ild 6 151), (151, tr_cV J_B_add 2 3 154), (154, tr_rz)]
set_option maxRecDepth 100000 in
theorem ok_U_takeStore_4 : ∀ pc, g_S (J_U_takeStore) pc (cd_U_takeStore_4 pc) := g_tab_ok <|
  List.forall_mem_cons.mpr ⟨so_cV g_good d_U_takeStore_136 ⟨w_3_36, (Nat.le_of_ble_eq_true rfl), (Nat.le_of_ble_eq_true rfl), w_1_8, ⟨by decide, by decide⟩, by decide +kernel⟩ (rfl : vwCl[3]? = some (R_V, F_V, 1)) w_4_15 w_3_34 w_3_35 rfl,
  List.forall_mem_cons.mpr ⟨so_aload_n d_U_takeStore_139 rfl rfl,
  List.forall_mem_cons.mpr ⟨so_get d_U_takeStore_140 (rfl : vwCl[7]? = some (R_U, F_U, 4)) (Nat.le_of_ble_eq_true rfl) i_U w_1_167 rfl,
  List.forall_mem_cons.mpr ⟨so_iconst (by decide) d_U_takeStore_143 rfl,
  List.forall_mem_cons.mpr ⟨so_aload d_U_takeStore_144 rfl,
  List.forall_mem_cons.mpr ⟨so_cV g_good d_U_takeStore_146 ⟨w_4_1, (Nat.le_of_ble_eq_true rfl), (Nat.le_of_ble_eq_true rfl), w_1_7, ⟨by decide, by decide⟩, by decide +kernel⟩ (rfl : vwCl[1]? = some (R_L, F_L, 2)) w_3_238 w_3_239 w_4_0 rfl,
  List.forall_mem_cons.mpr ⟨so_iload d_U_takeStore_149 rfl,
  List.forall_mem_cons.mpr ⟨so_cV g_good d_U_takeStore_151 ⟨w_3_87, (Nat.le_of_ble_eq_true rfl), (Nat.le_of_ble_eq_true rfl), w_1_4, ⟨by decide, by decide⟩, by decide +kernel⟩ (rfl : vwCl[2]? = some (R_B, F_B, 5)) w_3_220 w_3_85 w_3_86 rfl,
  List.forall_mem_cons.mpr ⟨so_zret d_U_takeStore_154 rfl,
  fun _ h => absurd h List.not_mem_nil⟩⟩⟩⟩⟩⟩⟩⟩⟩
def cd_U_takeStore : Nat → g_T := g_chk [(28, cd_U_takeStore_0), (64, cd_U_takeStore_1), (95, cd_U_takeStore_2), (134, cd_U_takeStore_3), (154, cd_U_takeStore_4)]
theorem ok_U_takeStore : ∀ pc, g_S (J_U_takeStore) pc (cd_U_takeStore pc) := g_chk_ok <|
  List.forall_mem_cons.mpr ⟨ok_U_takeStore_0,
  List.forall_mem_cons.mpr ⟨ok_U_takeStore_1,
  List.forall_mem_cons.mpr ⟨ok_U_takeStore_2,
  List.forall_mem_cons.mpr ⟨ok_U_takeStore_3,
  List.forall_mem_cons.mpr ⟨ok_U_takeStore_4,
  fun _ h => absurd h List.not_mem_nil⟩⟩⟩⟩⟩
abbrev J_U_takeTime : g_J := (y_U_takeTime, prog_10_method_14_code, 3, (some .boolean), (2, 44), [], none)
theorem d_U_takeTime_0 : decode prog_10_method_14_code 0 = .ok (.lload_n 1, 1) := by decide +kernel
theorem d_U_takeTime_1 : decode prog_10_method_14_code 1 = .ok (.ldc 158, 2) := by decide +kernel
theorem d_U_takeTime_3 : decode prog_10_method_14_code 3 = .ok (.aload_n 0, 1) := by decide +kernel
theorem d_U_takeTime_4 : decode prog_10_method_14_code 4 = .ok (.getfield 23, 3) := by decide +kernel
theorem d_U_takeTime_7 : decode prog_10_method_14_code 7 = .ok (.getfield 159, 3) := by decide +kernel
theorem d_U_takeTime_10 : decode prog_10_method_14_code 10 = .ok (.isub, 1) := by decide +kernel
theorem d_U_takeTime_11 : decode prog_10_method_14_code 11 = .ok (.i2l, 1) := by decide +kernel
theorem d_U_takeTime_12 : decode prog_10_method_14_code 12 = .ok (.lcmp, 1) := by decide +kernel
theorem d_U_takeTime_13 : decode prog_10_method_14_code 13 = .ok (.ifCond .le 5, 3) := by decide +kernel
theorem d_U_takeTime_16 : decode prog_10_method_14_code 16 = .ok (.iconst 0, 1) := by decide +kernel
theorem d_U_takeTime_17 : decode prog_10_method_14_code 17 = .ok (.ireturn, 1) := by decide +kernel
theorem d_U_takeTime_18 : decode prog_10_method_14_code 18 = .ok (.aload_n 0, 1) := by decide +kernel
theorem d_U_takeTime_19 : decode prog_10_method_14_code 19 = .ok (.getfield 23, 3) := by decide +kernel
theorem d_U_takeTime_22 : decode prog_10_method_14_code 22 = .ok (.dup, 1) := by decide +kernel
theorem d_U_takeTime_23 : decode prog_10_method_14_code 23 = .ok (.getfield 159, 3) := by decide +kernel
theorem d_U_takeTime_26 : decode prog_10_method_14_code 26 = .ok (.lload_n 1, 1) := by decide +kernel
theorem d_U_takeTime_27 : decode prog_10_method_14_code 27 = .ok (.l2i, 1) := by decide +kernel
theorem d_U_takeTime_28 : decode prog_10_method_14_code 28 = .ok (.iadd, 1) := by decide +kernel
theorem d_U_takeTime_29 : decode prog_10_method_14_code 29 = .ok (.putfield 159, 3) := by decide +kernel
theorem d_U_takeTime_32 : decode prog_10_method_14_code 32 = .ok (.aload_n 0, 1) := by decide +kernel
theorem d_U_takeTime_33 : decode prog_10_method_14_code 33 = .ok (.getfield 30, 3) := by decide +kernel
theorem d_U_takeTime_36 : decode prog_10_method_14_code 36 = .ok (.iconst 4, 1) := by decide +kernel
theorem d_U_takeTime_37 : decode prog_10_method_14_code 37 = .ok (.aload_n 0, 1) := by decide +kernel
theorem d_U_takeTime_38 : decode prog_10_method_14_code 38 = .ok (.getfield 23, 3) := by decide +kernel
theorem d_U_takeTime_41 : decode prog_10_method_14_code 41 = .ok (.getfield 159, 3) := by decide +kernel
theorem d_U_takeTime_44 : decode prog_10_method_14_code 44 = .ok (.iconst 0, 1) := by decide +kernel
theorem d_U_takeTime_45 : decode prog_10_method_14_code 45 = .ok (.invokevirtual 116, 3) := by decide +kernel
theorem d_U_takeTime_48 : decode prog_10_method_14_code 48 = .ok (.ireturn, 1) := by decide +kernel
def cd_U_takeTime_0 : Nat → g_T := g_tab [(0, tr_lld 1 1), (1, tr_cst (.int (2147483647)) 3), (3, tr_ald 0 4), (4, tr_get 7 1 7), (7, tr_get 4 4 10), (10, tr_ii (fun x y => x - y) 11), (11, tr_i2l 12), (12, tr_lcmp 13), (13, tr_if1 (fun x => x ≤ 0) 18 16), (16, tr_cst (.int (0)) 17), (17, tr_rz), (18, tr_ald 0 19), (19, tr_get 7 1 22), (22, tr_dup 23), (23, tr_get 4 4 26), (26, tr_lld 1 27)]
set_option maxRecDepth 100000 in
theorem ok_U_takeTime_0 : ∀ pc, g_S (J_U_takeTime) pc (cd_U_takeTime_0 pc) := g_tab_ok <|
  List.forall_mem_cons.mpr ⟨so_lload_n d_U_takeTime_0 rfl rfl,
  List.forall_mem_cons.mpr ⟨so_ldc w_4_20 d_U_takeTime_1 rfl,
  List.forall_mem_cons.mpr ⟨so_aload_n d_U_takeTime_3 rfl rfl,
  List.forall_mem_cons.mpr ⟨so_get d_U_takeTime_4 (rfl : vwCl[7]? = some (R_U, F_U, 4)) (Nat.le_of_ble_eq_true rfl) i_U w_1_166 rfl,
  List.forall_mem_cons.mpr ⟨so_getN d_U_takeTime_7 (rfl : vwCl[4]? = some (R_M, F_M, 5)) (Nat.le_of_ble_eq_true rfl) i_M w_1_125 rfl,
  List.forall_mem_cons.mpr ⟨so_isub d_U_takeTime_10 rfl,
  List.forall_mem_cons.mpr ⟨so_i2l d_U_takeTime_11 rfl,
  List.forall_mem_cons.mpr ⟨so_lcmp d_U_takeTime_12 rfl,
  List.forall_mem_cons.mpr ⟨so_if_le d_U_takeTime_13 (by decide) rfl,
  List.forall_mem_cons.mpr ⟨so_iconst (by decide) d_U_takeTime_16 rfl,
  List.forall_mem_cons.mpr ⟨so_zret d_U_takeTime_17 rfl,
  List.forall_mem_cons.mpr ⟨so_aload_n d_U_takeTime_18 rfl rfl,
  List.forall_mem_cons.mpr ⟨so_get d_U_takeTime_19 (rfl : vwCl[7]? = some (R_U, F_U, 4)) (Nat.le_of_ble_eq_true rfl) i_U w_1_166 rfl,
  List.forall_mem_cons.mpr ⟨so_dup d_U_takeTime_22 rfl,
  List.forall_mem_cons.mpr ⟨so_getN d_U_takeTime_23 (rfl : vwCl[4]? = some (R_M, F_M, 5)) (Nat.le_of_ble_eq_true rfl) i_M w_1_125 rfl,
  List.forall_mem_cons.mpr ⟨so_lload_n d_U_takeTime_26 rfl rfl,
  fun _ h => absurd h List.not_mem_nil⟩⟩⟩⟩⟩⟩⟩⟩⟩⟩⟩⟩⟩⟩⟩⟩
def cd_U_takeTime_1 : Nat → g_T := g_tab [(27, tr_l2i 28), (28, tr_ii (fun x y => x + y) 29), (29, tr_put 4 4 (.int) 32), (32, tr_ald 0 33), (33, tr_get 7 2 36), (36, tr_cst (.int (4)) 37), (37, tr_ald 0 38), (38, tr_get 7 1 41), (41, tr_get 4 4 44), (44, tr_cst (.int (0)) 45), (45, tr_cV J_B_add 2 3 48), (48, tr_rz)]
set_option maxRecDepth 100000 in
theorem ok_U_takeTime_1 : ∀ pc, g_S (J_U_takeTime) pc (cd_U_takeTime_1 pc) := g_tab_ok <|
  List.forall_mem_cons.mpr ⟨so_l2i d_U_takeTime_27 rfl,
  List.forall_mem_cons.mpr ⟨so_iadd d_U_takeTime_28 rfl,
  List.forall_mem_cons.mpr ⟨so_putN ft_M d_U_takeTime_29 (rfl : vwCl[4]? = some (R_M, F_M, 5)) (Nat.le_of_ble_eq_true rfl) i_M w_1_125 tk_M n_M rfl rfl rfl,
  List.forall_mem_cons.mpr ⟨so_aload_n d_U_takeTime_32 rfl rfl,
  List.forall_mem_cons.mpr ⟨so_get d_U_takeTime_33 (rfl : vwCl[7]? = some (R_U, F_U, 4)) (Nat.le_of_ble_eq_true rfl) i_U w_1_167 rfl,
  List.forall_mem_cons.mpr ⟨so_iconst (by decide) d_U_takeTime_36 rfl,
  List.forall_mem_cons.mpr ⟨so_aload_n d_U_takeTime_37 rfl rfl,
  List.forall_mem_cons.mpr ⟨so_get d_U_takeTime_38 (rfl : vwCl[7]? = some (R_U, F_U, 4)) (Nat.le_of_ble_eq_true rfl) i_U w_1_166 rfl,
  List.forall_mem_cons.mpr ⟨so_getN d_U_takeTime_41 (rfl : vwCl[4]? = some (R_M, F_M, 5)) (Nat.le_of_ble_eq_true rfl) i_M w_1_125 rfl,
  List.forall_mem_cons.mpr ⟨so_iconst (by decide) d_U_takeTime_44 rfl,
  List.forall_mem_cons.mpr ⟨so_cV g_good d_U_takeTime_45 ⟨w_3_87, (Nat.le_of_ble_eq_true rfl), (Nat.le_of_ble_eq_true rfl), w_1_4, ⟨by decide, by decide⟩, by decide +kernel⟩ (rfl : vwCl[2]? = some (R_B, F_B, 5)) w_3_220 w_3_85 w_3_86 rfl,
  List.forall_mem_cons.mpr ⟨so_zret d_U_takeTime_48 rfl,
  fun _ h => absurd h List.not_mem_nil⟩⟩⟩⟩⟩⟩⟩⟩⟩⟩⟩⟩
def cd_U_takeTime : Nat → g_T := g_chk [(26, cd_U_takeTime_0), (48, cd_U_takeTime_1)]
theorem ok_U_takeTime : ∀ pc, g_S (J_U_takeTime) pc (cd_U_takeTime pc) := g_chk_ok <|
  List.forall_mem_cons.mpr ⟨ok_U_takeTime_0,
  List.forall_mem_cons.mpr ⟨ok_U_takeTime_1,
  fun _ h => absurd h List.not_mem_nil⟩⟩
abbrev J_U_takeRow : g_J := (y_U_takeRow, prog_10_method_8_code, 6, (some .boolean), (3, 74), [], none)
theorem d_U_takeRow_0 : decode prog_10_method_8_code 0 = .ok (.aload_n 0, 1) := by decide +kernel
theorem d_U_takeRow_1 : decode prog_10_method_8_code 1 = .ok (.getfield 14, 3) := by decide +kernel
theorem d_U_takeRow_4 : decode prog_10_method_8_code 4 = .ok (.aload_n 0, 1) := by decide +kernel
theorem d_U_takeRow_5 : decode prog_10_method_8_code 5 = .ok (.getfield 49, 3) := by decide +kernel
theorem d_U_takeRow_8 : decode prog_10_method_8_code 8 = .ok (.invokevirtual 45, 3) := by decide +kernel
theorem d_U_takeRow_11 : decode prog_10_method_8_code 11 = .ok (.istore_n 1, 1) := by decide +kernel
theorem d_U_takeRow_12 : decode prog_10_method_8_code 12 = .ok (.iload_n 1, 1) := by decide +kernel
theorem d_U_takeRow_13 : decode prog_10_method_8_code 13 = .ok (.iconst 5, 1) := by decide +kernel
theorem d_U_takeRow_14 : decode prog_10_method_8_code 14 = .ok (.ishr, 1) := by decide +kernel
theorem d_U_takeRow_15 : decode prog_10_method_8_code 15 = .ok (.istore_n 2, 1) := by decide +kernel
theorem d_U_takeRow_16 : decode prog_10_method_8_code 16 = .ok (.iload_n 1, 1) := by decide +kernel
theorem d_U_takeRow_17 : decode prog_10_method_8_code 17 = .ok (.bipush 31, 2) := by decide +kernel
theorem d_U_takeRow_19 : decode prog_10_method_8_code 19 = .ok (.iand, 1) := by decide +kernel
theorem d_U_takeRow_20 : decode prog_10_method_8_code 20 = .ok (.istore_n 3, 1) := by decide +kernel
theorem d_U_takeRow_21 : decode prog_10_method_8_code 21 = .ok (.aload_n 0, 1) := by decide +kernel
theorem d_U_takeRow_22 : decode prog_10_method_8_code 22 = .ok (.dup, 1) := by decide +kernel
theorem d_U_takeRow_23 : decode prog_10_method_8_code 23 = .ok (.getfield 49, 3) := by decide +kernel
theorem d_U_takeRow_26 : decode prog_10_method_8_code 26 = .ok (.iconst 1, 1) := by decide +kernel
theorem d_U_takeRow_27 : decode prog_10_method_8_code 27 = .ok (.iadd, 1) := by decide +kernel
theorem d_U_takeRow_28 : decode prog_10_method_8_code 28 = .ok (.putfield 49, 3) := by decide +kernel
theorem d_U_takeRow_31 : decode prog_10_method_8_code 31 = .ok (.iload_n 2, 1) := by decide +kernel
theorem d_U_takeRow_32 : decode prog_10_method_8_code 32 = .ok (.iload_n 3, 1) := by decide +kernel
theorem d_U_takeRow_33 : decode prog_10_method_8_code 33 = .ok (.invokestatic 92, 3) := by decide +kernel
theorem d_U_takeRow_36 : decode prog_10_method_8_code 36 = .ok (.ifCond .eq 10, 3) := by decide +kernel
theorem d_U_takeRow_39 : decode prog_10_method_8_code 39 = .ok (.aload_n 0, 1) := by decide +kernel
theorem d_U_takeRow_40 : decode prog_10_method_8_code 40 = .ok (.invokevirtual 96, 3) := by decide +kernel
theorem d_U_takeRow_43 : decode prog_10_method_8_code 43 = .ok (.goto 4, 3) := by decide +kernel
theorem d_U_takeRow_46 : decode prog_10_method_8_code 46 = .ok (.lconst 0, 1) := by decide +kernel
theorem d_U_takeRow_47 : decode prog_10_method_8_code 47 = .ok (.lstore 4, 2) := by decide +kernel
theorem d_U_takeRow_49 : decode prog_10_method_8_code 49 = .ok (.lload 4, 2) := by decide +kernel
theorem d_U_takeRow_51 : decode prog_10_method_8_code 51 = .ok (.ldc2_w 82, 3) := by decide +kernel
theorem d_U_takeRow_54 : decode prog_10_method_8_code 54 = .ok (.lcmp, 1) := by decide +kernel
theorem d_U_takeRow_55 : decode prog_10_method_8_code 55 = .ok (.ifCond .ne 5, 3) := by decide +kernel
theorem d_U_takeRow_58 : decode prog_10_method_8_code 58 = .ok (.iconst 0, 1) := by decide +kernel
theorem d_U_takeRow_59 : decode prog_10_method_8_code 59 = .ok (.ireturn, 1) := by decide +kernel
theorem d_U_takeRow_60 : decode prog_10_method_8_code 60 = .ok (.iload_n 2, 1) := by decide +kernel
theorem d_U_takeRow_61 : decode prog_10_method_8_code 61 = .ok (.tableswitch 108 0 4 #[35, 41, 60, 81, 89], 35) := by decide +kernel
theorem d_U_takeRow_96 : decode prog_10_method_8_code 96 = .ok (.aload_n 0, 1) := by decide +kernel
theorem d_U_takeRow_97 : decode prog_10_method_8_code 97 = .ok (.iload_n 3, 1) := by decide +kernel
theorem d_U_takeRow_98 : decode prog_10_method_8_code 98 = .ok (.invokevirtual 99, 3) := by decide +kernel
theorem d_U_takeRow_101 : decode prog_10_method_8_code 101 = .ok (.ireturn, 1) := by decide +kernel
theorem d_U_takeRow_102 : decode prog_10_method_8_code 102 = .ok (.iload_n 3, 1) := by decide +kernel
theorem d_U_takeRow_103 : decode prog_10_method_8_code 103 = .ok (.ifCond .ne 16, 3) := by decide +kernel
theorem d_U_takeRow_106 : decode prog_10_method_8_code 106 = .ok (.aload_n 0, 1) := by decide +kernel
theorem d_U_takeRow_107 : decode prog_10_method_8_code 107 = .ok (.lload 4, 2) := by decide +kernel
theorem d_U_takeRow_109 : decode prog_10_method_8_code 109 = .ok (.invokevirtual 102, 3) := by decide +kernel
theorem d_U_takeRow_112 : decode prog_10_method_8_code 112 = .ok (.ifCond .eq 7, 3) := by decide +kernel
theorem d_U_takeRow_115 : decode prog_10_method_8_code 115 = .ok (.iconst 1, 1) := by decide +kernel
theorem d_U_takeRow_116 : decode prog_10_method_8_code 116 = .ok (.goto 4, 3) := by decide +kernel
theorem d_U_takeRow_119 : decode prog_10_method_8_code 119 = .ok (.iconst 0, 1) := by decide +kernel
theorem d_U_takeRow_120 : decode prog_10_method_8_code 120 = .ok (.ireturn, 1) := by decide +kernel
theorem d_U_takeRow_121 : decode prog_10_method_8_code 121 = .ok (.iload_n 3, 1) := by decide +kernel
theorem d_U_takeRow_122 : decode prog_10_method_8_code 122 = .ok (.iconst 1, 1) := by decide +kernel
theorem d_U_takeRow_123 : decode prog_10_method_8_code 123 = .ok (.if_icmp .gt 17, 3) := by decide +kernel
theorem d_U_takeRow_126 : decode prog_10_method_8_code 126 = .ok (.aload_n 0, 1) := by decide +kernel
theorem d_U_takeRow_127 : decode prog_10_method_8_code 127 = .ok (.iload_n 3, 1) := by decide +kernel
theorem d_U_takeRow_128 : decode prog_10_method_8_code 128 = .ok (.lload 4, 2) := by decide +kernel
theorem d_U_takeRow_130 : decode prog_10_method_8_code 130 = .ok (.invokevirtual 106, 3) := by decide +kernel
theorem d_U_takeRow_133 : decode prog_10_method_8_code 133 = .ok (.ifCond .eq 7, 3) := by decide +kernel
theorem d_U_takeRow_136 : decode prog_10_method_8_code 136 = .ok (.iconst 1, 1) := by decide +kernel
theorem d_U_takeRow_137 : decode prog_10_method_8_code 137 = .ok (.goto 4, 3) := by decide +kernel
theorem d_U_takeRow_140 : decode prog_10_method_8_code 140 = .ok (.iconst 0, 1) := by decide +kernel
theorem d_U_takeRow_141 : decode prog_10_method_8_code 141 = .ok (.ireturn, 1) := by decide +kernel
theorem d_U_takeRow_142 : decode prog_10_method_8_code 142 = .ok (.aload_n 0, 1) := by decide +kernel
theorem d_U_takeRow_143 : decode prog_10_method_8_code 143 = .ok (.iload_n 3, 1) := by decide +kernel
theorem d_U_takeRow_144 : decode prog_10_method_8_code 144 = .ok (.lload 4, 2) := by decide +kernel
theorem d_U_takeRow_146 : decode prog_10_method_8_code 146 = .ok (.invokevirtual 110, 3) := by decide +kernel
theorem d_U_takeRow_149 : decode prog_10_method_8_code 149 = .ok (.ireturn, 1) := by decide +kernel
theorem d_U_takeRow_150 : decode prog_10_method_8_code 150 = .ok (.iload_n 3, 1) := by decide +kernel
theorem d_U_takeRow_151 : decode prog_10_method_8_code 151 = .ok (.ifCond .ne 16, 3) := by decide +kernel
theorem d_U_takeRow_154 : decode prog_10_method_8_code 154 = .ok (.aload_n 0, 1) := by decide +kernel
theorem d_U_takeRow_155 : decode prog_10_method_8_code 155 = .ok (.lload 4, 2) := by decide +kernel
theorem d_U_takeRow_157 : decode prog_10_method_8_code 157 = .ok (.invokevirtual 113, 3) := by decide +kernel
theorem d_U_takeRow_160 : decode prog_10_method_8_code 160 = .ok (.ifCond .eq 7, 3) := by decide +kernel
theorem d_U_takeRow_163 : decode prog_10_method_8_code 163 = .ok (.iconst 1, 1) := by decide +kernel
theorem d_U_takeRow_164 : decode prog_10_method_8_code 164 = .ok (.goto 4, 3) := by decide +kernel
theorem d_U_takeRow_167 : decode prog_10_method_8_code 167 = .ok (.iconst 0, 1) := by decide +kernel
theorem d_U_takeRow_168 : decode prog_10_method_8_code 168 = .ok (.ireturn, 1) := by decide +kernel
theorem d_U_takeRow_169 : decode prog_10_method_8_code 169 = .ok (.iconst 0, 1) := by decide +kernel
theorem d_U_takeRow_170 : decode prog_10_method_8_code 170 = .ok (.ireturn, 1) := by decide +kernel
def cd_U_takeRow_0 : Nat → g_T := g_tab [(0, tr_ald 0 1), (1, tr_get 7 0 4), (4, tr_ald 0 5), (5, tr_get 7 3 8), (8, tr_cV J_I_at 0 1 11), (11, tr_ist 1 12), (12, tr_ild 1 13), (13, tr_cst (.int (5)) 14), (14, tr_ii (fun x y => x >>> (y &&& 31)) 15), (15, tr_ist 2 16), (16, tr_ild 1 17), (17, tr_cst (.int (31)) 19), (19, tr_ii (fun x y => x &&& y) 20), (20, tr_ist 3 21), (21, tr_ald 0 22), (22, tr_dup 23)]
set_option maxRecDepth 100000 in
theorem ok_U_takeRow_0 : ∀ pc, g_S (J_U_takeRow) pc (cd_U_takeRow_0 pc) := g_tab_ok <|
  List.forall_mem_cons.mpr ⟨so_aload_n d_U_takeRow_0 rfl rfl,
  List.forall_mem_cons.mpr ⟨so_get d_U_takeRow_1 (rfl : vwCl[7]? = some (R_U, F_U, 4)) (Nat.le_of_ble_eq_true rfl) i_U w_1_165 rfl,
  List.forall_mem_cons.mpr ⟨so_aload_n d_U_takeRow_4 rfl rfl,
  List.forall_mem_cons.mpr ⟨so_get d_U_takeRow_5 (rfl : vwCl[7]? = some (R_U, F_U, 4)) (Nat.le_of_ble_eq_true rfl) i_U w_1_168 rfl,
  List.forall_mem_cons.mpr ⟨so_cV g_good d_U_takeRow_8 ⟨w_2_151, (Nat.le_of_ble_eq_true rfl), (Nat.le_of_ble_eq_true rfl), w_1_2, ⟨by decide, by decide⟩, by decide +kernel⟩ (rfl : vwCl[0]? = some (R_I, F_I, 2)) w_3_178 w_2_149 w_2_150 rfl,
  List.forall_mem_cons.mpr ⟨so_istore_n d_U_takeRow_11 rfl (Nat.le_of_ble_eq_true rfl) rfl,
  List.forall_mem_cons.mpr ⟨so_iload_n d_U_takeRow_12 rfl rfl,
  List.forall_mem_cons.mpr ⟨so_iconst (by decide) d_U_takeRow_13 rfl,
  List.forall_mem_cons.mpr ⟨so_ishr d_U_takeRow_14 rfl,
  List.forall_mem_cons.mpr ⟨so_istore_n d_U_takeRow_15 rfl (Nat.le_of_ble_eq_true rfl) rfl,
  List.forall_mem_cons.mpr ⟨so_iload_n d_U_takeRow_16 rfl rfl,
  List.forall_mem_cons.mpr ⟨so_bipush (by decide) d_U_takeRow_17 rfl,
  List.forall_mem_cons.mpr ⟨so_iand d_U_takeRow_19 rfl,
  List.forall_mem_cons.mpr ⟨so_istore_n d_U_takeRow_20 rfl (Nat.le_of_ble_eq_true rfl) rfl,
  List.forall_mem_cons.mpr ⟨so_aload_n d_U_takeRow_21 rfl rfl,
  List.forall_mem_cons.mpr ⟨so_dup d_U_takeRow_22 rfl,
  fun _ h => absurd h List.not_mem_nil⟩⟩⟩⟩⟩⟩⟩⟩⟩⟩⟩⟩⟩⟩⟩⟩
def cd_U_takeRow_1 : Nat → g_T := g_tab [(23, tr_get 7 3 26), (26, tr_cst (.int (1)) 27), (27, tr_ii (fun x y => x + y) 28), (28, tr_put 7 3 (.int) 31), (31, tr_ild 2 32), (32, tr_ild 3 33), (33, tr_cS J_U_isNumberBehind 2 36), (36, tr_if1 (fun x => x = 0) 46 39), (39, tr_ald 0 40), (40, tr_cV J_U_takeNumber 7 0 43), (43, tr_goto 47), (46, tr_cst (.long (0)) 47), (47, tr_lst 4 49), (49, tr_lld 4 51), (51, tr_cst (.long (-1)) 54), (54, tr_lcmp 55)]
set_option maxRecDepth 100000 in
theorem ok_U_takeRow_1 : ∀ pc, g_S (J_U_takeRow) pc (cd_U_takeRow_1 pc) := g_tab_ok <|
  List.forall_mem_cons.mpr ⟨so_get d_U_takeRow_23 (rfl : vwCl[7]? = some (R_U, F_U, 4)) (Nat.le_of_ble_eq_true rfl) i_U w_1_168 rfl,
  List.forall_mem_cons.mpr ⟨so_iconst (by decide) d_U_takeRow_26 rfl,
  List.forall_mem_cons.mpr ⟨so_iadd d_U_takeRow_27 rfl,
  List.forall_mem_cons.mpr ⟨so_put ft_U d_U_takeRow_28 (rfl : vwCl[7]? = some (R_U, F_U, 4)) (Nat.le_of_ble_eq_true rfl) i_U w_1_168 tk_U n_U rfl rfl rfl,
  List.forall_mem_cons.mpr ⟨so_iload_n d_U_takeRow_31 rfl rfl,
  List.forall_mem_cons.mpr ⟨so_iload_n d_U_takeRow_32 rfl rfl,
  List.forall_mem_cons.mpr ⟨so_cS g_good d_U_takeRow_33 ⟨w_3_208, (Nat.le_of_ble_eq_true rfl), (Nat.le_of_ble_eq_true rfl), w_1_10, ⟨by decide, by decide⟩, by decide +kernel⟩ w_3_206 w_3_207 rfl,
  List.forall_mem_cons.mpr ⟨so_if_eq d_U_takeRow_36 (by decide) rfl,
  List.forall_mem_cons.mpr ⟨so_aload_n d_U_takeRow_39 rfl rfl,
  List.forall_mem_cons.mpr ⟨so_cV g_good d_U_takeRow_40 ⟨w_3_212, (Nat.le_of_ble_eq_true rfl), (Nat.le_of_ble_eq_true rfl), w_1_10, ⟨by decide, by decide⟩, by decide +kernel⟩ (rfl : vwCl[7]? = some (R_U, F_U, 4)) w_3_209 w_3_211 w_p17 rfl,
  List.forall_mem_cons.mpr ⟨so_goto d_U_takeRow_43 (by decide),
  List.forall_mem_cons.mpr ⟨so_lconst (by decide) d_U_takeRow_46 rfl,
  List.forall_mem_cons.mpr ⟨so_lstore d_U_takeRow_47 (Nat.le_of_ble_eq_true rfl) rfl,
  List.forall_mem_cons.mpr ⟨so_lload d_U_takeRow_49 rfl,
  List.forall_mem_cons.mpr ⟨so_ldc2 w_3_197 d_U_takeRow_51 rfl,
  List.forall_mem_cons.mpr ⟨so_lcmp d_U_takeRow_54 rfl,
  fun _ h => absurd h List.not_mem_nil⟩⟩⟩⟩⟩⟩⟩⟩⟩⟩⟩⟩⟩⟩⟩⟩
def cd_U_takeRow_2 : Nat → g_T := g_tab [(55, tr_if1 (fun x => ¬ x = 0) 60 58), (58, tr_cst (.int (0)) 59), (59, tr_rz), (60, tr_ild 2 61), (61, tr_sw [(0, 96), (1, 102), (2, 121), (3, 142), (4, 150)] 169), (96, tr_ald 0 97), (97, tr_ild 3 98), (98, tr_cV J_U_takeBranches 7 1 101), (101, tr_rz), (102, tr_ild 3 103), (103, tr_if1 (fun x => ¬ x = 0) 119 106), (106, tr_ald 0 107), (107, tr_lld 4 109), (109, tr_cV J_U_takeJump 7 1 112), (112, tr_if1 (fun x => x = 0) 119 115), (115, tr_cst (.int (1)) 116)]
set_option maxRecDepth 100000 in
theorem ok_U_takeRow_2 : ∀ pc, g_S (J_U_takeRow) pc (cd_U_takeRow_2 pc) := g_tab_ok <|
  List.forall_mem_cons.mpr ⟨so_if_ne d_U_takeRow_55 (by decide) rfl,
  List.forall_mem_cons.mpr ⟨so_iconst (by decide) d_U_takeRow_58 rfl,
  List.forall_mem_cons.mpr ⟨so_zret d_U_takeRow_59 rfl,
  List.forall_mem_cons.mpr ⟨so_iload_n d_U_takeRow_60 rfl rfl,
  List.forall_mem_cons.mpr ⟨so_tsw d_U_takeRow_61 (by decide) (by decide) (by decide) (by decide),
  List.forall_mem_cons.mpr ⟨so_aload_n d_U_takeRow_96 rfl rfl,
  List.forall_mem_cons.mpr ⟨so_iload_n d_U_takeRow_97 rfl rfl,
  List.forall_mem_cons.mpr ⟨so_cV g_good d_U_takeRow_98 ⟨w_3_219, (Nat.le_of_ble_eq_true rfl), (Nat.le_of_ble_eq_true rfl), w_1_10, ⟨by decide, by decide⟩, by decide +kernel⟩ (rfl : vwCl[7]? = some (R_U, F_U, 4)) w_3_216 w_3_218 w_p18 rfl,
  List.forall_mem_cons.mpr ⟨so_zret d_U_takeRow_101 rfl,
  List.forall_mem_cons.mpr ⟨so_iload_n d_U_takeRow_102 rfl rfl,
  List.forall_mem_cons.mpr ⟨so_if_ne d_U_takeRow_103 (by decide) rfl,
  List.forall_mem_cons.mpr ⟨so_aload_n d_U_takeRow_106 rfl rfl,
  List.forall_mem_cons.mpr ⟨so_lload d_U_takeRow_107 rfl,
  List.forall_mem_cons.mpr ⟨so_cV g_good d_U_takeRow_109 ⟨w_3_224, (Nat.le_of_ble_eq_true rfl), (Nat.le_of_ble_eq_true rfl), w_1_10, ⟨by decide, by decide⟩, by decide +kernel⟩ (rfl : vwCl[7]? = some (R_U, F_U, 4)) w_3_221 w_3_223 w_p19 rfl,
  List.forall_mem_cons.mpr ⟨so_if_eq d_U_takeRow_112 (by decide) rfl,
  List.forall_mem_cons.mpr ⟨so_iconst (by decide) d_U_takeRow_115 rfl,
  fun _ h => absurd h List.not_mem_nil⟩⟩⟩⟩⟩⟩⟩⟩⟩⟩⟩⟩⟩⟩⟩⟩
def cd_U_takeRow_3 : Nat → g_T := g_tab [(116, tr_goto 120), (119, tr_cst (.int (0)) 120), (120, tr_rz), (121, tr_ild 3 122), (122, tr_cst (.int (1)) 123), (123, tr_if2 (fun x y => y < x) 140 126), (126, tr_ald 0 127), (127, tr_ild 3 128), (128, tr_lld 4 130), (130, tr_cV J_U_takeLoad 7 2 133), (133, tr_if1 (fun x => x = 0) 140 136), (136, tr_cst (.int (1)) 137), (137, tr_goto 141), (140, tr_cst (.int (0)) 141), (141, tr_rz), (142, tr_ald 0 143)]
set_option maxRecDepth 100000 in
theorem ok_U_takeRow_3 : ∀ pc, g_S (J_U_takeRow) pc (cd_U_takeRow_3 pc) := g_tab_ok <|
  List.forall_mem_cons.mpr ⟨so_goto d_U_takeRow_116 (by decide),
  List.forall_mem_cons.mpr ⟨so_iconst (by decide) d_U_takeRow_119 rfl,
  List.forall_mem_cons.mpr ⟨so_zret d_U_takeRow_120 rfl,
  List.forall_mem_cons.mpr ⟨so_iload_n d_U_takeRow_121 rfl rfl,
  List.forall_mem_cons.mpr ⟨so_iconst (by decide) d_U_takeRow_122 rfl,
  List.forall_mem_cons.mpr ⟨so_icmp_gt d_U_takeRow_123 (by decide) rfl,
  List.forall_mem_cons.mpr ⟨so_aload_n d_U_takeRow_126 rfl rfl,
  List.forall_mem_cons.mpr ⟨so_iload_n d_U_takeRow_127 rfl rfl,
  List.forall_mem_cons.mpr ⟨so_lload d_U_takeRow_128 rfl,
  List.forall_mem_cons.mpr ⟨so_cV g_good d_U_takeRow_130 ⟨w_3_231, (Nat.le_of_ble_eq_true rfl), (Nat.le_of_ble_eq_true rfl), w_1_10, ⟨by decide, by decide⟩, by decide +kernel⟩ (rfl : vwCl[7]? = some (R_U, F_U, 4)) w_3_228 w_3_230 w_p20 rfl,
  List.forall_mem_cons.mpr ⟨so_if_eq d_U_takeRow_133 (by decide) rfl,
  List.forall_mem_cons.mpr ⟨so_iconst (by decide) d_U_takeRow_136 rfl,
  List.forall_mem_cons.mpr ⟨so_goto d_U_takeRow_137 (by decide),
  List.forall_mem_cons.mpr ⟨so_iconst (by decide) d_U_takeRow_140 rfl,
  List.forall_mem_cons.mpr ⟨so_zret d_U_takeRow_141 rfl,
  List.forall_mem_cons.mpr ⟨so_aload_n d_U_takeRow_142 rfl rfl,
  fun _ h => absurd h List.not_mem_nil⟩⟩⟩⟩⟩⟩⟩⟩⟩⟩⟩⟩⟩⟩⟩⟩
def cd_U_takeRow_4 : Nat → g_T := g_tab [(143, tr_ild 3 144), (144, tr_lld 4 146), (146, tr_cV J_U_takeStore 7 2 149), (149, tr_rz), (150, tr_ild 3 151), (151, tr_if1 (fun x => ¬ x = 0) 167 154), (154, tr_ald 0 155), (155, tr_lld 4 157), (157, tr_cV J_U_takeTime 7 1 160), (160, tr_if1 (fun x => x = 0) 167 163), (163, tr_cst (.int (1)) 164), (164, tr_goto 168), (167, tr_cst (.int (0)) 168), (168, tr_rz), (169, tr_cst (.int (0)) 170), (170, tr_rz)]
set_option maxRecDepth 100000 in
theorem ok_U_takeRow_4 : ∀ pc, g_S (J_U_takeRow) pc (cd_U_takeRow_4 pc) := g_tab_ok <|
  List.forall_mem_cons.mpr ⟨so_iload_n d_U_takeRow_143 rfl rfl,
  List.forall_mem_cons.mpr ⟨so_lload d_U_takeRow_144 rfl,
  List.forall_mem_cons.mpr ⟨so_cV g_good d_U_takeRow_146 ⟨w_4_5, (Nat.le_of_ble_eq_true rfl), (Nat.le_of_ble_eq_true rfl), w_1_10, ⟨by decide, by decide⟩, by decide +kernel⟩ (rfl : vwCl[7]? = some (R_U, F_U, 4)) w_4_2 w_4_4 w_p21 rfl,
  List.forall_mem_cons.mpr ⟨so_zret d_U_takeRow_149 rfl,
  List.forall_mem_cons.mpr ⟨so_iload_n d_U_takeRow_150 rfl rfl,
  List.forall_mem_cons.mpr ⟨so_if_ne d_U_takeRow_151 (by decide) rfl,
  List.forall_mem_cons.mpr ⟨so_aload_n d_U_takeRow_154 rfl rfl,
  List.forall_mem_cons.mpr ⟨so_lload d_U_takeRow_155 rfl,
  List.forall_mem_cons.mpr ⟨so_cV g_good d_U_takeRow_157 ⟨w_4_19, (Nat.le_of_ble_eq_true rfl), (Nat.le_of_ble_eq_true rfl), w_1_10, ⟨by decide, by decide⟩, by decide +kernel⟩ (rfl : vwCl[7]? = some (R_U, F_U, 4)) w_4_16 w_4_18 w_p22 rfl,
  List.forall_mem_cons.mpr ⟨so_if_eq d_U_takeRow_160 (by decide) rfl,
  List.forall_mem_cons.mpr ⟨so_iconst (by decide) d_U_takeRow_163 rfl,
  List.forall_mem_cons.mpr ⟨so_goto d_U_takeRow_164 (by decide),
  List.forall_mem_cons.mpr ⟨so_iconst (by decide) d_U_takeRow_167 rfl,
  List.forall_mem_cons.mpr ⟨so_zret d_U_takeRow_168 rfl,
  List.forall_mem_cons.mpr ⟨so_iconst (by decide) d_U_takeRow_169 rfl,
  List.forall_mem_cons.mpr ⟨so_zret d_U_takeRow_170 rfl,
  fun _ h => absurd h List.not_mem_nil⟩⟩⟩⟩⟩⟩⟩⟩⟩⟩⟩⟩⟩⟩⟩⟩
def cd_U_takeRow : Nat → g_T := g_chk [(22, cd_U_takeRow_0), (54, cd_U_takeRow_1), (115, cd_U_takeRow_2), (142, cd_U_takeRow_3), (170, cd_U_takeRow_4)]
theorem ok_U_takeRow : ∀ pc, g_S (J_U_takeRow) pc (cd_U_takeRow pc) := g_chk_ok <|
  List.forall_mem_cons.mpr ⟨ok_U_takeRow_0,
  List.forall_mem_cons.mpr ⟨ok_U_takeRow_1,
  List.forall_mem_cons.mpr ⟨ok_U_takeRow_2,
  List.forall_mem_cons.mpr ⟨ok_U_takeRow_3,
  List.forall_mem_cons.mpr ⟨ok_U_takeRow_4,
  fun _ h => absurd h List.not_mem_nil⟩⟩⟩⟩⟩
abbrev J_U_unpack : g_J := (y_U_unpack, prog_10_method_3_code, 6, (some .boolean), (4, 99), [], none)
theorem d_U_unpack_0 : decode prog_10_method_3_code 0 = .ok (.aload_n 0, 1) := by decide +kernel
theorem d_U_unpack_1 : decode prog_10_method_3_code 1 = .ok (.aload_n 1, 1) := by decide +kernel
theorem d_U_unpack_2 : decode prog_10_method_3_code 2 = .ok (.iload_n 2, 1) := by decide +kernel
theorem d_U_unpack_3 : decode prog_10_method_3_code 3 = .ok (.iload_n 3, 1) := by decide +kernel
theorem d_U_unpack_4 : decode prog_10_method_3_code 4 = .ok (.invokevirtual 34, 3) := by decide +kernel
theorem d_U_unpack_7 : decode prog_10_method_3_code 7 = .ok (.ifCond .eq 17, 3) := by decide +kernel
theorem d_U_unpack_10 : decode prog_10_method_3_code 10 = .ok (.aload_n 0, 1) := by decide +kernel
theorem d_U_unpack_11 : decode prog_10_method_3_code 11 = .ok (.invokevirtual 38, 3) := by decide +kernel
theorem d_U_unpack_14 : decode prog_10_method_3_code 14 = .ok (.ifCond .eq 10, 3) := by decide +kernel
theorem d_U_unpack_17 : decode prog_10_method_3_code 17 = .ok (.aload_n 0, 1) := by decide +kernel
theorem d_U_unpack_18 : decode prog_10_method_3_code 18 = .ok (.invokevirtual 42, 3) := by decide +kernel
theorem d_U_unpack_21 : decode prog_10_method_3_code 21 = .ok (.ifCond .ne 5, 3) := by decide +kernel
theorem d_U_unpack_24 : decode prog_10_method_3_code 24 = .ok (.iconst 0, 1) := by decide +kernel
theorem d_U_unpack_25 : decode prog_10_method_3_code 25 = .ok (.ireturn, 1) := by decide +kernel
theorem d_U_unpack_26 : decode prog_10_method_3_code 26 = .ok (.aload_n 0, 1) := by decide +kernel
theorem d_U_unpack_27 : decode prog_10_method_3_code 27 = .ok (.getfield 14, 3) := by decide +kernel
theorem d_U_unpack_30 : decode prog_10_method_3_code 30 = .ok (.iconst 5, 1) := by decide +kernel
theorem d_U_unpack_31 : decode prog_10_method_3_code 31 = .ok (.invokevirtual 45, 3) := by decide +kernel
theorem d_U_unpack_34 : decode prog_10_method_3_code 34 = .ok (.istore 4, 2) := by decide +kernel
theorem d_U_unpack_36 : decode prog_10_method_3_code 36 = .ok (.iconst 0, 1) := by decide +kernel
theorem d_U_unpack_37 : decode prog_10_method_3_code 37 = .ok (.istore 5, 2) := by decide +kernel
theorem d_U_unpack_39 : decode prog_10_method_3_code 39 = .ok (.iload 5, 2) := by decide +kernel
theorem d_U_unpack_41 : decode prog_10_method_3_code 41 = .ok (.iload 4, 2) := by decide +kernel
theorem d_U_unpack_43 : decode prog_10_method_3_code 43 = .ok (.if_icmp .ge 32, 3) := by decide +kernel
theorem d_U_unpack_46 : decode prog_10_method_3_code 46 = .ok (.aload_n 0, 1) := by decide +kernel
theorem d_U_unpack_47 : decode prog_10_method_3_code 47 = .ok (.getfield 14, 3) := by decide +kernel
theorem d_U_unpack_50 : decode prog_10_method_3_code 50 = .ok (.aload_n 0, 1) := by decide +kernel
theorem d_U_unpack_51 : decode prog_10_method_3_code 51 = .ok (.getfield 49, 3) := by decide +kernel
theorem d_U_unpack_54 : decode prog_10_method_3_code 54 = .ok (.invokevirtual 53, 3) := by decide +kernel
theorem d_U_unpack_57 : decode prog_10_method_3_code 57 = .ok (.ifCond .eq 18, 3) := by decide +kernel
theorem d_U_unpack_60 : decode prog_10_method_3_code 60 = .ok (.aload_n 0, 1) := by decide +kernel
theorem d_U_unpack_61 : decode prog_10_method_3_code 61 = .ok (.invokevirtual 57, 3) := by decide +kernel
theorem d_U_unpack_64 : decode prog_10_method_3_code 64 = .ok (.ifCond .ne 5, 3) := by decide +kernel
theorem d_U_unpack_67 : decode prog_10_method_3_code 67 = .ok (.iconst 0, 1) := by decide +kernel
theorem d_U_unpack_68 : decode prog_10_method_3_code 68 = .ok (.ireturn, 1) := by decide +kernel
theorem d_U_unpack_69 : decode prog_10_method_3_code 69 = .ok (.iinc 5 1, 3) := by decide +kernel
theorem d_U_unpack_72 : decode prog_10_method_3_code 72 = .ok (.goto (-33), 3) := by decide +kernel
theorem d_U_unpack_75 : decode prog_10_method_3_code 75 = .ok (.aload_n 0, 1) := by decide +kernel
theorem d_U_unpack_76 : decode prog_10_method_3_code 76 = .ok (.getfield 30, 3) := by decide +kernel
theorem d_U_unpack_79 : decode prog_10_method_3_code 79 = .ok (.invokevirtual 60, 3) := by decide +kernel
theorem d_U_unpack_82 : decode prog_10_method_3_code 82 = .ok (.iload 4, 2) := by decide +kernel
theorem d_U_unpack_84 : decode prog_10_method_3_code 84 = .ok (.if_icmp .ne 21, 3) := by decide +kernel
theorem d_U_unpack_87 : decode prog_10_method_3_code 87 = .ok (.aload_n 0, 1) := by decide +kernel
theorem d_U_unpack_88 : decode prog_10_method_3_code 88 = .ok (.getfield 49, 3) := by decide +kernel
theorem d_U_unpack_91 : decode prog_10_method_3_code 91 = .ok (.aload_n 0, 1) := by decide +kernel
theorem d_U_unpack_92 : decode prog_10_method_3_code 92 = .ok (.getfield 14, 3) := by decide +kernel
theorem d_U_unpack_95 : decode prog_10_method_3_code 95 = .ok (.invokevirtual 64, 3) := by decide +kernel
theorem d_U_unpack_98 : decode prog_10_method_3_code 98 = .ok (.if_icmp .ne 7, 3) := by decide +kernel
theorem d_U_unpack_101 : decode prog_10_method_3_code 101 = .ok (.iconst 1, 1) := by decide +kernel
theorem d_U_unpack_102 : decode prog_10_method_3_code 102 = .ok (.goto 4, 3) := by decide +kernel
theorem d_U_unpack_105 : decode prog_10_method_3_code 105 = .ok (.iconst 0, 1) := by decide +kernel
theorem d_U_unpack_106 : decode prog_10_method_3_code 106 = .ok (.ireturn, 1) := by decide +kernel
def cd_U_unpack_0 : Nat → g_T := g_tab [(0, tr_ald 0 1), (1, tr_ald 1 2), (2, tr_ild 2 3), (3, tr_ild 3 4), (4, tr_cV J_U_unshield 7 3 7), (7, tr_if1 (fun x => x = 0) 24 10), (10, tr_ald 0 11), (11, tr_cV J_U_takeSum 7 0 14), (14, tr_if1 (fun x => x = 0) 24 17), (17, tr_ald 0 18), (18, tr_cV J_U_takeHead 7 0 21), (21, tr_if1 (fun x => ¬ x = 0) 26 24), (24, tr_cst (.int (0)) 25), (25, tr_rz), (26, tr_ald 0 27), (27, tr_get 7 0 30)]
set_option maxRecDepth 100000 in
theorem ok_U_unpack_0 : ∀ pc, g_S (J_U_unpack) pc (cd_U_unpack_0 pc) := g_tab_ok <|
  List.forall_mem_cons.mpr ⟨so_aload_n d_U_unpack_0 rfl rfl,
  List.forall_mem_cons.mpr ⟨so_aload_n d_U_unpack_1 rfl rfl,
  List.forall_mem_cons.mpr ⟨so_iload_n d_U_unpack_2 rfl rfl,
  List.forall_mem_cons.mpr ⟨so_iload_n d_U_unpack_3 rfl rfl,
  List.forall_mem_cons.mpr ⟨so_cV g_good d_U_unpack_4 ⟨w_3_176, (Nat.le_of_ble_eq_true rfl), (Nat.le_of_ble_eq_true rfl), w_1_10, ⟨by decide, by decide⟩, by decide +kernel⟩ (rfl : vwCl[7]? = some (R_U, F_U, 4)) w_3_173 w_3_175 w_p12 rfl,
  List.forall_mem_cons.mpr ⟨so_if_eq d_U_unpack_7 (by decide) rfl,
  List.forall_mem_cons.mpr ⟨so_aload_n d_U_unpack_10 rfl rfl,
  List.forall_mem_cons.mpr ⟨so_cV g_good d_U_unpack_11 ⟨w_3_186, (Nat.le_of_ble_eq_true rfl), (Nat.le_of_ble_eq_true rfl), w_1_10, ⟨by decide, by decide⟩, by decide +kernel⟩ (rfl : vwCl[7]? = some (R_U, F_U, 4)) w_3_183 w_3_185 w_p13 rfl,
  List.forall_mem_cons.mpr ⟨so_if_eq d_U_unpack_14 (by decide) rfl,
  List.forall_mem_cons.mpr ⟨so_aload_n d_U_unpack_17 rfl rfl,
  List.forall_mem_cons.mpr ⟨so_cV g_good d_U_unpack_18 ⟨w_3_192, (Nat.le_of_ble_eq_true rfl), (Nat.le_of_ble_eq_true rfl), w_1_10, ⟨by decide, by decide⟩, by decide +kernel⟩ (rfl : vwCl[7]? = some (R_U, F_U, 4)) w_3_189 w_3_191 w_p14 rfl,
  List.forall_mem_cons.mpr ⟨so_if_ne d_U_unpack_21 (by decide) rfl,
  List.forall_mem_cons.mpr ⟨so_iconst (by decide) d_U_unpack_24 rfl,
  List.forall_mem_cons.mpr ⟨so_zret d_U_unpack_25 rfl,
  List.forall_mem_cons.mpr ⟨so_aload_n d_U_unpack_26 rfl rfl,
  List.forall_mem_cons.mpr ⟨so_get d_U_unpack_27 (rfl : vwCl[7]? = some (R_U, F_U, 4)) (Nat.le_of_ble_eq_true rfl) i_U w_1_165 rfl,
  fun _ h => absurd h List.not_mem_nil⟩⟩⟩⟩⟩⟩⟩⟩⟩⟩⟩⟩⟩⟩⟩⟩
def cd_U_unpack_1 : Nat → g_T := g_tab [(30, tr_cst (.int (5)) 31), (31, tr_cV J_I_at 0 1 34), (34, tr_ist 4 36), (36, tr_cst (.int (0)) 37), (37, tr_ist 5 39), (39, tr_ild 5 41), (41, tr_ild 4 43), (43, tr_if2 (fun x y => y ≤ x) 75 46), (46, tr_ald 0 47), (47, tr_get 7 0 50), (50, tr_ald 0 51), (51, tr_get 7 3 54), (54, tr_cV J_I_has 0 1 57), (57, tr_if1 (fun x => x = 0) 75 60), (60, tr_ald 0 61), (61, tr_cV J_U_takeRow 7 0 64)]
set_option maxRecDepth 100000 in
theorem ok_U_unpack_1 : ∀ pc, g_S (J_U_unpack) pc (cd_U_unpack_1 pc) := g_tab_ok <|
  List.forall_mem_cons.mpr ⟨so_iconst (by decide) d_U_unpack_30 rfl,
  List.forall_mem_cons.mpr ⟨so_cV g_good d_U_unpack_31 ⟨w_2_151, (Nat.le_of_ble_eq_true rfl), (Nat.le_of_ble_eq_true rfl), w_1_2, ⟨by decide, by decide⟩, by decide +kernel⟩ (rfl : vwCl[0]? = some (R_I, F_I, 2)) w_3_178 w_2_149 w_2_150 rfl,
  List.forall_mem_cons.mpr ⟨so_istore d_U_unpack_34 (Nat.le_of_ble_eq_true rfl) rfl,
  List.forall_mem_cons.mpr ⟨so_iconst (by decide) d_U_unpack_36 rfl,
  List.forall_mem_cons.mpr ⟨so_istore d_U_unpack_37 (Nat.le_of_ble_eq_true rfl) rfl,
  List.forall_mem_cons.mpr ⟨so_iload d_U_unpack_39 rfl,
  List.forall_mem_cons.mpr ⟨so_iload d_U_unpack_41 rfl,
  List.forall_mem_cons.mpr ⟨so_icmp_ge d_U_unpack_43 (by decide) rfl,
  List.forall_mem_cons.mpr ⟨so_aload_n d_U_unpack_46 rfl rfl,
  List.forall_mem_cons.mpr ⟨so_get d_U_unpack_47 (rfl : vwCl[7]? = some (R_U, F_U, 4)) (Nat.le_of_ble_eq_true rfl) i_U w_1_165 rfl,
  List.forall_mem_cons.mpr ⟨so_aload_n d_U_unpack_50 rfl rfl,
  List.forall_mem_cons.mpr ⟨so_get d_U_unpack_51 (rfl : vwCl[7]? = some (R_U, F_U, 4)) (Nat.le_of_ble_eq_true rfl) i_U w_1_168 rfl,
  List.forall_mem_cons.mpr ⟨so_cV g_good d_U_unpack_54 ⟨w_3_107, (Nat.le_of_ble_eq_true rfl), (Nat.le_of_ble_eq_true rfl), w_1_2, ⟨by decide, by decide⟩, by decide +kernel⟩ (rfl : vwCl[0]? = some (R_I, F_I, 2)) w_3_201 w_3_105 w_3_106 rfl,
  List.forall_mem_cons.mpr ⟨so_if_eq d_U_unpack_57 (by decide) rfl,
  List.forall_mem_cons.mpr ⟨so_aload_n d_U_unpack_60 rfl rfl,
  List.forall_mem_cons.mpr ⟨so_cV g_good d_U_unpack_61 ⟨w_3_205, (Nat.le_of_ble_eq_true rfl), (Nat.le_of_ble_eq_true rfl), w_1_10, ⟨by decide, by decide⟩, by decide +kernel⟩ (rfl : vwCl[7]? = some (R_U, F_U, 4)) w_3_202 w_3_204 w_p16 rfl,
  fun _ h => absurd h List.not_mem_nil⟩⟩⟩⟩⟩⟩⟩⟩⟩⟩⟩⟩⟩⟩⟩⟩
def cd_U_unpack_2 : Nat → g_T := g_tab [(64, tr_if1 (fun x => ¬ x = 0) 69 67), (67, tr_cst (.int (0)) 68), (68, tr_rz), (69, tr_inc 5 (1) 72), (72, tr_goto 39), (75, tr_ald 0 76), (76, tr_get 7 2 79), (79, tr_cV J_B_size 2 0 82), (82, tr_ild 4 84), (84, tr_if2 (fun x y => ¬ x = y) 105 87), (87, tr_ald 0 88), (88, tr_get 7 3 91), (91, tr_ald 0 92), (92, tr_get 7 0 95), (95, tr_cV J_I_size 0 0 98), (98, tr_if2 (fun x y => ¬ x = y) 105 101)]
set_option maxRecDepth 100000 in
theorem ok_U_unpack_2 : ∀ pc, g_S (J_U_unpack) pc (cd_U_unpack_2 pc) := g_tab_ok <|
  List.forall_mem_cons.mpr ⟨so_if_ne d_U_unpack_64 (by decide) rfl,
  List.forall_mem_cons.mpr ⟨so_iconst (by decide) d_U_unpack_67 rfl,
  List.forall_mem_cons.mpr ⟨so_zret d_U_unpack_68 rfl,
  List.forall_mem_cons.mpr ⟨so_iinc d_U_unpack_69 (by decide) (Nat.le_of_ble_eq_true rfl) rfl,
  List.forall_mem_cons.mpr ⟨so_goto d_U_unpack_72 (by decide),
  List.forall_mem_cons.mpr ⟨so_aload_n d_U_unpack_75 rfl rfl,
  List.forall_mem_cons.mpr ⟨so_get d_U_unpack_76 (rfl : vwCl[7]? = some (R_U, F_U, 4)) (Nat.le_of_ble_eq_true rfl) i_U w_1_167 rfl,
  List.forall_mem_cons.mpr ⟨so_cV g_good d_U_unpack_79 ⟨w_2_32, (Nat.le_of_ble_eq_true rfl), (Nat.le_of_ble_eq_true rfl), w_1_4, ⟨by decide, by decide⟩, by decide +kernel⟩ (rfl : vwCl[2]? = some (R_B, F_B, 5)) w_4_21 w_2_30 w_2_31 rfl,
  List.forall_mem_cons.mpr ⟨so_iload d_U_unpack_82 rfl,
  List.forall_mem_cons.mpr ⟨so_icmp_ne d_U_unpack_84 (by decide) rfl,
  List.forall_mem_cons.mpr ⟨so_aload_n d_U_unpack_87 rfl rfl,
  List.forall_mem_cons.mpr ⟨so_get d_U_unpack_88 (rfl : vwCl[7]? = some (R_U, F_U, 4)) (Nat.le_of_ble_eq_true rfl) i_U w_1_168 rfl,
  List.forall_mem_cons.mpr ⟨so_aload_n d_U_unpack_91 rfl rfl,
  List.forall_mem_cons.mpr ⟨so_get d_U_unpack_92 (rfl : vwCl[7]? = some (R_U, F_U, 4)) (Nat.le_of_ble_eq_true rfl) i_U w_1_165 rfl,
  List.forall_mem_cons.mpr ⟨so_cV g_good d_U_unpack_95 ⟨w_2_28, (Nat.le_of_ble_eq_true rfl), (Nat.le_of_ble_eq_true rfl), w_1_2, ⟨by decide, by decide⟩, by decide +kernel⟩ (rfl : vwCl[0]? = some (R_I, F_I, 2)) w_3_187 w_2_26 w_2_27 rfl,
  List.forall_mem_cons.mpr ⟨so_icmp_ne d_U_unpack_98 (by decide) rfl,
  fun _ h => absurd h List.not_mem_nil⟩⟩⟩⟩⟩⟩⟩⟩⟩⟩⟩⟩⟩⟩⟩⟩
def cd_U_unpack_3 : Nat → g_T := g_tab [(101, tr_cst (.int (1)) 102), (102, tr_goto 106), (105, tr_cst (.int (0)) 106), (106, tr_rz)]
set_option maxRecDepth 100000 in
theorem ok_U_unpack_3 : ∀ pc, g_S (J_U_unpack) pc (cd_U_unpack_3 pc) := g_tab_ok <|
  List.forall_mem_cons.mpr ⟨so_iconst (by decide) d_U_unpack_101 rfl,
  List.forall_mem_cons.mpr ⟨so_goto d_U_unpack_102 (by decide),
  List.forall_mem_cons.mpr ⟨so_iconst (by decide) d_U_unpack_105 rfl,
  List.forall_mem_cons.mpr ⟨so_zret d_U_unpack_106 rfl,
  fun _ h => absurd h List.not_mem_nil⟩⟩⟩⟩
def cd_U_unpack : Nat → g_T := g_chk [(27, cd_U_unpack_0), (61, cd_U_unpack_1), (98, cd_U_unpack_2), (106, cd_U_unpack_3)]
theorem ok_U_unpack : ∀ pc, g_S (J_U_unpack) pc (cd_U_unpack pc) := g_chk_ok <|
  List.forall_mem_cons.mpr ⟨ok_U_unpack_0,
  List.forall_mem_cons.mpr ⟨ok_U_unpack_1,
  List.forall_mem_cons.mpr ⟨ok_U_unpack_2,
  List.forall_mem_cons.mpr ⟨ok_U_unpack_3,
  fun _ h => absurd h List.not_mem_nil⟩⟩⟩⟩
abbrev J_U_block : g_J := (y_U_block, prog_10_method_2_code, 1, (some (.object "TracePacks$Block")), (0, 0), [], none)
theorem d_U_block_0 : decode prog_10_method_2_code 0 = .ok (.aload_n 0, 1) := by decide +kernel
theorem d_U_block_1 : decode prog_10_method_2_code 1 = .ok (.getfield 30, 3) := by decide +kernel
theorem d_U_block_4 : decode prog_10_method_2_code 4 = .ok (.areturn, 1) := by decide +kernel
def cd_U_block_0 : Nat → g_T := g_tab [(0, tr_ald 0 1), (1, tr_get 7 2 4), (4, tr_ra)]
set_option maxRecDepth 100000 in
theorem ok_U_block_0 : ∀ pc, g_S (J_U_block) pc (cd_U_block_0 pc) := g_tab_ok <|
  List.forall_mem_cons.mpr ⟨so_aload_n d_U_block_0 rfl rfl,
  List.forall_mem_cons.mpr ⟨so_get d_U_block_1 (rfl : vwCl[7]? = some (R_U, F_U, 4)) (Nat.le_of_ble_eq_true rfl) i_U w_1_167 rfl,
  List.forall_mem_cons.mpr ⟨so_aret d_U_block_4 rfl,
  fun _ h => absurd h List.not_mem_nil⟩⟩⟩
def cd_U_block : Nat → g_T := g_chk [(4, cd_U_block_0)]
theorem ok_U_block : ∀ pc, g_S (J_U_block) pc (cd_U_block pc) := g_chk_ok <|
  List.forall_mem_cons.mpr ⟨ok_U_block_0,
  fun _ h => absurd h List.not_mem_nil⟩
