/-! tables, by program (wip/whole/gen/mkt.py I L B V M) -/
abbrev J_I_init : g_J := (y_I_init, prog_3_method_1_code, 2, none, (1, 24), [], none)
theorem d_I_init_0 : decode prog_3_method_1_code 0 = .ok (.aload_n 0, 1) := by decide +kernel
theorem d_I_init_1 : decode prog_3_method_1_code 1 = .ok (.invokespecial 3, 3) := by decide +kernel
theorem d_I_init_4 : decode prog_3_method_1_code 4 = .ok (.aload_n 0, 1) := by decide +kernel
theorem d_I_init_5 : decode prog_3_method_1_code 5 = .ok (.iload_n 1, 1) := by decide +kernel
theorem d_I_init_6 : decode prog_3_method_1_code 6 = .ok (.iconst 0, 1) := by decide +kernel
theorem d_I_init_7 : decode prog_3_method_1_code 7 = .ok (.invokestatic 9, 3) := by decide +kernel
theorem d_I_init_10 : decode prog_3_method_1_code 10 = .ok (.newarray .int, 2) := by decide +kernel
theorem d_I_init_12 : decode prog_3_method_1_code 12 = .ok (.putfield 15, 3) := by decide +kernel
theorem d_I_init_15 : decode prog_3_method_1_code 15 = .ok (.return_, 1) := by decide +kernel
def cd_I_init_0 : Nat → g_T := g_tab [(0, tr_ald 0 1), (1, tr_oi 4), (4, tr_ald 0 5), (5, tr_ild 1 6), (6, tr_cst (.int (0)) 7), (7, tr_mx 10), (10, tr_nai 12), (12, tr_put 0 0 (.array .int) 15), (15, tr_rv)]
set_option maxRecDepth 100000 in
theorem ok_I_init_0 : ∀ pc, g_S (J_I_init) pc (cd_I_init_0 pc) := g_tab_ok <|
  List.forall_mem_cons.mpr ⟨so_aload_n d_I_init_0 rfl rfl,
  List.forall_mem_cons.mpr ⟨so_oi d_I_init_1 w_1_32 w_1_25 w_1_26 ⟨(Nat.le_of_ble_eq_true rfl), (Nat.le_of_ble_eq_true rfl)⟩ rfl,
  List.forall_mem_cons.mpr ⟨so_aload_n d_I_init_4 rfl rfl,
  List.forall_mem_cons.mpr ⟨so_iload_n d_I_init_5 rfl rfl,
  List.forall_mem_cons.mpr ⟨so_iconst (by decide) d_I_init_6 rfl,
  List.forall_mem_cons.mpr ⟨so_mx d_I_init_7 w_1_33 w_1_34 w_1_3 w_1_35 ⟨(Nat.le_of_ble_eq_true rfl), (Nat.le_of_ble_eq_true rfl)⟩ rfl,
  List.forall_mem_cons.mpr ⟨so_newai d_I_init_10 w_1_43 rfl,
  List.forall_mem_cons.mpr ⟨so_putF ft_I d_I_init_12 (rfl : vwCl[0]? = some (R_I, F_I, 2)) (Nat.le_of_ble_eq_true rfl) i_I w_1_36 tk_I n_I rfl rfl rfl rfl rfl,
  List.forall_mem_cons.mpr ⟨so_vret d_I_init_15 rfl,
  fun _ h => absurd h List.not_mem_nil⟩⟩⟩⟩⟩⟩⟩⟩⟩
def cd_I_init : Nat → g_T := g_chk [(15, cd_I_init_0)]
theorem ok_I_init : ∀ pc, g_S (J_I_init) pc (cd_I_init pc) := g_chk_ok <|
  List.forall_mem_cons.mpr ⟨ok_I_init_0,
  fun _ h => absurd h List.not_mem_nil⟩
abbrev J_I_add : g_J := (y_I_add, prog_3_method_6_code, 2, (some .boolean), (0, 0), [], none)
theorem d_I_add_0 : decode prog_3_method_6_code 0 = .ok (.aload_n 0, 1) := by decide +kernel
theorem d_I_add_1 : decode prog_3_method_6_code 1 = .ok (.getfield 21, 3) := by decide +kernel
theorem d_I_add_4 : decode prog_3_method_6_code 4 = .ok (.aload_n 0, 1) := by decide +kernel
theorem d_I_add_5 : decode prog_3_method_6_code 5 = .ok (.getfield 15, 3) := by decide +kernel
theorem d_I_add_8 : decode prog_3_method_6_code 8 = .ok (.arraylength, 1) := by decide +kernel
theorem d_I_add_9 : decode prog_3_method_6_code 9 = .ok (.if_icmp .lt 5, 3) := by decide +kernel
theorem d_I_add_12 : decode prog_3_method_6_code 12 = .ok (.iconst 0, 1) := by decide +kernel
theorem d_I_add_13 : decode prog_3_method_6_code 13 = .ok (.ireturn, 1) := by decide +kernel
theorem d_I_add_14 : decode prog_3_method_6_code 14 = .ok (.aload_n 0, 1) := by decide +kernel
theorem d_I_add_15 : decode prog_3_method_6_code 15 = .ok (.getfield 15, 3) := by decide +kernel
theorem d_I_add_18 : decode prog_3_method_6_code 18 = .ok (.aload_n 0, 1) := by decide +kernel
theorem d_I_add_19 : decode prog_3_method_6_code 19 = .ok (.getfield 21, 3) := by decide +kernel
theorem d_I_add_22 : decode prog_3_method_6_code 22 = .ok (.iload_n 1, 1) := by decide +kernel
theorem d_I_add_23 : decode prog_3_method_6_code 23 = .ok (.iastore, 1) := by decide +kernel
theorem d_I_add_24 : decode prog_3_method_6_code 24 = .ok (.aload_n 0, 1) := by decide +kernel
theorem d_I_add_25 : decode prog_3_method_6_code 25 = .ok (.dup, 1) := by decide +kernel
theorem d_I_add_26 : decode prog_3_method_6_code 26 = .ok (.getfield 21, 3) := by decide +kernel
theorem d_I_add_29 : decode prog_3_method_6_code 29 = .ok (.iconst 1, 1) := by decide +kernel
theorem d_I_add_30 : decode prog_3_method_6_code 30 = .ok (.iadd, 1) := by decide +kernel
theorem d_I_add_31 : decode prog_3_method_6_code 31 = .ok (.putfield 21, 3) := by decide +kernel
theorem d_I_add_34 : decode prog_3_method_6_code 34 = .ok (.iconst 1, 1) := by decide +kernel
theorem d_I_add_35 : decode prog_3_method_6_code 35 = .ok (.ireturn, 1) := by decide +kernel
def cd_I_add_0 : Nat → g_T := g_tab [(0, tr_ald 0 1), (1, tr_get 0 1 4), (4, tr_ald 0 5), (5, tr_get 0 0 8), (8, tr_len 9), (9, tr_if2 (fun x y => x < y) 14 12), (12, tr_cst (.int (0)) 13), (13, tr_rz), (14, tr_ald 0 15), (15, tr_get 0 0 18), (18, tr_ald 0 19), (19, tr_get 0 1 22), (22, tr_ild 1 23), (23, tr_ias 24), (24, tr_ald 0 25), (25, tr_dup 26)]
set_option maxRecDepth 100000 in
theorem ok_I_add_0 : ∀ pc, g_S (J_I_add) pc (cd_I_add_0 pc) := g_tab_ok <|
  List.forall_mem_cons.mpr ⟨so_aload_n d_I_add_0 rfl rfl,
  List.forall_mem_cons.mpr ⟨so_get d_I_add_1 (rfl : vwCl[0]? = some (R_I, F_I, 2)) (Nat.le_of_ble_eq_true rfl) i_I w_1_37 rfl,
  List.forall_mem_cons.mpr ⟨so_aload_n d_I_add_4 rfl rfl,
  List.forall_mem_cons.mpr ⟨so_get d_I_add_5 (rfl : vwCl[0]? = some (R_I, F_I, 2)) (Nat.le_of_ble_eq_true rfl) i_I w_1_36 rfl,
  List.forall_mem_cons.mpr ⟨so_len d_I_add_8 rfl,
  List.forall_mem_cons.mpr ⟨so_icmp_lt d_I_add_9 (by decide) rfl,
  List.forall_mem_cons.mpr ⟨so_iconst (by decide) d_I_add_12 rfl,
  List.forall_mem_cons.mpr ⟨so_zret d_I_add_13 rfl,
  List.forall_mem_cons.mpr ⟨so_aload_n d_I_add_14 rfl rfl,
  List.forall_mem_cons.mpr ⟨so_get d_I_add_15 (rfl : vwCl[0]? = some (R_I, F_I, 2)) (Nat.le_of_ble_eq_true rfl) i_I w_1_36 rfl,
  List.forall_mem_cons.mpr ⟨so_aload_n d_I_add_18 rfl rfl,
  List.forall_mem_cons.mpr ⟨so_get d_I_add_19 (rfl : vwCl[0]? = some (R_I, F_I, 2)) (Nat.le_of_ble_eq_true rfl) i_I w_1_37 rfl,
  List.forall_mem_cons.mpr ⟨so_iload_n d_I_add_22 rfl rfl,
  List.forall_mem_cons.mpr ⟨so_iastore d_I_add_23 rfl,
  List.forall_mem_cons.mpr ⟨so_aload_n d_I_add_24 rfl rfl,
  List.forall_mem_cons.mpr ⟨so_dup d_I_add_25 rfl,
  fun _ h => absurd h List.not_mem_nil⟩⟩⟩⟩⟩⟩⟩⟩⟩⟩⟩⟩⟩⟩⟩⟩
def cd_I_add_1 : Nat → g_T := g_tab [(26, tr_get 0 1 29), (29, tr_cst (.int (1)) 30), (30, tr_ii (fun x y => x + y) 31), (31, tr_put 0 1 (.int) 34), (34, tr_cst (.int (1)) 35), (35, tr_rz)]
set_option maxRecDepth 100000 in
theorem ok_I_add_1 : ∀ pc, g_S (J_I_add) pc (cd_I_add_1 pc) := g_tab_ok <|
  List.forall_mem_cons.mpr ⟨so_get d_I_add_26 (rfl : vwCl[0]? = some (R_I, F_I, 2)) (Nat.le_of_ble_eq_true rfl) i_I w_1_37 rfl,
  List.forall_mem_cons.mpr ⟨so_iconst (by decide) d_I_add_29 rfl,
  List.forall_mem_cons.mpr ⟨so_iadd d_I_add_30 rfl,
  List.forall_mem_cons.mpr ⟨so_put ft_I d_I_add_31 (rfl : vwCl[0]? = some (R_I, F_I, 2)) (Nat.le_of_ble_eq_true rfl) i_I w_1_37 tk_I n_I rfl rfl rfl,
  List.forall_mem_cons.mpr ⟨so_iconst (by decide) d_I_add_34 rfl,
  List.forall_mem_cons.mpr ⟨so_zret d_I_add_35 rfl,
  fun _ h => absurd h List.not_mem_nil⟩⟩⟩⟩⟩⟩
def cd_I_add : Nat → g_T := g_chk [(25, cd_I_add_0), (35, cd_I_add_1)]
theorem ok_I_add : ∀ pc, g_S (J_I_add) pc (cd_I_add pc) := g_chk_ok <|
  List.forall_mem_cons.mpr ⟨ok_I_add_0,
  List.forall_mem_cons.mpr ⟨ok_I_add_1,
  fun _ h => absurd h List.not_mem_nil⟩⟩
abbrev J_B_init : g_J := (y_B_init, prog_2_method_1_code, 1, none, (2, 45), [], none)
theorem d_B_init_0 : decode prog_2_method_1_code 0 = .ok (.aload_n 0, 1) := by decide +kernel
theorem d_B_init_1 : decode prog_2_method_1_code 1 = .ok (.invokespecial 3, 3) := by decide +kernel
theorem d_B_init_4 : decode prog_2_method_1_code 4 = .ok (.aload_n 0, 1) := by decide +kernel
theorem d_B_init_5 : decode prog_2_method_1_code 5 = .ok (.new 9, 3) := by decide +kernel
theorem d_B_init_8 : decode prog_2_method_1_code 8 = .ok (.dup, 1) := by decide +kernel
theorem d_B_init_9 : decode prog_2_method_1_code 9 = .ok (.bipush 100, 2) := by decide +kernel
theorem d_B_init_11 : decode prog_2_method_1_code 11 = .ok (.invokespecial 11, 3) := by decide +kernel
theorem d_B_init_14 : decode prog_2_method_1_code 14 = .ok (.putfield 14, 3) := by decide +kernel
theorem d_B_init_17 : decode prog_2_method_1_code 17 = .ok (.aload_n 0, 1) := by decide +kernel
theorem d_B_init_18 : decode prog_2_method_1_code 18 = .ok (.new 9, 3) := by decide +kernel
theorem d_B_init_21 : decode prog_2_method_1_code 21 = .ok (.dup, 1) := by decide +kernel
theorem d_B_init_22 : decode prog_2_method_1_code 22 = .ok (.bipush 100, 2) := by decide +kernel
theorem d_B_init_24 : decode prog_2_method_1_code 24 = .ok (.invokespecial 11, 3) := by decide +kernel
theorem d_B_init_27 : decode prog_2_method_1_code 27 = .ok (.putfield 20, 3) := by decide +kernel
theorem d_B_init_30 : decode prog_2_method_1_code 30 = .ok (.aload_n 0, 1) := by decide +kernel
theorem d_B_init_31 : decode prog_2_method_1_code 31 = .ok (.new 9, 3) := by decide +kernel
theorem d_B_init_34 : decode prog_2_method_1_code 34 = .ok (.dup, 1) := by decide +kernel
theorem d_B_init_35 : decode prog_2_method_1_code 35 = .ok (.bipush 100, 2) := by decide +kernel
theorem d_B_init_37 : decode prog_2_method_1_code 37 = .ok (.invokespecial 11, 3) := by decide +kernel
theorem d_B_init_40 : decode prog_2_method_1_code 40 = .ok (.putfield 23, 3) := by decide +kernel
theorem d_B_init_43 : decode prog_2_method_1_code 43 = .ok (.return_, 1) := by decide +kernel
def cd_B_init_0 : Nat → g_T := g_tab [(0, tr_ald 0 1), (1, tr_oi 4), (4, tr_ald 0 5), (5, tr_new 0 2 [.null, .int 0] 8), (8, tr_dup 9), (9, tr_cst (.int (100)) 11), (11, tr_cI J_I_init 1 14), (14, tr_put 2 0 (.object "TracePacks$Ints") 17), (17, tr_ald 0 18), (18, tr_new 0 2 [.null, .int 0] 21), (21, tr_dup 22), (22, tr_cst (.int (100)) 24), (24, tr_cI J_I_init 1 27), (27, tr_put 2 1 (.object "TracePacks$Ints") 30), (30, tr_ald 0 31), (31, tr_new 0 2 [.null, .int 0] 34)]
set_option maxRecDepth 100000 in
theorem ok_B_init_0 : ∀ pc, g_S (J_B_init) pc (cd_B_init_0 pc) := g_tab_ok <|
  List.forall_mem_cons.mpr ⟨so_aload_n d_B_init_0 rfl rfl,
  List.forall_mem_cons.mpr ⟨so_oi d_B_init_1 w_1_53 w_1_25 w_1_26 ⟨(Nat.le_of_ble_eq_true rfl), (Nat.le_of_ble_eq_true rfl)⟩ rfl,
  List.forall_mem_cons.mpr ⟨so_aload_n d_B_init_4 rfl rfl,
  List.forall_mem_cons.mpr ⟨so_new ft_I d_B_init_5 (rfl : vwCl[0]? = some (R_I, F_I, 2)) i_I w_1_54 w_1_28 w_1_2 tk_I (by decide) rfl,
  List.forall_mem_cons.mpr ⟨so_dup d_B_init_8 rfl,
  List.forall_mem_cons.mpr ⟨so_bipush (by decide) d_B_init_9 rfl,
  List.forall_mem_cons.mpr ⟨so_cI g_good d_B_init_11 ⟨w_1_31, (Nat.le_of_ble_eq_true rfl), (Nat.le_of_ble_eq_true rfl), w_1_2, ⟨by decide, by decide⟩, by decide +kernel⟩ rfl rfl w_1_55 w_1_30 rfl,
  List.forall_mem_cons.mpr ⟨so_putF ft_B d_B_init_14 (rfl : vwCl[2]? = some (R_B, F_B, 5)) (Nat.le_of_ble_eq_true rfl) i_B w_1_56 tk_B n_B rfl rfl rfl rfl rfl,
  List.forall_mem_cons.mpr ⟨so_aload_n d_B_init_17 rfl rfl,
  List.forall_mem_cons.mpr ⟨so_new ft_I d_B_init_18 (rfl : vwCl[0]? = some (R_I, F_I, 2)) i_I w_1_54 w_1_28 w_1_2 tk_I (by decide) rfl,
  List.forall_mem_cons.mpr ⟨so_dup d_B_init_21 rfl,
  List.forall_mem_cons.mpr ⟨so_bipush (by decide) d_B_init_22 rfl,
  List.forall_mem_cons.mpr ⟨so_cI g_good d_B_init_24 ⟨w_1_31, (Nat.le_of_ble_eq_true rfl), (Nat.le_of_ble_eq_true rfl), w_1_2, ⟨by decide, by decide⟩, by decide +kernel⟩ rfl rfl w_1_55 w_1_30 rfl,
  List.forall_mem_cons.mpr ⟨so_putF ft_B d_B_init_27 (rfl : vwCl[2]? = some (R_B, F_B, 5)) (Nat.le_of_ble_eq_true rfl) i_B w_1_57 tk_B n_B rfl rfl rfl rfl rfl,
  List.forall_mem_cons.mpr ⟨so_aload_n d_B_init_30 rfl rfl,
  List.forall_mem_cons.mpr ⟨so_new ft_I d_B_init_31 (rfl : vwCl[0]? = some (R_I, F_I, 2)) i_I w_1_54 w_1_28 w_1_2 tk_I (by decide) rfl,
  fun _ h => absurd h List.not_mem_nil⟩⟩⟩⟩⟩⟩⟩⟩⟩⟩⟩⟩⟩⟩⟩⟩
def cd_B_init_1 : Nat → g_T := g_tab [(34, tr_dup 35), (35, tr_cst (.int (100)) 37), (37, tr_cI J_I_init 1 40), (40, tr_put 2 2 (.object "TracePacks$Ints") 43), (43, tr_rv)]
set_option maxRecDepth 100000 in
theorem ok_B_init_1 : ∀ pc, g_S (J_B_init) pc (cd_B_init_1 pc) := g_tab_ok <|
  List.forall_mem_cons.mpr ⟨so_dup d_B_init_34 rfl,
  List.forall_mem_cons.mpr ⟨so_bipush (by decide) d_B_init_35 rfl,
  List.forall_mem_cons.mpr ⟨so_cI g_good d_B_init_37 ⟨w_1_31, (Nat.le_of_ble_eq_true rfl), (Nat.le_of_ble_eq_true rfl), w_1_2, ⟨by decide, by decide⟩, by decide +kernel⟩ rfl rfl w_1_55 w_1_30 rfl,
  List.forall_mem_cons.mpr ⟨so_putF ft_B d_B_init_40 (rfl : vwCl[2]? = some (R_B, F_B, 5)) (Nat.le_of_ble_eq_true rfl) i_B w_1_58 tk_B n_B rfl rfl rfl rfl rfl,
  List.forall_mem_cons.mpr ⟨so_vret d_B_init_43 rfl,
  fun _ h => absurd h List.not_mem_nil⟩⟩⟩⟩⟩
def cd_B_init : Nat → g_T := g_chk [(31, cd_B_init_0), (43, cd_B_init_1)]
theorem ok_B_init : ∀ pc, g_S (J_B_init) pc (cd_B_init pc) := g_chk_ok <|
  List.forall_mem_cons.mpr ⟨ok_B_init_0,
  List.forall_mem_cons.mpr ⟨ok_B_init_1,
  fun _ h => absurd h List.not_mem_nil⟩⟩
abbrev J_L_init : g_J := (y_L_init, prog_8_method_1_code, 1, none, (1, 24), [], none)
theorem d_L_init_0 : decode prog_8_method_1_code 0 = .ok (.aload_n 0, 1) := by decide +kernel
theorem d_L_init_1 : decode prog_8_method_1_code 1 = .ok (.invokespecial 1, 3) := by decide +kernel
theorem d_L_init_4 : decode prog_8_method_1_code 4 = .ok (.return_, 1) := by decide +kernel
def cd_L_init_0 : Nat → g_T := g_tab [(0, tr_ald 0 1), (1, tr_oi 4), (4, tr_rv)]
set_option maxRecDepth 100000 in
theorem ok_L_init_0 : ∀ pc, g_S (J_L_init) pc (cd_L_init_0 pc) := g_tab_ok <|
  List.forall_mem_cons.mpr ⟨so_aload_n d_L_init_0 rfl rfl,
  List.forall_mem_cons.mpr ⟨so_oi d_L_init_1 w_1_91 w_1_25 w_1_26 ⟨(Nat.le_of_ble_eq_true rfl), (Nat.le_of_ble_eq_true rfl)⟩ rfl,
  List.forall_mem_cons.mpr ⟨so_vret d_L_init_4 rfl,
  fun _ h => absurd h List.not_mem_nil⟩⟩⟩
def cd_L_init : Nat → g_T := g_chk [(4, cd_L_init_0)]
theorem ok_L_init : ∀ pc, g_S (J_L_init) pc (cd_L_init pc) := g_chk_ok <|
  List.forall_mem_cons.mpr ⟨ok_L_init_0,
  fun _ h => absurd h List.not_mem_nil⟩
abbrev J_V_init : g_J := (y_V_init, prog_5_method_1_code, 1, none, (2, 45), [], none)
theorem d_V_init_0 : decode prog_5_method_1_code 0 = .ok (.aload_n 0, 1) := by decide +kernel
theorem d_V_init_1 : decode prog_5_method_1_code 1 = .ok (.invokespecial 3, 3) := by decide +kernel
theorem d_V_init_4 : decode prog_5_method_1_code 4 = .ok (.aload_n 0, 1) := by decide +kernel
theorem d_V_init_5 : decode prog_5_method_1_code 5 = .ok (.new 9, 3) := by decide +kernel
theorem d_V_init_8 : decode prog_5_method_1_code 8 = .ok (.dup, 1) := by decide +kernel
theorem d_V_init_9 : decode prog_5_method_1_code 9 = .ok (.bipush 8, 2) := by decide +kernel
theorem d_V_init_11 : decode prog_5_method_1_code 11 = .ok (.invokespecial 11, 3) := by decide +kernel
theorem d_V_init_14 : decode prog_5_method_1_code 14 = .ok (.putfield 14, 3) := by decide +kernel
theorem d_V_init_17 : decode prog_5_method_1_code 17 = .ok (.return_, 1) := by decide +kernel
def cd_V_init_0 : Nat → g_T := g_tab [(0, tr_ald 0 1), (1, tr_oi 4), (4, tr_ald 0 5), (5, tr_new 0 2 [.null, .int 0] 8), (8, tr_dup 9), (9, tr_cst (.int (8)) 11), (11, tr_cI J_I_init 1 14), (14, tr_put 3 0 (.object "TracePacks$Ints") 17), (17, tr_rv)]
set_option maxRecDepth 100000 in
theorem ok_V_init_0 : ∀ pc, g_S (J_V_init) pc (cd_V_init_0 pc) := g_tab_ok <|
  List.forall_mem_cons.mpr ⟨so_aload_n d_V_init_0 rfl rfl,
  List.forall_mem_cons.mpr ⟨so_oi d_V_init_1 w_1_104 w_1_25 w_1_26 ⟨(Nat.le_of_ble_eq_true rfl), (Nat.le_of_ble_eq_true rfl)⟩ rfl,
  List.forall_mem_cons.mpr ⟨so_aload_n d_V_init_4 rfl rfl,
  List.forall_mem_cons.mpr ⟨so_new ft_I d_V_init_5 (rfl : vwCl[0]? = some (R_I, F_I, 2)) i_I w_1_105 w_1_28 w_1_2 tk_I (by decide) rfl,
  List.forall_mem_cons.mpr ⟨so_dup d_V_init_8 rfl,
  List.forall_mem_cons.mpr ⟨so_bipush (by decide) d_V_init_9 rfl,
  List.forall_mem_cons.mpr ⟨so_cI g_good d_V_init_11 ⟨w_1_31, (Nat.le_of_ble_eq_true rfl), (Nat.le_of_ble_eq_true rfl), w_1_2, ⟨by decide, by decide⟩, by decide +kernel⟩ rfl rfl w_1_106 w_1_30 rfl,
  List.forall_mem_cons.mpr ⟨so_putF ft_V d_V_init_14 (rfl : vwCl[3]? = some (R_V, F_V, 1)) (Nat.le_of_ble_eq_true rfl) i_V w_1_107 tk_V n_V rfl rfl rfl rfl rfl,
  List.forall_mem_cons.mpr ⟨so_vret d_V_init_17 rfl,
  fun _ h => absurd h List.not_mem_nil⟩⟩⟩⟩⟩⟩⟩⟩⟩
def cd_V_init : Nat → g_T := g_chk [(17, cd_V_init_0)]
theorem ok_V_init : ∀ pc, g_S (J_V_init) pc (cd_V_init pc) := g_chk_ok <|
  List.forall_mem_cons.mpr ⟨ok_V_init_0,
  fun _ h => absurd h List.not_mem_nil⟩
abbrev J_M_init : g_J := (y_M_init, prog_6_method_1_code, 1, none, (3, 65), [], none)
theorem d_M_init_0 : decode prog_6_method_1_code 0 = .ok (.aload_n 0, 1) := by decide +kernel
theorem d_M_init_1 : decode prog_6_method_1_code 1 = .ok (.invokespecial 1, 3) := by decide +kernel
theorem d_M_init_4 : decode prog_6_method_1_code 4 = .ok (.aload_n 0, 1) := by decide +kernel
theorem d_M_init_5 : decode prog_6_method_1_code 5 = .ok (.new 7, 3) := by decide +kernel
theorem d_M_init_8 : decode prog_6_method_1_code 8 = .ok (.dup, 1) := by decide +kernel
theorem d_M_init_9 : decode prog_6_method_1_code 9 = .ok (.invokespecial 9, 3) := by decide +kernel
theorem d_M_init_12 : decode prog_6_method_1_code 12 = .ok (.putfield 10, 3) := by decide +kernel
theorem d_M_init_15 : decode prog_6_method_1_code 15 = .ok (.aload_n 0, 1) := by decide +kernel
theorem d_M_init_16 : decode prog_6_method_1_code 16 = .ok (.new 7, 3) := by decide +kernel
theorem d_M_init_19 : decode prog_6_method_1_code 19 = .ok (.dup, 1) := by decide +kernel
theorem d_M_init_20 : decode prog_6_method_1_code 20 = .ok (.invokespecial 9, 3) := by decide +kernel
theorem d_M_init_23 : decode prog_6_method_1_code 23 = .ok (.putfield 16, 3) := by decide +kernel
theorem d_M_init_26 : decode prog_6_method_1_code 26 = .ok (.aload_n 0, 1) := by decide +kernel
theorem d_M_init_27 : decode prog_6_method_1_code 27 = .ok (.new 19, 3) := by decide +kernel
theorem d_M_init_30 : decode prog_6_method_1_code 30 = .ok (.dup, 1) := by decide +kernel
theorem d_M_init_31 : decode prog_6_method_1_code 31 = .ok (.invokespecial 21, 3) := by decide +kernel
theorem d_M_init_34 : decode prog_6_method_1_code 34 = .ok (.putfield 22, 3) := by decide +kernel
theorem d_M_init_37 : decode prog_6_method_1_code 37 = .ok (.return_, 1) := by decide +kernel
def cd_M_init_0 : Nat → g_T := g_tab [(0, tr_ald 0 1), (1, tr_oi 4), (4, tr_ald 0 5), (5, tr_new 1 2 [.int 0, .int 0] 8), (8, tr_dup 9), (9, tr_cI J_L_init 0 12), (12, tr_put 4 0 (.object "TracePacks$Places") 15), (15, tr_ald 0 16), (16, tr_new 1 2 [.int 0, .int 0] 19), (19, tr_dup 20), (20, tr_cI J_L_init 0 23), (23, tr_put 4 1 (.object "TracePacks$Places") 26), (26, tr_ald 0 27), (27, tr_new 3 1 [.null] 30), (30, tr_dup 31), (31, tr_cI J_V_init 0 34)]
set_option maxRecDepth 100000 in
theorem ok_M_init_0 : ∀ pc, g_S (J_M_init) pc (cd_M_init_0 pc) := g_tab_ok <|
  List.forall_mem_cons.mpr ⟨so_aload_n d_M_init_0 rfl rfl,
  List.forall_mem_cons.mpr ⟨so_oi d_M_init_1 w_1_85 w_1_25 w_1_26 ⟨(Nat.le_of_ble_eq_true rfl), (Nat.le_of_ble_eq_true rfl)⟩ rfl,
  List.forall_mem_cons.mpr ⟨so_aload_n d_M_init_4 rfl rfl,
  List.forall_mem_cons.mpr ⟨so_new ft_L d_M_init_5 (rfl : vwCl[1]? = some (R_L, F_L, 2)) i_L w_1_86 w_1_87 w_1_7 tk_L (by decide) rfl,
  List.forall_mem_cons.mpr ⟨so_dup d_M_init_8 rfl,
  List.forall_mem_cons.mpr ⟨so_cIN g_good d_M_init_9 ⟨w_1_90, (Nat.le_of_ble_eq_true rfl), (Nat.le_of_ble_eq_true rfl), w_1_7, ⟨by decide, by decide⟩, by decide +kernel⟩ rfl rfl w_1_88 w_1_89 rfl,
  List.forall_mem_cons.mpr ⟨so_putF ft_M d_M_init_12 (rfl : vwCl[4]? = some (R_M, F_M, 5)) (Nat.le_of_ble_eq_true rfl) i_M w_1_111 tk_M n_M rfl rfl rfl rfl rfl,
  List.forall_mem_cons.mpr ⟨so_aload_n d_M_init_15 rfl rfl,
  List.forall_mem_cons.mpr ⟨so_new ft_L d_M_init_16 (rfl : vwCl[1]? = some (R_L, F_L, 2)) i_L w_1_86 w_1_87 w_1_7 tk_L (by decide) rfl,
  List.forall_mem_cons.mpr ⟨so_dup d_M_init_19 rfl,
  List.forall_mem_cons.mpr ⟨so_cIN g_good d_M_init_20 ⟨w_1_90, (Nat.le_of_ble_eq_true rfl), (Nat.le_of_ble_eq_true rfl), w_1_7, ⟨by decide, by decide⟩, by decide +kernel⟩ rfl rfl w_1_88 w_1_89 rfl,
  List.forall_mem_cons.mpr ⟨so_putF ft_M d_M_init_23 (rfl : vwCl[4]? = some (R_M, F_M, 5)) (Nat.le_of_ble_eq_true rfl) i_M w_1_114 tk_M n_M rfl rfl rfl rfl rfl,
  List.forall_mem_cons.mpr ⟨so_aload_n d_M_init_26 rfl rfl,
  List.forall_mem_cons.mpr ⟨so_new ft_V d_M_init_27 (rfl : vwCl[3]? = some (R_V, F_V, 1)) i_V w_1_99 w_1_100 w_1_8 tk_V (by decide) rfl,
  List.forall_mem_cons.mpr ⟨so_dup d_M_init_30 rfl,
  List.forall_mem_cons.mpr ⟨so_cIN g_good d_M_init_31 ⟨w_1_103, (Nat.le_of_ble_eq_true rfl), (Nat.le_of_ble_eq_true rfl), w_1_8, ⟨by decide, by decide⟩, by decide +kernel⟩ rfl rfl w_1_101 w_1_102 rfl,
  fun _ h => absurd h List.not_mem_nil⟩⟩⟩⟩⟩⟩⟩⟩⟩⟩⟩⟩⟩⟩⟩⟩
def cd_M_init_1 : Nat → g_T := g_tab [(34, tr_put 4 2 (.object "TracePacks$LastValues") 37), (37, tr_rv)]
set_option maxRecDepth 100000 in
theorem ok_M_init_1 : ∀ pc, g_S (J_M_init) pc (cd_M_init_1 pc) := g_tab_ok <|
  List.forall_mem_cons.mpr ⟨so_putF ft_M d_M_init_34 (rfl : vwCl[4]? = some (R_M, F_M, 5)) (Nat.le_of_ble_eq_true rfl) i_M w_1_117 tk_M n_M rfl rfl rfl rfl rfl,
  List.forall_mem_cons.mpr ⟨so_vret d_M_init_37 rfl,
  fun _ h => absurd h List.not_mem_nil⟩⟩
def cd_M_init : Nat → g_T := g_chk [(31, cd_M_init_0), (37, cd_M_init_1)]
theorem ok_M_init : ∀ pc, g_S (J_M_init) pc (cd_M_init pc) := g_chk_ok <|
  List.forall_mem_cons.mpr ⟨ok_M_init_0,
  List.forall_mem_cons.mpr ⟨ok_M_init_1,
  fun _ h => absurd h List.not_mem_nil⟩⟩
abbrev J_I_size : g_J := (y_I_size, prog_3_method_2_code, 1, (some .int), (0, 0), [], none)
theorem d_I_size_0 : decode prog_3_method_2_code 0 = .ok (.aload_n 0, 1) := by decide +kernel
theorem d_I_size_1 : decode prog_3_method_2_code 1 = .ok (.getfield 21, 3) := by decide +kernel
theorem d_I_size_4 : decode prog_3_method_2_code 4 = .ok (.ireturn, 1) := by decide +kernel
def cd_I_size_0 : Nat → g_T := g_tab [(0, tr_ald 0 1), (1, tr_get 0 1 4), (4, tr_ri)]
set_option maxRecDepth 100000 in
theorem ok_I_size_0 : ∀ pc, g_S (J_I_size) pc (cd_I_size_0 pc) := g_tab_ok <|
  List.forall_mem_cons.mpr ⟨so_aload_n d_I_size_0 rfl rfl,
  List.forall_mem_cons.mpr ⟨so_get d_I_size_1 (rfl : vwCl[0]? = some (R_I, F_I, 2)) (Nat.le_of_ble_eq_true rfl) i_I w_1_37 rfl,
  List.forall_mem_cons.mpr ⟨so_iret d_I_size_4 rfl,
  fun _ h => absurd h List.not_mem_nil⟩⟩⟩
def cd_I_size : Nat → g_T := g_chk [(4, cd_I_size_0)]
theorem ok_I_size : ∀ pc, g_S (J_I_size) pc (cd_I_size pc) := g_chk_ok <|
  List.forall_mem_cons.mpr ⟨ok_I_size_0,
  fun _ h => absurd h List.not_mem_nil⟩
abbrev J_B_size : g_J := (y_B_size, prog_2_method_6_code, 1, (some .int), (1, 20), [], none)
theorem d_B_size_0 : decode prog_2_method_6_code 0 = .ok (.aload_n 0, 1) := by decide +kernel
theorem d_B_size_1 : decode prog_2_method_6_code 1 = .ok (.getfield 14, 3) := by decide +kernel
theorem d_B_size_4 : decode prog_2_method_6_code 4 = .ok (.invokevirtual 47, 3) := by decide +kernel
theorem d_B_size_7 : decode prog_2_method_6_code 7 = .ok (.ireturn, 1) := by decide +kernel
def cd_B_size_0 : Nat → g_T := g_tab [(0, tr_ald 0 1), (1, tr_get 2 0 4), (4, tr_cV J_I_size 0 0 7), (7, tr_ri)]
set_option maxRecDepth 100000 in
theorem ok_B_size_0 : ∀ pc, g_S (J_B_size) pc (cd_B_size_0 pc) := g_tab_ok <|
  List.forall_mem_cons.mpr ⟨so_aload_n d_B_size_0 rfl rfl,
  List.forall_mem_cons.mpr ⟨so_get d_B_size_1 (rfl : vwCl[2]? = some (R_B, F_B, 5)) (Nat.le_of_ble_eq_true rfl) i_B w_1_56 rfl,
  List.forall_mem_cons.mpr ⟨so_cV g_good d_B_size_4 ⟨w_2_28, (Nat.le_of_ble_eq_true rfl), (Nat.le_of_ble_eq_true rfl), w_1_2, ⟨by decide, by decide⟩, by decide +kernel⟩ (rfl : vwCl[0]? = some (R_I, F_I, 2)) w_2_33 w_2_26 w_2_27 rfl,
  List.forall_mem_cons.mpr ⟨so_iret d_B_size_7 rfl,
  fun _ h => absurd h List.not_mem_nil⟩⟩⟩⟩
def cd_B_size : Nat → g_T := g_chk [(7, cd_B_size_0)]
theorem ok_B_size : ∀ pc, g_S (J_B_size) pc (cd_B_size pc) := g_chk_ok <|
  List.forall_mem_cons.mpr ⟨ok_B_size_0,
  fun _ h => absurd h List.not_mem_nil⟩
abbrev J_I_at : g_J := (y_I_at, prog_3_method_4_code, 2, (some .int), (0, 0), [], none)
theorem d_I_at_0 : decode prog_3_method_4_code 0 = .ok (.iload_n 1, 1) := by decide +kernel
theorem d_I_at_1 : decode prog_3_method_4_code 1 = .ok (.ifCond .lt 20, 3) := by decide +kernel
theorem d_I_at_4 : decode prog_3_method_4_code 4 = .ok (.iload_n 1, 1) := by decide +kernel
theorem d_I_at_5 : decode prog_3_method_4_code 5 = .ok (.aload_n 0, 1) := by decide +kernel
theorem d_I_at_6 : decode prog_3_method_4_code 6 = .ok (.getfield 21, 3) := by decide +kernel
theorem d_I_at_9 : decode prog_3_method_4_code 9 = .ok (.if_icmp .ge 12, 3) := by decide +kernel
theorem d_I_at_12 : decode prog_3_method_4_code 12 = .ok (.aload_n 0, 1) := by decide +kernel
theorem d_I_at_13 : decode prog_3_method_4_code 13 = .ok (.getfield 15, 3) := by decide +kernel
theorem d_I_at_16 : decode prog_3_method_4_code 16 = .ok (.iload_n 1, 1) := by decide +kernel
theorem d_I_at_17 : decode prog_3_method_4_code 17 = .ok (.iaload, 1) := by decide +kernel
theorem d_I_at_18 : decode prog_3_method_4_code 18 = .ok (.goto 4, 3) := by decide +kernel
theorem d_I_at_21 : decode prog_3_method_4_code 21 = .ok (.iconst (-1), 1) := by decide +kernel
theorem d_I_at_22 : decode prog_3_method_4_code 22 = .ok (.ireturn, 1) := by decide +kernel
def cd_I_at_0 : Nat → g_T := g_tab [(0, tr_ild 1 1), (1, tr_if1 (fun x => x < 0) 21 4), (4, tr_ild 1 5), (5, tr_ald 0 6), (6, tr_get 0 1 9), (9, tr_if2 (fun x y => y ≤ x) 21 12), (12, tr_ald 0 13), (13, tr_get 0 0 16), (16, tr_ild 1 17), (17, tr_ial 18), (18, tr_goto 22), (21, tr_cst (.int (-1)) 22), (22, tr_ri)]
set_option maxRecDepth 100000 in
theorem ok_I_at_0 : ∀ pc, g_S (J_I_at) pc (cd_I_at_0 pc) := g_tab_ok <|
  List.forall_mem_cons.mpr ⟨so_iload_n d_I_at_0 rfl rfl,
  List.forall_mem_cons.mpr ⟨so_if_lt d_I_at_1 (by decide) rfl,
  List.forall_mem_cons.mpr ⟨so_iload_n d_I_at_4 rfl rfl,
  List.forall_mem_cons.mpr ⟨so_aload_n d_I_at_5 rfl rfl,
  List.forall_mem_cons.mpr ⟨so_get d_I_at_6 (rfl : vwCl[0]? = some (R_I, F_I, 2)) (Nat.le_of_ble_eq_true rfl) i_I w_1_37 rfl,
  List.forall_mem_cons.mpr ⟨so_icmp_ge d_I_at_9 (by decide) rfl,
  List.forall_mem_cons.mpr ⟨so_aload_n d_I_at_12 rfl rfl,
  List.forall_mem_cons.mpr ⟨so_get d_I_at_13 (rfl : vwCl[0]? = some (R_I, F_I, 2)) (Nat.le_of_ble_eq_true rfl) i_I w_1_36 rfl,
  List.forall_mem_cons.mpr ⟨so_iload_n d_I_at_16 rfl rfl,
  List.forall_mem_cons.mpr ⟨so_iaload d_I_at_17 rfl,
  List.forall_mem_cons.mpr ⟨so_goto d_I_at_18 (by decide),
  List.forall_mem_cons.mpr ⟨so_iconst (by decide) d_I_at_21 rfl,
  List.forall_mem_cons.mpr ⟨so_iret d_I_at_22 rfl,
  fun _ h => absurd h List.not_mem_nil⟩⟩⟩⟩⟩⟩⟩⟩⟩⟩⟩⟩⟩
def cd_I_at : Nat → g_T := g_chk [(22, cd_I_at_0)]
theorem ok_I_at : ∀ pc, g_S (J_I_at) pc (cd_I_at pc) := g_chk_ok <|
  List.forall_mem_cons.mpr ⟨ok_I_at_0,
  fun _ h => absurd h List.not_mem_nil⟩
abbrev J_B_isClosedBy : g_J := (y_B_isClosedBy, prog_2_method_4_code, 2, (some .boolean), (2, 40), [], none)
theorem d_B_isClosedBy_0 : decode prog_2_method_4_code 0 = .ok (.aload_n 0, 1) := by decide +kernel
theorem d_B_isClosedBy_1 : decode prog_2_method_4_code 1 = .ok (.invokevirtual 39, 3) := by decide +kernel
theorem d_B_isClosedBy_4 : decode prog_2_method_4_code 4 = .ok (.ifCond .le 24, 3) := by decide +kernel
theorem d_B_isClosedBy_7 : decode prog_2_method_4_code 7 = .ok (.iload_n 1, 1) := by decide +kernel
theorem d_B_isClosedBy_8 : decode prog_2_method_4_code 8 = .ok (.aload_n 0, 1) := by decide +kernel
theorem d_B_isClosedBy_9 : decode prog_2_method_4_code 9 = .ok (.getfield 29, 3) := by decide +kernel
theorem d_B_isClosedBy_12 : decode prog_2_method_4_code 12 = .ok (.if_icmp .ne 12, 3) := by decide +kernel
theorem d_B_isClosedBy_15 : decode prog_2_method_4_code 15 = .ok (.aload_n 0, 1) := by decide +kernel
theorem d_B_isClosedBy_16 : decode prog_2_method_4_code 16 = .ok (.invokevirtual 39, 3) := by decide +kernel
theorem d_B_isClosedBy_19 : decode prog_2_method_4_code 19 = .ok (.bipush 100, 2) := by decide +kernel
theorem d_B_isClosedBy_21 : decode prog_2_method_4_code 21 = .ok (.if_icmp .ne 7, 3) := by decide +kernel
theorem d_B_isClosedBy_24 : decode prog_2_method_4_code 24 = .ok (.iconst 1, 1) := by decide +kernel
theorem d_B_isClosedBy_25 : decode prog_2_method_4_code 25 = .ok (.goto 4, 3) := by decide +kernel
theorem d_B_isClosedBy_28 : decode prog_2_method_4_code 28 = .ok (.iconst 0, 1) := by decide +kernel
theorem d_B_isClosedBy_29 : decode prog_2_method_4_code 29 = .ok (.ireturn, 1) := by decide +kernel
def cd_B_isClosedBy_0 : Nat → g_T := g_tab [(0, tr_ald 0 1), (1, tr_cV J_B_size 2 0 4), (4, tr_if1 (fun x => x ≤ 0) 28 7), (7, tr_ild 1 8), (8, tr_ald 0 9), (9, tr_get 2 3 12), (12, tr_if2 (fun x y => ¬ x = y) 24 15), (15, tr_ald 0 16), (16, tr_cV J_B_size 2 0 19), (19, tr_cst (.int (100)) 21), (21, tr_if2 (fun x y => ¬ x = y) 28 24), (24, tr_cst (.int (1)) 25), (25, tr_goto 29), (28, tr_cst (.int (0)) 29), (29, tr_rz)]
set_option maxRecDepth 100000 in
theorem ok_B_isClosedBy_0 : ∀ pc, g_S (J_B_isClosedBy) pc (cd_B_isClosedBy_0 pc) := g_tab_ok <|
  List.forall_mem_cons.mpr ⟨so_aload_n d_B_isClosedBy_0 rfl rfl,
  List.forall_mem_cons.mpr ⟨so_cV g_good d_B_isClosedBy_1 ⟨w_2_32, (Nat.le_of_ble_eq_true rfl), (Nat.le_of_ble_eq_true rfl), w_1_4, ⟨by decide, by decide⟩, by decide +kernel⟩ (rfl : vwCl[2]? = some (R_B, F_B, 5)) w_2_172 w_2_30 w_2_31 rfl,
  List.forall_mem_cons.mpr ⟨so_if_le d_B_isClosedBy_4 (by decide) rfl,
  List.forall_mem_cons.mpr ⟨so_iload_n d_B_isClosedBy_7 rfl rfl,
  List.forall_mem_cons.mpr ⟨so_aload_n d_B_isClosedBy_8 rfl rfl,
  List.forall_mem_cons.mpr ⟨so_get d_B_isClosedBy_9 (rfl : vwCl[2]? = some (R_B, F_B, 5)) (Nat.le_of_ble_eq_true rfl) i_B w_1_59 rfl,
  List.forall_mem_cons.mpr ⟨so_icmp_ne d_B_isClosedBy_12 (by decide) rfl,
  List.forall_mem_cons.mpr ⟨so_aload_n d_B_isClosedBy_15 rfl rfl,
  List.forall_mem_cons.mpr ⟨so_cV g_good d_B_isClosedBy_16 ⟨w_2_32, (Nat.le_of_ble_eq_true rfl), (Nat.le_of_ble_eq_true rfl), w_1_4, ⟨by decide, by decide⟩, by decide +kernel⟩ (rfl : vwCl[2]? = some (R_B, F_B, 5)) w_2_172 w_2_30 w_2_31 rfl,
  List.forall_mem_cons.mpr ⟨so_bipush (by decide) d_B_isClosedBy_19 rfl,
  List.forall_mem_cons.mpr ⟨so_icmp_ne d_B_isClosedBy_21 (by decide) rfl,
  List.forall_mem_cons.mpr ⟨so_iconst (by decide) d_B_isClosedBy_24 rfl,
  List.forall_mem_cons.mpr ⟨so_goto d_B_isClosedBy_25 (by decide),
  List.forall_mem_cons.mpr ⟨so_iconst (by decide) d_B_isClosedBy_28 rfl,
  List.forall_mem_cons.mpr ⟨so_zret d_B_isClosedBy_29 rfl,
  fun _ h => absurd h List.not_mem_nil⟩⟩⟩⟩⟩⟩⟩⟩⟩⟩⟩⟩⟩⟩⟩
def cd_B_isClosedBy : Nat → g_T := g_chk [(29, cd_B_isClosedBy_0)]
theorem ok_B_isClosedBy : ∀ pc, g_S (J_B_isClosedBy) pc (cd_B_isClosedBy pc) := g_chk_ok <|
  List.forall_mem_cons.mpr ⟨ok_B_isClosedBy_0,
  fun _ h => absurd h List.not_mem_nil⟩
abbrev J_I_shorten : g_J := (y_I_shorten, prog_3_method_7_code, 2, none, (0, 0), [], none)
theorem d_I_shorten_0 : decode prog_3_method_7_code 0 = .ok (.iload_n 1, 1) := by decide +kernel
theorem d_I_shorten_1 : decode prog_3_method_7_code 1 = .ok (.ifCond .lt 16, 3) := by decide +kernel
theorem d_I_shorten_4 : decode prog_3_method_7_code 4 = .ok (.iload_n 1, 1) := by decide +kernel
theorem d_I_shorten_5 : decode prog_3_method_7_code 5 = .ok (.aload_n 0, 1) := by decide +kernel
theorem d_I_shorten_6 : decode prog_3_method_7_code 6 = .ok (.getfield 21, 3) := by decide +kernel
theorem d_I_shorten_9 : decode prog_3_method_7_code 9 = .ok (.if_icmp .ge 8, 3) := by decide +kernel
theorem d_I_shorten_12 : decode prog_3_method_7_code 12 = .ok (.aload_n 0, 1) := by decide +kernel
theorem d_I_shorten_13 : decode prog_3_method_7_code 13 = .ok (.iload_n 1, 1) := by decide +kernel
theorem d_I_shorten_14 : decode prog_3_method_7_code 14 = .ok (.putfield 21, 3) := by decide +kernel
theorem d_I_shorten_17 : decode prog_3_method_7_code 17 = .ok (.return_, 1) := by decide +kernel
def cd_I_shorten_0 : Nat → g_T := g_tab [(0, tr_ild 1 1), (1, tr_if1 (fun x => x < 0) 17 4), (4, tr_ild 1 5), (5, tr_ald 0 6), (6, tr_get 0 1 9), (9, tr_if2 (fun x y => y ≤ x) 17 12), (12, tr_ald 0 13), (13, tr_ild 1 14), (14, tr_put 0 1 (.int) 17), (17, tr_rv)]
set_option maxRecDepth 100000 in
theorem ok_I_shorten_0 : ∀ pc, g_S (J_I_shorten) pc (cd_I_shorten_0 pc) := g_tab_ok <|
  List.forall_mem_cons.mpr ⟨so_iload_n d_I_shorten_0 rfl rfl,
  List.forall_mem_cons.mpr ⟨so_if_lt d_I_shorten_1 (by decide) rfl,
  List.forall_mem_cons.mpr ⟨so_iload_n d_I_shorten_4 rfl rfl,
  List.forall_mem_cons.mpr ⟨so_aload_n d_I_shorten_5 rfl rfl,
  List.forall_mem_cons.mpr ⟨so_get d_I_shorten_6 (rfl : vwCl[0]? = some (R_I, F_I, 2)) (Nat.le_of_ble_eq_true rfl) i_I w_1_37 rfl,
  List.forall_mem_cons.mpr ⟨so_icmp_ge d_I_shorten_9 (by decide) rfl,
  List.forall_mem_cons.mpr ⟨so_aload_n d_I_shorten_12 rfl rfl,
  List.forall_mem_cons.mpr ⟨so_iload_n d_I_shorten_13 rfl rfl,
  List.forall_mem_cons.mpr ⟨so_put ft_I d_I_shorten_14 (rfl : vwCl[0]? = some (R_I, F_I, 2)) (Nat.le_of_ble_eq_true rfl) i_I w_1_37 tk_I n_I rfl rfl rfl,
  List.forall_mem_cons.mpr ⟨so_vret d_I_shorten_17 rfl,
  fun _ h => absurd h List.not_mem_nil⟩⟩⟩⟩⟩⟩⟩⟩⟩⟩
def cd_I_shorten : Nat → g_T := g_chk [(17, cd_I_shorten_0)]
theorem ok_I_shorten : ∀ pc, g_S (J_I_shorten) pc (cd_I_shorten pc) := g_chk_ok <|
  List.forall_mem_cons.mpr ⟨ok_I_shorten_0,
  fun _ h => absurd h List.not_mem_nil⟩
abbrev J_B_time : g_J := (y_B_time, prog_2_method_8_code, 1, (some .int), (0, 0), [], none)
theorem d_B_time_0 : decode prog_2_method_8_code 0 = .ok (.aload_n 0, 1) := by decide +kernel
theorem d_B_time_1 : decode prog_2_method_8_code 1 = .ok (.getfield 33, 3) := by decide +kernel
theorem d_B_time_4 : decode prog_2_method_8_code 4 = .ok (.ireturn, 1) := by decide +kernel
def cd_B_time_0 : Nat → g_T := g_tab [(0, tr_ald 0 1), (1, tr_get 2 4 4), (4, tr_ri)]
set_option maxRecDepth 100000 in
theorem ok_B_time_0 : ∀ pc, g_S (J_B_time) pc (cd_B_time_0 pc) := g_tab_ok <|
  List.forall_mem_cons.mpr ⟨so_aload_n d_B_time_0 rfl rfl,
  List.forall_mem_cons.mpr ⟨so_get d_B_time_1 (rfl : vwCl[2]? = some (R_B, F_B, 5)) (Nat.le_of_ble_eq_true rfl) i_B w_1_60 rfl,
  List.forall_mem_cons.mpr ⟨so_iret d_B_time_4 rfl,
  fun _ h => absurd h List.not_mem_nil⟩⟩⟩
def cd_B_time : Nat → g_T := g_chk [(4, cd_B_time_0)]
theorem ok_B_time : ∀ pc, g_S (J_B_time) pc (cd_B_time pc) := g_chk_ok <|
  List.forall_mem_cons.mpr ⟨ok_B_time_0,
  fun _ h => absurd h List.not_mem_nil⟩
abbrev J_L_clear : g_J := (y_L_clear, prog_8_method_2_code, 1, none, (0, 0), [], none)
theorem d_L_clear_0 : decode prog_8_method_2_code 0 = .ok (.aload_n 0, 1) := by decide +kernel
theorem d_L_clear_1 : decode prog_8_method_2_code 1 = .ok (.iconst 0, 1) := by decide +kernel
theorem d_L_clear_2 : decode prog_8_method_2_code 2 = .ok (.putfield 7, 3) := by decide +kernel
theorem d_L_clear_5 : decode prog_8_method_2_code 5 = .ok (.aload_n 0, 1) := by decide +kernel
theorem d_L_clear_6 : decode prog_8_method_2_code 6 = .ok (.iconst 0, 1) := by decide +kernel
theorem d_L_clear_7 : decode prog_8_method_2_code 7 = .ok (.putfield 13, 3) := by decide +kernel
theorem d_L_clear_10 : decode prog_8_method_2_code 10 = .ok (.return_, 1) := by decide +kernel
def cd_L_clear_0 : Nat → g_T := g_tab [(0, tr_ald 0 1), (1, tr_cst (.int (0)) 2), (2, tr_put 1 0 (.int) 5), (5, tr_ald 0 6), (6, tr_cst (.int (0)) 7), (7, tr_put 1 1 (.int) 10), (10, tr_rv)]
set_option maxRecDepth 100000 in
theorem ok_L_clear_0 : ∀ pc, g_S (J_L_clear) pc (cd_L_clear_0 pc) := g_tab_ok <|
  List.forall_mem_cons.mpr ⟨so_aload_n d_L_clear_0 rfl rfl,
  List.forall_mem_cons.mpr ⟨so_iconst (by decide) d_L_clear_1 rfl,
  List.forall_mem_cons.mpr ⟨so_put ft_L d_L_clear_2 (rfl : vwCl[1]? = some (R_L, F_L, 2)) (Nat.le_of_ble_eq_true rfl) i_L w_1_92 tk_L n_L rfl rfl rfl,
  List.forall_mem_cons.mpr ⟨so_aload_n d_L_clear_5 rfl rfl,
  List.forall_mem_cons.mpr ⟨so_iconst (by decide) d_L_clear_6 rfl,
  List.forall_mem_cons.mpr ⟨so_put ft_L d_L_clear_7 (rfl : vwCl[1]? = some (R_L, F_L, 2)) (Nat.le_of_ble_eq_true rfl) i_L w_1_93 tk_L n_L rfl rfl rfl,
  List.forall_mem_cons.mpr ⟨so_vret d_L_clear_10 rfl,
  fun _ h => absurd h List.not_mem_nil⟩⟩⟩⟩⟩⟩⟩
def cd_L_clear : Nat → g_T := g_chk [(10, cd_L_clear_0)]
theorem ok_L_clear : ∀ pc, g_S (J_L_clear) pc (cd_L_clear pc) := g_chk_ok <|
  List.forall_mem_cons.mpr ⟨ok_L_clear_0,
  fun _ h => absurd h List.not_mem_nil⟩
abbrev J_V_clear : g_J := (y_V_clear, prog_5_method_2_code, 1, none, (1, 21), [], none)
theorem d_V_clear_0 : decode prog_5_method_2_code 0 = .ok (.aload_n 0, 1) := by decide +kernel
theorem d_V_clear_1 : decode prog_5_method_2_code 1 = .ok (.getfield 14, 3) := by decide +kernel
theorem d_V_clear_4 : decode prog_5_method_2_code 4 = .ok (.iconst 0, 1) := by decide +kernel
theorem d_V_clear_5 : decode prog_5_method_2_code 5 = .ok (.invokevirtual 20, 3) := by decide +kernel
theorem d_V_clear_8 : decode prog_5_method_2_code 8 = .ok (.return_, 1) := by decide +kernel
def cd_V_clear_0 : Nat → g_T := g_tab [(0, tr_ald 0 1), (1, tr_get 3 0 4), (4, tr_cst (.int (0)) 5), (5, tr_cV J_I_shorten 0 1 8), (8, tr_rv)]
set_option maxRecDepth 100000 in
theorem ok_V_clear_0 : ∀ pc, g_S (J_V_clear) pc (cd_V_clear_0 pc) := g_tab_ok <|
  List.forall_mem_cons.mpr ⟨so_aload_n d_V_clear_0 rfl rfl,
  List.forall_mem_cons.mpr ⟨so_get d_V_clear_1 (rfl : vwCl[3]? = some (R_V, F_V, 1)) (Nat.le_of_ble_eq_true rfl) i_V w_1_107 rfl,
  List.forall_mem_cons.mpr ⟨so_iconst (by decide) d_V_clear_4 rfl,
  List.forall_mem_cons.mpr ⟨so_cV g_good d_V_clear_5 ⟨w_2_184, (Nat.le_of_ble_eq_true rfl), (Nat.le_of_ble_eq_true rfl), w_1_2, ⟨by decide, by decide⟩, by decide +kernel⟩ (rfl : vwCl[0]? = some (R_I, F_I, 2)) w_2_201 w_2_182 w_2_183 rfl,
  List.forall_mem_cons.mpr ⟨so_vret d_V_clear_8 rfl,
  fun _ h => absurd h List.not_mem_nil⟩⟩⟩⟩⟩
def cd_V_clear : Nat → g_T := g_chk [(8, cd_V_clear_0)]
theorem ok_V_clear : ∀ pc, g_S (J_V_clear) pc (cd_V_clear pc) := g_chk_ok <|
  List.forall_mem_cons.mpr ⟨ok_V_clear_0,
  fun _ h => absurd h List.not_mem_nil⟩
abbrev J_M_begin : g_J := (y_M_begin, prog_6_method_2_code, 2, none, (2, 41), [], none)
theorem d_M_begin_0 : decode prog_6_method_2_code 0 = .ok (.aload_n 0, 1) := by decide +kernel
theorem d_M_begin_1 : decode prog_6_method_2_code 1 = .ok (.getfield 10, 3) := by decide +kernel
theorem d_M_begin_4 : decode prog_6_method_2_code 4 = .ok (.invokevirtual 26, 3) := by decide +kernel
theorem d_M_begin_7 : decode prog_6_method_2_code 7 = .ok (.aload_n 0, 1) := by decide +kernel
theorem d_M_begin_8 : decode prog_6_method_2_code 8 = .ok (.getfield 16, 3) := by decide +kernel
theorem d_M_begin_11 : decode prog_6_method_2_code 11 = .ok (.invokevirtual 26, 3) := by decide +kernel
theorem d_M_begin_14 : decode prog_6_method_2_code 14 = .ok (.aload_n 0, 1) := by decide +kernel
theorem d_M_begin_15 : decode prog_6_method_2_code 15 = .ok (.getfield 22, 3) := by decide +kernel
theorem d_M_begin_18 : decode prog_6_method_2_code 18 = .ok (.invokevirtual 29, 3) := by decide +kernel
theorem d_M_begin_21 : decode prog_6_method_2_code 21 = .ok (.aload_n 0, 1) := by decide +kernel
theorem d_M_begin_22 : decode prog_6_method_2_code 22 = .ok (.iconst 0, 1) := by decide +kernel
theorem d_M_begin_23 : decode prog_6_method_2_code 23 = .ok (.putfield 30, 3) := by decide +kernel
theorem d_M_begin_26 : decode prog_6_method_2_code 26 = .ok (.aload_n 0, 1) := by decide +kernel
theorem d_M_begin_27 : decode prog_6_method_2_code 27 = .ok (.iload_n 1, 1) := by decide +kernel
theorem d_M_begin_28 : decode prog_6_method_2_code 28 = .ok (.putfield 34, 3) := by decide +kernel
theorem d_M_begin_31 : decode prog_6_method_2_code 31 = .ok (.return_, 1) := by decide +kernel
def cd_M_begin_0 : Nat → g_T := g_tab [(0, tr_ald 0 1), (1, tr_get 4 0 4), (4, tr_cV J_L_clear 1 0 7), (7, tr_ald 0 8), (8, tr_get 4 1 11), (11, tr_cV J_L_clear 1 0 14), (14, tr_ald 0 15), (15, tr_get 4 2 18), (18, tr_cV J_V_clear 3 0 21), (21, tr_ald 0 22), (22, tr_cst (.int (0)) 23), (23, tr_put 4 3 (.int) 26), (26, tr_ald 0 27), (27, tr_ild 1 28), (28, tr_put 4 4 (.int) 31), (31, tr_rv)]
set_option maxRecDepth 100000 in
theorem ok_M_begin_0 : ∀ pc, g_S (J_M_begin) pc (cd_M_begin_0 pc) := g_tab_ok <|
  List.forall_mem_cons.mpr ⟨so_aload_n d_M_begin_0 rfl rfl,
  List.forall_mem_cons.mpr ⟨so_get d_M_begin_1 (rfl : vwCl[4]? = some (R_M, F_M, 5)) (Nat.le_of_ble_eq_true rfl) i_M w_1_111 rfl,
  List.forall_mem_cons.mpr ⟨so_cV g_good d_M_begin_4 ⟨w_2_196, (Nat.le_of_ble_eq_true rfl), (Nat.le_of_ble_eq_true rfl), w_1_7, ⟨by decide, by decide⟩, by decide +kernel⟩ (rfl : vwCl[1]? = some (R_L, F_L, 2)) w_2_193 w_2_194 w_2_195 rfl,
  List.forall_mem_cons.mpr ⟨so_aload_n d_M_begin_7 rfl rfl,
  List.forall_mem_cons.mpr ⟨so_get d_M_begin_8 (rfl : vwCl[4]? = some (R_M, F_M, 5)) (Nat.le_of_ble_eq_true rfl) i_M w_1_114 rfl,
  List.forall_mem_cons.mpr ⟨so_cV g_good d_M_begin_11 ⟨w_2_196, (Nat.le_of_ble_eq_true rfl), (Nat.le_of_ble_eq_true rfl), w_1_7, ⟨by decide, by decide⟩, by decide +kernel⟩ (rfl : vwCl[1]? = some (R_L, F_L, 2)) w_2_193 w_2_194 w_2_195 rfl,
  List.forall_mem_cons.mpr ⟨so_aload_n d_M_begin_14 rfl rfl,
  List.forall_mem_cons.mpr ⟨so_get d_M_begin_15 (rfl : vwCl[4]? = some (R_M, F_M, 5)) (Nat.le_of_ble_eq_true rfl) i_M w_1_117 rfl,
  List.forall_mem_cons.mpr ⟨so_cV g_good d_M_begin_18 ⟨w_2_200, (Nat.le_of_ble_eq_true rfl), (Nat.le_of_ble_eq_true rfl), w_1_8, ⟨by decide, by decide⟩, by decide +kernel⟩ (rfl : vwCl[3]? = some (R_V, F_V, 1)) w_2_197 w_2_198 w_2_199 rfl,
  List.forall_mem_cons.mpr ⟨so_aload_n d_M_begin_21 rfl rfl,
  List.forall_mem_cons.mpr ⟨so_iconst (by decide) d_M_begin_22 rfl,
  List.forall_mem_cons.mpr ⟨so_put ft_M d_M_begin_23 (rfl : vwCl[4]? = some (R_M, F_M, 5)) (Nat.le_of_ble_eq_true rfl) i_M w_1_120 tk_M n_M rfl rfl rfl,
  List.forall_mem_cons.mpr ⟨so_aload_n d_M_begin_26 rfl rfl,
  List.forall_mem_cons.mpr ⟨so_iload_n d_M_begin_27 rfl rfl,
  List.forall_mem_cons.mpr ⟨so_put ft_M d_M_begin_28 (rfl : vwCl[4]? = some (R_M, F_M, 5)) (Nat.le_of_ble_eq_true rfl) i_M w_1_123 tk_M n_M rfl rfl rfl,
  List.forall_mem_cons.mpr ⟨so_vret d_M_begin_31 rfl,
  fun _ h => absurd h List.not_mem_nil⟩⟩⟩⟩⟩⟩⟩⟩⟩⟩⟩⟩⟩⟩⟩⟩
def cd_M_begin : Nat → g_T := g_chk [(31, cd_M_begin_0)]
theorem ok_M_begin : ∀ pc, g_S (J_M_begin) pc (cd_M_begin pc) := g_chk_ok <|
  List.forall_mem_cons.mpr ⟨ok_M_begin_0,
  fun _ h => absurd h List.not_mem_nil⟩
abbrev J_B_owner : g_J := (y_B_owner, prog_2_method_7_code, 1, (some .int), (0, 0), [], none)
theorem d_B_owner_0 : decode prog_2_method_7_code 0 = .ok (.aload_n 0, 1) := by decide +kernel
theorem d_B_owner_1 : decode prog_2_method_7_code 1 = .ok (.getfield 29, 3) := by decide +kernel
theorem d_B_owner_4 : decode prog_2_method_7_code 4 = .ok (.ireturn, 1) := by decide +kernel
def cd_B_owner_0 : Nat → g_T := g_tab [(0, tr_ald 0 1), (1, tr_get 2 3 4), (4, tr_ri)]
set_option maxRecDepth 100000 in
theorem ok_B_owner_0 : ∀ pc, g_S (J_B_owner) pc (cd_B_owner_0 pc) := g_tab_ok <|
  List.forall_mem_cons.mpr ⟨so_aload_n d_B_owner_0 rfl rfl,
  List.forall_mem_cons.mpr ⟨so_get d_B_owner_1 (rfl : vwCl[2]? = some (R_B, F_B, 5)) (Nat.le_of_ble_eq_true rfl) i_B w_1_59 rfl,
  List.forall_mem_cons.mpr ⟨so_iret d_B_owner_4 rfl,
  fun _ h => absurd h List.not_mem_nil⟩⟩⟩
def cd_B_owner : Nat → g_T := g_chk [(4, cd_B_owner_0)]
theorem ok_B_owner : ∀ pc, g_S (J_B_owner) pc (cd_B_owner pc) := g_chk_ok <|
  List.forall_mem_cons.mpr ⟨ok_B_owner_0,
  fun _ h => absurd h List.not_mem_nil⟩
abbrev J_B_kind : g_J := (y_B_kind, prog_2_method_9_code, 2, (some .int), (1, 21), [], none)
theorem d_B_kind_0 : decode prog_2_method_9_code 0 = .ok (.aload_n 0, 1) := by decide +kernel
theorem d_B_kind_1 : decode prog_2_method_9_code 1 = .ok (.getfield 14, 3) := by decide +kernel
theorem d_B_kind_4 : decode prog_2_method_9_code 4 = .ok (.iload_n 1, 1) := by decide +kernel
theorem d_B_kind_5 : decode prog_2_method_9_code 5 = .ok (.invokevirtual 48, 3) := by decide +kernel
theorem d_B_kind_8 : decode prog_2_method_9_code 8 = .ok (.ireturn, 1) := by decide +kernel
def cd_B_kind_0 : Nat → g_T := g_tab [(0, tr_ald 0 1), (1, tr_get 2 0 4), (4, tr_ild 1 5), (5, tr_cV J_I_at 0 1 8), (8, tr_ri)]
set_option maxRecDepth 100000 in
theorem ok_B_kind_0 : ∀ pc, g_S (J_B_kind) pc (cd_B_kind_0 pc) := g_tab_ok <|
  List.forall_mem_cons.mpr ⟨so_aload_n d_B_kind_0 rfl rfl,
  List.forall_mem_cons.mpr ⟨so_get d_B_kind_1 (rfl : vwCl[2]? = some (R_B, F_B, 5)) (Nat.le_of_ble_eq_true rfl) i_B w_1_56 rfl,
  List.forall_mem_cons.mpr ⟨so_iload_n d_B_kind_4 rfl rfl,
  List.forall_mem_cons.mpr ⟨so_cV g_good d_B_kind_5 ⟨w_2_151, (Nat.le_of_ble_eq_true rfl), (Nat.le_of_ble_eq_true rfl), w_1_2, ⟨by decide, by decide⟩, by decide +kernel⟩ (rfl : vwCl[0]? = some (R_I, F_I, 2)) w_2_216 w_2_149 w_2_150 rfl,
  List.forall_mem_cons.mpr ⟨so_iret d_B_kind_8 rfl,
  fun _ h => absurd h List.not_mem_nil⟩⟩⟩⟩⟩
def cd_B_kind : Nat → g_T := g_chk [(8, cd_B_kind_0)]
theorem ok_B_kind : ∀ pc, g_S (J_B_kind) pc (cd_B_kind pc) := g_chk_ok <|
  List.forall_mem_cons.mpr ⟨ok_B_kind_0,
  fun _ h => absurd h List.not_mem_nil⟩
abbrev J_B_a : g_J := (y_B_a, prog_2_method_10_code, 2, (some .int), (1, 21), [], none)
theorem d_B_a_0 : decode prog_2_method_10_code 0 = .ok (.aload_n 0, 1) := by decide +kernel
theorem d_B_a_1 : decode prog_2_method_10_code 1 = .ok (.getfield 20, 3) := by decide +kernel
theorem d_B_a_4 : decode prog_2_method_10_code 4 = .ok (.iload_n 1, 1) := by decide +kernel
theorem d_B_a_5 : decode prog_2_method_10_code 5 = .ok (.invokevirtual 48, 3) := by decide +kernel
theorem d_B_a_8 : decode prog_2_method_10_code 8 = .ok (.ireturn, 1) := by decide +kernel
def cd_B_a_0 : Nat → g_T := g_tab [(0, tr_ald 0 1), (1, tr_get 2 1 4), (4, tr_ild 1 5), (5, tr_cV J_I_at 0 1 8), (8, tr_ri)]
set_option maxRecDepth 100000 in
theorem ok_B_a_0 : ∀ pc, g_S (J_B_a) pc (cd_B_a_0 pc) := g_tab_ok <|
  List.forall_mem_cons.mpr ⟨so_aload_n d_B_a_0 rfl rfl,
  List.forall_mem_cons.mpr ⟨so_get d_B_a_1 (rfl : vwCl[2]? = some (R_B, F_B, 5)) (Nat.le_of_ble_eq_true rfl) i_B w_1_57 rfl,
  List.forall_mem_cons.mpr ⟨so_iload_n d_B_a_4 rfl rfl,
  List.forall_mem_cons.mpr ⟨so_cV g_good d_B_a_5 ⟨w_2_151, (Nat.le_of_ble_eq_true rfl), (Nat.le_of_ble_eq_true rfl), w_1_2, ⟨by decide, by decide⟩, by decide +kernel⟩ (rfl : vwCl[0]? = some (R_I, F_I, 2)) w_2_216 w_2_149 w_2_150 rfl,
  List.forall_mem_cons.mpr ⟨so_iret d_B_a_8 rfl,
  fun _ h => absurd h List.not_mem_nil⟩⟩⟩⟩⟩
def cd_B_a : Nat → g_T := g_chk [(8, cd_B_a_0)]
theorem ok_B_a : ∀ pc, g_S (J_B_a) pc (cd_B_a pc) := g_chk_ok <|
  List.forall_mem_cons.mpr ⟨ok_B_a_0,
  fun _ h => absurd h List.not_mem_nil⟩
abbrev J_B_b : g_J := (y_B_b, prog_2_method_11_code, 2, (some .int), (1, 21), [], none)
theorem d_B_b_0 : decode prog_2_method_11_code 0 = .ok (.aload_n 0, 1) := by decide +kernel
theorem d_B_b_1 : decode prog_2_method_11_code 1 = .ok (.getfield 23, 3) := by decide +kernel
theorem d_B_b_4 : decode prog_2_method_11_code 4 = .ok (.iload_n 1, 1) := by decide +kernel
theorem d_B_b_5 : decode prog_2_method_11_code 5 = .ok (.invokevirtual 48, 3) := by decide +kernel
theorem d_B_b_8 : decode prog_2_method_11_code 8 = .ok (.ireturn, 1) := by decide +kernel
def cd_B_b_0 : Nat → g_T := g_tab [(0, tr_ald 0 1), (1, tr_get 2 2 4), (4, tr_ild 1 5), (5, tr_cV J_I_at 0 1 8), (8, tr_ri)]
set_option maxRecDepth 100000 in
theorem ok_B_b_0 : ∀ pc, g_S (J_B_b) pc (cd_B_b_0 pc) := g_tab_ok <|
  List.forall_mem_cons.mpr ⟨so_aload_n d_B_b_0 rfl rfl,
  List.forall_mem_cons.mpr ⟨so_get d_B_b_1 (rfl : vwCl[2]? = some (R_B, F_B, 5)) (Nat.le_of_ble_eq_true rfl) i_B w_1_58 rfl,
  List.forall_mem_cons.mpr ⟨so_iload_n d_B_b_4 rfl rfl,
  List.forall_mem_cons.mpr ⟨so_cV g_good d_B_b_5 ⟨w_2_151, (Nat.le_of_ble_eq_true rfl), (Nat.le_of_ble_eq_true rfl), w_1_2, ⟨by decide, by decide⟩, by decide +kernel⟩ (rfl : vwCl[0]? = some (R_I, F_I, 2)) w_2_216 w_2_149 w_2_150 rfl,
  List.forall_mem_cons.mpr ⟨so_iret d_B_b_8 rfl,
  fun _ h => absurd h List.not_mem_nil⟩⟩⟩⟩⟩
def cd_B_b : Nat → g_T := g_chk [(8, cd_B_b_0)]
theorem ok_B_b : ∀ pc, g_S (J_B_b) pc (cd_B_b pc) := g_chk_ok <|
  List.forall_mem_cons.mpr ⟨ok_B_b_0,
  fun _ h => absurd h List.not_mem_nil⟩
abbrev J_L_expected : g_J := (y_L_expected, prog_8_method_4_code, 1, (some .int), (0, 0), [], none)
theorem d_L_expected_0 : decode prog_8_method_4_code 0 = .ok (.aload_n 0, 1) := by decide +kernel
theorem d_L_expected_1 : decode prog_8_method_4_code 1 = .ok (.getfield 7, 3) := by decide +kernel
theorem d_L_expected_4 : decode prog_8_method_4_code 4 = .ok (.aload_n 0, 1) := by decide +kernel
theorem d_L_expected_5 : decode prog_8_method_4_code 5 = .ok (.getfield 13, 3) := by decide +kernel
theorem d_L_expected_8 : decode prog_8_method_4_code 8 = .ok (.iadd, 1) := by decide +kernel
theorem d_L_expected_9 : decode prog_8_method_4_code 9 = .ok (.ireturn, 1) := by decide +kernel
def cd_L_expected_0 : Nat → g_T := g_tab [(0, tr_ald 0 1), (1, tr_get 1 0 4), (4, tr_ald 0 5), (5, tr_get 1 1 8), (8, tr_ii (fun x y => x + y) 9), (9, tr_ri)]
set_option maxRecDepth 100000 in
theorem ok_L_expected_0 : ∀ pc, g_S (J_L_expected) pc (cd_L_expected_0 pc) := g_tab_ok <|
  List.forall_mem_cons.mpr ⟨so_aload_n d_L_expected_0 rfl rfl,
  List.forall_mem_cons.mpr ⟨so_get d_L_expected_1 (rfl : vwCl[1]? = some (R_L, F_L, 2)) (Nat.le_of_ble_eq_true rfl) i_L w_1_92 rfl,
  List.forall_mem_cons.mpr ⟨so_aload_n d_L_expected_4 rfl rfl,
  List.forall_mem_cons.mpr ⟨so_get d_L_expected_5 (rfl : vwCl[1]? = some (R_L, F_L, 2)) (Nat.le_of_ble_eq_true rfl) i_L w_1_93 rfl,
  List.forall_mem_cons.mpr ⟨so_iadd d_L_expected_8 rfl,
  List.forall_mem_cons.mpr ⟨so_iret d_L_expected_9 rfl,
  fun _ h => absurd h List.not_mem_nil⟩⟩⟩⟩⟩⟩
def cd_L_expected : Nat → g_T := g_chk [(9, cd_L_expected_0)]
theorem ok_L_expected : ∀ pc, g_S (J_L_expected) pc (cd_L_expected pc) := g_chk_ok <|
  List.forall_mem_cons.mpr ⟨ok_L_expected_0,
  fun _ h => absurd h List.not_mem_nil⟩
abbrev J_L_differenceTo : g_J := (y_L_differenceTo, prog_8_method_6_code, 2, (some .int), (0, 0), [], none)
theorem d_L_differenceTo_0 : decode prog_8_method_6_code 0 = .ok (.iload_n 1, 1) := by decide +kernel
theorem d_L_differenceTo_1 : decode prog_8_method_6_code 1 = .ok (.aload_n 0, 1) := by decide +kernel
theorem d_L_differenceTo_2 : decode prog_8_method_6_code 2 = .ok (.getfield 7, 3) := by decide +kernel
theorem d_L_differenceTo_5 : decode prog_8_method_6_code 5 = .ok (.isub, 1) := by decide +kernel
theorem d_L_differenceTo_6 : decode prog_8_method_6_code 6 = .ok (.ireturn, 1) := by decide +kernel
def cd_L_differenceTo_0 : Nat → g_T := g_tab [(0, tr_ild 1 1), (1, tr_ald 0 2), (2, tr_get 1 0 5), (5, tr_ii (fun x y => x - y) 6), (6, tr_ri)]
set_option maxRecDepth 100000 in
theorem ok_L_differenceTo_0 : ∀ pc, g_S (J_L_differenceTo) pc (cd_L_differenceTo_0 pc) := g_tab_ok <|
  List.forall_mem_cons.mpr ⟨so_iload_n d_L_differenceTo_0 rfl rfl,
  List.forall_mem_cons.mpr ⟨so_aload_n d_L_differenceTo_1 rfl rfl,
  List.forall_mem_cons.mpr ⟨so_get d_L_differenceTo_2 (rfl : vwCl[1]? = some (R_L, F_L, 2)) (Nat.le_of_ble_eq_true rfl) i_L w_1_92 rfl,
  List.forall_mem_cons.mpr ⟨so_isub d_L_differenceTo_5 rfl,
  List.forall_mem_cons.mpr ⟨so_iret d_L_differenceTo_6 rfl,
  fun _ h => absurd h List.not_mem_nil⟩⟩⟩⟩⟩
def cd_L_differenceTo : Nat → g_T := g_chk [(6, cd_L_differenceTo_0)]
theorem ok_L_differenceTo : ∀ pc, g_S (J_L_differenceTo) pc (cd_L_differenceTo pc) := g_chk_ok <|
  List.forall_mem_cons.mpr ⟨ok_L_differenceTo_0,
  fun _ h => absurd h List.not_mem_nil⟩
abbrev J_L_goTo : g_J := (y_L_goTo, prog_8_method_7_code, 2, none, (0, 0), [], none)
theorem d_L_goTo_0 : decode prog_8_method_7_code 0 = .ok (.aload_n 0, 1) := by decide +kernel
theorem d_L_goTo_1 : decode prog_8_method_7_code 1 = .ok (.iload_n 1, 1) := by decide +kernel
theorem d_L_goTo_2 : decode prog_8_method_7_code 2 = .ok (.aload_n 0, 1) := by decide +kernel
theorem d_L_goTo_3 : decode prog_8_method_7_code 3 = .ok (.getfield 7, 3) := by decide +kernel
theorem d_L_goTo_6 : decode prog_8_method_7_code 6 = .ok (.isub, 1) := by decide +kernel
theorem d_L_goTo_7 : decode prog_8_method_7_code 7 = .ok (.putfield 13, 3) := by decide +kernel
theorem d_L_goTo_10 : decode prog_8_method_7_code 10 = .ok (.aload_n 0, 1) := by decide +kernel
theorem d_L_goTo_11 : decode prog_8_method_7_code 11 = .ok (.iload_n 1, 1) := by decide +kernel
theorem d_L_goTo_12 : decode prog_8_method_7_code 12 = .ok (.putfield 7, 3) := by decide +kernel
theorem d_L_goTo_15 : decode prog_8_method_7_code 15 = .ok (.return_, 1) := by decide +kernel
def cd_L_goTo_0 : Nat → g_T := g_tab [(0, tr_ald 0 1), (1, tr_ild 1 2), (2, tr_ald 0 3), (3, tr_get 1 0 6), (6, tr_ii (fun x y => x - y) 7), (7, tr_put 1 1 (.int) 10), (10, tr_ald 0 11), (11, tr_ild 1 12), (12, tr_put 1 0 (.int) 15), (15, tr_rv)]
set_option maxRecDepth 100000 in
theorem ok_L_goTo_0 : ∀ pc, g_S (J_L_goTo) pc (cd_L_goTo_0 pc) := g_tab_ok <|
  List.forall_mem_cons.mpr ⟨so_aload_n d_L_goTo_0 rfl rfl,
  List.forall_mem_cons.mpr ⟨so_iload_n d_L_goTo_1 rfl rfl,
  List.forall_mem_cons.mpr ⟨so_aload_n d_L_goTo_2 rfl rfl,
  List.forall_mem_cons.mpr ⟨so_get d_L_goTo_3 (rfl : vwCl[1]? = some (R_L, F_L, 2)) (Nat.le_of_ble_eq_true rfl) i_L w_1_92 rfl,
  List.forall_mem_cons.mpr ⟨so_isub d_L_goTo_6 rfl,
  List.forall_mem_cons.mpr ⟨so_put ft_L d_L_goTo_7 (rfl : vwCl[1]? = some (R_L, F_L, 2)) (Nat.le_of_ble_eq_true rfl) i_L w_1_93 tk_L n_L rfl rfl rfl,
  List.forall_mem_cons.mpr ⟨so_aload_n d_L_goTo_10 rfl rfl,
  List.forall_mem_cons.mpr ⟨so_iload_n d_L_goTo_11 rfl rfl,
  List.forall_mem_cons.mpr ⟨so_put ft_L d_L_goTo_12 (rfl : vwCl[1]? = some (R_L, F_L, 2)) (Nat.le_of_ble_eq_true rfl) i_L w_1_92 tk_L n_L rfl rfl rfl,
  List.forall_mem_cons.mpr ⟨so_vret d_L_goTo_15 rfl,
  fun _ h => absurd h List.not_mem_nil⟩⟩⟩⟩⟩⟩⟩⟩⟩⟩
def cd_L_goTo : Nat → g_T := g_chk [(15, cd_L_goTo_0)]
theorem ok_L_goTo : ∀ pc, g_S (J_L_goTo) pc (cd_L_goTo pc) := g_chk_ok <|
  List.forall_mem_cons.mpr ⟨ok_L_goTo_0,
  fun _ h => absurd h List.not_mem_nil⟩
abbrev J_V_numberOfValue : g_J := (y_V_numberOfValue, prog_5_method_5_code, 3, (some .int), (1, 21), [], none)
theorem d_V_numberOfValue_0 : decode prog_5_method_5_code 0 = .ok (.iconst 0, 1) := by decide +kernel
theorem d_V_numberOfValue_1 : decode prog_5_method_5_code 1 = .ok (.istore_n 2, 1) := by decide +kernel
theorem d_V_numberOfValue_2 : decode prog_5_method_5_code 2 = .ok (.iload_n 2, 1) := by decide +kernel
theorem d_V_numberOfValue_3 : decode prog_5_method_5_code 3 = .ok (.aload_n 0, 1) := by decide +kernel
theorem d_V_numberOfValue_4 : decode prog_5_method_5_code 4 = .ok (.getfield 14, 3) := by decide +kernel
theorem d_V_numberOfValue_7 : decode prog_5_method_5_code 7 = .ok (.invokevirtual 31, 3) := by decide +kernel
theorem d_V_numberOfValue_10 : decode prog_5_method_5_code 10 = .ok (.if_icmp .ge 23, 3) := by decide +kernel
theorem d_V_numberOfValue_13 : decode prog_5_method_5_code 13 = .ok (.aload_n 0, 1) := by decide +kernel
theorem d_V_numberOfValue_14 : decode prog_5_method_5_code 14 = .ok (.getfield 14, 3) := by decide +kernel
theorem d_V_numberOfValue_17 : decode prog_5_method_5_code 17 = .ok (.iload_n 2, 1) := by decide +kernel
theorem d_V_numberOfValue_18 : decode prog_5_method_5_code 18 = .ok (.invokevirtual 27, 3) := by decide +kernel
theorem d_V_numberOfValue_21 : decode prog_5_method_5_code 21 = .ok (.iload_n 1, 1) := by decide +kernel
theorem d_V_numberOfValue_22 : decode prog_5_method_5_code 22 = .ok (.if_icmp .ne 5, 3) := by decide +kernel
theorem d_V_numberOfValue_25 : decode prog_5_method_5_code 25 = .ok (.iload_n 2, 1) := by decide +kernel
theorem d_V_numberOfValue_26 : decode prog_5_method_5_code 26 = .ok (.ireturn, 1) := by decide +kernel
theorem d_V_numberOfValue_27 : decode prog_5_method_5_code 27 = .ok (.iinc 2 1, 3) := by decide +kernel
theorem d_V_numberOfValue_30 : decode prog_5_method_5_code 30 = .ok (.goto (-28), 3) := by decide +kernel
theorem d_V_numberOfValue_33 : decode prog_5_method_5_code 33 = .ok (.iconst (-1), 1) := by decide +kernel
theorem d_V_numberOfValue_34 : decode prog_5_method_5_code 34 = .ok (.ireturn, 1) := by decide +kernel
def cd_V_numberOfValue_0 : Nat → g_T := g_tab [(0, tr_cst (.int (0)) 1), (1, tr_ist 2 2), (2, tr_ild 2 3), (3, tr_ald 0 4), (4, tr_get 3 0 7), (7, tr_cV J_I_size 0 0 10), (10, tr_if2 (fun x y => y ≤ x) 33 13), (13, tr_ald 0 14), (14, tr_get 3 0 17), (17, tr_ild 2 18), (18, tr_cV J_I_at 0 1 21), (21, tr_ild 1 22), (22, tr_if2 (fun x y => ¬ x = y) 27 25), (25, tr_ild 2 26), (26, tr_ri), (27, tr_inc 2 (1) 30)]
set_option maxRecDepth 100000 in
theorem ok_V_numberOfValue_0 : ∀ pc, g_S (J_V_numberOfValue) pc (cd_V_numberOfValue_0 pc) := g_tab_ok <|
  List.forall_mem_cons.mpr ⟨so_iconst (by decide) d_V_numberOfValue_0 rfl,
  List.forall_mem_cons.mpr ⟨so_istore_n d_V_numberOfValue_1 rfl (Nat.le_of_ble_eq_true rfl) rfl,
  List.forall_mem_cons.mpr ⟨so_iload_n d_V_numberOfValue_2 rfl rfl,
  List.forall_mem_cons.mpr ⟨so_aload_n d_V_numberOfValue_3 rfl rfl,
  List.forall_mem_cons.mpr ⟨so_get d_V_numberOfValue_4 (rfl : vwCl[3]? = some (R_V, F_V, 1)) (Nat.le_of_ble_eq_true rfl) i_V w_1_107 rfl,
  List.forall_mem_cons.mpr ⟨so_cV g_good d_V_numberOfValue_7 ⟨w_2_28, (Nat.le_of_ble_eq_true rfl), (Nat.le_of_ble_eq_true rfl), w_1_2, ⟨by decide, by decide⟩, by decide +kernel⟩ (rfl : vwCl[0]? = some (R_I, F_I, 2)) w_3_31 w_2_26 w_2_27 rfl,
  List.forall_mem_cons.mpr ⟨so_icmp_ge d_V_numberOfValue_10 (by decide) rfl,
  List.forall_mem_cons.mpr ⟨so_aload_n d_V_numberOfValue_13 rfl rfl,
  List.forall_mem_cons.mpr ⟨so_get d_V_numberOfValue_14 (rfl : vwCl[3]? = some (R_V, F_V, 1)) (Nat.le_of_ble_eq_true rfl) i_V w_1_107 rfl,
  List.forall_mem_cons.mpr ⟨so_iload_n d_V_numberOfValue_17 rfl rfl,
  List.forall_mem_cons.mpr ⟨so_cV g_good d_V_numberOfValue_18 ⟨w_2_151, (Nat.le_of_ble_eq_true rfl), (Nat.le_of_ble_eq_true rfl), w_1_2, ⟨by decide, by decide⟩, by decide +kernel⟩ (rfl : vwCl[0]? = some (R_I, F_I, 2)) w_3_32 w_2_149 w_2_150 rfl,
  List.forall_mem_cons.mpr ⟨so_iload_n d_V_numberOfValue_21 rfl rfl,
  List.forall_mem_cons.mpr ⟨so_icmp_ne d_V_numberOfValue_22 (by decide) rfl,
  List.forall_mem_cons.mpr ⟨so_iload_n d_V_numberOfValue_25 rfl rfl,
  List.forall_mem_cons.mpr ⟨so_iret d_V_numberOfValue_26 rfl,
  List.forall_mem_cons.mpr ⟨so_iinc d_V_numberOfValue_27 (by decide) (Nat.le_of_ble_eq_true rfl) rfl,
  fun _ h => absurd h List.not_mem_nil⟩⟩⟩⟩⟩⟩⟩⟩⟩⟩⟩⟩⟩⟩⟩⟩
def cd_V_numberOfValue_1 : Nat → g_T := g_tab [(30, tr_goto 2), (33, tr_cst (.int (-1)) 34), (34, tr_ri)]
set_option maxRecDepth 100000 in
theorem ok_V_numberOfValue_1 : ∀ pc, g_S (J_V_numberOfValue) pc (cd_V_numberOfValue_1 pc) := g_tab_ok <|
  List.forall_mem_cons.mpr ⟨so_goto d_V_numberOfValue_30 (by decide),
  List.forall_mem_cons.mpr ⟨so_iconst (by decide) d_V_numberOfValue_33 rfl,
  List.forall_mem_cons.mpr ⟨so_iret d_V_numberOfValue_34 rfl,
  fun _ h => absurd h List.not_mem_nil⟩⟩⟩
def cd_V_numberOfValue : Nat → g_T := g_chk [(27, cd_V_numberOfValue_0), (34, cd_V_numberOfValue_1)]
theorem ok_V_numberOfValue : ∀ pc, g_S (J_V_numberOfValue) pc (cd_V_numberOfValue pc) := g_chk_ok <|
  List.forall_mem_cons.mpr ⟨ok_V_numberOfValue_0,
  List.forall_mem_cons.mpr ⟨ok_V_numberOfValue_1,
  fun _ h => absurd h List.not_mem_nil⟩⟩
abbrev J_I_set : g_J := (y_I_set, prog_3_method_5_code, 3, none, (0, 0), [], none)
theorem d_I_set_0 : decode prog_3_method_5_code 0 = .ok (.iload_n 1, 1) := by decide +kernel
theorem d_I_set_1 : decode prog_3_method_5_code 1 = .ok (.ifCond .lt 18, 3) := by decide +kernel
theorem d_I_set_4 : decode prog_3_method_5_code 4 = .ok (.iload_n 1, 1) := by decide +kernel
theorem d_I_set_5 : decode prog_3_method_5_code 5 = .ok (.aload_n 0, 1) := by decide +kernel
theorem d_I_set_6 : decode prog_3_method_5_code 6 = .ok (.getfield 21, 3) := by decide +kernel
theorem d_I_set_9 : decode prog_3_method_5_code 9 = .ok (.if_icmp .ge 10, 3) := by decide +kernel
theorem d_I_set_12 : decode prog_3_method_5_code 12 = .ok (.aload_n 0, 1) := by decide +kernel
theorem d_I_set_13 : decode prog_3_method_5_code 13 = .ok (.getfield 15, 3) := by decide +kernel
theorem d_I_set_16 : decode prog_3_method_5_code 16 = .ok (.iload_n 1, 1) := by decide +kernel
theorem d_I_set_17 : decode prog_3_method_5_code 17 = .ok (.iload_n 2, 1) := by decide +kernel
theorem d_I_set_18 : decode prog_3_method_5_code 18 = .ok (.iastore, 1) := by decide +kernel
theorem d_I_set_19 : decode prog_3_method_5_code 19 = .ok (.return_, 1) := by decide +kernel
def cd_I_set_0 : Nat → g_T := g_tab [(0, tr_ild 1 1), (1, tr_if1 (fun x => x < 0) 19 4), (4, tr_ild 1 5), (5, tr_ald 0 6), (6, tr_get 0 1 9), (9, tr_if2 (fun x y => y ≤ x) 19 12), (12, tr_ald 0 13), (13, tr_get 0 0 16), (16, tr_ild 1 17), (17, tr_ild 2 18), (18, tr_ias 19), (19, tr_rv)]
set_option maxRecDepth 100000 in
theorem ok_I_set_0 : ∀ pc, g_S (J_I_set) pc (cd_I_set_0 pc) := g_tab_ok <|
  List.forall_mem_cons.mpr ⟨so_iload_n d_I_set_0 rfl rfl,
  List.forall_mem_cons.mpr ⟨so_if_lt d_I_set_1 (by decide) rfl,
  List.forall_mem_cons.mpr ⟨so_iload_n d_I_set_4 rfl rfl,
  List.forall_mem_cons.mpr ⟨so_aload_n d_I_set_5 rfl rfl,
  List.forall_mem_cons.mpr ⟨so_get d_I_set_6 (rfl : vwCl[0]? = some (R_I, F_I, 2)) (Nat.le_of_ble_eq_true rfl) i_I w_1_37 rfl,
  List.forall_mem_cons.mpr ⟨so_icmp_ge d_I_set_9 (by decide) rfl,
  List.forall_mem_cons.mpr ⟨so_aload_n d_I_set_12 rfl rfl,
  List.forall_mem_cons.mpr ⟨so_get d_I_set_13 (rfl : vwCl[0]? = some (R_I, F_I, 2)) (Nat.le_of_ble_eq_true rfl) i_I w_1_36 rfl,
  List.forall_mem_cons.mpr ⟨so_iload_n d_I_set_16 rfl rfl,
  List.forall_mem_cons.mpr ⟨so_iload_n d_I_set_17 rfl rfl,
  List.forall_mem_cons.mpr ⟨so_iastore d_I_set_18 rfl,
  List.forall_mem_cons.mpr ⟨so_vret d_I_set_19 rfl,
  fun _ h => absurd h List.not_mem_nil⟩⟩⟩⟩⟩⟩⟩⟩⟩⟩⟩⟩
def cd_I_set : Nat → g_T := g_chk [(19, cd_I_set_0)]
theorem ok_I_set : ∀ pc, g_S (J_I_set) pc (cd_I_set pc) := g_chk_ok <|
  List.forall_mem_cons.mpr ⟨ok_I_set_0,
  fun _ h => absurd h List.not_mem_nil⟩
abbrev J_V_use : g_J := (y_V_use, prog_5_method_6_code, 5, none, (1, 22), [], none)
theorem d_V_use_0 : decode prog_5_method_6_code 0 = .ok (.iload_n 1, 1) := by decide +kernel
theorem d_V_use_1 : decode prog_5_method_6_code 1 = .ok (.istore_n 2, 1) := by decide +kernel
theorem d_V_use_2 : decode prog_5_method_6_code 2 = .ok (.iconst 0, 1) := by decide +kernel
theorem d_V_use_3 : decode prog_5_method_6_code 3 = .ok (.istore_n 3, 1) := by decide +kernel
theorem d_V_use_4 : decode prog_5_method_6_code 4 = .ok (.iload_n 3, 1) := by decide +kernel
theorem d_V_use_5 : decode prog_5_method_6_code 5 = .ok (.aload_n 0, 1) := by decide +kernel
theorem d_V_use_6 : decode prog_5_method_6_code 6 = .ok (.getfield 14, 3) := by decide +kernel
theorem d_V_use_9 : decode prog_5_method_6_code 9 = .ok (.invokevirtual 31, 3) := by decide +kernel
theorem d_V_use_12 : decode prog_5_method_6_code 12 = .ok (.if_icmp .ge 38, 3) := by decide +kernel
theorem d_V_use_15 : decode prog_5_method_6_code 15 = .ok (.aload_n 0, 1) := by decide +kernel
theorem d_V_use_16 : decode prog_5_method_6_code 16 = .ok (.getfield 14, 3) := by decide +kernel
theorem d_V_use_19 : decode prog_5_method_6_code 19 = .ok (.iload_n 3, 1) := by decide +kernel
theorem d_V_use_20 : decode prog_5_method_6_code 20 = .ok (.invokevirtual 27, 3) := by decide +kernel
theorem d_V_use_23 : decode prog_5_method_6_code 23 = .ok (.istore 4, 2) := by decide +kernel
theorem d_V_use_25 : decode prog_5_method_6_code 25 = .ok (.aload_n 0, 1) := by decide +kernel
theorem d_V_use_26 : decode prog_5_method_6_code 26 = .ok (.getfield 14, 3) := by decide +kernel
theorem d_V_use_29 : decode prog_5_method_6_code 29 = .ok (.iload_n 3, 1) := by decide +kernel
theorem d_V_use_30 : decode prog_5_method_6_code 30 = .ok (.iload_n 2, 1) := by decide +kernel
theorem d_V_use_31 : decode prog_5_method_6_code 31 = .ok (.invokevirtual 35, 3) := by decide +kernel
theorem d_V_use_34 : decode prog_5_method_6_code 34 = .ok (.iload 4, 2) := by decide +kernel
theorem d_V_use_36 : decode prog_5_method_6_code 36 = .ok (.iload_n 1, 1) := by decide +kernel
theorem d_V_use_37 : decode prog_5_method_6_code 37 = .ok (.if_icmp .ne 4, 3) := by decide +kernel
theorem d_V_use_40 : decode prog_5_method_6_code 40 = .ok (.return_, 1) := by decide +kernel
theorem d_V_use_41 : decode prog_5_method_6_code 41 = .ok (.iload 4, 2) := by decide +kernel
theorem d_V_use_43 : decode prog_5_method_6_code 43 = .ok (.istore_n 2, 1) := by decide +kernel
theorem d_V_use_44 : decode prog_5_method_6_code 44 = .ok (.iinc 3 1, 3) := by decide +kernel
theorem d_V_use_47 : decode prog_5_method_6_code 47 = .ok (.goto (-43), 3) := by decide +kernel
theorem d_V_use_50 : decode prog_5_method_6_code 50 = .ok (.aload_n 0, 1) := by decide +kernel
theorem d_V_use_51 : decode prog_5_method_6_code 51 = .ok (.getfield 14, 3) := by decide +kernel
theorem d_V_use_54 : decode prog_5_method_6_code 54 = .ok (.iload_n 2, 1) := by decide +kernel
theorem d_V_use_55 : decode prog_5_method_6_code 55 = .ok (.invokevirtual 39, 3) := by decide +kernel
theorem d_V_use_58 : decode prog_5_method_6_code 58 = .ok (.pop, 1) := by decide +kernel
theorem d_V_use_59 : decode prog_5_method_6_code 59 = .ok (.return_, 1) := by decide +kernel
def cd_V_use_0 : Nat → g_T := g_tab [(0, tr_ild 1 1), (1, tr_ist 2 2), (2, tr_cst (.int (0)) 3), (3, tr_ist 3 4), (4, tr_ild 3 5), (5, tr_ald 0 6), (6, tr_get 3 0 9), (9, tr_cV J_I_size 0 0 12), (12, tr_if2 (fun x y => y ≤ x) 50 15), (15, tr_ald 0 16), (16, tr_get 3 0 19), (19, tr_ild 3 20), (20, tr_cV J_I_at 0 1 23), (23, tr_ist 4 25), (25, tr_ald 0 26), (26, tr_get 3 0 29)]
set_option maxRecDepth 100000 in
theorem ok_V_use_0 : ∀ pc, g_S (J_V_use) pc (cd_V_use_0 pc) := g_tab_ok <|
  List.forall_mem_cons.mpr ⟨so_iload_n d_V_use_0 rfl rfl,
  List.forall_mem_cons.mpr ⟨so_istore_n d_V_use_1 rfl (Nat.le_of_ble_eq_true rfl) rfl,
  List.forall_mem_cons.mpr ⟨so_iconst (by decide) d_V_use_2 rfl,
  List.forall_mem_cons.mpr ⟨so_istore_n d_V_use_3 rfl (Nat.le_of_ble_eq_true rfl) rfl,
  List.forall_mem_cons.mpr ⟨so_iload_n d_V_use_4 rfl rfl,
  List.forall_mem_cons.mpr ⟨so_aload_n d_V_use_5 rfl rfl,
  List.forall_mem_cons.mpr ⟨so_get d_V_use_6 (rfl : vwCl[3]? = some (R_V, F_V, 1)) (Nat.le_of_ble_eq_true rfl) i_V w_1_107 rfl,
  List.forall_mem_cons.mpr ⟨so_cV g_good d_V_use_9 ⟨w_2_28, (Nat.le_of_ble_eq_true rfl), (Nat.le_of_ble_eq_true rfl), w_1_2, ⟨by decide, by decide⟩, by decide +kernel⟩ (rfl : vwCl[0]? = some (R_I, F_I, 2)) w_3_31 w_2_26 w_2_27 rfl,
  List.forall_mem_cons.mpr ⟨so_icmp_ge d_V_use_12 (by decide) rfl,
  List.forall_mem_cons.mpr ⟨so_aload_n d_V_use_15 rfl rfl,
  List.forall_mem_cons.mpr ⟨so_get d_V_use_16 (rfl : vwCl[3]? = some (R_V, F_V, 1)) (Nat.le_of_ble_eq_true rfl) i_V w_1_107 rfl,
  List.forall_mem_cons.mpr ⟨so_iload_n d_V_use_19 rfl rfl,
  List.forall_mem_cons.mpr ⟨so_cV g_good d_V_use_20 ⟨w_2_151, (Nat.le_of_ble_eq_true rfl), (Nat.le_of_ble_eq_true rfl), w_1_2, ⟨by decide, by decide⟩, by decide +kernel⟩ (rfl : vwCl[0]? = some (R_I, F_I, 2)) w_3_32 w_2_149 w_2_150 rfl,
  List.forall_mem_cons.mpr ⟨so_istore d_V_use_23 (Nat.le_of_ble_eq_true rfl) rfl,
  List.forall_mem_cons.mpr ⟨so_aload_n d_V_use_25 rfl rfl,
  List.forall_mem_cons.mpr ⟨so_get d_V_use_26 (rfl : vwCl[3]? = some (R_V, F_V, 1)) (Nat.le_of_ble_eq_true rfl) i_V w_1_107 rfl,
  fun _ h => absurd h List.not_mem_nil⟩⟩⟩⟩⟩⟩⟩⟩⟩⟩⟩⟩⟩⟩⟩⟩
def cd_V_use_1 : Nat → g_T := g_tab [(29, tr_ild 3 30), (30, tr_ild 2 31), (31, tr_cV J_I_set 0 2 34), (34, tr_ild 4 36), (36, tr_ild 1 37), (37, tr_if2 (fun x y => ¬ x = y) 41 40), (40, tr_rv), (41, tr_ild 4 43), (43, tr_ist 2 44), (44, tr_inc 3 (1) 47), (47, tr_goto 4), (50, tr_ald 0 51), (51, tr_get 3 0 54), (54, tr_ild 2 55), (55, tr_cV J_I_add 0 1 58), (58, tr_pop 59)]
set_option maxRecDepth 100000 in
theorem ok_V_use_1 : ∀ pc, g_S (J_V_use) pc (cd_V_use_1 pc) := g_tab_ok <|
  List.forall_mem_cons.mpr ⟨so_iload_n d_V_use_29 rfl rfl,
  List.forall_mem_cons.mpr ⟨so_iload_n d_V_use_30 rfl rfl,
  List.forall_mem_cons.mpr ⟨so_cV g_good d_V_use_31 ⟨w_3_40, (Nat.le_of_ble_eq_true rfl), (Nat.le_of_ble_eq_true rfl), w_1_2, ⟨by decide, by decide⟩, by decide +kernel⟩ (rfl : vwCl[0]? = some (R_I, F_I, 2)) w_3_37 w_3_38 w_3_39 rfl,
  List.forall_mem_cons.mpr ⟨so_iload d_V_use_34 rfl,
  List.forall_mem_cons.mpr ⟨so_iload_n d_V_use_36 rfl rfl,
  List.forall_mem_cons.mpr ⟨so_icmp_ne d_V_use_37 (by decide) rfl,
  List.forall_mem_cons.mpr ⟨so_vret d_V_use_40 rfl,
  List.forall_mem_cons.mpr ⟨so_iload d_V_use_41 rfl,
  List.forall_mem_cons.mpr ⟨so_istore_n d_V_use_43 rfl (Nat.le_of_ble_eq_true rfl) rfl,
  List.forall_mem_cons.mpr ⟨so_iinc d_V_use_44 (by decide) (Nat.le_of_ble_eq_true rfl) rfl,
  List.forall_mem_cons.mpr ⟨so_goto d_V_use_47 (by decide),
  List.forall_mem_cons.mpr ⟨so_aload_n d_V_use_50 rfl rfl,
  List.forall_mem_cons.mpr ⟨so_get d_V_use_51 (rfl : vwCl[3]? = some (R_V, F_V, 1)) (Nat.le_of_ble_eq_true rfl) i_V w_1_107 rfl,
  List.forall_mem_cons.mpr ⟨so_iload_n d_V_use_54 rfl rfl,
  List.forall_mem_cons.mpr ⟨so_cV g_good d_V_use_55 ⟨w_1_47, (Nat.le_of_ble_eq_true rfl), (Nat.le_of_ble_eq_true rfl), w_1_2, ⟨by decide, by decide⟩, by decide +kernel⟩ (rfl : vwCl[0]? = some (R_I, F_I, 2)) w_3_41 w_1_45 w_1_46 rfl,
  List.forall_mem_cons.mpr ⟨so_pop d_V_use_58 rfl,
  fun _ h => absurd h List.not_mem_nil⟩⟩⟩⟩⟩⟩⟩⟩⟩⟩⟩⟩⟩⟩⟩⟩
def cd_V_use_2 : Nat → g_T := g_tab [(59, tr_rv)]
set_option maxRecDepth 100000 in
theorem ok_V_use_2 : ∀ pc, g_S (J_V_use) pc (cd_V_use_2 pc) := g_tab_ok <|
  List.forall_mem_cons.mpr ⟨so_vret d_V_use_59 rfl,
  fun _ h => absurd h List.not_mem_nil⟩
def cd_V_use : Nat → g_T := g_chk [(26, cd_V_use_0), (58, cd_V_use_1), (59, cd_V_use_2)]
theorem ok_V_use : ∀ pc, g_S (J_V_use) pc (cd_V_use pc) := g_chk_ok <|
  List.forall_mem_cons.mpr ⟨ok_V_use_0,
  List.forall_mem_cons.mpr ⟨ok_V_use_1,
  List.forall_mem_cons.mpr ⟨ok_V_use_2,
  fun _ h => absurd h List.not_mem_nil⟩⟩⟩
abbrev J_B_clear : g_J := (y_B_clear, prog_2_method_3_code, 1, none, (1, 21), [], none)
theorem d_B_clear_0 : decode prog_2_method_3_code 0 = .ok (.aload_n 0, 1) := by decide +kernel
theorem d_B_clear_1 : decode prog_2_method_3_code 1 = .ok (.getfield 14, 3) := by decide +kernel
theorem d_B_clear_4 : decode prog_2_method_3_code 4 = .ok (.iconst 0, 1) := by decide +kernel
theorem d_B_clear_5 : decode prog_2_method_3_code 5 = .ok (.invokevirtual 36, 3) := by decide +kernel
theorem d_B_clear_8 : decode prog_2_method_3_code 8 = .ok (.aload_n 0, 1) := by decide +kernel
theorem d_B_clear_9 : decode prog_2_method_3_code 9 = .ok (.getfield 20, 3) := by decide +kernel
theorem d_B_clear_12 : decode prog_2_method_3_code 12 = .ok (.iconst 0, 1) := by decide +kernel
theorem d_B_clear_13 : decode prog_2_method_3_code 13 = .ok (.invokevirtual 36, 3) := by decide +kernel
theorem d_B_clear_16 : decode prog_2_method_3_code 16 = .ok (.aload_n 0, 1) := by decide +kernel
theorem d_B_clear_17 : decode prog_2_method_3_code 17 = .ok (.getfield 23, 3) := by decide +kernel
theorem d_B_clear_20 : decode prog_2_method_3_code 20 = .ok (.iconst 0, 1) := by decide +kernel
theorem d_B_clear_21 : decode prog_2_method_3_code 21 = .ok (.invokevirtual 36, 3) := by decide +kernel
theorem d_B_clear_24 : decode prog_2_method_3_code 24 = .ok (.return_, 1) := by decide +kernel
def cd_B_clear_0 : Nat → g_T := g_tab [(0, tr_ald 0 1), (1, tr_get 2 0 4), (4, tr_cst (.int (0)) 5), (5, tr_cV J_I_shorten 0 1 8), (8, tr_ald 0 9), (9, tr_get 2 1 12), (12, tr_cst (.int (0)) 13), (13, tr_cV J_I_shorten 0 1 16), (16, tr_ald 0 17), (17, tr_get 2 2 20), (20, tr_cst (.int (0)) 21), (21, tr_cV J_I_shorten 0 1 24), (24, tr_rv)]
set_option maxRecDepth 100000 in
theorem ok_B_clear_0 : ∀ pc, g_S (J_B_clear) pc (cd_B_clear_0 pc) := g_tab_ok <|
  List.forall_mem_cons.mpr ⟨so_aload_n d_B_clear_0 rfl rfl,
  List.forall_mem_cons.mpr ⟨so_get d_B_clear_1 (rfl : vwCl[2]? = some (R_B, F_B, 5)) (Nat.le_of_ble_eq_true rfl) i_B w_1_56 rfl,
  List.forall_mem_cons.mpr ⟨so_iconst (by decide) d_B_clear_4 rfl,
  List.forall_mem_cons.mpr ⟨so_cV g_good d_B_clear_5 ⟨w_2_184, (Nat.le_of_ble_eq_true rfl), (Nat.le_of_ble_eq_true rfl), w_1_2, ⟨by decide, by decide⟩, by decide +kernel⟩ (rfl : vwCl[0]? = some (R_I, F_I, 2)) w_3_62 w_2_182 w_2_183 rfl,
  List.forall_mem_cons.mpr ⟨so_aload_n d_B_clear_8 rfl rfl,
  List.forall_mem_cons.mpr ⟨so_get d_B_clear_9 (rfl : vwCl[2]? = some (R_B, F_B, 5)) (Nat.le_of_ble_eq_true rfl) i_B w_1_57 rfl,
  List.forall_mem_cons.mpr ⟨so_iconst (by decide) d_B_clear_12 rfl,
  List.forall_mem_cons.mpr ⟨so_cV g_good d_B_clear_13 ⟨w_2_184, (Nat.le_of_ble_eq_true rfl), (Nat.le_of_ble_eq_true rfl), w_1_2, ⟨by decide, by decide⟩, by decide +kernel⟩ (rfl : vwCl[0]? = some (R_I, F_I, 2)) w_3_62 w_2_182 w_2_183 rfl,
  List.forall_mem_cons.mpr ⟨so_aload_n d_B_clear_16 rfl rfl,
  List.forall_mem_cons.mpr ⟨so_get d_B_clear_17 (rfl : vwCl[2]? = some (R_B, F_B, 5)) (Nat.le_of_ble_eq_true rfl) i_B w_1_58 rfl,
  List.forall_mem_cons.mpr ⟨so_iconst (by decide) d_B_clear_20 rfl,
  List.forall_mem_cons.mpr ⟨so_cV g_good d_B_clear_21 ⟨w_2_184, (Nat.le_of_ble_eq_true rfl), (Nat.le_of_ble_eq_true rfl), w_1_2, ⟨by decide, by decide⟩, by decide +kernel⟩ (rfl : vwCl[0]? = some (R_I, F_I, 2)) w_3_62 w_2_182 w_2_183 rfl,
  List.forall_mem_cons.mpr ⟨so_vret d_B_clear_24 rfl,
  fun _ h => absurd h List.not_mem_nil⟩⟩⟩⟩⟩⟩⟩⟩⟩⟩⟩⟩⟩
def cd_B_clear : Nat → g_T := g_chk [(24, cd_B_clear_0)]
theorem ok_B_clear : ∀ pc, g_S (J_B_clear) pc (cd_B_clear pc) := g_chk_ok <|
  List.forall_mem_cons.mpr ⟨ok_B_clear_0,
  fun _ h => absurd h List.not_mem_nil⟩
abbrev J_B_begin : g_J := (y_B_begin, prog_2_method_2_code, 3, none, (2, 41), [], none)
theorem d_B_begin_0 : decode prog_2_method_2_code 0 = .ok (.aload_n 0, 1) := by decide +kernel
theorem d_B_begin_1 : decode prog_2_method_2_code 1 = .ok (.invokevirtual 26, 3) := by decide +kernel
theorem d_B_begin_4 : decode prog_2_method_2_code 4 = .ok (.aload_n 0, 1) := by decide +kernel
theorem d_B_begin_5 : decode prog_2_method_2_code 5 = .ok (.iload_n 1, 1) := by decide +kernel
theorem d_B_begin_6 : decode prog_2_method_2_code 6 = .ok (.putfield 29, 3) := by decide +kernel
theorem d_B_begin_9 : decode prog_2_method_2_code 9 = .ok (.aload_n 0, 1) := by decide +kernel
theorem d_B_begin_10 : decode prog_2_method_2_code 10 = .ok (.iload_n 2, 1) := by decide +kernel
theorem d_B_begin_11 : decode prog_2_method_2_code 11 = .ok (.putfield 33, 3) := by decide +kernel
theorem d_B_begin_14 : decode prog_2_method_2_code 14 = .ok (.return_, 1) := by decide +kernel
def cd_B_begin_0 : Nat → g_T := g_tab [(0, tr_ald 0 1), (1, tr_cV J_B_clear 2 0 4), (4, tr_ald 0 5), (5, tr_ild 1 6), (6, tr_put 2 3 (.int) 9), (9, tr_ald 0 10), (10, tr_ild 2 11), (11, tr_put 2 4 (.int) 14), (14, tr_rv)]
set_option maxRecDepth 100000 in
theorem ok_B_begin_0 : ∀ pc, g_S (J_B_begin) pc (cd_B_begin_0 pc) := g_tab_ok <|
  List.forall_mem_cons.mpr ⟨so_aload_n d_B_begin_0 rfl rfl,
  List.forall_mem_cons.mpr ⟨so_cV g_good d_B_begin_1 ⟨w_3_61, (Nat.le_of_ble_eq_true rfl), (Nat.le_of_ble_eq_true rfl), w_1_4, ⟨by decide, by decide⟩, by decide +kernel⟩ (rfl : vwCl[2]? = some (R_B, F_B, 5)) w_3_83 w_3_59 w_3_60 rfl,
  List.forall_mem_cons.mpr ⟨so_aload_n d_B_begin_4 rfl rfl,
  List.forall_mem_cons.mpr ⟨so_iload_n d_B_begin_5 rfl rfl,
  List.forall_mem_cons.mpr ⟨so_put ft_B d_B_begin_6 (rfl : vwCl[2]? = some (R_B, F_B, 5)) (Nat.le_of_ble_eq_true rfl) i_B w_1_59 tk_B n_B rfl rfl rfl,
  List.forall_mem_cons.mpr ⟨so_aload_n d_B_begin_9 rfl rfl,
  List.forall_mem_cons.mpr ⟨so_iload_n d_B_begin_10 rfl rfl,
  List.forall_mem_cons.mpr ⟨so_put ft_B d_B_begin_11 (rfl : vwCl[2]? = some (R_B, F_B, 5)) (Nat.le_of_ble_eq_true rfl) i_B w_1_60 tk_B n_B rfl rfl rfl,
  List.forall_mem_cons.mpr ⟨so_vret d_B_begin_14 rfl,
  fun _ h => absurd h List.not_mem_nil⟩⟩⟩⟩⟩⟩⟩⟩⟩
def cd_B_begin : Nat → g_T := g_chk [(14, cd_B_begin_0)]
theorem ok_B_begin : ∀ pc, g_S (J_B_begin) pc (cd_B_begin pc) := g_chk_ok <|
  List.forall_mem_cons.mpr ⟨ok_B_begin_0,
  fun _ h => absurd h List.not_mem_nil⟩
abbrev J_B_add : g_J := (y_B_add, prog_2_method_5_code, 4, (some .boolean), (1, 21), [], none)
theorem d_B_add_0 : decode prog_2_method_5_code 0 = .ok (.aload_n 0, 1) := by decide +kernel
theorem d_B_add_1 : decode prog_2_method_5_code 1 = .ok (.getfield 14, 3) := by decide +kernel
theorem d_B_add_4 : decode prog_2_method_5_code 4 = .ok (.iload_n 1, 1) := by decide +kernel
theorem d_B_add_5 : decode prog_2_method_5_code 5 = .ok (.invokevirtual 43, 3) := by decide +kernel
theorem d_B_add_8 : decode prog_2_method_5_code 8 = .ok (.ifCond .eq 29, 3) := by decide +kernel
theorem d_B_add_11 : decode prog_2_method_5_code 11 = .ok (.aload_n 0, 1) := by decide +kernel
theorem d_B_add_12 : decode prog_2_method_5_code 12 = .ok (.getfield 20, 3) := by decide +kernel
theorem d_B_add_15 : decode prog_2_method_5_code 15 = .ok (.iload_n 2, 1) := by decide +kernel
theorem d_B_add_16 : decode prog_2_method_5_code 16 = .ok (.invokevirtual 43, 3) := by decide +kernel
theorem d_B_add_19 : decode prog_2_method_5_code 19 = .ok (.ifCond .eq 18, 3) := by decide +kernel
theorem d_B_add_22 : decode prog_2_method_5_code 22 = .ok (.aload_n 0, 1) := by decide +kernel
theorem d_B_add_23 : decode prog_2_method_5_code 23 = .ok (.getfield 23, 3) := by decide +kernel
theorem d_B_add_26 : decode prog_2_method_5_code 26 = .ok (.iload_n 3, 1) := by decide +kernel
theorem d_B_add_27 : decode prog_2_method_5_code 27 = .ok (.invokevirtual 43, 3) := by decide +kernel
theorem d_B_add_30 : decode prog_2_method_5_code 30 = .ok (.ifCond .eq 7, 3) := by decide +kernel
theorem d_B_add_33 : decode prog_2_method_5_code 33 = .ok (.iconst 1, 1) := by decide +kernel
theorem d_B_add_34 : decode prog_2_method_5_code 34 = .ok (.goto 4, 3) := by decide +kernel
theorem d_B_add_37 : decode prog_2_method_5_code 37 = .ok (.iconst 0, 1) := by decide +kernel
theorem d_B_add_38 : decode prog_2_method_5_code 38 = .ok (.ireturn, 1) := by decide +kernel
def cd_B_add_0 : Nat → g_T := g_tab [(0, tr_ald 0 1), (1, tr_get 2 0 4), (4, tr_ild 1 5), (5, tr_cV J_I_add 0 1 8), (8, tr_if1 (fun x => x = 0) 37 11), (11, tr_ald 0 12), (12, tr_get 2 1 15), (15, tr_ild 2 16), (16, tr_cV J_I_add 0 1 19), (19, tr_if1 (fun x => x = 0) 37 22), (22, tr_ald 0 23), (23, tr_get 2 2 26), (26, tr_ild 3 27), (27, tr_cV J_I_add 0 1 30), (30, tr_if1 (fun x => x = 0) 37 33), (33, tr_cst (.int (1)) 34)]
set_option maxRecDepth 100000 in
theorem ok_B_add_0 : ∀ pc, g_S (J_B_add) pc (cd_B_add_0 pc) := g_tab_ok <|
  List.forall_mem_cons.mpr ⟨so_aload_n d_B_add_0 rfl rfl,
  List.forall_mem_cons.mpr ⟨so_get d_B_add_1 (rfl : vwCl[2]? = some (R_B, F_B, 5)) (Nat.le_of_ble_eq_true rfl) i_B w_1_56 rfl,
  List.forall_mem_cons.mpr ⟨so_iload_n d_B_add_4 rfl rfl,
  List.forall_mem_cons.mpr ⟨so_cV g_good d_B_add_5 ⟨w_1_47, (Nat.le_of_ble_eq_true rfl), (Nat.le_of_ble_eq_true rfl), w_1_2, ⟨by decide, by decide⟩, by decide +kernel⟩ (rfl : vwCl[0]? = some (R_I, F_I, 2)) w_3_88 w_1_45 w_1_46 rfl,
  List.forall_mem_cons.mpr ⟨so_if_eq d_B_add_8 (by decide) rfl,
  List.forall_mem_cons.mpr ⟨so_aload_n d_B_add_11 rfl rfl,
  List.forall_mem_cons.mpr ⟨so_get d_B_add_12 (rfl : vwCl[2]? = some (R_B, F_B, 5)) (Nat.le_of_ble_eq_true rfl) i_B w_1_57 rfl,
  List.forall_mem_cons.mpr ⟨so_iload_n d_B_add_15 rfl rfl,
  List.forall_mem_cons.mpr ⟨so_cV g_good d_B_add_16 ⟨w_1_47, (Nat.le_of_ble_eq_true rfl), (Nat.le_of_ble_eq_true rfl), w_1_2, ⟨by decide, by decide⟩, by decide +kernel⟩ (rfl : vwCl[0]? = some (R_I, F_I, 2)) w_3_88 w_1_45 w_1_46 rfl,
  List.forall_mem_cons.mpr ⟨so_if_eq d_B_add_19 (by decide) rfl,
  List.forall_mem_cons.mpr ⟨so_aload_n d_B_add_22 rfl rfl,
  List.forall_mem_cons.mpr ⟨so_get d_B_add_23 (rfl : vwCl[2]? = some (R_B, F_B, 5)) (Nat.le_of_ble_eq_true rfl) i_B w_1_58 rfl,
  List.forall_mem_cons.mpr ⟨so_iload_n d_B_add_26 rfl rfl,
  List.forall_mem_cons.mpr ⟨so_cV g_good d_B_add_27 ⟨w_1_47, (Nat.le_of_ble_eq_true rfl), (Nat.le_of_ble_eq_true rfl), w_1_2, ⟨by decide, by decide⟩, by decide +kernel⟩ (rfl : vwCl[0]? = some (R_I, F_I, 2)) w_3_88 w_1_45 w_1_46 rfl,
  List.forall_mem_cons.mpr ⟨so_if_eq d_B_add_30 (by decide) rfl,
  List.forall_mem_cons.mpr ⟨so_iconst (by decide) d_B_add_33 rfl,
  fun _ h => absurd h List.not_mem_nil⟩⟩⟩⟩⟩⟩⟩⟩⟩⟩⟩⟩⟩⟩⟩⟩
def cd_B_add_1 : Nat → g_T := g_tab [(34, tr_goto 38), (37, tr_cst (.int (0)) 38), (38, tr_rz)]
set_option maxRecDepth 100000 in
theorem ok_B_add_1 : ∀ pc, g_S (J_B_add) pc (cd_B_add_1 pc) := g_tab_ok <|
  List.forall_mem_cons.mpr ⟨so_goto d_B_add_34 (by decide),
  List.forall_mem_cons.mpr ⟨so_iconst (by decide) d_B_add_37 rfl,
  List.forall_mem_cons.mpr ⟨so_zret d_B_add_38 rfl,
  fun _ h => absurd h List.not_mem_nil⟩⟩⟩
def cd_B_add : Nat → g_T := g_chk [(33, cd_B_add_0), (38, cd_B_add_1)]
theorem ok_B_add : ∀ pc, g_S (J_B_add) pc (cd_B_add pc) := g_chk_ok <|
  List.forall_mem_cons.mpr ⟨ok_B_add_0,
  List.forall_mem_cons.mpr ⟨ok_B_add_1,
  fun _ h => absurd h List.not_mem_nil⟩⟩
abbrev J_I_has : g_J := (y_I_has, prog_3_method_3_code, 2, (some .boolean), (0, 0), [], none)
theorem d_I_has_0 : decode prog_3_method_3_code 0 = .ok (.iload_n 1, 1) := by decide +kernel
theorem d_I_has_1 : decode prog_3_method_3_code 1 = .ok (.ifCond .lt 15, 3) := by decide +kernel
theorem d_I_has_4 : decode prog_3_method_3_code 4 = .ok (.iload_n 1, 1) := by decide +kernel
theorem d_I_has_5 : decode prog_3_method_3_code 5 = .ok (.aload_n 0, 1) := by decide +kernel
theorem d_I_has_6 : decode prog_3_method_3_code 6 = .ok (.getfield 21, 3) := by decide +kernel
theorem d_I_has_9 : decode prog_3_method_3_code 9 = .ok (.if_icmp .ge 7, 3) := by decide +kernel
theorem d_I_has_12 : decode prog_3_method_3_code 12 = .ok (.iconst 1, 1) := by decide +kernel
theorem d_I_has_13 : decode prog_3_method_3_code 13 = .ok (.goto 4, 3) := by decide +kernel
theorem d_I_has_16 : decode prog_3_method_3_code 16 = .ok (.iconst 0, 1) := by decide +kernel
theorem d_I_has_17 : decode prog_3_method_3_code 17 = .ok (.ireturn, 1) := by decide +kernel
def cd_I_has_0 : Nat → g_T := g_tab [(0, tr_ild 1 1), (1, tr_if1 (fun x => x < 0) 16 4), (4, tr_ild 1 5), (5, tr_ald 0 6), (6, tr_get 0 1 9), (9, tr_if2 (fun x y => y ≤ x) 16 12), (12, tr_cst (.int (1)) 13), (13, tr_goto 17), (16, tr_cst (.int (0)) 17), (17, tr_rz)]
set_option maxRecDepth 100000 in
theorem ok_I_has_0 : ∀ pc, g_S (J_I_has) pc (cd_I_has_0 pc) := g_tab_ok <|
  List.forall_mem_cons.mpr ⟨so_iload_n d_I_has_0 rfl rfl,
  List.forall_mem_cons.mpr ⟨so_if_lt d_I_has_1 (by decide) rfl,
  List.forall_mem_cons.mpr ⟨so_iload_n d_I_has_4 rfl rfl,
  List.forall_mem_cons.mpr ⟨so_aload_n d_I_has_5 rfl rfl,
  List.forall_mem_cons.mpr ⟨so_get d_I_has_6 (rfl : vwCl[0]? = some (R_I, F_I, 2)) (Nat.le_of_ble_eq_true rfl) i_I w_1_37 rfl,
  List.forall_mem_cons.mpr ⟨so_icmp_ge d_I_has_9 (by decide) rfl,
  List.forall_mem_cons.mpr ⟨so_iconst (by decide) d_I_has_12 rfl,
  List.forall_mem_cons.mpr ⟨so_goto d_I_has_13 (by decide),
  List.forall_mem_cons.mpr ⟨so_iconst (by decide) d_I_has_16 rfl,
  List.forall_mem_cons.mpr ⟨so_zret d_I_has_17 rfl,
  fun _ h => absurd h List.not_mem_nil⟩⟩⟩⟩⟩⟩⟩⟩⟩⟩
def cd_I_has : Nat → g_T := g_chk [(17, cd_I_has_0)]
theorem ok_I_has : ∀ pc, g_S (J_I_has) pc (cd_I_has pc) := g_chk_ok <|
  List.forall_mem_cons.mpr ⟨ok_I_has_0,
  fun _ h => absurd h List.not_mem_nil⟩
abbrev J_L_after : g_J := (y_L_after, prog_8_method_3_code, 2, (some .int), (0, 0), [], none)
theorem d_L_after_0 : decode prog_8_method_3_code 0 = .ok (.aload_n 0, 1) := by decide +kernel
theorem d_L_after_1 : decode prog_8_method_3_code 1 = .ok (.getfield 7, 3) := by decide +kernel
theorem d_L_after_4 : decode prog_8_method_3_code 4 = .ok (.iload_n 1, 1) := by decide +kernel
theorem d_L_after_5 : decode prog_8_method_3_code 5 = .ok (.iadd, 1) := by decide +kernel
theorem d_L_after_6 : decode prog_8_method_3_code 6 = .ok (.ireturn, 1) := by decide +kernel
def cd_L_after_0 : Nat → g_T := g_tab [(0, tr_ald 0 1), (1, tr_get 1 0 4), (4, tr_ild 1 5), (5, tr_ii (fun x y => x + y) 6), (6, tr_ri)]
set_option maxRecDepth 100000 in
theorem ok_L_after_0 : ∀ pc, g_S (J_L_after) pc (cd_L_after_0 pc) := g_tab_ok <|
  List.forall_mem_cons.mpr ⟨so_aload_n d_L_after_0 rfl rfl,
  List.forall_mem_cons.mpr ⟨so_get d_L_after_1 (rfl : vwCl[1]? = some (R_L, F_L, 2)) (Nat.le_of_ble_eq_true rfl) i_L w_1_92 rfl,
  List.forall_mem_cons.mpr ⟨so_iload_n d_L_after_4 rfl rfl,
  List.forall_mem_cons.mpr ⟨so_iadd d_L_after_5 rfl,
  List.forall_mem_cons.mpr ⟨so_iret d_L_after_6 rfl,
  fun _ h => absurd h List.not_mem_nil⟩⟩⟩⟩⟩
def cd_L_after : Nat → g_T := g_chk [(6, cd_L_after_0)]
theorem ok_L_after : ∀ pc, g_S (J_L_after) pc (cd_L_after pc) := g_chk_ok <|
  List.forall_mem_cons.mpr ⟨ok_L_after_0,
  fun _ h => absurd h List.not_mem_nil⟩
abbrev J_L_last : g_J := (y_L_last, prog_8_method_5_code, 1, (some .int), (0, 0), [], none)
theorem d_L_last_0 : decode prog_8_method_5_code 0 = .ok (.aload_n 0, 1) := by decide +kernel
theorem d_L_last_1 : decode prog_8_method_5_code 1 = .ok (.getfield 7, 3) := by decide +kernel
theorem d_L_last_4 : decode prog_8_method_5_code 4 = .ok (.ireturn, 1) := by decide +kernel
def cd_L_last_0 : Nat → g_T := g_tab [(0, tr_ald 0 1), (1, tr_get 1 0 4), (4, tr_ri)]
set_option maxRecDepth 100000 in
theorem ok_L_last_0 : ∀ pc, g_S (J_L_last) pc (cd_L_last_0 pc) := g_tab_ok <|
  List.forall_mem_cons.mpr ⟨so_aload_n d_L_last_0 rfl rfl,
  List.forall_mem_cons.mpr ⟨so_get d_L_last_1 (rfl : vwCl[1]? = some (R_L, F_L, 2)) (Nat.le_of_ble_eq_true rfl) i_L w_1_92 rfl,
  List.forall_mem_cons.mpr ⟨so_iret d_L_last_4 rfl,
  fun _ h => absurd h List.not_mem_nil⟩⟩⟩
def cd_L_last : Nat → g_T := g_chk [(4, cd_L_last_0)]
theorem ok_L_last : ∀ pc, g_S (J_L_last) pc (cd_L_last pc) := g_chk_ok <|
  List.forall_mem_cons.mpr ⟨ok_L_last_0,
  fun _ h => absurd h List.not_mem_nil⟩
abbrev J_V_at : g_J := (y_V_at, prog_5_method_4_code, 2, (some .int), (1, 21), [], none)
theorem d_V_at_0 : decode prog_5_method_4_code 0 = .ok (.aload_n 0, 1) := by decide +kernel
theorem d_V_at_1 : decode prog_5_method_4_code 1 = .ok (.getfield 14, 3) := by decide +kernel
theorem d_V_at_4 : decode prog_5_method_4_code 4 = .ok (.iload_n 1, 1) := by decide +kernel
theorem d_V_at_5 : decode prog_5_method_4_code 5 = .ok (.invokevirtual 27, 3) := by decide +kernel
theorem d_V_at_8 : decode prog_5_method_4_code 8 = .ok (.ireturn, 1) := by decide +kernel
def cd_V_at_0 : Nat → g_T := g_tab [(0, tr_ald 0 1), (1, tr_get 3 0 4), (4, tr_ild 1 5), (5, tr_cV J_I_at 0 1 8), (8, tr_ri)]
set_option maxRecDepth 100000 in
theorem ok_V_at_0 : ∀ pc, g_S (J_V_at) pc (cd_V_at_0 pc) := g_tab_ok <|
  List.forall_mem_cons.mpr ⟨so_aload_n d_V_at_0 rfl rfl,
  List.forall_mem_cons.mpr ⟨so_get d_V_at_1 (rfl : vwCl[3]? = some (R_V, F_V, 1)) (Nat.le_of_ble_eq_true rfl) i_V w_1_107 rfl,
  List.forall_mem_cons.mpr ⟨so_iload_n d_V_at_4 rfl rfl,
  List.forall_mem_cons.mpr ⟨so_cV g_good d_V_at_5 ⟨w_2_151, (Nat.le_of_ble_eq_true rfl), (Nat.le_of_ble_eq_true rfl), w_1_2, ⟨by decide, by decide⟩, by decide +kernel⟩ (rfl : vwCl[0]? = some (R_I, F_I, 2)) w_3_32 w_2_149 w_2_150 rfl,
  List.forall_mem_cons.mpr ⟨so_iret d_V_at_8 rfl,
  fun _ h => absurd h List.not_mem_nil⟩⟩⟩⟩⟩
def cd_V_at : Nat → g_T := g_chk [(8, cd_V_at_0)]
theorem ok_V_at : ∀ pc, g_S (J_V_at) pc (cd_V_at pc) := g_chk_ok <|
  List.forall_mem_cons.mpr ⟨ok_V_at_0,
  fun _ h => absurd h List.not_mem_nil⟩
abbrev J_V_has : g_J := (y_V_has, prog_5_method_3_code, 2, (some .boolean), (1, 21), [], none)
theorem d_V_has_0 : decode prog_5_method_3_code 0 = .ok (.aload_n 0, 1) := by decide +kernel
theorem d_V_has_1 : decode prog_5_method_3_code 1 = .ok (.getfield 14, 3) := by decide +kernel
theorem d_V_has_4 : decode prog_5_method_3_code 4 = .ok (.iload_n 1, 1) := by decide +kernel
theorem d_V_has_5 : decode prog_5_method_3_code 5 = .ok (.invokevirtual 23, 3) := by decide +kernel
theorem d_V_has_8 : decode prog_5_method_3_code 8 = .ok (.ireturn, 1) := by decide +kernel
def cd_V_has_0 : Nat → g_T := g_tab [(0, tr_ald 0 1), (1, tr_get 3 0 4), (4, tr_ild 1 5), (5, tr_cV J_I_has 0 1 8), (8, tr_rz)]
set_option maxRecDepth 100000 in
theorem ok_V_has_0 : ∀ pc, g_S (J_V_has) pc (cd_V_has_0 pc) := g_tab_ok <|
  List.forall_mem_cons.mpr ⟨so_aload_n d_V_has_0 rfl rfl,
  List.forall_mem_cons.mpr ⟨so_get d_V_has_1 (rfl : vwCl[3]? = some (R_V, F_V, 1)) (Nat.le_of_ble_eq_true rfl) i_V w_1_107 rfl,
  List.forall_mem_cons.mpr ⟨so_iload_n d_V_has_4 rfl rfl,
  List.forall_mem_cons.mpr ⟨so_cV g_good d_V_has_5 ⟨w_3_107, (Nat.le_of_ble_eq_true rfl), (Nat.le_of_ble_eq_true rfl), w_1_2, ⟨by decide, by decide⟩, by decide +kernel⟩ (rfl : vwCl[0]? = some (R_I, F_I, 2)) w_4_14 w_3_105 w_3_106 rfl,
  List.forall_mem_cons.mpr ⟨so_zret d_V_has_8 rfl,
  fun _ h => absurd h List.not_mem_nil⟩⟩⟩⟩⟩
def cd_V_has : Nat → g_T := g_chk [(8, cd_V_has_0)]
theorem ok_V_has : ∀ pc, g_S (J_V_has) pc (cd_V_has pc) := g_chk_ok <|
  List.forall_mem_cons.mpr ⟨ok_V_has_0,
  fun _ h => absurd h List.not_mem_nil⟩
