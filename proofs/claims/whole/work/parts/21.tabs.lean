/-! tables, by program (wip/whole/gen/mkt.py T_numberOf T_sumOf T_differenceOf Q) -/
abbrev J_Q_init : g_J := (y_Q_init, prog_7_method_1_code, 1, none, (4, 85), [], none)
theorem d_Q_init_0 : decode prog_7_method_1_code 0 = .ok (.aload_n 0, 1) := by decide +kernel
theorem d_Q_init_1 : decode prog_7_method_1_code 1 = .ok (.invokespecial 3, 3) := by decide +kernel
theorem d_Q_init_4 : decode prog_7_method_1_code 4 = .ok (.aload_n 0, 1) := by decide +kernel
theorem d_Q_init_5 : decode prog_7_method_1_code 5 = .ok (.new 9, 3) := by decide +kernel
theorem d_Q_init_8 : decode prog_7_method_1_code 8 = .ok (.dup, 1) := by decide +kernel
theorem d_Q_init_9 : decode prog_7_method_1_code 9 = .ok (.sipush 1008, 3) := by decide +kernel
theorem d_Q_init_12 : decode prog_7_method_1_code 12 = .ok (.invokespecial 11, 3) := by decide +kernel
theorem d_Q_init_15 : decode prog_7_method_1_code 15 = .ok (.putfield 14, 3) := by decide +kernel
theorem d_Q_init_18 : decode prog_7_method_1_code 18 = .ok (.aload_n 0, 1) := by decide +kernel
theorem d_Q_init_19 : decode prog_7_method_1_code 19 = .ok (.new 20, 3) := by decide +kernel
theorem d_Q_init_22 : decode prog_7_method_1_code 22 = .ok (.dup, 1) := by decide +kernel
theorem d_Q_init_23 : decode prog_7_method_1_code 23 = .ok (.invokespecial 22, 3) := by decide +kernel
theorem d_Q_init_26 : decode prog_7_method_1_code 26 = .ok (.putfield 23, 3) := by decide +kernel
theorem d_Q_init_29 : decode prog_7_method_1_code 29 = .ok (.aload_n 0, 1) := by decide +kernel
theorem d_Q_init_30 : decode prog_7_method_1_code 30 = .ok (.iconst 1, 1) := by decide +kernel
theorem d_Q_init_31 : decode prog_7_method_1_code 31 = .ok (.putfield 27, 3) := by decide +kernel
theorem d_Q_init_34 : decode prog_7_method_1_code 34 = .ok (.return_, 1) := by decide +kernel
def cd_Q_init_0 : Nat → g_T := g_tab [(0, tr_ald 0 1), (1, tr_oi 4), (4, tr_ald 0 5), (5, tr_new 0 2 [.null, .int 0] 8), (8, tr_dup 9), (9, tr_cst (.int (1008)) 12), (12, tr_cI J_I_init 1 15), (15, tr_put 6 0 (.object "TracePacks$Ints") 18), (18, tr_ald 0 19), (19, tr_new 4 5 [.null, .null, .null, .int 0, .int 0] 22), (22, tr_dup 23), (23, tr_cI J_M_init 0 26), (26, tr_put 6 1 (.object "TracePacks$Memory") 29), (29, tr_ald 0 30), (30, tr_cst (.int (1)) 31), (31, tr_put 6 2 (.int) 34)]
set_option maxRecDepth 100000 in
theorem ok_Q_init_0 : ∀ pc, g_S (J_Q_init) pc (cd_Q_init_0 pc) := g_tab_ok <|
  List.forall_mem_cons.mpr ⟨so_aload_n d_Q_init_0 rfl rfl,
  List.forall_mem_cons.mpr ⟨so_oi d_Q_init_1 w_1_77 w_1_25 w_1_26 ⟨(Nat.le_of_ble_eq_true rfl), (Nat.le_of_ble_eq_true rfl)⟩ rfl,
  List.forall_mem_cons.mpr ⟨so_aload_n d_Q_init_4 rfl rfl,
  List.forall_mem_cons.mpr ⟨so_new ft_I d_Q_init_5 (rfl : vwCl[0]? = some (R_I, F_I, 2)) i_I w_1_78 w_1_28 w_1_2 tk_I (by decide) rfl,
  List.forall_mem_cons.mpr ⟨so_dup d_Q_init_8 rfl,
  List.forall_mem_cons.mpr ⟨so_sipush (by decide) d_Q_init_9 rfl,
  List.forall_mem_cons.mpr ⟨so_cI g_good d_Q_init_12 ⟨w_1_31, (Nat.le_of_ble_eq_true rfl), (Nat.le_of_ble_eq_true rfl), w_1_2, ⟨by decide, by decide⟩, by decide +kernel⟩ rfl rfl w_1_79 w_1_30 rfl,
  List.forall_mem_cons.mpr ⟨so_putF ft_Q d_Q_init_15 (rfl : vwCl[6]? = some (R_Q, F_Q, 3)) (Nat.le_of_ble_eq_true rfl) i_Q w_1_137 tk_Q n_Q rfl rfl rfl rfl rfl,
  List.forall_mem_cons.mpr ⟨so_aload_n d_Q_init_18 rfl rfl,
  List.forall_mem_cons.mpr ⟨so_new ft_M d_Q_init_19 (rfl : vwCl[4]? = some (R_M, F_M, 5)) i_M w_1_80 w_1_81 w_1_6 tk_M (by decide) rfl,
  List.forall_mem_cons.mpr ⟨so_dup d_Q_init_22 rfl,
  List.forall_mem_cons.mpr ⟨so_cIN g_good d_Q_init_23 ⟨w_1_84, (Nat.le_of_ble_eq_true rfl), (Nat.le_of_ble_eq_true rfl), w_1_6, ⟨by decide, by decide⟩, by decide +kernel⟩ rfl rfl w_1_82 w_1_83 rfl,
  List.forall_mem_cons.mpr ⟨so_putF ft_Q d_Q_init_26 (rfl : vwCl[6]? = some (R_Q, F_Q, 3)) (Nat.le_of_ble_eq_true rfl) i_Q w_1_138 tk_Q n_Q rfl rfl rfl rfl rfl,
  List.forall_mem_cons.mpr ⟨so_aload_n d_Q_init_29 rfl rfl,
  List.forall_mem_cons.mpr ⟨so_iconst (by decide) d_Q_init_30 rfl,
  List.forall_mem_cons.mpr ⟨so_put ft_Q d_Q_init_31 (rfl : vwCl[6]? = some (R_Q, F_Q, 3)) (Nat.le_of_ble_eq_true rfl) i_Q w_1_139 tk_Q n_Q rfl rfl rfl,
  fun _ h => absurd h List.not_mem_nil⟩⟩⟩⟩⟩⟩⟩⟩⟩⟩⟩⟩⟩⟩⟩⟩
def cd_Q_init_1 : Nat → g_T := g_tab [(34, tr_rv)]
set_option maxRecDepth 100000 in
theorem ok_Q_init_1 : ∀ pc, g_S (J_Q_init) pc (cd_Q_init_1 pc) := g_tab_ok <|
  List.forall_mem_cons.mpr ⟨so_vret d_Q_init_34 rfl,
  fun _ h => absurd h List.not_mem_nil⟩
def cd_Q_init : Nat → g_T := g_chk [(31, cd_Q_init_0), (34, cd_Q_init_1)]
theorem ok_Q_init : ∀ pc, g_S (J_Q_init) pc (cd_Q_init pc) := g_chk_ok <|
  List.forall_mem_cons.mpr ⟨ok_Q_init_0,
  List.forall_mem_cons.mpr ⟨ok_Q_init_1,
  fun _ h => absurd h List.not_mem_nil⟩⟩
abbrev J_Q_addWord : g_J := (y_Q_addWord, prog_7_method_12_code, 3, none, (1, 21), [], none)
theorem d_Q_addWord_0 : decode prog_7_method_12_code 0 = .ok (.bipush 24, 2) := by decide +kernel
theorem d_Q_addWord_2 : decode prog_7_method_12_code 2 = .ok (.istore_n 2, 1) := by decide +kernel
theorem d_Q_addWord_3 : decode prog_7_method_12_code 3 = .ok (.iload_n 2, 1) := by decide +kernel
theorem d_Q_addWord_4 : decode prog_7_method_12_code 4 = .ok (.ifCond .lt 24, 3) := by decide +kernel
theorem d_Q_addWord_7 : decode prog_7_method_12_code 7 = .ok (.aload_n 0, 1) := by decide +kernel
theorem d_Q_addWord_8 : decode prog_7_method_12_code 8 = .ok (.getfield 14, 3) := by decide +kernel
theorem d_Q_addWord_11 : decode prog_7_method_12_code 11 = .ok (.iload_n 1, 1) := by decide +kernel
theorem d_Q_addWord_12 : decode prog_7_method_12_code 12 = .ok (.iload_n 2, 1) := by decide +kernel
theorem d_Q_addWord_13 : decode prog_7_method_12_code 13 = .ok (.ishr, 1) := by decide +kernel
theorem d_Q_addWord_14 : decode prog_7_method_12_code 14 = .ok (.sipush 255, 3) := by decide +kernel
theorem d_Q_addWord_17 : decode prog_7_method_12_code 17 = .ok (.iand, 1) := by decide +kernel
theorem d_Q_addWord_18 : decode prog_7_method_12_code 18 = .ok (.invokevirtual 46, 3) := by decide +kernel
theorem d_Q_addWord_21 : decode prog_7_method_12_code 21 = .ok (.pop, 1) := by decide +kernel
theorem d_Q_addWord_22 : decode prog_7_method_12_code 22 = .ok (.iinc 2 (-8), 3) := by decide +kernel
theorem d_Q_addWord_25 : decode prog_7_method_12_code 25 = .ok (.goto (-22), 3) := by decide +kernel
theorem d_Q_addWord_28 : decode prog_7_method_12_code 28 = .ok (.return_, 1) := by decide +kernel
def cd_Q_addWord_0 : Nat → g_T := g_tab [(0, tr_cst (.int (24)) 2), (2, tr_ist 2 3), (3, tr_ild 2 4), (4, tr_if1 (fun x => x < 0) 28 7), (7, tr_ald 0 8), (8, tr_get 6 0 11), (11, tr_ild 1 12), (12, tr_ild 2 13), (13, tr_ii (fun x y => x >>> (y &&& 31)) 14), (14, tr_cst (.int (255)) 17), (17, tr_ii (fun x y => x &&& y) 18), (18, tr_cV J_I_add 0 1 21), (21, tr_pop 22), (22, tr_inc 2 (-8) 25), (25, tr_goto 3), (28, tr_rv)]
set_option maxRecDepth 100000 in
theorem ok_Q_addWord_0 : ∀ pc, g_S (J_Q_addWord) pc (cd_Q_addWord_0 pc) := g_tab_ok <|
  List.forall_mem_cons.mpr ⟨so_bipush (by decide) d_Q_addWord_0 rfl,
  List.forall_mem_cons.mpr ⟨so_istore_n d_Q_addWord_2 rfl (Nat.le_of_ble_eq_true rfl) rfl,
  List.forall_mem_cons.mpr ⟨so_iload_n d_Q_addWord_3 rfl rfl,
  List.forall_mem_cons.mpr ⟨so_if_lt d_Q_addWord_4 (by decide) rfl,
  List.forall_mem_cons.mpr ⟨so_aload_n d_Q_addWord_7 rfl rfl,
  List.forall_mem_cons.mpr ⟨so_get d_Q_addWord_8 (rfl : vwCl[6]? = some (R_Q, F_Q, 3)) (Nat.le_of_ble_eq_true rfl) i_Q w_1_137 rfl,
  List.forall_mem_cons.mpr ⟨so_iload_n d_Q_addWord_11 rfl rfl,
  List.forall_mem_cons.mpr ⟨so_iload_n d_Q_addWord_12 rfl rfl,
  List.forall_mem_cons.mpr ⟨so_ishr d_Q_addWord_13 rfl,
  List.forall_mem_cons.mpr ⟨so_sipush (by decide) d_Q_addWord_14 rfl,
  List.forall_mem_cons.mpr ⟨so_iand d_Q_addWord_17 rfl,
  List.forall_mem_cons.mpr ⟨so_cV g_good d_Q_addWord_18 ⟨w_1_47, (Nat.le_of_ble_eq_true rfl), (Nat.le_of_ble_eq_true rfl), w_1_2, ⟨by decide, by decide⟩, by decide +kernel⟩ (rfl : vwCl[0]? = some (R_I, F_I, 2)) w_2_206 w_1_45 w_1_46 rfl,
  List.forall_mem_cons.mpr ⟨so_pop d_Q_addWord_21 rfl,
  List.forall_mem_cons.mpr ⟨so_iinc d_Q_addWord_22 (by decide) (Nat.le_of_ble_eq_true rfl) rfl,
  List.forall_mem_cons.mpr ⟨so_goto d_Q_addWord_25 (by decide),
  List.forall_mem_cons.mpr ⟨so_vret d_Q_addWord_28 rfl,
  fun _ h => absurd h List.not_mem_nil⟩⟩⟩⟩⟩⟩⟩⟩⟩⟩⟩⟩⟩⟩⟩⟩
def cd_Q_addWord : Nat → g_T := g_chk [(28, cd_Q_addWord_0)]
theorem ok_Q_addWord : ∀ pc, g_S (J_Q_addWord) pc (cd_Q_addWord pc) := g_chk_ok <|
  List.forall_mem_cons.mpr ⟨ok_Q_addWord_0,
  fun _ h => absurd h List.not_mem_nil⟩
abbrev J_Q_addKind : g_J := (y_Q_addKind, prog_7_method_10_code, 3, none, (1, 21), [], none)
theorem d_Q_addKind_0 : decode prog_7_method_10_code 0 = .ok (.aload_n 0, 1) := by decide +kernel
theorem d_Q_addKind_1 : decode prog_7_method_10_code 1 = .ok (.getfield 14, 3) := by decide +kernel
theorem d_Q_addKind_4 : decode prog_7_method_10_code 4 = .ok (.iload_n 1, 1) := by decide +kernel
theorem d_Q_addKind_5 : decode prog_7_method_10_code 5 = .ok (.iconst 5, 1) := by decide +kernel
theorem d_Q_addKind_6 : decode prog_7_method_10_code 6 = .ok (.ishl, 1) := by decide +kernel
theorem d_Q_addKind_7 : decode prog_7_method_10_code 7 = .ok (.iload_n 2, 1) := by decide +kernel
theorem d_Q_addKind_8 : decode prog_7_method_10_code 8 = .ok (.iadd, 1) := by decide +kernel
theorem d_Q_addKind_9 : decode prog_7_method_10_code 9 = .ok (.invokevirtual 46, 3) := by decide +kernel
theorem d_Q_addKind_12 : decode prog_7_method_10_code 12 = .ok (.pop, 1) := by decide +kernel
theorem d_Q_addKind_13 : decode prog_7_method_10_code 13 = .ok (.return_, 1) := by decide +kernel
def cd_Q_addKind_0 : Nat → g_T := g_tab [(0, tr_ald 0 1), (1, tr_get 6 0 4), (4, tr_ild 1 5), (5, tr_cst (.int (5)) 6), (6, tr_ii (fun x y => x <<< (y &&& 31)) 7), (7, tr_ild 2 8), (8, tr_ii (fun x y => x + y) 9), (9, tr_cV J_I_add 0 1 12), (12, tr_pop 13), (13, tr_rv)]
set_option maxRecDepth 100000 in
theorem ok_Q_addKind_0 : ∀ pc, g_S (J_Q_addKind) pc (cd_Q_addKind_0 pc) := g_tab_ok <|
  List.forall_mem_cons.mpr ⟨so_aload_n d_Q_addKind_0 rfl rfl,
  List.forall_mem_cons.mpr ⟨so_get d_Q_addKind_1 (rfl : vwCl[6]? = some (R_Q, F_Q, 3)) (Nat.le_of_ble_eq_true rfl) i_Q w_1_137 rfl,
  List.forall_mem_cons.mpr ⟨so_iload_n d_Q_addKind_4 rfl rfl,
  List.forall_mem_cons.mpr ⟨so_iconst (by decide) d_Q_addKind_5 rfl,
  List.forall_mem_cons.mpr ⟨so_ishl d_Q_addKind_6 rfl,
  List.forall_mem_cons.mpr ⟨so_iload_n d_Q_addKind_7 rfl rfl,
  List.forall_mem_cons.mpr ⟨so_iadd d_Q_addKind_8 rfl,
  List.forall_mem_cons.mpr ⟨so_cV g_good d_Q_addKind_9 ⟨w_1_47, (Nat.le_of_ble_eq_true rfl), (Nat.le_of_ble_eq_true rfl), w_1_2, ⟨by decide, by decide⟩, by decide +kernel⟩ (rfl : vwCl[0]? = some (R_I, F_I, 2)) w_2_206 w_1_45 w_1_46 rfl,
  List.forall_mem_cons.mpr ⟨so_pop d_Q_addKind_12 rfl,
  List.forall_mem_cons.mpr ⟨so_vret d_Q_addKind_13 rfl,
  fun _ h => absurd h List.not_mem_nil⟩⟩⟩⟩⟩⟩⟩⟩⟩⟩
def cd_Q_addKind : Nat → g_T := g_chk [(13, cd_Q_addKind_0)]
theorem ok_Q_addKind : ∀ pc, g_S (J_Q_addKind) pc (cd_Q_addKind pc) := g_chk_ok <|
  List.forall_mem_cons.mpr ⟨ok_Q_addKind_0,
  fun _ h => absurd h List.not_mem_nil⟩
abbrev J_Q_addBranches : g_J := (y_Q_addBranches, prog_7_method_7_code, 1, none, (2, 43), [], none)
theorem d_Q_addBranches_0 : decode prog_7_method_7_code 0 = .ok (.aload_n 0, 1) := by decide +kernel
theorem d_Q_addBranches_1 : decode prog_7_method_7_code 1 = .ok (.getfield 27, 3) := by decide +kernel
theorem d_Q_addBranches_4 : decode prog_7_method_7_code 4 = .ok (.iconst 1, 1) := by decide +kernel
theorem d_Q_addBranches_5 : decode prog_7_method_7_code 5 = .ok (.if_icmp .eq 12, 3) := by decide +kernel
theorem d_Q_addBranches_8 : decode prog_7_method_7_code 8 = .ok (.aload_n 0, 1) := by decide +kernel
theorem d_Q_addBranches_9 : decode prog_7_method_7_code 9 = .ok (.iconst 0, 1) := by decide +kernel
theorem d_Q_addBranches_10 : decode prog_7_method_7_code 10 = .ok (.aload_n 0, 1) := by decide +kernel
theorem d_Q_addBranches_11 : decode prog_7_method_7_code 11 = .ok (.getfield 27, 3) := by decide +kernel
theorem d_Q_addBranches_14 : decode prog_7_method_7_code 14 = .ok (.invokevirtual 87, 3) := by decide +kernel
theorem d_Q_addBranches_17 : decode prog_7_method_7_code 17 = .ok (.aload_n 0, 1) := by decide +kernel
theorem d_Q_addBranches_18 : decode prog_7_method_7_code 18 = .ok (.iconst 1, 1) := by decide +kernel
theorem d_Q_addBranches_19 : decode prog_7_method_7_code 19 = .ok (.putfield 27, 3) := by decide +kernel
theorem d_Q_addBranches_22 : decode prog_7_method_7_code 22 = .ok (.return_, 1) := by decide +kernel
def cd_Q_addBranches_0 : Nat → g_T := g_tab [(0, tr_ald 0 1), (1, tr_get 6 2 4), (4, tr_cst (.int (1)) 5), (5, tr_if2 (fun x y => x = y) 17 8), (8, tr_ald 0 9), (9, tr_cst (.int (0)) 10), (10, tr_ald 0 11), (11, tr_get 6 2 14), (14, tr_cV J_Q_addKind 6 2 17), (17, tr_ald 0 18), (18, tr_cst (.int (1)) 19), (19, tr_put 6 2 (.int) 22), (22, tr_rv)]
set_option maxRecDepth 100000 in
theorem ok_Q_addBranches_0 : ∀ pc, g_S (J_Q_addBranches) pc (cd_Q_addBranches_0 pc) := g_tab_ok <|
  List.forall_mem_cons.mpr ⟨so_aload_n d_Q_addBranches_0 rfl rfl,
  List.forall_mem_cons.mpr ⟨so_get d_Q_addBranches_1 (rfl : vwCl[6]? = some (R_Q, F_Q, 3)) (Nat.le_of_ble_eq_true rfl) i_Q w_1_139 rfl,
  List.forall_mem_cons.mpr ⟨so_iconst (by decide) d_Q_addBranches_4 rfl,
  List.forall_mem_cons.mpr ⟨so_icmp_eq d_Q_addBranches_5 (by decide) rfl,
  List.forall_mem_cons.mpr ⟨so_aload_n d_Q_addBranches_8 rfl rfl,
  List.forall_mem_cons.mpr ⟨so_iconst (by decide) d_Q_addBranches_9 rfl,
  List.forall_mem_cons.mpr ⟨so_aload_n d_Q_addBranches_10 rfl rfl,
  List.forall_mem_cons.mpr ⟨so_get d_Q_addBranches_11 (rfl : vwCl[6]? = some (R_Q, F_Q, 3)) (Nat.le_of_ble_eq_true rfl) i_Q w_1_139 rfl,
  List.forall_mem_cons.mpr ⟨so_cV g_good d_Q_addBranches_14 ⟨w_2_224, (Nat.le_of_ble_eq_true rfl), (Nat.le_of_ble_eq_true rfl), w_1_5, ⟨by decide, by decide⟩, by decide +kernel⟩ (rfl : vwCl[6]? = some (R_Q, F_Q, 3)) w_2_221 w_2_223 w_p5 rfl,
  List.forall_mem_cons.mpr ⟨so_aload_n d_Q_addBranches_17 rfl rfl,
  List.forall_mem_cons.mpr ⟨so_iconst (by decide) d_Q_addBranches_18 rfl,
  List.forall_mem_cons.mpr ⟨so_put ft_Q d_Q_addBranches_19 (rfl : vwCl[6]? = some (R_Q, F_Q, 3)) (Nat.le_of_ble_eq_true rfl) i_Q w_1_139 tk_Q n_Q rfl rfl rfl,
  List.forall_mem_cons.mpr ⟨so_vret d_Q_addBranches_22 rfl,
  fun _ h => absurd h List.not_mem_nil⟩⟩⟩⟩⟩⟩⟩⟩⟩⟩⟩⟩⟩
def cd_Q_addBranches : Nat → g_T := g_chk [(22, cd_Q_addBranches_0)]
theorem ok_Q_addBranches : ∀ pc, g_S (J_Q_addBranches) pc (cd_Q_addBranches pc) := g_chk_ok <|
  List.forall_mem_cons.mpr ⟨ok_Q_addBranches_0,
  fun _ h => absurd h List.not_mem_nil⟩
abbrev J_T_numberOf : g_J := (y_T_numberOf, prog_1_method_17_code, 1, (some .long), (0, 0), [], none)
theorem d_T_numberOf_0 : decode prog_1_method_17_code 0 = .ok (.iload_n 0, 1) := by decide +kernel
theorem d_T_numberOf_1 : decode prog_1_method_17_code 1 = .ok (.ifCond .lt 12, 3) := by decide +kernel
theorem d_T_numberOf_4 : decode prog_1_method_17_code 4 = .ok (.iload_n 0, 1) := by decide +kernel
theorem d_T_numberOf_5 : decode prog_1_method_17_code 5 = .ok (.i2l, 1) := by decide +kernel
theorem d_T_numberOf_6 : decode prog_1_method_17_code 6 = .ok (.ldc2_w 170, 3) := by decide +kernel
theorem d_T_numberOf_9 : decode prog_1_method_17_code 9 = .ok (.lmul, 1) := by decide +kernel
theorem d_T_numberOf_10 : decode prog_1_method_17_code 10 = .ok (.goto 11, 3) := by decide +kernel
theorem d_T_numberOf_13 : decode prog_1_method_17_code 13 = .ok (.iload_n 0, 1) := by decide +kernel
theorem d_T_numberOf_14 : decode prog_1_method_17_code 14 = .ok (.i2l, 1) := by decide +kernel
theorem d_T_numberOf_15 : decode prog_1_method_17_code 15 = .ok (.ldc2_w 172, 3) := by decide +kernel
theorem d_T_numberOf_18 : decode prog_1_method_17_code 18 = .ok (.lmul, 1) := by decide +kernel
theorem d_T_numberOf_19 : decode prog_1_method_17_code 19 = .ok (.lconst 1, 1) := by decide +kernel
theorem d_T_numberOf_20 : decode prog_1_method_17_code 20 = .ok (.lsub, 1) := by decide +kernel
theorem d_T_numberOf_21 : decode prog_1_method_17_code 21 = .ok (.lreturn, 1) := by decide +kernel
def cd_T_numberOf_0 : Nat → g_T := g_tab [(0, tr_ild 0 1), (1, tr_if1 (fun x => x < 0) 13 4), (4, tr_ild 0 5), (5, tr_i2l 6), (6, tr_cst (.long (2)) 9), (9, tr_ll (fun x y => x * y) 10), (10, tr_goto 21), (13, tr_ild 0 14), (14, tr_i2l 15), (15, tr_cst (.long (-2)) 18), (18, tr_ll (fun x y => x * y) 19), (19, tr_cst (.long (1)) 20), (20, tr_ll (fun x y => x - y) 21), (21, tr_rl)]
set_option maxRecDepth 100000 in
theorem ok_T_numberOf_0 : ∀ pc, g_S (J_T_numberOf) pc (cd_T_numberOf_0 pc) := g_tab_ok <|
  List.forall_mem_cons.mpr ⟨so_iload_n d_T_numberOf_0 rfl rfl,
  List.forall_mem_cons.mpr ⟨so_if_lt d_T_numberOf_1 (by decide) rfl,
  List.forall_mem_cons.mpr ⟨so_iload_n d_T_numberOf_4 rfl rfl,
  List.forall_mem_cons.mpr ⟨so_i2l d_T_numberOf_5 rfl,
  List.forall_mem_cons.mpr ⟨so_ldc2 w_3_0 d_T_numberOf_6 rfl,
  List.forall_mem_cons.mpr ⟨so_lmul d_T_numberOf_9 rfl,
  List.forall_mem_cons.mpr ⟨so_goto d_T_numberOf_10 (by decide),
  List.forall_mem_cons.mpr ⟨so_iload_n d_T_numberOf_13 rfl rfl,
  List.forall_mem_cons.mpr ⟨so_i2l d_T_numberOf_14 rfl,
  List.forall_mem_cons.mpr ⟨so_ldc2 w_3_1 d_T_numberOf_15 rfl,
  List.forall_mem_cons.mpr ⟨so_lmul d_T_numberOf_18 rfl,
  List.forall_mem_cons.mpr ⟨so_lconst (by decide) d_T_numberOf_19 rfl,
  List.forall_mem_cons.mpr ⟨so_lsub d_T_numberOf_20 rfl,
  List.forall_mem_cons.mpr ⟨so_lret d_T_numberOf_21 rfl,
  fun _ h => absurd h List.not_mem_nil⟩⟩⟩⟩⟩⟩⟩⟩⟩⟩⟩⟩⟩⟩
def cd_T_numberOf : Nat → g_T := g_chk [(21, cd_T_numberOf_0)]
theorem ok_T_numberOf : ∀ pc, g_S (J_T_numberOf) pc (cd_T_numberOf pc) := g_chk_ok <|
  List.forall_mem_cons.mpr ⟨ok_T_numberOf_0,
  fun _ h => absurd h List.not_mem_nil⟩
abbrev J_Q_addNumber : g_J := (y_Q_addNumber, prog_7_method_11_code, 6, none, (1, 21), [], none)
theorem d_Q_addNumber_0 : decode prog_7_method_11_code 0 = .ok (.lload_n 1, 1) := by decide +kernel
theorem d_Q_addNumber_1 : decode prog_7_method_11_code 1 = .ok (.lstore_n 3, 1) := by decide +kernel
theorem d_Q_addNumber_2 : decode prog_7_method_11_code 2 = .ok (.iconst 1, 1) := by decide +kernel
theorem d_Q_addNumber_3 : decode prog_7_method_11_code 3 = .ok (.istore 5, 2) := by decide +kernel
theorem d_Q_addNumber_5 : decode prog_7_method_11_code 5 = .ok (.iload 5, 2) := by decide +kernel
theorem d_Q_addNumber_7 : decode prog_7_method_11_code 7 = .ok (.iconst 5, 1) := by decide +kernel
theorem d_Q_addNumber_8 : decode prog_7_method_11_code 8 = .ok (.if_icmp .ge 41, 3) := by decide +kernel
theorem d_Q_addNumber_11 : decode prog_7_method_11_code 11 = .ok (.lload_n 3, 1) := by decide +kernel
theorem d_Q_addNumber_12 : decode prog_7_method_11_code 12 = .ok (.ldc2_w 140, 3) := by decide +kernel
theorem d_Q_addNumber_15 : decode prog_7_method_11_code 15 = .ok (.lcmp, 1) := by decide +kernel
theorem d_Q_addNumber_16 : decode prog_7_method_11_code 16 = .ok (.ifCond .lt 33, 3) := by decide +kernel
theorem d_Q_addNumber_19 : decode prog_7_method_11_code 19 = .ok (.aload_n 0, 1) := by decide +kernel
theorem d_Q_addNumber_20 : decode prog_7_method_11_code 20 = .ok (.getfield 14, 3) := by decide +kernel
theorem d_Q_addNumber_23 : decode prog_7_method_11_code 23 = .ok (.lload_n 3, 1) := by decide +kernel
theorem d_Q_addNumber_24 : decode prog_7_method_11_code 24 = .ok (.ldc2_w 140, 3) := by decide +kernel
theorem d_Q_addNumber_27 : decode prog_7_method_11_code 27 = .ok (.lrem, 1) := by decide +kernel
theorem d_Q_addNumber_28 : decode prog_7_method_11_code 28 = .ok (.l2i, 1) := by decide +kernel
theorem d_Q_addNumber_29 : decode prog_7_method_11_code 29 = .ok (.sipush 128, 3) := by decide +kernel
theorem d_Q_addNumber_32 : decode prog_7_method_11_code 32 = .ok (.iadd, 1) := by decide +kernel
theorem d_Q_addNumber_33 : decode prog_7_method_11_code 33 = .ok (.invokevirtual 46, 3) := by decide +kernel
theorem d_Q_addNumber_36 : decode prog_7_method_11_code 36 = .ok (.pop, 1) := by decide +kernel
theorem d_Q_addNumber_37 : decode prog_7_method_11_code 37 = .ok (.lload_n 3, 1) := by decide +kernel
theorem d_Q_addNumber_38 : decode prog_7_method_11_code 38 = .ok (.ldc2_w 140, 3) := by decide +kernel
theorem d_Q_addNumber_41 : decode prog_7_method_11_code 41 = .ok (.ldiv, 1) := by decide +kernel
theorem d_Q_addNumber_42 : decode prog_7_method_11_code 42 = .ok (.lstore_n 3, 1) := by decide +kernel
theorem d_Q_addNumber_43 : decode prog_7_method_11_code 43 = .ok (.iinc 5 1, 3) := by decide +kernel
theorem d_Q_addNumber_46 : decode prog_7_method_11_code 46 = .ok (.goto (-41), 3) := by decide +kernel
theorem d_Q_addNumber_49 : decode prog_7_method_11_code 49 = .ok (.aload_n 0, 1) := by decide +kernel
theorem d_Q_addNumber_50 : decode prog_7_method_11_code 50 = .ok (.getfield 14, 3) := by decide +kernel
theorem d_Q_addNumber_53 : decode prog_7_method_11_code 53 = .ok (.lload_n 3, 1) := by decide +kernel
theorem d_Q_addNumber_54 : decode prog_7_method_11_code 54 = .ok (.l2i, 1) := by decide +kernel
theorem d_Q_addNumber_55 : decode prog_7_method_11_code 55 = .ok (.invokevirtual 46, 3) := by decide +kernel
theorem d_Q_addNumber_58 : decode prog_7_method_11_code 58 = .ok (.pop, 1) := by decide +kernel
theorem d_Q_addNumber_59 : decode prog_7_method_11_code 59 = .ok (.return_, 1) := by decide +kernel
def cd_Q_addNumber_0 : Nat → g_T := g_tab [(0, tr_lld 1 1), (1, tr_lst 3 2), (2, tr_cst (.int (1)) 3), (3, tr_ist 5 5), (5, tr_ild 5 7), (7, tr_cst (.int (5)) 8), (8, tr_if2 (fun x y => y ≤ x) 49 11), (11, tr_lld 3 12), (12, tr_cst (.long (128)) 15), (15, tr_lcmp 16), (16, tr_if1 (fun x => x < 0) 49 19), (19, tr_ald 0 20), (20, tr_get 6 0 23), (23, tr_lld 3 24), (24, tr_cst (.long (128)) 27), (27, tr_lz (fun x y => x - x / y * y) 28)]
set_option maxRecDepth 100000 in
theorem ok_Q_addNumber_0 : ∀ pc, g_S (J_Q_addNumber) pc (cd_Q_addNumber_0 pc) := g_tab_ok <|
  List.forall_mem_cons.mpr ⟨so_lload_n d_Q_addNumber_0 rfl rfl,
  List.forall_mem_cons.mpr ⟨so_lstore_n d_Q_addNumber_1 rfl (Nat.le_of_ble_eq_true rfl) rfl,
  List.forall_mem_cons.mpr ⟨so_iconst (by decide) d_Q_addNumber_2 rfl,
  List.forall_mem_cons.mpr ⟨so_istore d_Q_addNumber_3 (Nat.le_of_ble_eq_true rfl) rfl,
  List.forall_mem_cons.mpr ⟨so_iload d_Q_addNumber_5 rfl,
  List.forall_mem_cons.mpr ⟨so_iconst (by decide) d_Q_addNumber_7 rfl,
  List.forall_mem_cons.mpr ⟨so_icmp_ge d_Q_addNumber_8 (by decide) rfl,
  List.forall_mem_cons.mpr ⟨so_lload_n d_Q_addNumber_11 rfl rfl,
  List.forall_mem_cons.mpr ⟨so_ldc2 w_3_6 d_Q_addNumber_12 rfl,
  List.forall_mem_cons.mpr ⟨so_lcmp d_Q_addNumber_15 rfl,
  List.forall_mem_cons.mpr ⟨so_if_lt d_Q_addNumber_16 (by decide) rfl,
  List.forall_mem_cons.mpr ⟨so_aload_n d_Q_addNumber_19 rfl rfl,
  List.forall_mem_cons.mpr ⟨so_get d_Q_addNumber_20 (rfl : vwCl[6]? = some (R_Q, F_Q, 3)) (Nat.le_of_ble_eq_true rfl) i_Q w_1_137 rfl,
  List.forall_mem_cons.mpr ⟨so_lload_n d_Q_addNumber_23 rfl rfl,
  List.forall_mem_cons.mpr ⟨so_ldc2 w_3_6 d_Q_addNumber_24 rfl,
  List.forall_mem_cons.mpr ⟨so_lrem d_Q_addNumber_27 rfl,
  fun _ h => absurd h List.not_mem_nil⟩⟩⟩⟩⟩⟩⟩⟩⟩⟩⟩⟩⟩⟩⟩⟩
def cd_Q_addNumber_1 : Nat → g_T := g_tab [(28, tr_l2i 29), (29, tr_cst (.int (128)) 32), (32, tr_ii (fun x y => x + y) 33), (33, tr_cV J_I_add 0 1 36), (36, tr_pop 37), (37, tr_lld 3 38), (38, tr_cst (.long (128)) 41), (41, tr_lz (fun x y => x / y) 42), (42, tr_lst 3 43), (43, tr_inc 5 (1) 46), (46, tr_goto 5), (49, tr_ald 0 50), (50, tr_get 6 0 53), (53, tr_lld 3 54), (54, tr_l2i 55), (55, tr_cV J_I_add 0 1 58)]
set_option maxRecDepth 100000 in
theorem ok_Q_addNumber_1 : ∀ pc, g_S (J_Q_addNumber) pc (cd_Q_addNumber_1 pc) := g_tab_ok <|
  List.forall_mem_cons.mpr ⟨so_l2i d_Q_addNumber_28 rfl,
  List.forall_mem_cons.mpr ⟨so_sipush (by decide) d_Q_addNumber_29 rfl,
  List.forall_mem_cons.mpr ⟨so_iadd d_Q_addNumber_32 rfl,
  List.forall_mem_cons.mpr ⟨so_cV g_good d_Q_addNumber_33 ⟨w_1_47, (Nat.le_of_ble_eq_true rfl), (Nat.le_of_ble_eq_true rfl), w_1_2, ⟨by decide, by decide⟩, by decide +kernel⟩ (rfl : vwCl[0]? = some (R_I, F_I, 2)) w_2_206 w_1_45 w_1_46 rfl,
  List.forall_mem_cons.mpr ⟨so_pop d_Q_addNumber_36 rfl,
  List.forall_mem_cons.mpr ⟨so_lload_n d_Q_addNumber_37 rfl rfl,
  List.forall_mem_cons.mpr ⟨so_ldc2 w_3_6 d_Q_addNumber_38 rfl,
  List.forall_mem_cons.mpr ⟨so_ldiv d_Q_addNumber_41 rfl,
  List.forall_mem_cons.mpr ⟨so_lstore_n d_Q_addNumber_42 rfl (Nat.le_of_ble_eq_true rfl) rfl,
  List.forall_mem_cons.mpr ⟨so_iinc d_Q_addNumber_43 (by decide) (Nat.le_of_ble_eq_true rfl) rfl,
  List.forall_mem_cons.mpr ⟨so_goto d_Q_addNumber_46 (by decide),
  List.forall_mem_cons.mpr ⟨so_aload_n d_Q_addNumber_49 rfl rfl,
  List.forall_mem_cons.mpr ⟨so_get d_Q_addNumber_50 (rfl : vwCl[6]? = some (R_Q, F_Q, 3)) (Nat.le_of_ble_eq_true rfl) i_Q w_1_137 rfl,
  List.forall_mem_cons.mpr ⟨so_lload_n d_Q_addNumber_53 rfl rfl,
  List.forall_mem_cons.mpr ⟨so_l2i d_Q_addNumber_54 rfl,
  List.forall_mem_cons.mpr ⟨so_cV g_good d_Q_addNumber_55 ⟨w_1_47, (Nat.le_of_ble_eq_true rfl), (Nat.le_of_ble_eq_true rfl), w_1_2, ⟨by decide, by decide⟩, by decide +kernel⟩ (rfl : vwCl[0]? = some (R_I, F_I, 2)) w_2_206 w_1_45 w_1_46 rfl,
  fun _ h => absurd h List.not_mem_nil⟩⟩⟩⟩⟩⟩⟩⟩⟩⟩⟩⟩⟩⟩⟩⟩
def cd_Q_addNumber_2 : Nat → g_T := g_tab [(58, tr_pop 59), (59, tr_rv)]
set_option maxRecDepth 100000 in
theorem ok_Q_addNumber_2 : ∀ pc, g_S (J_Q_addNumber) pc (cd_Q_addNumber_2 pc) := g_tab_ok <|
  List.forall_mem_cons.mpr ⟨so_pop d_Q_addNumber_58 rfl,
  List.forall_mem_cons.mpr ⟨so_vret d_Q_addNumber_59 rfl,
  fun _ h => absurd h List.not_mem_nil⟩⟩
def cd_Q_addNumber : Nat → g_T := g_chk [(27, cd_Q_addNumber_0), (55, cd_Q_addNumber_1), (59, cd_Q_addNumber_2)]
theorem ok_Q_addNumber : ∀ pc, g_S (J_Q_addNumber) pc (cd_Q_addNumber pc) := g_chk_ok <|
  List.forall_mem_cons.mpr ⟨ok_Q_addNumber_0,
  List.forall_mem_cons.mpr ⟨ok_Q_addNumber_1,
  List.forall_mem_cons.mpr ⟨ok_Q_addNumber_2,
  fun _ h => absurd h List.not_mem_nil⟩⟩⟩
abbrev J_Q_addLoad : g_J := (y_Q_addLoad, prog_7_method_8_code, 2, none, (2, 46), [], none)
theorem d_Q_addLoad_0 : decode prog_7_method_8_code 0 = .ok (.iload_n 1, 1) := by decide +kernel
theorem d_Q_addLoad_1 : decode prog_7_method_8_code 1 = .ok (.aload_n 0, 1) := by decide +kernel
theorem d_Q_addLoad_2 : decode prog_7_method_8_code 2 = .ok (.getfield 23, 3) := by decide +kernel
theorem d_Q_addLoad_5 : decode prog_7_method_8_code 5 = .ok (.getfield 110, 3) := by decide +kernel
theorem d_Q_addLoad_8 : decode prog_7_method_8_code 8 = .ok (.invokevirtual 114, 3) := by decide +kernel
theorem d_Q_addLoad_11 : decode prog_7_method_8_code 11 = .ok (.if_icmp .ne 12, 3) := by decide +kernel
theorem d_Q_addLoad_14 : decode prog_7_method_8_code 14 = .ok (.aload_n 0, 1) := by decide +kernel
theorem d_Q_addLoad_15 : decode prog_7_method_8_code 15 = .ok (.iconst 2, 1) := by decide +kernel
theorem d_Q_addLoad_16 : decode prog_7_method_8_code 16 = .ok (.iconst 0, 1) := by decide +kernel
theorem d_Q_addLoad_17 : decode prog_7_method_8_code 17 = .ok (.invokevirtual 87, 3) := by decide +kernel
theorem d_Q_addLoad_20 : decode prog_7_method_8_code 20 = .ok (.goto 27, 3) := by decide +kernel
theorem d_Q_addLoad_23 : decode prog_7_method_8_code 23 = .ok (.aload_n 0, 1) := by decide +kernel
theorem d_Q_addLoad_24 : decode prog_7_method_8_code 24 = .ok (.iconst 2, 1) := by decide +kernel
theorem d_Q_addLoad_25 : decode prog_7_method_8_code 25 = .ok (.iconst 1, 1) := by decide +kernel
theorem d_Q_addLoad_26 : decode prog_7_method_8_code 26 = .ok (.invokevirtual 87, 3) := by decide +kernel
theorem d_Q_addLoad_29 : decode prog_7_method_8_code 29 = .ok (.aload_n 0, 1) := by decide +kernel
theorem d_Q_addLoad_30 : decode prog_7_method_8_code 30 = .ok (.aload_n 0, 1) := by decide +kernel
theorem d_Q_addLoad_31 : decode prog_7_method_8_code 31 = .ok (.getfield 23, 3) := by decide +kernel
theorem d_Q_addLoad_34 : decode prog_7_method_8_code 34 = .ok (.getfield 110, 3) := by decide +kernel
theorem d_Q_addLoad_37 : decode prog_7_method_8_code 37 = .ok (.iload_n 1, 1) := by decide +kernel
theorem d_Q_addLoad_38 : decode prog_7_method_8_code 38 = .ok (.invokevirtual 119, 3) := by decide +kernel
theorem d_Q_addLoad_41 : decode prog_7_method_8_code 41 = .ok (.invokestatic 94, 3) := by decide +kernel
theorem d_Q_addLoad_44 : decode prog_7_method_8_code 44 = .ok (.invokevirtual 98, 3) := by decide +kernel
theorem d_Q_addLoad_47 : decode prog_7_method_8_code 47 = .ok (.aload_n 0, 1) := by decide +kernel
theorem d_Q_addLoad_48 : decode prog_7_method_8_code 48 = .ok (.getfield 23, 3) := by decide +kernel
theorem d_Q_addLoad_51 : decode prog_7_method_8_code 51 = .ok (.getfield 110, 3) := by decide +kernel
theorem d_Q_addLoad_54 : decode prog_7_method_8_code 54 = .ok (.iload_n 1, 1) := by decide +kernel
theorem d_Q_addLoad_55 : decode prog_7_method_8_code 55 = .ok (.invokevirtual 122, 3) := by decide +kernel
theorem d_Q_addLoad_58 : decode prog_7_method_8_code 58 = .ok (.return_, 1) := by decide +kernel
def cd_Q_addLoad_0 : Nat → g_T := g_tab [(0, tr_ild 1 1), (1, tr_ald 0 2), (2, tr_get 6 1 5), (5, tr_get 4 0 8), (8, tr_cV J_L_expected 1 0 11), (11, tr_if2 (fun x y => ¬ x = y) 23 14), (14, tr_ald 0 15), (15, tr_cst (.int (2)) 16), (16, tr_cst (.int (0)) 17), (17, tr_cV J_Q_addKind 6 2 20), (20, tr_goto 47), (23, tr_ald 0 24), (24, tr_cst (.int (2)) 25), (25, tr_cst (.int (1)) 26), (26, tr_cV J_Q_addKind 6 2 29), (29, tr_ald 0 30)]
set_option maxRecDepth 100000 in
theorem ok_Q_addLoad_0 : ∀ pc, g_S (J_Q_addLoad) pc (cd_Q_addLoad_0 pc) := g_tab_ok <|
  List.forall_mem_cons.mpr ⟨so_iload_n d_Q_addLoad_0 rfl rfl,
  List.forall_mem_cons.mpr ⟨so_aload_n d_Q_addLoad_1 rfl rfl,
  List.forall_mem_cons.mpr ⟨so_get d_Q_addLoad_2 (rfl : vwCl[6]? = some (R_Q, F_Q, 3)) (Nat.le_of_ble_eq_true rfl) i_Q w_1_138 rfl,
  List.forall_mem_cons.mpr ⟨so_getN d_Q_addLoad_5 (rfl : vwCl[4]? = some (R_M, F_M, 5)) (Nat.le_of_ble_eq_true rfl) i_M w_1_112 rfl,
  List.forall_mem_cons.mpr ⟨so_cV g_good d_Q_addLoad_8 ⟨w_3_14, (Nat.le_of_ble_eq_true rfl), (Nat.le_of_ble_eq_true rfl), w_1_7, ⟨by decide, by decide⟩, by decide +kernel⟩ (rfl : vwCl[1]? = some (R_L, F_L, 2)) w_3_11 w_3_12 w_3_13 rfl,
  List.forall_mem_cons.mpr ⟨so_icmp_ne d_Q_addLoad_11 (by decide) rfl,
  List.forall_mem_cons.mpr ⟨so_aload_n d_Q_addLoad_14 rfl rfl,
  List.forall_mem_cons.mpr ⟨so_iconst (by decide) d_Q_addLoad_15 rfl,
  List.forall_mem_cons.mpr ⟨so_iconst (by decide) d_Q_addLoad_16 rfl,
  List.forall_mem_cons.mpr ⟨so_cV g_good d_Q_addLoad_17 ⟨w_2_224, (Nat.le_of_ble_eq_true rfl), (Nat.le_of_ble_eq_true rfl), w_1_5, ⟨by decide, by decide⟩, by decide +kernel⟩ (rfl : vwCl[6]? = some (R_Q, F_Q, 3)) w_2_221 w_2_223 w_p5 rfl,
  List.forall_mem_cons.mpr ⟨so_goto d_Q_addLoad_20 (by decide),
  List.forall_mem_cons.mpr ⟨so_aload_n d_Q_addLoad_23 rfl rfl,
  List.forall_mem_cons.mpr ⟨so_iconst (by decide) d_Q_addLoad_24 rfl,
  List.forall_mem_cons.mpr ⟨so_iconst (by decide) d_Q_addLoad_25 rfl,
  List.forall_mem_cons.mpr ⟨so_cV g_good d_Q_addLoad_26 ⟨w_2_224, (Nat.le_of_ble_eq_true rfl), (Nat.le_of_ble_eq_true rfl), w_1_5, ⟨by decide, by decide⟩, by decide +kernel⟩ (rfl : vwCl[6]? = some (R_Q, F_Q, 3)) w_2_221 w_2_223 w_p5 rfl,
  List.forall_mem_cons.mpr ⟨so_aload_n d_Q_addLoad_29 rfl rfl,
  fun _ h => absurd h List.not_mem_nil⟩⟩⟩⟩⟩⟩⟩⟩⟩⟩⟩⟩⟩⟩⟩⟩
def cd_Q_addLoad_1 : Nat → g_T := g_tab [(30, tr_ald 0 31), (31, tr_get 6 1 34), (34, tr_get 4 0 37), (37, tr_ild 1 38), (38, tr_cV J_L_differenceTo 1 1 41), (41, tr_cS J_T_numberOf 1 44), (44, tr_cV J_Q_addNumber 6 1 47), (47, tr_ald 0 48), (48, tr_get 6 1 51), (51, tr_get 4 0 54), (54, tr_ild 1 55), (55, tr_cV J_L_goTo 1 1 58), (58, tr_rv)]
set_option maxRecDepth 100000 in
theorem ok_Q_addLoad_1 : ∀ pc, g_S (J_Q_addLoad) pc (cd_Q_addLoad_1 pc) := g_tab_ok <|
  List.forall_mem_cons.mpr ⟨so_aload_n d_Q_addLoad_30 rfl rfl,
  List.forall_mem_cons.mpr ⟨so_get d_Q_addLoad_31 (rfl : vwCl[6]? = some (R_Q, F_Q, 3)) (Nat.le_of_ble_eq_true rfl) i_Q w_1_138 rfl,
  List.forall_mem_cons.mpr ⟨so_getN d_Q_addLoad_34 (rfl : vwCl[4]? = some (R_M, F_M, 5)) (Nat.le_of_ble_eq_true rfl) i_M w_1_112 rfl,
  List.forall_mem_cons.mpr ⟨so_iload_n d_Q_addLoad_37 rfl rfl,
  List.forall_mem_cons.mpr ⟨so_cV g_good d_Q_addLoad_38 ⟨w_3_18, (Nat.le_of_ble_eq_true rfl), (Nat.le_of_ble_eq_true rfl), w_1_7, ⟨by decide, by decide⟩, by decide +kernel⟩ (rfl : vwCl[1]? = some (R_L, F_L, 2)) w_3_15 w_3_16 w_3_17 rfl,
  List.forall_mem_cons.mpr ⟨so_cSN g_good d_Q_addLoad_41 ⟨w_2_239, (Nat.le_of_ble_eq_true rfl), (Nat.le_of_ble_eq_true rfl), w_1_1, ⟨by decide, by decide⟩, by decide +kernel⟩ w_2_237 w_2_238 rfl,
  List.forall_mem_cons.mpr ⟨so_cV g_good d_Q_addLoad_44 ⟨w_3_5, (Nat.le_of_ble_eq_true rfl), (Nat.le_of_ble_eq_true rfl), w_1_5, ⟨by decide, by decide⟩, by decide +kernel⟩ (rfl : vwCl[6]? = some (R_Q, F_Q, 3)) w_3_2 w_3_4 w_p7 rfl,
  List.forall_mem_cons.mpr ⟨so_aload_n d_Q_addLoad_47 rfl rfl,
  List.forall_mem_cons.mpr ⟨so_get d_Q_addLoad_48 (rfl : vwCl[6]? = some (R_Q, F_Q, 3)) (Nat.le_of_ble_eq_true rfl) i_Q w_1_138 rfl,
  List.forall_mem_cons.mpr ⟨so_getN d_Q_addLoad_51 (rfl : vwCl[4]? = some (R_M, F_M, 5)) (Nat.le_of_ble_eq_true rfl) i_M w_1_112 rfl,
  List.forall_mem_cons.mpr ⟨so_iload_n d_Q_addLoad_54 rfl rfl,
  List.forall_mem_cons.mpr ⟨so_cV g_good d_Q_addLoad_55 ⟨w_3_22, (Nat.le_of_ble_eq_true rfl), (Nat.le_of_ble_eq_true rfl), w_1_7, ⟨by decide, by decide⟩, by decide +kernel⟩ (rfl : vwCl[1]? = some (R_L, F_L, 2)) w_3_19 w_3_20 w_3_21 rfl,
  List.forall_mem_cons.mpr ⟨so_vret d_Q_addLoad_58 rfl,
  fun _ h => absurd h List.not_mem_nil⟩⟩⟩⟩⟩⟩⟩⟩⟩⟩⟩⟩⟩
def cd_Q_addLoad : Nat → g_T := g_chk [(29, cd_Q_addLoad_0), (58, cd_Q_addLoad_1)]
theorem ok_Q_addLoad : ∀ pc, g_S (J_Q_addLoad) pc (cd_Q_addLoad pc) := g_chk_ok <|
  List.forall_mem_cons.mpr ⟨ok_Q_addLoad_0,
  List.forall_mem_cons.mpr ⟨ok_Q_addLoad_1,
  fun _ h => absurd h List.not_mem_nil⟩⟩
abbrev J_Q_addStore : g_J := (y_Q_addStore, prog_7_method_9_code, 6, none, (2, 46), [], none)
theorem d_Q_addStore_0 : decode prog_7_method_9_code 0 = .ok (.iload_n 1, 1) := by decide +kernel
theorem d_Q_addStore_1 : decode prog_7_method_9_code 1 = .ok (.aload_n 0, 1) := by decide +kernel
theorem d_Q_addStore_2 : decode prog_7_method_9_code 2 = .ok (.getfield 23, 3) := by decide +kernel
theorem d_Q_addStore_5 : decode prog_7_method_9_code 5 = .ok (.getfield 125, 3) := by decide +kernel
theorem d_Q_addStore_8 : decode prog_7_method_9_code 8 = .ok (.invokevirtual 114, 3) := by decide +kernel
theorem d_Q_addStore_11 : decode prog_7_method_9_code 11 = .ok (.if_icmp .ne 7, 3) := by decide +kernel
theorem d_Q_addStore_14 : decode prog_7_method_9_code 14 = .ok (.iconst 1, 1) := by decide +kernel
theorem d_Q_addStore_15 : decode prog_7_method_9_code 15 = .ok (.goto 4, 3) := by decide +kernel
theorem d_Q_addStore_18 : decode prog_7_method_9_code 18 = .ok (.iconst 0, 1) := by decide +kernel
theorem d_Q_addStore_19 : decode prog_7_method_9_code 19 = .ok (.istore_n 3, 1) := by decide +kernel
theorem d_Q_addStore_20 : decode prog_7_method_9_code 20 = .ok (.aload_n 0, 1) := by decide +kernel
theorem d_Q_addStore_21 : decode prog_7_method_9_code 21 = .ok (.getfield 23, 3) := by decide +kernel
theorem d_Q_addStore_24 : decode prog_7_method_9_code 24 = .ok (.getfield 128, 3) := by decide +kernel
theorem d_Q_addStore_27 : decode prog_7_method_9_code 27 = .ok (.iload_n 2, 1) := by decide +kernel
theorem d_Q_addStore_28 : decode prog_7_method_9_code 28 = .ok (.invokevirtual 132, 3) := by decide +kernel
theorem d_Q_addStore_31 : decode prog_7_method_9_code 31 = .ok (.istore 4, 2) := by decide +kernel
theorem d_Q_addStore_33 : decode prog_7_method_9_code 33 = .ok (.iload 4, 2) := by decide +kernel
theorem d_Q_addStore_35 : decode prog_7_method_9_code 35 = .ok (.iconst (-1), 1) := by decide +kernel
theorem d_Q_addStore_36 : decode prog_7_method_9_code 36 = .ok (.if_icmp .ne 8, 3) := by decide +kernel
theorem d_Q_addStore_39 : decode prog_7_method_9_code 39 = .ok (.bipush 8, 2) := by decide +kernel
theorem d_Q_addStore_41 : decode prog_7_method_9_code 41 = .ok (.goto 5, 3) := by decide +kernel
theorem d_Q_addStore_44 : decode prog_7_method_9_code 44 = .ok (.iload 4, 2) := by decide +kernel
theorem d_Q_addStore_46 : decode prog_7_method_9_code 46 = .ok (.istore 5, 2) := by decide +kernel
theorem d_Q_addStore_48 : decode prog_7_method_9_code 48 = .ok (.aload_n 0, 1) := by decide +kernel
theorem d_Q_addStore_49 : decode prog_7_method_9_code 49 = .ok (.iconst 3, 1) := by decide +kernel
theorem d_Q_addStore_50 : decode prog_7_method_9_code 50 = .ok (.iload_n 3, 1) := by decide +kernel
theorem d_Q_addStore_51 : decode prog_7_method_9_code 51 = .ok (.ifCond .eq 8, 3) := by decide +kernel
theorem d_Q_addStore_54 : decode prog_7_method_9_code 54 = .ok (.iload 5, 2) := by decide +kernel
theorem d_Q_addStore_56 : decode prog_7_method_9_code 56 = .ok (.goto 8, 3) := by decide +kernel
theorem d_Q_addStore_59 : decode prog_7_method_9_code 59 = .ok (.bipush 16, 2) := by decide +kernel
theorem d_Q_addStore_61 : decode prog_7_method_9_code 61 = .ok (.iload 5, 2) := by decide +kernel
theorem d_Q_addStore_63 : decode prog_7_method_9_code 63 = .ok (.iadd, 1) := by decide +kernel
theorem d_Q_addStore_64 : decode prog_7_method_9_code 64 = .ok (.invokevirtual 87, 3) := by decide +kernel
theorem d_Q_addStore_67 : decode prog_7_method_9_code 67 = .ok (.iload_n 3, 1) := by decide +kernel
theorem d_Q_addStore_68 : decode prog_7_method_9_code 68 = .ok (.ifCond .ne 21, 3) := by decide +kernel
theorem d_Q_addStore_71 : decode prog_7_method_9_code 71 = .ok (.aload_n 0, 1) := by decide +kernel
theorem d_Q_addStore_72 : decode prog_7_method_9_code 72 = .ok (.aload_n 0, 1) := by decide +kernel
theorem d_Q_addStore_73 : decode prog_7_method_9_code 73 = .ok (.getfield 23, 3) := by decide +kernel
theorem d_Q_addStore_76 : decode prog_7_method_9_code 76 = .ok (.getfield 125, 3) := by decide +kernel
theorem d_Q_addStore_79 : decode prog_7_method_9_code 79 = .ok (.iload_n 1, 1) := by decide +kernel
theorem d_Q_addStore_80 : decode prog_7_method_9_code 80 = .ok (.invokevirtual 119, 3) := by decide +kernel
theorem d_Q_addStore_83 : decode prog_7_method_9_code 83 = .ok (.invokestatic 94, 3) := by decide +kernel
theorem d_Q_addStore_86 : decode prog_7_method_9_code 86 = .ok (.invokevirtual 98, 3) := by decide +kernel
theorem d_Q_addStore_89 : decode prog_7_method_9_code 89 = .ok (.iload 4, 2) := by decide +kernel
theorem d_Q_addStore_91 : decode prog_7_method_9_code 91 = .ok (.iconst (-1), 1) := by decide +kernel
theorem d_Q_addStore_92 : decode prog_7_method_9_code 92 = .ok (.if_icmp .ne 8, 3) := by decide +kernel
theorem d_Q_addStore_95 : decode prog_7_method_9_code 95 = .ok (.aload_n 0, 1) := by decide +kernel
theorem d_Q_addStore_96 : decode prog_7_method_9_code 96 = .ok (.iload_n 2, 1) := by decide +kernel
theorem d_Q_addStore_97 : decode prog_7_method_9_code 97 = .ok (.invokevirtual 50, 3) := by decide +kernel
theorem d_Q_addStore_100 : decode prog_7_method_9_code 100 = .ok (.aload_n 0, 1) := by decide +kernel
theorem d_Q_addStore_101 : decode prog_7_method_9_code 101 = .ok (.getfield 23, 3) := by decide +kernel
theorem d_Q_addStore_104 : decode prog_7_method_9_code 104 = .ok (.getfield 125, 3) := by decide +kernel
theorem d_Q_addStore_107 : decode prog_7_method_9_code 107 = .ok (.iload_n 1, 1) := by decide +kernel
theorem d_Q_addStore_108 : decode prog_7_method_9_code 108 = .ok (.invokevirtual 122, 3) := by decide +kernel
theorem d_Q_addStore_111 : decode prog_7_method_9_code 111 = .ok (.aload_n 0, 1) := by decide +kernel
theorem d_Q_addStore_112 : decode prog_7_method_9_code 112 = .ok (.getfield 23, 3) := by decide +kernel
theorem d_Q_addStore_115 : decode prog_7_method_9_code 115 = .ok (.getfield 128, 3) := by decide +kernel
theorem d_Q_addStore_118 : decode prog_7_method_9_code 118 = .ok (.iload_n 2, 1) := by decide +kernel
theorem d_Q_addStore_119 : decode prog_7_method_9_code 119 = .ok (.invokevirtual 137, 3) := by decide +kernel
theorem d_Q_addStore_122 : decode prog_7_method_9_code 122 = .ok (.return_, 1) := by decide +kernel
def cd_Q_addStore_0 : Nat → g_T := g_tab [(0, tr_ild 1 1), (1, tr_ald 0 2), (2, tr_get 6 1 5), (5, tr_get 4 1 8), (8, tr_cV J_L_expected 1 0 11), (11, tr_if2 (fun x y => ¬ x = y) 18 14), (14, tr_cst (.int (1)) 15), (15, tr_goto 19), (18, tr_cst (.int (0)) 19), (19, tr_ist 3 20), (20, tr_ald 0 21), (21, tr_get 6 1 24), (24, tr_get 4 2 27), (27, tr_ild 2 28), (28, tr_cV J_V_numberOfValue 3 1 31), (31, tr_ist 4 33)]
set_option maxRecDepth 100000 in
theorem ok_Q_addStore_0 : ∀ pc, g_S (J_Q_addStore) pc (cd_Q_addStore_0 pc) := g_tab_ok <|
  List.forall_mem_cons.mpr ⟨so_iload_n d_Q_addStore_0 rfl rfl,
  List.forall_mem_cons.mpr ⟨so_aload_n d_Q_addStore_1 rfl rfl,
  List.forall_mem_cons.mpr ⟨so_get d_Q_addStore_2 (rfl : vwCl[6]? = some (R_Q, F_Q, 3)) (Nat.le_of_ble_eq_true rfl) i_Q w_1_138 rfl,
  List.forall_mem_cons.mpr ⟨so_getN d_Q_addStore_5 (rfl : vwCl[4]? = some (R_M, F_M, 5)) (Nat.le_of_ble_eq_true rfl) i_M w_1_115 rfl,
  List.forall_mem_cons.mpr ⟨so_cV g_good d_Q_addStore_8 ⟨w_3_14, (Nat.le_of_ble_eq_true rfl), (Nat.le_of_ble_eq_true rfl), w_1_7, ⟨by decide, by decide⟩, by decide +kernel⟩ (rfl : vwCl[1]? = some (R_L, F_L, 2)) w_3_11 w_3_12 w_3_13 rfl,
  List.forall_mem_cons.mpr ⟨so_icmp_ne d_Q_addStore_11 (by decide) rfl,
  List.forall_mem_cons.mpr ⟨so_iconst (by decide) d_Q_addStore_14 rfl,
  List.forall_mem_cons.mpr ⟨so_goto d_Q_addStore_15 (by decide),
  List.forall_mem_cons.mpr ⟨so_iconst (by decide) d_Q_addStore_18 rfl,
  List.forall_mem_cons.mpr ⟨so_istore_n d_Q_addStore_19 rfl (Nat.le_of_ble_eq_true rfl) rfl,
  List.forall_mem_cons.mpr ⟨so_aload_n d_Q_addStore_20 rfl rfl,
  List.forall_mem_cons.mpr ⟨so_get d_Q_addStore_21 (rfl : vwCl[6]? = some (R_Q, F_Q, 3)) (Nat.le_of_ble_eq_true rfl) i_Q w_1_138 rfl,
  List.forall_mem_cons.mpr ⟨so_getN d_Q_addStore_24 (rfl : vwCl[4]? = some (R_M, F_M, 5)) (Nat.le_of_ble_eq_true rfl) i_M w_1_118 rfl,
  List.forall_mem_cons.mpr ⟨so_iload_n d_Q_addStore_27 rfl rfl,
  List.forall_mem_cons.mpr ⟨so_cV g_good d_Q_addStore_28 ⟨w_3_30, (Nat.le_of_ble_eq_true rfl), (Nat.le_of_ble_eq_true rfl), w_1_8, ⟨by decide, by decide⟩, by decide +kernel⟩ (rfl : vwCl[3]? = some (R_V, F_V, 1)) w_3_27 w_3_28 w_3_29 rfl,
  List.forall_mem_cons.mpr ⟨so_istore d_Q_addStore_31 (Nat.le_of_ble_eq_true rfl) rfl,
  fun _ h => absurd h List.not_mem_nil⟩⟩⟩⟩⟩⟩⟩⟩⟩⟩⟩⟩⟩⟩⟩⟩
def cd_Q_addStore_1 : Nat → g_T := g_tab [(33, tr_ild 4 35), (35, tr_cst (.int (-1)) 36), (36, tr_if2 (fun x y => ¬ x = y) 44 39), (39, tr_cst (.int (8)) 41), (41, tr_goto 46), (44, tr_ild 4 46), (46, tr_ist 5 48), (48, tr_ald 0 49), (49, tr_cst (.int (3)) 50), (50, tr_ild 3 51), (51, tr_if1 (fun x => x = 0) 59 54), (54, tr_ild 5 56), (56, tr_goto 64), (59, tr_cst (.int (16)) 61), (61, tr_ild 5 63), (63, tr_ii (fun x y => x + y) 64)]
set_option maxRecDepth 100000 in
theorem ok_Q_addStore_1 : ∀ pc, g_S (J_Q_addStore) pc (cd_Q_addStore_1 pc) := g_tab_ok <|
  List.forall_mem_cons.mpr ⟨so_iload d_Q_addStore_33 rfl,
  List.forall_mem_cons.mpr ⟨so_iconst (by decide) d_Q_addStore_35 rfl,
  List.forall_mem_cons.mpr ⟨so_icmp_ne d_Q_addStore_36 (by decide) rfl,
  List.forall_mem_cons.mpr ⟨so_bipush (by decide) d_Q_addStore_39 rfl,
  List.forall_mem_cons.mpr ⟨so_goto d_Q_addStore_41 (by decide),
  List.forall_mem_cons.mpr ⟨so_iload d_Q_addStore_44 rfl,
  List.forall_mem_cons.mpr ⟨so_istore d_Q_addStore_46 (Nat.le_of_ble_eq_true rfl) rfl,
  List.forall_mem_cons.mpr ⟨so_aload_n d_Q_addStore_48 rfl rfl,
  List.forall_mem_cons.mpr ⟨so_iconst (by decide) d_Q_addStore_49 rfl,
  List.forall_mem_cons.mpr ⟨so_iload_n d_Q_addStore_50 rfl rfl,
  List.forall_mem_cons.mpr ⟨so_if_eq d_Q_addStore_51 (by decide) rfl,
  List.forall_mem_cons.mpr ⟨so_iload d_Q_addStore_54 rfl,
  List.forall_mem_cons.mpr ⟨so_goto d_Q_addStore_56 (by decide),
  List.forall_mem_cons.mpr ⟨so_bipush (by decide) d_Q_addStore_59 rfl,
  List.forall_mem_cons.mpr ⟨so_iload d_Q_addStore_61 rfl,
  List.forall_mem_cons.mpr ⟨so_iadd d_Q_addStore_63 rfl,
  fun _ h => absurd h List.not_mem_nil⟩⟩⟩⟩⟩⟩⟩⟩⟩⟩⟩⟩⟩⟩⟩⟩
def cd_Q_addStore_2 : Nat → g_T := g_tab [(64, tr_cV J_Q_addKind 6 2 67), (67, tr_ild 3 68), (68, tr_if1 (fun x => ¬ x = 0) 89 71), (71, tr_ald 0 72), (72, tr_ald 0 73), (73, tr_get 6 1 76), (76, tr_get 4 1 79), (79, tr_ild 1 80), (80, tr_cV J_L_differenceTo 1 1 83), (83, tr_cS J_T_numberOf 1 86), (86, tr_cV J_Q_addNumber 6 1 89), (89, tr_ild 4 91), (91, tr_cst (.int (-1)) 92), (92, tr_if2 (fun x y => ¬ x = y) 100 95), (95, tr_ald 0 96), (96, tr_ild 2 97)]
set_option maxRecDepth 100000 in
theorem ok_Q_addStore_2 : ∀ pc, g_S (J_Q_addStore) pc (cd_Q_addStore_2 pc) := g_tab_ok <|
  List.forall_mem_cons.mpr ⟨so_cV g_good d_Q_addStore_64 ⟨w_2_224, (Nat.le_of_ble_eq_true rfl), (Nat.le_of_ble_eq_true rfl), w_1_5, ⟨by decide, by decide⟩, by decide +kernel⟩ (rfl : vwCl[6]? = some (R_Q, F_Q, 3)) w_2_221 w_2_223 w_p5 rfl,
  List.forall_mem_cons.mpr ⟨so_iload_n d_Q_addStore_67 rfl rfl,
  List.forall_mem_cons.mpr ⟨so_if_ne d_Q_addStore_68 (by decide) rfl,
  List.forall_mem_cons.mpr ⟨so_aload_n d_Q_addStore_71 rfl rfl,
  List.forall_mem_cons.mpr ⟨so_aload_n d_Q_addStore_72 rfl rfl,
  List.forall_mem_cons.mpr ⟨so_get d_Q_addStore_73 (rfl : vwCl[6]? = some (R_Q, F_Q, 3)) (Nat.le_of_ble_eq_true rfl) i_Q w_1_138 rfl,
  List.forall_mem_cons.mpr ⟨so_getN d_Q_addStore_76 (rfl : vwCl[4]? = some (R_M, F_M, 5)) (Nat.le_of_ble_eq_true rfl) i_M w_1_115 rfl,
  List.forall_mem_cons.mpr ⟨so_iload_n d_Q_addStore_79 rfl rfl,
  List.forall_mem_cons.mpr ⟨so_cV g_good d_Q_addStore_80 ⟨w_3_18, (Nat.le_of_ble_eq_true rfl), (Nat.le_of_ble_eq_true rfl), w_1_7, ⟨by decide, by decide⟩, by decide +kernel⟩ (rfl : vwCl[1]? = some (R_L, F_L, 2)) w_3_15 w_3_16 w_3_17 rfl,
  List.forall_mem_cons.mpr ⟨so_cSN g_good d_Q_addStore_83 ⟨w_2_239, (Nat.le_of_ble_eq_true rfl), (Nat.le_of_ble_eq_true rfl), w_1_1, ⟨by decide, by decide⟩, by decide +kernel⟩ w_2_237 w_2_238 rfl,
  List.forall_mem_cons.mpr ⟨so_cV g_good d_Q_addStore_86 ⟨w_3_5, (Nat.le_of_ble_eq_true rfl), (Nat.le_of_ble_eq_true rfl), w_1_5, ⟨by decide, by decide⟩, by decide +kernel⟩ (rfl : vwCl[6]? = some (R_Q, F_Q, 3)) w_3_2 w_3_4 w_p7 rfl,
  List.forall_mem_cons.mpr ⟨so_iload d_Q_addStore_89 rfl,
  List.forall_mem_cons.mpr ⟨so_iconst (by decide) d_Q_addStore_91 rfl,
  List.forall_mem_cons.mpr ⟨so_icmp_ne d_Q_addStore_92 (by decide) rfl,
  List.forall_mem_cons.mpr ⟨so_aload_n d_Q_addStore_95 rfl rfl,
  List.forall_mem_cons.mpr ⟨so_iload_n d_Q_addStore_96 rfl rfl,
  fun _ h => absurd h List.not_mem_nil⟩⟩⟩⟩⟩⟩⟩⟩⟩⟩⟩⟩⟩⟩⟩⟩
def cd_Q_addStore_3 : Nat → g_T := g_tab [(97, tr_cV J_Q_addWord 6 1 100), (100, tr_ald 0 101), (101, tr_get 6 1 104), (104, tr_get 4 1 107), (107, tr_ild 1 108), (108, tr_cV J_L_goTo 1 1 111), (111, tr_ald 0 112), (112, tr_get 6 1 115), (115, tr_get 4 2 118), (118, tr_ild 2 119), (119, tr_cV J_V_use 3 1 122), (122, tr_rv)]
set_option maxRecDepth 100000 in
theorem ok_Q_addStore_3 : ∀ pc, g_S (J_Q_addStore) pc (cd_Q_addStore_3 pc) := g_tab_ok <|
  List.forall_mem_cons.mpr ⟨so_cV g_good d_Q_addStore_97 ⟨w_2_210, (Nat.le_of_ble_eq_true rfl), (Nat.le_of_ble_eq_true rfl), w_1_5, ⟨by decide, by decide⟩, by decide +kernel⟩ (rfl : vwCl[6]? = some (R_Q, F_Q, 3)) w_2_207 w_2_209 w_p3 rfl,
  List.forall_mem_cons.mpr ⟨so_aload_n d_Q_addStore_100 rfl rfl,
  List.forall_mem_cons.mpr ⟨so_get d_Q_addStore_101 (rfl : vwCl[6]? = some (R_Q, F_Q, 3)) (Nat.le_of_ble_eq_true rfl) i_Q w_1_138 rfl,
  List.forall_mem_cons.mpr ⟨so_getN d_Q_addStore_104 (rfl : vwCl[4]? = some (R_M, F_M, 5)) (Nat.le_of_ble_eq_true rfl) i_M w_1_115 rfl,
  List.forall_mem_cons.mpr ⟨so_iload_n d_Q_addStore_107 rfl rfl,
  List.forall_mem_cons.mpr ⟨so_cV g_good d_Q_addStore_108 ⟨w_3_22, (Nat.le_of_ble_eq_true rfl), (Nat.le_of_ble_eq_true rfl), w_1_7, ⟨by decide, by decide⟩, by decide +kernel⟩ (rfl : vwCl[1]? = some (R_L, F_L, 2)) w_3_19 w_3_20 w_3_21 rfl,
  List.forall_mem_cons.mpr ⟨so_aload_n d_Q_addStore_111 rfl rfl,
  List.forall_mem_cons.mpr ⟨so_get d_Q_addStore_112 (rfl : vwCl[6]? = some (R_Q, F_Q, 3)) (Nat.le_of_ble_eq_true rfl) i_Q w_1_138 rfl,
  List.forall_mem_cons.mpr ⟨so_getN d_Q_addStore_115 (rfl : vwCl[4]? = some (R_M, F_M, 5)) (Nat.le_of_ble_eq_true rfl) i_M w_1_118 rfl,
  List.forall_mem_cons.mpr ⟨so_iload_n d_Q_addStore_118 rfl rfl,
  List.forall_mem_cons.mpr ⟨so_cV g_good d_Q_addStore_119 ⟨w_3_36, (Nat.le_of_ble_eq_true rfl), (Nat.le_of_ble_eq_true rfl), w_1_8, ⟨by decide, by decide⟩, by decide +kernel⟩ (rfl : vwCl[3]? = some (R_V, F_V, 1)) w_3_33 w_3_34 w_3_35 rfl,
  List.forall_mem_cons.mpr ⟨so_vret d_Q_addStore_122 rfl,
  fun _ h => absurd h List.not_mem_nil⟩⟩⟩⟩⟩⟩⟩⟩⟩⟩⟩⟩
def cd_Q_addStore : Nat → g_T := g_chk [(31, cd_Q_addStore_0), (63, cd_Q_addStore_1), (96, cd_Q_addStore_2), (122, cd_Q_addStore_3)]
theorem ok_Q_addStore : ∀ pc, g_S (J_Q_addStore) pc (cd_Q_addStore pc) := g_chk_ok <|
  List.forall_mem_cons.mpr ⟨ok_Q_addStore_0,
  List.forall_mem_cons.mpr ⟨ok_Q_addStore_1,
  List.forall_mem_cons.mpr ⟨ok_Q_addStore_2,
  List.forall_mem_cons.mpr ⟨ok_Q_addStore_3,
  fun _ h => absurd h List.not_mem_nil⟩⟩⟩⟩
abbrev J_Q_addRow : g_J := (y_Q_addRow, prog_7_method_6_code, 4, none, (3, 71), [], none)
theorem d_Q_addRow_0 : decode prog_7_method_6_code 0 = .ok (.iload_n 1, 1) := by decide +kernel
theorem d_Q_addRow_1 : decode prog_7_method_6_code 1 = .ok (.tableswitch 96 0 3 #[31, 46, 79, 87], 31) := by decide +kernel
theorem d_Q_addRow_32 : decode prog_7_method_6_code 32 = .ok (.aload_n 0, 1) := by decide +kernel
theorem d_Q_addRow_33 : decode prog_7_method_6_code 33 = .ok (.aload_n 0, 1) := by decide +kernel
theorem d_Q_addRow_34 : decode prog_7_method_6_code 34 = .ok (.getfield 27, 3) := by decide +kernel
theorem d_Q_addRow_37 : decode prog_7_method_6_code 37 = .ok (.iconst 2, 1) := by decide +kernel
theorem d_Q_addRow_38 : decode prog_7_method_6_code 38 = .ok (.imul, 1) := by decide +kernel
theorem d_Q_addRow_39 : decode prog_7_method_6_code 39 = .ok (.iload_n 2, 1) := by decide +kernel
theorem d_Q_addRow_40 : decode prog_7_method_6_code 40 = .ok (.iadd, 1) := by decide +kernel
theorem d_Q_addRow_41 : decode prog_7_method_6_code 41 = .ok (.putfield 27, 3) := by decide +kernel
theorem d_Q_addRow_44 : decode prog_7_method_6_code 44 = .ok (.goto 81, 3) := by decide +kernel
theorem d_Q_addRow_47 : decode prog_7_method_6_code 47 = .ok (.aload_n 0, 1) := by decide +kernel
theorem d_Q_addRow_48 : decode prog_7_method_6_code 48 = .ok (.iconst 1, 1) := by decide +kernel
theorem d_Q_addRow_49 : decode prog_7_method_6_code 49 = .ok (.iconst 0, 1) := by decide +kernel
theorem d_Q_addRow_50 : decode prog_7_method_6_code 50 = .ok (.invokevirtual 87, 3) := by decide +kernel
theorem d_Q_addRow_53 : decode prog_7_method_6_code 53 = .ok (.aload_n 0, 1) := by decide +kernel
theorem d_Q_addRow_54 : decode prog_7_method_6_code 54 = .ok (.iload_n 2, 1) := by decide +kernel
theorem d_Q_addRow_55 : decode prog_7_method_6_code 55 = .ok (.aload_n 0, 1) := by decide +kernel
theorem d_Q_addRow_56 : decode prog_7_method_6_code 56 = .ok (.getfield 23, 3) := by decide +kernel
theorem d_Q_addRow_59 : decode prog_7_method_6_code 59 = .ok (.getfield 91, 3) := by decide +kernel
theorem d_Q_addRow_62 : decode prog_7_method_6_code 62 = .ok (.isub, 1) := by decide +kernel
theorem d_Q_addRow_63 : decode prog_7_method_6_code 63 = .ok (.invokestatic 94, 3) := by decide +kernel
theorem d_Q_addRow_66 : decode prog_7_method_6_code 66 = .ok (.invokevirtual 98, 3) := by decide +kernel
theorem d_Q_addRow_69 : decode prog_7_method_6_code 69 = .ok (.aload_n 0, 1) := by decide +kernel
theorem d_Q_addRow_70 : decode prog_7_method_6_code 70 = .ok (.getfield 23, 3) := by decide +kernel
theorem d_Q_addRow_73 : decode prog_7_method_6_code 73 = .ok (.iload_n 2, 1) := by decide +kernel
theorem d_Q_addRow_74 : decode prog_7_method_6_code 74 = .ok (.putfield 91, 3) := by decide +kernel
theorem d_Q_addRow_77 : decode prog_7_method_6_code 77 = .ok (.goto 48, 3) := by decide +kernel
theorem d_Q_addRow_80 : decode prog_7_method_6_code 80 = .ok (.aload_n 0, 1) := by decide +kernel
theorem d_Q_addRow_81 : decode prog_7_method_6_code 81 = .ok (.iload_n 2, 1) := by decide +kernel
theorem d_Q_addRow_82 : decode prog_7_method_6_code 82 = .ok (.invokevirtual 102, 3) := by decide +kernel
theorem d_Q_addRow_85 : decode prog_7_method_6_code 85 = .ok (.goto 40, 3) := by decide +kernel
theorem d_Q_addRow_88 : decode prog_7_method_6_code 88 = .ok (.aload_n 0, 1) := by decide +kernel
theorem d_Q_addRow_89 : decode prog_7_method_6_code 89 = .ok (.iload_n 2, 1) := by decide +kernel
theorem d_Q_addRow_90 : decode prog_7_method_6_code 90 = .ok (.iload_n 3, 1) := by decide +kernel
theorem d_Q_addRow_91 : decode prog_7_method_6_code 91 = .ok (.invokevirtual 105, 3) := by decide +kernel
theorem d_Q_addRow_94 : decode prog_7_method_6_code 94 = .ok (.goto 31, 3) := by decide +kernel
theorem d_Q_addRow_97 : decode prog_7_method_6_code 97 = .ok (.aload_n 0, 1) := by decide +kernel
theorem d_Q_addRow_98 : decode prog_7_method_6_code 98 = .ok (.iconst 4, 1) := by decide +kernel
theorem d_Q_addRow_99 : decode prog_7_method_6_code 99 = .ok (.iconst 0, 1) := by decide +kernel
theorem d_Q_addRow_100 : decode prog_7_method_6_code 100 = .ok (.invokevirtual 87, 3) := by decide +kernel
theorem d_Q_addRow_103 : decode prog_7_method_6_code 103 = .ok (.aload_n 0, 1) := by decide +kernel
theorem d_Q_addRow_104 : decode prog_7_method_6_code 104 = .ok (.iload_n 2, 1) := by decide +kernel
theorem d_Q_addRow_105 : decode prog_7_method_6_code 105 = .ok (.aload_n 0, 1) := by decide +kernel
theorem d_Q_addRow_106 : decode prog_7_method_6_code 106 = .ok (.getfield 23, 3) := by decide +kernel
theorem d_Q_addRow_109 : decode prog_7_method_6_code 109 = .ok (.getfield 108, 3) := by decide +kernel
theorem d_Q_addRow_112 : decode prog_7_method_6_code 112 = .ok (.isub, 1) := by decide +kernel
theorem d_Q_addRow_113 : decode prog_7_method_6_code 113 = .ok (.i2l, 1) := by decide +kernel
theorem d_Q_addRow_114 : decode prog_7_method_6_code 114 = .ok (.invokevirtual 98, 3) := by decide +kernel
theorem d_Q_addRow_117 : decode prog_7_method_6_code 117 = .ok (.aload_n 0, 1) := by decide +kernel
theorem d_Q_addRow_118 : decode prog_7_method_6_code 118 = .ok (.getfield 23, 3) := by decide +kernel
theorem d_Q_addRow_121 : decode prog_7_method_6_code 121 = .ok (.iload_n 2, 1) := by decide +kernel
theorem d_Q_addRow_122 : decode prog_7_method_6_code 122 = .ok (.putfield 108, 3) := by decide +kernel
theorem d_Q_addRow_125 : decode prog_7_method_6_code 125 = .ok (.return_, 1) := by decide +kernel
def cd_Q_addRow_0 : Nat → g_T := g_tab [(0, tr_ild 1 1), (1, tr_sw [(0, 32), (1, 47), (2, 80), (3, 88)] 97), (32, tr_ald 0 33), (33, tr_ald 0 34), (34, tr_get 6 2 37), (37, tr_cst (.int (2)) 38), (38, tr_ii (fun x y => x * y) 39), (39, tr_ild 2 40), (40, tr_ii (fun x y => x + y) 41), (41, tr_put 6 2 (.int) 44), (44, tr_goto 125), (47, tr_ald 0 48), (48, tr_cst (.int (1)) 49), (49, tr_cst (.int (0)) 50), (50, tr_cV J_Q_addKind 6 2 53), (53, tr_ald 0 54)]
set_option maxRecDepth 100000 in
theorem ok_Q_addRow_0 : ∀ pc, g_S (J_Q_addRow) pc (cd_Q_addRow_0 pc) := g_tab_ok <|
  List.forall_mem_cons.mpr ⟨so_iload_n d_Q_addRow_0 rfl rfl,
  List.forall_mem_cons.mpr ⟨so_tsw d_Q_addRow_1 (by decide) (by decide) (by decide) (by decide),
  List.forall_mem_cons.mpr ⟨so_aload_n d_Q_addRow_32 rfl rfl,
  List.forall_mem_cons.mpr ⟨so_aload_n d_Q_addRow_33 rfl rfl,
  List.forall_mem_cons.mpr ⟨so_get d_Q_addRow_34 (rfl : vwCl[6]? = some (R_Q, F_Q, 3)) (Nat.le_of_ble_eq_true rfl) i_Q w_1_139 rfl,
  List.forall_mem_cons.mpr ⟨so_iconst (by decide) d_Q_addRow_37 rfl,
  List.forall_mem_cons.mpr ⟨so_imul d_Q_addRow_38 rfl,
  List.forall_mem_cons.mpr ⟨so_iload_n d_Q_addRow_39 rfl rfl,
  List.forall_mem_cons.mpr ⟨so_iadd d_Q_addRow_40 rfl,
  List.forall_mem_cons.mpr ⟨so_put ft_Q d_Q_addRow_41 (rfl : vwCl[6]? = some (R_Q, F_Q, 3)) (Nat.le_of_ble_eq_true rfl) i_Q w_1_139 tk_Q n_Q rfl rfl rfl,
  List.forall_mem_cons.mpr ⟨so_goto d_Q_addRow_44 (by decide),
  List.forall_mem_cons.mpr ⟨so_aload_n d_Q_addRow_47 rfl rfl,
  List.forall_mem_cons.mpr ⟨so_iconst (by decide) d_Q_addRow_48 rfl,
  List.forall_mem_cons.mpr ⟨so_iconst (by decide) d_Q_addRow_49 rfl,
  List.forall_mem_cons.mpr ⟨so_cV g_good d_Q_addRow_50 ⟨w_2_224, (Nat.le_of_ble_eq_true rfl), (Nat.le_of_ble_eq_true rfl), w_1_5, ⟨by decide, by decide⟩, by decide +kernel⟩ (rfl : vwCl[6]? = some (R_Q, F_Q, 3)) w_2_221 w_2_223 w_p5 rfl,
  List.forall_mem_cons.mpr ⟨so_aload_n d_Q_addRow_53 rfl rfl,
  fun _ h => absurd h List.not_mem_nil⟩⟩⟩⟩⟩⟩⟩⟩⟩⟩⟩⟩⟩⟩⟩⟩
def cd_Q_addRow_1 : Nat → g_T := g_tab [(54, tr_ild 2 55), (55, tr_ald 0 56), (56, tr_get 6 1 59), (59, tr_get 4 3 62), (62, tr_ii (fun x y => x - y) 63), (63, tr_cS J_T_numberOf 1 66), (66, tr_cV J_Q_addNumber 6 1 69), (69, tr_ald 0 70), (70, tr_get 6 1 73), (73, tr_ild 2 74), (74, tr_put 4 3 (.int) 77), (77, tr_goto 125), (80, tr_ald 0 81), (81, tr_ild 2 82), (82, tr_cV J_Q_addLoad 6 1 85), (85, tr_goto 125)]
set_option maxRecDepth 100000 in
theorem ok_Q_addRow_1 : ∀ pc, g_S (J_Q_addRow) pc (cd_Q_addRow_1 pc) := g_tab_ok <|
  List.forall_mem_cons.mpr ⟨so_iload_n d_Q_addRow_54 rfl rfl,
  List.forall_mem_cons.mpr ⟨so_aload_n d_Q_addRow_55 rfl rfl,
  List.forall_mem_cons.mpr ⟨so_get d_Q_addRow_56 (rfl : vwCl[6]? = some (R_Q, F_Q, 3)) (Nat.le_of_ble_eq_true rfl) i_Q w_1_138 rfl,
  List.forall_mem_cons.mpr ⟨so_getN d_Q_addRow_59 (rfl : vwCl[4]? = some (R_M, F_M, 5)) (Nat.le_of_ble_eq_true rfl) i_M w_1_121 rfl,
  List.forall_mem_cons.mpr ⟨so_isub d_Q_addRow_62 rfl,
  List.forall_mem_cons.mpr ⟨so_cSN g_good d_Q_addRow_63 ⟨w_2_239, (Nat.le_of_ble_eq_true rfl), (Nat.le_of_ble_eq_true rfl), w_1_1, ⟨by decide, by decide⟩, by decide +kernel⟩ w_2_237 w_2_238 rfl,
  List.forall_mem_cons.mpr ⟨so_cV g_good d_Q_addRow_66 ⟨w_3_5, (Nat.le_of_ble_eq_true rfl), (Nat.le_of_ble_eq_true rfl), w_1_5, ⟨by decide, by decide⟩, by decide +kernel⟩ (rfl : vwCl[6]? = some (R_Q, F_Q, 3)) w_3_2 w_3_4 w_p7 rfl,
  List.forall_mem_cons.mpr ⟨so_aload_n d_Q_addRow_69 rfl rfl,
  List.forall_mem_cons.mpr ⟨so_get d_Q_addRow_70 (rfl : vwCl[6]? = some (R_Q, F_Q, 3)) (Nat.le_of_ble_eq_true rfl) i_Q w_1_138 rfl,
  List.forall_mem_cons.mpr ⟨so_iload_n d_Q_addRow_73 rfl rfl,
  List.forall_mem_cons.mpr ⟨so_putN ft_M d_Q_addRow_74 (rfl : vwCl[4]? = some (R_M, F_M, 5)) (Nat.le_of_ble_eq_true rfl) i_M w_1_121 tk_M n_M rfl rfl rfl,
  List.forall_mem_cons.mpr ⟨so_goto d_Q_addRow_77 (by decide),
  List.forall_mem_cons.mpr ⟨so_aload_n d_Q_addRow_80 rfl rfl,
  List.forall_mem_cons.mpr ⟨so_iload_n d_Q_addRow_81 rfl rfl,
  List.forall_mem_cons.mpr ⟨so_cV g_good d_Q_addRow_82 ⟨w_3_10, (Nat.le_of_ble_eq_true rfl), (Nat.le_of_ble_eq_true rfl), w_1_5, ⟨by decide, by decide⟩, by decide +kernel⟩ (rfl : vwCl[6]? = some (R_Q, F_Q, 3)) w_3_7 w_3_9 w_p8 rfl,
  List.forall_mem_cons.mpr ⟨so_goto d_Q_addRow_85 (by decide),
  fun _ h => absurd h List.not_mem_nil⟩⟩⟩⟩⟩⟩⟩⟩⟩⟩⟩⟩⟩⟩⟩⟩
def cd_Q_addRow_2 : Nat → g_T := g_tab [(88, tr_ald 0 89), (89, tr_ild 2 90), (90, tr_ild 3 91), (91, tr_cV J_Q_addStore 6 2 94), (94, tr_goto 125), (97, tr_ald 0 98), (98, tr_cst (.int (4)) 99), (99, tr_cst (.int (0)) 100), (100, tr_cV J_Q_addKind 6 2 103), (103, tr_ald 0 104), (104, tr_ild 2 105), (105, tr_ald 0 106), (106, tr_get 6 1 109), (109, tr_get 4 4 112), (112, tr_ii (fun x y => x - y) 113), (113, tr_i2l 114)]
set_option maxRecDepth 100000 in
theorem ok_Q_addRow_2 : ∀ pc, g_S (J_Q_addRow) pc (cd_Q_addRow_2 pc) := g_tab_ok <|
  List.forall_mem_cons.mpr ⟨so_aload_n d_Q_addRow_88 rfl rfl,
  List.forall_mem_cons.mpr ⟨so_iload_n d_Q_addRow_89 rfl rfl,
  List.forall_mem_cons.mpr ⟨so_iload_n d_Q_addRow_90 rfl rfl,
  List.forall_mem_cons.mpr ⟨so_cV g_good d_Q_addRow_91 ⟨w_3_26, (Nat.le_of_ble_eq_true rfl), (Nat.le_of_ble_eq_true rfl), w_1_5, ⟨by decide, by decide⟩, by decide +kernel⟩ (rfl : vwCl[6]? = some (R_Q, F_Q, 3)) w_3_23 w_3_25 w_p9 rfl,
  List.forall_mem_cons.mpr ⟨so_goto d_Q_addRow_94 (by decide),
  List.forall_mem_cons.mpr ⟨so_aload_n d_Q_addRow_97 rfl rfl,
  List.forall_mem_cons.mpr ⟨so_iconst (by decide) d_Q_addRow_98 rfl,
  List.forall_mem_cons.mpr ⟨so_iconst (by decide) d_Q_addRow_99 rfl,
  List.forall_mem_cons.mpr ⟨so_cV g_good d_Q_addRow_100 ⟨w_2_224, (Nat.le_of_ble_eq_true rfl), (Nat.le_of_ble_eq_true rfl), w_1_5, ⟨by decide, by decide⟩, by decide +kernel⟩ (rfl : vwCl[6]? = some (R_Q, F_Q, 3)) w_2_221 w_2_223 w_p5 rfl,
  List.forall_mem_cons.mpr ⟨so_aload_n d_Q_addRow_103 rfl rfl,
  List.forall_mem_cons.mpr ⟨so_iload_n d_Q_addRow_104 rfl rfl,
  List.forall_mem_cons.mpr ⟨so_aload_n d_Q_addRow_105 rfl rfl,
  List.forall_mem_cons.mpr ⟨so_get d_Q_addRow_106 (rfl : vwCl[6]? = some (R_Q, F_Q, 3)) (Nat.le_of_ble_eq_true rfl) i_Q w_1_138 rfl,
  List.forall_mem_cons.mpr ⟨so_getN d_Q_addRow_109 (rfl : vwCl[4]? = some (R_M, F_M, 5)) (Nat.le_of_ble_eq_true rfl) i_M w_1_124 rfl,
  List.forall_mem_cons.mpr ⟨so_isub d_Q_addRow_112 rfl,
  List.forall_mem_cons.mpr ⟨so_i2l d_Q_addRow_113 rfl,
  fun _ h => absurd h List.not_mem_nil⟩⟩⟩⟩⟩⟩⟩⟩⟩⟩⟩⟩⟩⟩⟩⟩
def cd_Q_addRow_3 : Nat → g_T := g_tab [(114, tr_cV J_Q_addNumber 6 1 117), (117, tr_ald 0 118), (118, tr_get 6 1 121), (121, tr_ild 2 122), (122, tr_put 4 4 (.int) 125), (125, tr_rv)]
set_option maxRecDepth 100000 in
theorem ok_Q_addRow_3 : ∀ pc, g_S (J_Q_addRow) pc (cd_Q_addRow_3 pc) := g_tab_ok <|
  List.forall_mem_cons.mpr ⟨so_cV g_good d_Q_addRow_114 ⟨w_3_5, (Nat.le_of_ble_eq_true rfl), (Nat.le_of_ble_eq_true rfl), w_1_5, ⟨by decide, by decide⟩, by decide +kernel⟩ (rfl : vwCl[6]? = some (R_Q, F_Q, 3)) w_3_2 w_3_4 w_p7 rfl,
  List.forall_mem_cons.mpr ⟨so_aload_n d_Q_addRow_117 rfl rfl,
  List.forall_mem_cons.mpr ⟨so_get d_Q_addRow_118 (rfl : vwCl[6]? = some (R_Q, F_Q, 3)) (Nat.le_of_ble_eq_true rfl) i_Q w_1_138 rfl,
  List.forall_mem_cons.mpr ⟨so_iload_n d_Q_addRow_121 rfl rfl,
  List.forall_mem_cons.mpr ⟨so_putN ft_M d_Q_addRow_122 (rfl : vwCl[4]? = some (R_M, F_M, 5)) (Nat.le_of_ble_eq_true rfl) i_M w_1_124 tk_M n_M rfl rfl rfl,
  List.forall_mem_cons.mpr ⟨so_vret d_Q_addRow_125 rfl,
  fun _ h => absurd h List.not_mem_nil⟩⟩⟩⟩⟩⟩
def cd_Q_addRow : Nat → g_T := g_chk [(53, cd_Q_addRow_0), (85, cd_Q_addRow_1), (113, cd_Q_addRow_2), (125, cd_Q_addRow_3)]
theorem ok_Q_addRow : ∀ pc, g_S (J_Q_addRow) pc (cd_Q_addRow pc) := g_chk_ok <|
  List.forall_mem_cons.mpr ⟨ok_Q_addRow_0,
  List.forall_mem_cons.mpr ⟨ok_Q_addRow_1,
  List.forall_mem_cons.mpr ⟨ok_Q_addRow_2,
  List.forall_mem_cons.mpr ⟨ok_Q_addRow_3,
  fun _ h => absurd h List.not_mem_nil⟩⟩⟩⟩
abbrev J_T_sumOf : g_J := (y_T_sumOf, prog_1_method_16_code, 5, (some .int), (1, 21), [], none)
theorem d_T_sumOf_0 : decode prog_1_method_16_code 0 = .ok (.iconst 0, 1) := by decide +kernel
theorem d_T_sumOf_1 : decode prog_1_method_16_code 1 = .ok (.istore_n 2, 1) := by decide +kernel
theorem d_T_sumOf_2 : decode prog_1_method_16_code 2 = .ok (.iconst 0, 1) := by decide +kernel
theorem d_T_sumOf_3 : decode prog_1_method_16_code 3 = .ok (.istore_n 3, 1) := by decide +kernel
theorem d_T_sumOf_4 : decode prog_1_method_16_code 4 = .ok (.iconst 0, 1) := by decide +kernel
theorem d_T_sumOf_5 : decode prog_1_method_16_code 5 = .ok (.istore 4, 2) := by decide +kernel
theorem d_T_sumOf_7 : decode prog_1_method_16_code 7 = .ok (.iload 4, 2) := by decide +kernel
theorem d_T_sumOf_9 : decode prog_1_method_16_code 9 = .ok (.iload_n 1, 1) := by decide +kernel
theorem d_T_sumOf_10 : decode prog_1_method_16_code 10 = .ok (.if_icmp .ge 30, 3) := by decide +kernel
theorem d_T_sumOf_13 : decode prog_1_method_16_code 13 = .ok (.iload_n 2, 1) := by decide +kernel
theorem d_T_sumOf_14 : decode prog_1_method_16_code 14 = .ok (.aload_n 0, 1) := by decide +kernel
theorem d_T_sumOf_15 : decode prog_1_method_16_code 15 = .ok (.iload 4, 2) := by decide +kernel
theorem d_T_sumOf_17 : decode prog_1_method_16_code 17 = .ok (.invokevirtual 85, 3) := by decide +kernel
theorem d_T_sumOf_20 : decode prog_1_method_16_code 20 = .ok (.iadd, 1) := by decide +kernel
theorem d_T_sumOf_21 : decode prog_1_method_16_code 21 = .ok (.sipush 255, 3) := by decide +kernel
theorem d_T_sumOf_24 : decode prog_1_method_16_code 24 = .ok (.irem, 1) := by decide +kernel
theorem d_T_sumOf_25 : decode prog_1_method_16_code 25 = .ok (.istore_n 2, 1) := by decide +kernel
theorem d_T_sumOf_26 : decode prog_1_method_16_code 26 = .ok (.iload_n 3, 1) := by decide +kernel
theorem d_T_sumOf_27 : decode prog_1_method_16_code 27 = .ok (.iload_n 2, 1) := by decide +kernel
theorem d_T_sumOf_28 : decode prog_1_method_16_code 28 = .ok (.iadd, 1) := by decide +kernel
theorem d_T_sumOf_29 : decode prog_1_method_16_code 29 = .ok (.sipush 255, 3) := by decide +kernel
theorem d_T_sumOf_32 : decode prog_1_method_16_code 32 = .ok (.irem, 1) := by decide +kernel
theorem d_T_sumOf_33 : decode prog_1_method_16_code 33 = .ok (.istore_n 3, 1) := by decide +kernel
theorem d_T_sumOf_34 : decode prog_1_method_16_code 34 = .ok (.iinc 4 1, 3) := by decide +kernel
theorem d_T_sumOf_37 : decode prog_1_method_16_code 37 = .ok (.goto (-30), 3) := by decide +kernel
theorem d_T_sumOf_40 : decode prog_1_method_16_code 40 = .ok (.iload_n 2, 1) := by decide +kernel
theorem d_T_sumOf_41 : decode prog_1_method_16_code 41 = .ok (.bipush 8, 2) := by decide +kernel
theorem d_T_sumOf_43 : decode prog_1_method_16_code 43 = .ok (.ishl, 1) := by decide +kernel
theorem d_T_sumOf_44 : decode prog_1_method_16_code 44 = .ok (.iload_n 3, 1) := by decide +kernel
theorem d_T_sumOf_45 : decode prog_1_method_16_code 45 = .ok (.iadd, 1) := by decide +kernel
theorem d_T_sumOf_46 : decode prog_1_method_16_code 46 = .ok (.ireturn, 1) := by decide +kernel
def cd_T_sumOf_0 : Nat → g_T := g_tab [(0, tr_cst (.int (0)) 1), (1, tr_ist 2 2), (2, tr_cst (.int (0)) 3), (3, tr_ist 3 4), (4, tr_cst (.int (0)) 5), (5, tr_ist 4 7), (7, tr_ild 4 9), (9, tr_ild 1 10), (10, tr_if2 (fun x y => y ≤ x) 40 13), (13, tr_ild 2 14), (14, tr_ald 0 15), (15, tr_ild 4 17), (17, tr_cV J_I_at 0 1 20), (20, tr_ii (fun x y => x + y) 21), (21, tr_cst (.int (255)) 24), (24, tr_iz (fun x y => x - x / y * y) 25)]
set_option maxRecDepth 100000 in
theorem ok_T_sumOf_0 : ∀ pc, g_S (J_T_sumOf) pc (cd_T_sumOf_0 pc) := g_tab_ok <|
  List.forall_mem_cons.mpr ⟨so_iconst (by decide) d_T_sumOf_0 rfl,
  List.forall_mem_cons.mpr ⟨so_istore_n d_T_sumOf_1 rfl (Nat.le_of_ble_eq_true rfl) rfl,
  List.forall_mem_cons.mpr ⟨so_iconst (by decide) d_T_sumOf_2 rfl,
  List.forall_mem_cons.mpr ⟨so_istore_n d_T_sumOf_3 rfl (Nat.le_of_ble_eq_true rfl) rfl,
  List.forall_mem_cons.mpr ⟨so_iconst (by decide) d_T_sumOf_4 rfl,
  List.forall_mem_cons.mpr ⟨so_istore d_T_sumOf_5 (Nat.le_of_ble_eq_true rfl) rfl,
  List.forall_mem_cons.mpr ⟨so_iload d_T_sumOf_7 rfl,
  List.forall_mem_cons.mpr ⟨so_iload_n d_T_sumOf_9 rfl rfl,
  List.forall_mem_cons.mpr ⟨so_icmp_ge d_T_sumOf_10 (by decide) rfl,
  List.forall_mem_cons.mpr ⟨so_iload_n d_T_sumOf_13 rfl rfl,
  List.forall_mem_cons.mpr ⟨so_aload_n d_T_sumOf_14 rfl rfl,
  List.forall_mem_cons.mpr ⟨so_iload d_T_sumOf_15 rfl,
  List.forall_mem_cons.mpr ⟨so_cV g_good d_T_sumOf_17 ⟨w_2_151, (Nat.le_of_ble_eq_true rfl), (Nat.le_of_ble_eq_true rfl), w_1_2, ⟨by decide, by decide⟩, by decide +kernel⟩ (rfl : vwCl[0]? = some (R_I, F_I, 2)) w_2_148 w_2_149 w_2_150 rfl,
  List.forall_mem_cons.mpr ⟨so_iadd d_T_sumOf_20 rfl,
  List.forall_mem_cons.mpr ⟨so_sipush (by decide) d_T_sumOf_21 rfl,
  List.forall_mem_cons.mpr ⟨so_irem d_T_sumOf_24 rfl,
  fun _ h => absurd h List.not_mem_nil⟩⟩⟩⟩⟩⟩⟩⟩⟩⟩⟩⟩⟩⟩⟩⟩
def cd_T_sumOf_1 : Nat → g_T := g_tab [(25, tr_ist 2 26), (26, tr_ild 3 27), (27, tr_ild 2 28), (28, tr_ii (fun x y => x + y) 29), (29, tr_cst (.int (255)) 32), (32, tr_iz (fun x y => x - x / y * y) 33), (33, tr_ist 3 34), (34, tr_inc 4 (1) 37), (37, tr_goto 7), (40, tr_ild 2 41), (41, tr_cst (.int (8)) 43), (43, tr_ii (fun x y => x <<< (y &&& 31)) 44), (44, tr_ild 3 45), (45, tr_ii (fun x y => x + y) 46), (46, tr_ri)]
set_option maxRecDepth 100000 in
theorem ok_T_sumOf_1 : ∀ pc, g_S (J_T_sumOf) pc (cd_T_sumOf_1 pc) := g_tab_ok <|
  List.forall_mem_cons.mpr ⟨so_istore_n d_T_sumOf_25 rfl (Nat.le_of_ble_eq_true rfl) rfl,
  List.forall_mem_cons.mpr ⟨so_iload_n d_T_sumOf_26 rfl rfl,
  List.forall_mem_cons.mpr ⟨so_iload_n d_T_sumOf_27 rfl rfl,
  List.forall_mem_cons.mpr ⟨so_iadd d_T_sumOf_28 rfl,
  List.forall_mem_cons.mpr ⟨so_sipush (by decide) d_T_sumOf_29 rfl,
  List.forall_mem_cons.mpr ⟨so_irem d_T_sumOf_32 rfl,
  List.forall_mem_cons.mpr ⟨so_istore_n d_T_sumOf_33 rfl (Nat.le_of_ble_eq_true rfl) rfl,
  List.forall_mem_cons.mpr ⟨so_iinc d_T_sumOf_34 (by decide) (Nat.le_of_ble_eq_true rfl) rfl,
  List.forall_mem_cons.mpr ⟨so_goto d_T_sumOf_37 (by decide),
  List.forall_mem_cons.mpr ⟨so_iload_n d_T_sumOf_40 rfl rfl,
  List.forall_mem_cons.mpr ⟨so_bipush (by decide) d_T_sumOf_41 rfl,
  List.forall_mem_cons.mpr ⟨so_ishl d_T_sumOf_43 rfl,
  List.forall_mem_cons.mpr ⟨so_iload_n d_T_sumOf_44 rfl rfl,
  List.forall_mem_cons.mpr ⟨so_iadd d_T_sumOf_45 rfl,
  List.forall_mem_cons.mpr ⟨so_iret d_T_sumOf_46 rfl,
  fun _ h => absurd h List.not_mem_nil⟩⟩⟩⟩⟩⟩⟩⟩⟩⟩⟩⟩⟩⟩⟩
def cd_T_sumOf : Nat → g_T := g_chk [(24, cd_T_sumOf_0), (46, cd_T_sumOf_1)]
theorem ok_T_sumOf : ∀ pc, g_S (J_T_sumOf) pc (cd_T_sumOf pc) := g_chk_ok <|
  List.forall_mem_cons.mpr ⟨ok_T_sumOf_0,
  List.forall_mem_cons.mpr ⟨ok_T_sumOf_1,
  fun _ h => absurd h List.not_mem_nil⟩⟩
abbrev J_Q_fill : g_J := (y_Q_fill, prog_7_method_2_code, 3, none, (4, 94), [], none)
theorem d_Q_fill_0 : decode prog_7_method_2_code 0 = .ok (.aload_n 0, 1) := by decide +kernel
theorem d_Q_fill_1 : decode prog_7_method_2_code 1 = .ok (.getfield 14, 3) := by decide +kernel
theorem d_Q_fill_4 : decode prog_7_method_2_code 4 = .ok (.iconst 0, 1) := by decide +kernel
theorem d_Q_fill_5 : decode prog_7_method_2_code 5 = .ok (.invokevirtual 31, 3) := by decide +kernel
theorem d_Q_fill_8 : decode prog_7_method_2_code 8 = .ok (.aload_n 0, 1) := by decide +kernel
theorem d_Q_fill_9 : decode prog_7_method_2_code 9 = .ok (.getfield 23, 3) := by decide +kernel
theorem d_Q_fill_12 : decode prog_7_method_2_code 12 = .ok (.aload_n 1, 1) := by decide +kernel
theorem d_Q_fill_13 : decode prog_7_method_2_code 13 = .ok (.invokevirtual 34, 3) := by decide +kernel
theorem d_Q_fill_16 : decode prog_7_method_2_code 16 = .ok (.invokevirtual 40, 3) := by decide +kernel
theorem d_Q_fill_19 : decode prog_7_method_2_code 19 = .ok (.aload_n 0, 1) := by decide +kernel
theorem d_Q_fill_20 : decode prog_7_method_2_code 20 = .ok (.getfield 14, 3) := by decide +kernel
theorem d_Q_fill_23 : decode prog_7_method_2_code 23 = .ok (.aload_n 1, 1) := by decide +kernel
theorem d_Q_fill_24 : decode prog_7_method_2_code 24 = .ok (.invokevirtual 43, 3) := by decide +kernel
theorem d_Q_fill_27 : decode prog_7_method_2_code 27 = .ok (.invokevirtual 46, 3) := by decide +kernel
theorem d_Q_fill_30 : decode prog_7_method_2_code 30 = .ok (.pop, 1) := by decide +kernel
theorem d_Q_fill_31 : decode prog_7_method_2_code 31 = .ok (.aload_n 0, 1) := by decide +kernel
theorem d_Q_fill_32 : decode prog_7_method_2_code 32 = .ok (.aload_n 1, 1) := by decide +kernel
theorem d_Q_fill_33 : decode prog_7_method_2_code 33 = .ok (.invokevirtual 34, 3) := by decide +kernel
theorem d_Q_fill_36 : decode prog_7_method_2_code 36 = .ok (.invokevirtual 50, 3) := by decide +kernel
theorem d_Q_fill_39 : decode prog_7_method_2_code 39 = .ok (.aload_n 0, 1) := by decide +kernel
theorem d_Q_fill_40 : decode prog_7_method_2_code 40 = .ok (.getfield 14, 3) := by decide +kernel
theorem d_Q_fill_43 : decode prog_7_method_2_code 43 = .ok (.aload_n 1, 1) := by decide +kernel
theorem d_Q_fill_44 : decode prog_7_method_2_code 44 = .ok (.invokevirtual 53, 3) := by decide +kernel
theorem d_Q_fill_47 : decode prog_7_method_2_code 47 = .ok (.invokevirtual 46, 3) := by decide +kernel
theorem d_Q_fill_50 : decode prog_7_method_2_code 50 = .ok (.pop, 1) := by decide +kernel
theorem d_Q_fill_51 : decode prog_7_method_2_code 51 = .ok (.iconst 0, 1) := by decide +kernel
theorem d_Q_fill_52 : decode prog_7_method_2_code 52 = .ok (.istore_n 2, 1) := by decide +kernel
theorem d_Q_fill_53 : decode prog_7_method_2_code 53 = .ok (.iload_n 2, 1) := by decide +kernel
theorem d_Q_fill_54 : decode prog_7_method_2_code 54 = .ok (.aload_n 1, 1) := by decide +kernel
theorem d_Q_fill_55 : decode prog_7_method_2_code 55 = .ok (.invokevirtual 53, 3) := by decide +kernel
theorem d_Q_fill_58 : decode prog_7_method_2_code 58 = .ok (.if_icmp .ge 49, 3) := by decide +kernel
theorem d_Q_fill_61 : decode prog_7_method_2_code 61 = .ok (.aload_n 1, 1) := by decide +kernel
theorem d_Q_fill_62 : decode prog_7_method_2_code 62 = .ok (.iload_n 2, 1) := by decide +kernel
theorem d_Q_fill_63 : decode prog_7_method_2_code 63 = .ok (.invokevirtual 56, 3) := by decide +kernel
theorem d_Q_fill_66 : decode prog_7_method_2_code 66 = .ok (.ifCond .ne 12, 3) := by decide +kernel
theorem d_Q_fill_69 : decode prog_7_method_2_code 69 = .ok (.aload_n 0, 1) := by decide +kernel
theorem d_Q_fill_70 : decode prog_7_method_2_code 70 = .ok (.getfield 27, 3) := by decide +kernel
theorem d_Q_fill_73 : decode prog_7_method_2_code 73 = .ok (.bipush 16, 2) := by decide +kernel
theorem d_Q_fill_75 : decode prog_7_method_2_code 75 = .ok (.if_icmp .lt 7, 3) := by decide +kernel
theorem d_Q_fill_78 : decode prog_7_method_2_code 78 = .ok (.aload_n 0, 1) := by decide +kernel
theorem d_Q_fill_79 : decode prog_7_method_2_code 79 = .ok (.invokevirtual 60, 3) := by decide +kernel
theorem d_Q_fill_82 : decode prog_7_method_2_code 82 = .ok (.aload_n 0, 1) := by decide +kernel
theorem d_Q_fill_83 : decode prog_7_method_2_code 83 = .ok (.aload_n 1, 1) := by decide +kernel
theorem d_Q_fill_84 : decode prog_7_method_2_code 84 = .ok (.iload_n 2, 1) := by decide +kernel
theorem d_Q_fill_85 : decode prog_7_method_2_code 85 = .ok (.invokevirtual 56, 3) := by decide +kernel
theorem d_Q_fill_88 : decode prog_7_method_2_code 88 = .ok (.aload_n 1, 1) := by decide +kernel
theorem d_Q_fill_89 : decode prog_7_method_2_code 89 = .ok (.iload_n 2, 1) := by decide +kernel
theorem d_Q_fill_90 : decode prog_7_method_2_code 90 = .ok (.invokevirtual 63, 3) := by decide +kernel
theorem d_Q_fill_93 : decode prog_7_method_2_code 93 = .ok (.aload_n 1, 1) := by decide +kernel
theorem d_Q_fill_94 : decode prog_7_method_2_code 94 = .ok (.iload_n 2, 1) := by decide +kernel
theorem d_Q_fill_95 : decode prog_7_method_2_code 95 = .ok (.invokevirtual 66, 3) := by decide +kernel
theorem d_Q_fill_98 : decode prog_7_method_2_code 98 = .ok (.invokevirtual 69, 3) := by decide +kernel
theorem d_Q_fill_101 : decode prog_7_method_2_code 101 = .ok (.iinc 2 1, 3) := by decide +kernel
theorem d_Q_fill_104 : decode prog_7_method_2_code 104 = .ok (.goto (-51), 3) := by decide +kernel
theorem d_Q_fill_107 : decode prog_7_method_2_code 107 = .ok (.aload_n 0, 1) := by decide +kernel
theorem d_Q_fill_108 : decode prog_7_method_2_code 108 = .ok (.invokevirtual 60, 3) := by decide +kernel
theorem d_Q_fill_111 : decode prog_7_method_2_code 111 = .ok (.aload_n 0, 1) := by decide +kernel
theorem d_Q_fill_112 : decode prog_7_method_2_code 112 = .ok (.getfield 14, 3) := by decide +kernel
theorem d_Q_fill_115 : decode prog_7_method_2_code 115 = .ok (.aload_n 0, 1) := by decide +kernel
theorem d_Q_fill_116 : decode prog_7_method_2_code 116 = .ok (.getfield 14, 3) := by decide +kernel
theorem d_Q_fill_119 : decode prog_7_method_2_code 119 = .ok (.invokevirtual 73, 3) := by decide +kernel
theorem d_Q_fill_122 : decode prog_7_method_2_code 122 = .ok (.invokestatic 74, 3) := by decide +kernel
theorem d_Q_fill_125 : decode prog_7_method_2_code 125 = .ok (.istore_n 2, 1) := by decide +kernel
theorem d_Q_fill_126 : decode prog_7_method_2_code 126 = .ok (.aload_n 0, 1) := by decide +kernel
theorem d_Q_fill_127 : decode prog_7_method_2_code 127 = .ok (.getfield 14, 3) := by decide +kernel
theorem d_Q_fill_130 : decode prog_7_method_2_code 130 = .ok (.iload_n 2, 1) := by decide +kernel
theorem d_Q_fill_131 : decode prog_7_method_2_code 131 = .ok (.bipush 8, 2) := by decide +kernel
theorem d_Q_fill_133 : decode prog_7_method_2_code 133 = .ok (.ishr, 1) := by decide +kernel
theorem d_Q_fill_134 : decode prog_7_method_2_code 134 = .ok (.invokevirtual 46, 3) := by decide +kernel
theorem d_Q_fill_137 : decode prog_7_method_2_code 137 = .ok (.pop, 1) := by decide +kernel
theorem d_Q_fill_138 : decode prog_7_method_2_code 138 = .ok (.aload_n 0, 1) := by decide +kernel
theorem d_Q_fill_139 : decode prog_7_method_2_code 139 = .ok (.getfield 14, 3) := by decide +kernel
theorem d_Q_fill_142 : decode prog_7_method_2_code 142 = .ok (.iload_n 2, 1) := by decide +kernel
theorem d_Q_fill_143 : decode prog_7_method_2_code 143 = .ok (.sipush 255, 3) := by decide +kernel
theorem d_Q_fill_146 : decode prog_7_method_2_code 146 = .ok (.iand, 1) := by decide +kernel
theorem d_Q_fill_147 : decode prog_7_method_2_code 147 = .ok (.invokevirtual 46, 3) := by decide +kernel
theorem d_Q_fill_150 : decode prog_7_method_2_code 150 = .ok (.pop, 1) := by decide +kernel
theorem d_Q_fill_151 : decode prog_7_method_2_code 151 = .ok (.return_, 1) := by decide +kernel
def cd_Q_fill_0 : Nat → g_T := g_tab [(0, tr_ald 0 1), (1, tr_get 6 0 4), (4, tr_cst (.int (0)) 5), (5, tr_cV J_I_shorten 0 1 8), (8, tr_ald 0 9), (9, tr_get 6 1 12), (12, tr_ald 1 13), (13, tr_cV J_B_time 2 0 16), (16, tr_cV J_M_begin 4 1 19), (19, tr_ald 0 20), (20, tr_get 6 0 23), (23, tr_ald 1 24), (24, tr_cV J_B_owner 2 0 27), (27, tr_cV J_I_add 0 1 30), (30, tr_pop 31), (31, tr_ald 0 32)]
set_option maxRecDepth 100000 in
theorem ok_Q_fill_0 : ∀ pc, g_S (J_Q_fill) pc (cd_Q_fill_0 pc) := g_tab_ok <|
  List.forall_mem_cons.mpr ⟨so_aload_n d_Q_fill_0 rfl rfl,
  List.forall_mem_cons.mpr ⟨so_get d_Q_fill_1 (rfl : vwCl[6]? = some (R_Q, F_Q, 3)) (Nat.le_of_ble_eq_true rfl) i_Q w_1_137 rfl,
  List.forall_mem_cons.mpr ⟨so_iconst (by decide) d_Q_fill_4 rfl,
  List.forall_mem_cons.mpr ⟨so_cV g_good d_Q_fill_5 ⟨w_2_184, (Nat.le_of_ble_eq_true rfl), (Nat.le_of_ble_eq_true rfl), w_1_2, ⟨by decide, by decide⟩, by decide +kernel⟩ (rfl : vwCl[0]? = some (R_I, F_I, 2)) w_2_181 w_2_182 w_2_183 rfl,
  List.forall_mem_cons.mpr ⟨so_aload_n d_Q_fill_8 rfl rfl,
  List.forall_mem_cons.mpr ⟨so_get d_Q_fill_9 (rfl : vwCl[6]? = some (R_Q, F_Q, 3)) (Nat.le_of_ble_eq_true rfl) i_Q w_1_138 rfl,
  List.forall_mem_cons.mpr ⟨so_aload_n d_Q_fill_12 rfl rfl,
  List.forall_mem_cons.mpr ⟨so_cV g_good d_Q_fill_13 ⟨w_2_188, (Nat.le_of_ble_eq_true rfl), (Nat.le_of_ble_eq_true rfl), w_1_4, ⟨by decide, by decide⟩, by decide +kernel⟩ (rfl : vwCl[2]? = some (R_B, F_B, 5)) w_2_185 w_2_186 w_2_187 rfl,
  List.forall_mem_cons.mpr ⟨so_cV g_good d_Q_fill_16 ⟨w_2_192, (Nat.le_of_ble_eq_true rfl), (Nat.le_of_ble_eq_true rfl), w_1_6, ⟨by decide, by decide⟩, by decide +kernel⟩ (rfl : vwCl[4]? = some (R_M, F_M, 5)) w_2_189 w_2_190 w_2_191 rfl,
  List.forall_mem_cons.mpr ⟨so_aload_n d_Q_fill_19 rfl rfl,
  List.forall_mem_cons.mpr ⟨so_get d_Q_fill_20 (rfl : vwCl[6]? = some (R_Q, F_Q, 3)) (Nat.le_of_ble_eq_true rfl) i_Q w_1_137 rfl,
  List.forall_mem_cons.mpr ⟨so_aload_n d_Q_fill_23 rfl rfl,
  List.forall_mem_cons.mpr ⟨so_cV g_good d_Q_fill_24 ⟨w_2_205, (Nat.le_of_ble_eq_true rfl), (Nat.le_of_ble_eq_true rfl), w_1_4, ⟨by decide, by decide⟩, by decide +kernel⟩ (rfl : vwCl[2]? = some (R_B, F_B, 5)) w_2_202 w_2_203 w_2_204 rfl,
  List.forall_mem_cons.mpr ⟨so_cV g_good d_Q_fill_27 ⟨w_1_47, (Nat.le_of_ble_eq_true rfl), (Nat.le_of_ble_eq_true rfl), w_1_2, ⟨by decide, by decide⟩, by decide +kernel⟩ (rfl : vwCl[0]? = some (R_I, F_I, 2)) w_2_206 w_1_45 w_1_46 rfl,
  List.forall_mem_cons.mpr ⟨so_pop d_Q_fill_30 rfl,
  List.forall_mem_cons.mpr ⟨so_aload_n d_Q_fill_31 rfl rfl,
  fun _ h => absurd h List.not_mem_nil⟩⟩⟩⟩⟩⟩⟩⟩⟩⟩⟩⟩⟩⟩⟩⟩
def cd_Q_fill_1 : Nat → g_T := g_tab [(32, tr_ald 1 33), (33, tr_cV J_B_time 2 0 36), (36, tr_cV J_Q_addWord 6 1 39), (39, tr_ald 0 40), (40, tr_get 6 0 43), (43, tr_ald 1 44), (44, tr_cV J_B_size 2 0 47), (47, tr_cV J_I_add 0 1 50), (50, tr_pop 51), (51, tr_cst (.int (0)) 52), (52, tr_ist 2 53), (53, tr_ild 2 54), (54, tr_ald 1 55), (55, tr_cV J_B_size 2 0 58), (58, tr_if2 (fun x y => y ≤ x) 107 61), (61, tr_ald 1 62)]
set_option maxRecDepth 100000 in
theorem ok_Q_fill_1 : ∀ pc, g_S (J_Q_fill) pc (cd_Q_fill_1 pc) := g_tab_ok <|
  List.forall_mem_cons.mpr ⟨so_aload_n d_Q_fill_32 rfl rfl,
  List.forall_mem_cons.mpr ⟨so_cV g_good d_Q_fill_33 ⟨w_2_188, (Nat.le_of_ble_eq_true rfl), (Nat.le_of_ble_eq_true rfl), w_1_4, ⟨by decide, by decide⟩, by decide +kernel⟩ (rfl : vwCl[2]? = some (R_B, F_B, 5)) w_2_185 w_2_186 w_2_187 rfl,
  List.forall_mem_cons.mpr ⟨so_cV g_good d_Q_fill_36 ⟨w_2_210, (Nat.le_of_ble_eq_true rfl), (Nat.le_of_ble_eq_true rfl), w_1_5, ⟨by decide, by decide⟩, by decide +kernel⟩ (rfl : vwCl[6]? = some (R_Q, F_Q, 3)) w_2_207 w_2_209 w_p3 rfl,
  List.forall_mem_cons.mpr ⟨so_aload_n d_Q_fill_39 rfl rfl,
  List.forall_mem_cons.mpr ⟨so_get d_Q_fill_40 (rfl : vwCl[6]? = some (R_Q, F_Q, 3)) (Nat.le_of_ble_eq_true rfl) i_Q w_1_137 rfl,
  List.forall_mem_cons.mpr ⟨so_aload_n d_Q_fill_43 rfl rfl,
  List.forall_mem_cons.mpr ⟨so_cV g_good d_Q_fill_44 ⟨w_2_32, (Nat.le_of_ble_eq_true rfl), (Nat.le_of_ble_eq_true rfl), w_1_4, ⟨by decide, by decide⟩, by decide +kernel⟩ (rfl : vwCl[2]? = some (R_B, F_B, 5)) w_2_211 w_2_30 w_2_31 rfl,
  List.forall_mem_cons.mpr ⟨so_cV g_good d_Q_fill_47 ⟨w_1_47, (Nat.le_of_ble_eq_true rfl), (Nat.le_of_ble_eq_true rfl), w_1_2, ⟨by decide, by decide⟩, by decide +kernel⟩ (rfl : vwCl[0]? = some (R_I, F_I, 2)) w_2_206 w_1_45 w_1_46 rfl,
  List.forall_mem_cons.mpr ⟨so_pop d_Q_fill_50 rfl,
  List.forall_mem_cons.mpr ⟨so_iconst (by decide) d_Q_fill_51 rfl,
  List.forall_mem_cons.mpr ⟨so_istore_n d_Q_fill_52 rfl (Nat.le_of_ble_eq_true rfl) rfl,
  List.forall_mem_cons.mpr ⟨so_iload_n d_Q_fill_53 rfl rfl,
  List.forall_mem_cons.mpr ⟨so_aload_n d_Q_fill_54 rfl rfl,
  List.forall_mem_cons.mpr ⟨so_cV g_good d_Q_fill_55 ⟨w_2_32, (Nat.le_of_ble_eq_true rfl), (Nat.le_of_ble_eq_true rfl), w_1_4, ⟨by decide, by decide⟩, by decide +kernel⟩ (rfl : vwCl[2]? = some (R_B, F_B, 5)) w_2_211 w_2_30 w_2_31 rfl,
  List.forall_mem_cons.mpr ⟨so_icmp_ge d_Q_fill_58 (by decide) rfl,
  List.forall_mem_cons.mpr ⟨so_aload_n d_Q_fill_61 rfl rfl,
  fun _ h => absurd h List.not_mem_nil⟩⟩⟩⟩⟩⟩⟩⟩⟩⟩⟩⟩⟩⟩⟩⟩
def cd_Q_fill_2 : Nat → g_T := g_tab [(62, tr_ild 2 63), (63, tr_cV J_B_kind 2 1 66), (66, tr_if1 (fun x => ¬ x = 0) 78 69), (69, tr_ald 0 70), (70, tr_get 6 2 73), (73, tr_cst (.int (16)) 75), (75, tr_if2 (fun x y => x < y) 82 78), (78, tr_ald 0 79), (79, tr_cV J_Q_addBranches 6 0 82), (82, tr_ald 0 83), (83, tr_ald 1 84), (84, tr_ild 2 85), (85, tr_cV J_B_kind 2 1 88), (88, tr_ald 1 89), (89, tr_ild 2 90), (90, tr_cV J_B_a 2 1 93)]
set_option maxRecDepth 100000 in
theorem ok_Q_fill_2 : ∀ pc, g_S (J_Q_fill) pc (cd_Q_fill_2 pc) := g_tab_ok <|
  List.forall_mem_cons.mpr ⟨so_iload_n d_Q_fill_62 rfl rfl,
  List.forall_mem_cons.mpr ⟨so_cV g_good d_Q_fill_63 ⟨w_2_215, (Nat.le_of_ble_eq_true rfl), (Nat.le_of_ble_eq_true rfl), w_1_4, ⟨by decide, by decide⟩, by decide +kernel⟩ (rfl : vwCl[2]? = some (R_B, F_B, 5)) w_2_212 w_2_213 w_2_214 rfl,
  List.forall_mem_cons.mpr ⟨so_if_ne d_Q_fill_66 (by decide) rfl,
  List.forall_mem_cons.mpr ⟨so_aload_n d_Q_fill_69 rfl rfl,
  List.forall_mem_cons.mpr ⟨so_get d_Q_fill_70 (rfl : vwCl[6]? = some (R_Q, F_Q, 3)) (Nat.le_of_ble_eq_true rfl) i_Q w_1_139 rfl,
  List.forall_mem_cons.mpr ⟨so_bipush (by decide) d_Q_fill_73 rfl,
  List.forall_mem_cons.mpr ⟨so_icmp_lt d_Q_fill_75 (by decide) rfl,
  List.forall_mem_cons.mpr ⟨so_aload_n d_Q_fill_78 rfl rfl,
  List.forall_mem_cons.mpr ⟨so_cV g_good d_Q_fill_79 ⟨w_2_220, (Nat.le_of_ble_eq_true rfl), (Nat.le_of_ble_eq_true rfl), w_1_5, ⟨by decide, by decide⟩, by decide +kernel⟩ (rfl : vwCl[6]? = some (R_Q, F_Q, 3)) w_2_217 w_2_219 w_p4 rfl,
  List.forall_mem_cons.mpr ⟨so_aload_n d_Q_fill_82 rfl rfl,
  List.forall_mem_cons.mpr ⟨so_aload_n d_Q_fill_83 rfl rfl,
  List.forall_mem_cons.mpr ⟨so_iload_n d_Q_fill_84 rfl rfl,
  List.forall_mem_cons.mpr ⟨so_cV g_good d_Q_fill_85 ⟨w_2_215, (Nat.le_of_ble_eq_true rfl), (Nat.le_of_ble_eq_true rfl), w_1_4, ⟨by decide, by decide⟩, by decide +kernel⟩ (rfl : vwCl[2]? = some (R_B, F_B, 5)) w_2_212 w_2_213 w_2_214 rfl,
  List.forall_mem_cons.mpr ⟨so_aload_n d_Q_fill_88 rfl rfl,
  List.forall_mem_cons.mpr ⟨so_iload_n d_Q_fill_89 rfl rfl,
  List.forall_mem_cons.mpr ⟨so_cV g_good d_Q_fill_90 ⟨w_2_228, (Nat.le_of_ble_eq_true rfl), (Nat.le_of_ble_eq_true rfl), w_1_4, ⟨by decide, by decide⟩, by decide +kernel⟩ (rfl : vwCl[2]? = some (R_B, F_B, 5)) w_2_225 w_2_226 w_2_227 rfl,
  fun _ h => absurd h List.not_mem_nil⟩⟩⟩⟩⟩⟩⟩⟩⟩⟩⟩⟩⟩⟩⟩⟩
def cd_Q_fill_3 : Nat → g_T := g_tab [(93, tr_ald 1 94), (94, tr_ild 2 95), (95, tr_cV J_B_b 2 1 98), (98, tr_cV J_Q_addRow 6 3 101), (101, tr_inc 2 (1) 104), (104, tr_goto 53), (107, tr_ald 0 108), (108, tr_cV J_Q_addBranches 6 0 111), (111, tr_ald 0 112), (112, tr_get 6 0 115), (115, tr_ald 0 116), (116, tr_get 6 0 119), (119, tr_cV J_I_size 0 0 122), (122, tr_cS J_T_sumOf 2 125), (125, tr_ist 2 126), (126, tr_ald 0 127)]
set_option maxRecDepth 100000 in
theorem ok_Q_fill_3 : ∀ pc, g_S (J_Q_fill) pc (cd_Q_fill_3 pc) := g_tab_ok <|
  List.forall_mem_cons.mpr ⟨so_aload_n d_Q_fill_93 rfl rfl,
  List.forall_mem_cons.mpr ⟨so_iload_n d_Q_fill_94 rfl rfl,
  List.forall_mem_cons.mpr ⟨so_cV g_good d_Q_fill_95 ⟨w_2_232, (Nat.le_of_ble_eq_true rfl), (Nat.le_of_ble_eq_true rfl), w_1_4, ⟨by decide, by decide⟩, by decide +kernel⟩ (rfl : vwCl[2]? = some (R_B, F_B, 5)) w_2_229 w_2_230 w_2_231 rfl,
  List.forall_mem_cons.mpr ⟨so_cV g_good d_Q_fill_98 ⟨w_2_236, (Nat.le_of_ble_eq_true rfl), (Nat.le_of_ble_eq_true rfl), w_1_5, ⟨by decide, by decide⟩, by decide +kernel⟩ (rfl : vwCl[6]? = some (R_Q, F_Q, 3)) w_2_233 w_2_235 w_p6 rfl,
  List.forall_mem_cons.mpr ⟨so_iinc d_Q_fill_101 (by decide) (Nat.le_of_ble_eq_true rfl) rfl,
  List.forall_mem_cons.mpr ⟨so_goto d_Q_fill_104 (by decide),
  List.forall_mem_cons.mpr ⟨so_aload_n d_Q_fill_107 rfl rfl,
  List.forall_mem_cons.mpr ⟨so_cV g_good d_Q_fill_108 ⟨w_2_220, (Nat.le_of_ble_eq_true rfl), (Nat.le_of_ble_eq_true rfl), w_1_5, ⟨by decide, by decide⟩, by decide +kernel⟩ (rfl : vwCl[6]? = some (R_Q, F_Q, 3)) w_2_217 w_2_219 w_p4 rfl,
  List.forall_mem_cons.mpr ⟨so_aload_n d_Q_fill_111 rfl rfl,
  List.forall_mem_cons.mpr ⟨so_get d_Q_fill_112 (rfl : vwCl[6]? = some (R_Q, F_Q, 3)) (Nat.le_of_ble_eq_true rfl) i_Q w_1_137 rfl,
  List.forall_mem_cons.mpr ⟨so_aload_n d_Q_fill_115 rfl rfl,
  List.forall_mem_cons.mpr ⟨so_get d_Q_fill_116 (rfl : vwCl[6]? = some (R_Q, F_Q, 3)) (Nat.le_of_ble_eq_true rfl) i_Q w_1_137 rfl,
  List.forall_mem_cons.mpr ⟨so_cV g_good d_Q_fill_119 ⟨w_2_28, (Nat.le_of_ble_eq_true rfl), (Nat.le_of_ble_eq_true rfl), w_1_2, ⟨by decide, by decide⟩, by decide +kernel⟩ (rfl : vwCl[0]? = some (R_I, F_I, 2)) w_3_42 w_2_26 w_2_27 rfl,
  List.forall_mem_cons.mpr ⟨so_cSN g_good d_Q_fill_122 ⟨w_3_45, (Nat.le_of_ble_eq_true rfl), (Nat.le_of_ble_eq_true rfl), w_1_1, ⟨by decide, by decide⟩, by decide +kernel⟩ w_3_43 w_3_44 rfl,
  List.forall_mem_cons.mpr ⟨so_istore_n d_Q_fill_125 rfl (Nat.le_of_ble_eq_true rfl) rfl,
  List.forall_mem_cons.mpr ⟨so_aload_n d_Q_fill_126 rfl rfl,
  fun _ h => absurd h List.not_mem_nil⟩⟩⟩⟩⟩⟩⟩⟩⟩⟩⟩⟩⟩⟩⟩⟩
def cd_Q_fill_4 : Nat → g_T := g_tab [(127, tr_get 6 0 130), (130, tr_ild 2 131), (131, tr_cst (.int (8)) 133), (133, tr_ii (fun x y => x >>> (y &&& 31)) 134), (134, tr_cV J_I_add 0 1 137), (137, tr_pop 138), (138, tr_ald 0 139), (139, tr_get 6 0 142), (142, tr_ild 2 143), (143, tr_cst (.int (255)) 146), (146, tr_ii (fun x y => x &&& y) 147), (147, tr_cV J_I_add 0 1 150), (150, tr_pop 151), (151, tr_rv)]
set_option maxRecDepth 100000 in
theorem ok_Q_fill_4 : ∀ pc, g_S (J_Q_fill) pc (cd_Q_fill_4 pc) := g_tab_ok <|
  List.forall_mem_cons.mpr ⟨so_get d_Q_fill_127 (rfl : vwCl[6]? = some (R_Q, F_Q, 3)) (Nat.le_of_ble_eq_true rfl) i_Q w_1_137 rfl,
  List.forall_mem_cons.mpr ⟨so_iload_n d_Q_fill_130 rfl rfl,
  List.forall_mem_cons.mpr ⟨so_bipush (by decide) d_Q_fill_131 rfl,
  List.forall_mem_cons.mpr ⟨so_ishr d_Q_fill_133 rfl,
  List.forall_mem_cons.mpr ⟨so_cV g_good d_Q_fill_134 ⟨w_1_47, (Nat.le_of_ble_eq_true rfl), (Nat.le_of_ble_eq_true rfl), w_1_2, ⟨by decide, by decide⟩, by decide +kernel⟩ (rfl : vwCl[0]? = some (R_I, F_I, 2)) w_2_206 w_1_45 w_1_46 rfl,
  List.forall_mem_cons.mpr ⟨so_pop d_Q_fill_137 rfl,
  List.forall_mem_cons.mpr ⟨so_aload_n d_Q_fill_138 rfl rfl,
  List.forall_mem_cons.mpr ⟨so_get d_Q_fill_139 (rfl : vwCl[6]? = some (R_Q, F_Q, 3)) (Nat.le_of_ble_eq_true rfl) i_Q w_1_137 rfl,
  List.forall_mem_cons.mpr ⟨so_iload_n d_Q_fill_142 rfl rfl,
  List.forall_mem_cons.mpr ⟨so_sipush (by decide) d_Q_fill_143 rfl,
  List.forall_mem_cons.mpr ⟨so_iand d_Q_fill_146 rfl,
  List.forall_mem_cons.mpr ⟨so_cV g_good d_Q_fill_147 ⟨w_1_47, (Nat.le_of_ble_eq_true rfl), (Nat.le_of_ble_eq_true rfl), w_1_2, ⟨by decide, by decide⟩, by decide +kernel⟩ (rfl : vwCl[0]? = some (R_I, F_I, 2)) w_2_206 w_1_45 w_1_46 rfl,
  List.forall_mem_cons.mpr ⟨so_pop d_Q_fill_150 rfl,
  List.forall_mem_cons.mpr ⟨so_vret d_Q_fill_151 rfl,
  fun _ h => absurd h List.not_mem_nil⟩⟩⟩⟩⟩⟩⟩⟩⟩⟩⟩⟩⟩⟩
def cd_Q_fill : Nat → g_T := g_chk [(31, cd_Q_fill_0), (61, cd_Q_fill_1), (90, cd_Q_fill_2), (126, cd_Q_fill_3), (151, cd_Q_fill_4)]
theorem ok_Q_fill : ∀ pc, g_S (J_Q_fill) pc (cd_Q_fill pc) := g_chk_ok <|
  List.forall_mem_cons.mpr ⟨ok_Q_fill_0,
  List.forall_mem_cons.mpr ⟨ok_Q_fill_1,
  List.forall_mem_cons.mpr ⟨ok_Q_fill_2,
  List.forall_mem_cons.mpr ⟨ok_Q_fill_3,
  List.forall_mem_cons.mpr ⟨ok_Q_fill_4,
  fun _ h => absurd h List.not_mem_nil⟩⟩⟩⟩⟩
abbrev J_Q_isShielded : g_J := (y_Q_isShielded, prog_7_method_5_code, 1, (some .boolean), (0, 0), [], none)
theorem d_Q_isShielded_0 : decode prog_7_method_5_code 0 = .ok (.iload_n 0, 1) := by decide +kernel
theorem d_Q_isShielded_1 : decode prog_7_method_5_code 1 = .ok (.bipush 126, 2) := by decide +kernel
theorem d_Q_isShielded_3 : decode prog_7_method_5_code 3 = .ok (.if_icmp .eq 9, 3) := by decide +kernel
theorem d_Q_isShielded_6 : decode prog_7_method_5_code 6 = .ok (.iload_n 0, 1) := by decide +kernel
theorem d_Q_isShielded_7 : decode prog_7_method_5_code 7 = .ok (.bipush 125, 2) := by decide +kernel
theorem d_Q_isShielded_9 : decode prog_7_method_5_code 9 = .ok (.if_icmp .ne 7, 3) := by decide +kernel
theorem d_Q_isShielded_12 : decode prog_7_method_5_code 12 = .ok (.iconst 1, 1) := by decide +kernel
theorem d_Q_isShielded_13 : decode prog_7_method_5_code 13 = .ok (.goto 4, 3) := by decide +kernel
theorem d_Q_isShielded_16 : decode prog_7_method_5_code 16 = .ok (.iconst 0, 1) := by decide +kernel
theorem d_Q_isShielded_17 : decode prog_7_method_5_code 17 = .ok (.ireturn, 1) := by decide +kernel
def cd_Q_isShielded_0 : Nat → g_T := g_tab [(0, tr_ild 0 1), (1, tr_cst (.int (126)) 3), (3, tr_if2 (fun x y => x = y) 12 6), (6, tr_ild 0 7), (7, tr_cst (.int (125)) 9), (9, tr_if2 (fun x y => ¬ x = y) 16 12), (12, tr_cst (.int (1)) 13), (13, tr_goto 17), (16, tr_cst (.int (0)) 17), (17, tr_rz)]
set_option maxRecDepth 100000 in
theorem ok_Q_isShielded_0 : ∀ pc, g_S (J_Q_isShielded) pc (cd_Q_isShielded_0 pc) := g_tab_ok <|
  List.forall_mem_cons.mpr ⟨so_iload_n d_Q_isShielded_0 rfl rfl,
  List.forall_mem_cons.mpr ⟨so_bipush (by decide) d_Q_isShielded_1 rfl,
  List.forall_mem_cons.mpr ⟨so_icmp_eq d_Q_isShielded_3 (by decide) rfl,
  List.forall_mem_cons.mpr ⟨so_iload_n d_Q_isShielded_6 rfl rfl,
  List.forall_mem_cons.mpr ⟨so_bipush (by decide) d_Q_isShielded_7 rfl,
  List.forall_mem_cons.mpr ⟨so_icmp_ne d_Q_isShielded_9 (by decide) rfl,
  List.forall_mem_cons.mpr ⟨so_iconst (by decide) d_Q_isShielded_12 rfl,
  List.forall_mem_cons.mpr ⟨so_goto d_Q_isShielded_13 (by decide),
  List.forall_mem_cons.mpr ⟨so_iconst (by decide) d_Q_isShielded_16 rfl,
  List.forall_mem_cons.mpr ⟨so_zret d_Q_isShielded_17 rfl,
  fun _ h => absurd h List.not_mem_nil⟩⟩⟩⟩⟩⟩⟩⟩⟩⟩
def cd_Q_isShielded : Nat → g_T := g_chk [(17, cd_Q_isShielded_0)]
theorem ok_Q_isShielded : ∀ pc, g_S (J_Q_isShielded) pc (cd_Q_isShielded pc) := g_chk_ok <|
  List.forall_mem_cons.mpr ⟨ok_Q_isShielded_0,
  fun _ h => absurd h List.not_mem_nil⟩
abbrev J_Q_lengthShielded : g_J := (y_Q_lengthShielded, prog_7_method_4_code, 3, (some .int), (1, 21), [], none)
theorem d_Q_lengthShielded_0 : decode prog_7_method_4_code 0 = .ok (.iconst 1, 1) := by decide +kernel
theorem d_Q_lengthShielded_1 : decode prog_7_method_4_code 1 = .ok (.aload_n 0, 1) := by decide +kernel
theorem d_Q_lengthShielded_2 : decode prog_7_method_4_code 2 = .ok (.getfield 14, 3) := by decide +kernel
theorem d_Q_lengthShielded_5 : decode prog_7_method_4_code 5 = .ok (.invokevirtual 73, 3) := by decide +kernel
theorem d_Q_lengthShielded_8 : decode prog_7_method_4_code 8 = .ok (.iadd, 1) := by decide +kernel
theorem d_Q_lengthShielded_9 : decode prog_7_method_4_code 9 = .ok (.istore_n 1, 1) := by decide +kernel
theorem d_Q_lengthShielded_10 : decode prog_7_method_4_code 10 = .ok (.iconst 0, 1) := by decide +kernel
theorem d_Q_lengthShielded_11 : decode prog_7_method_4_code 11 = .ok (.istore_n 2, 1) := by decide +kernel
theorem d_Q_lengthShielded_12 : decode prog_7_method_4_code 12 = .ok (.iload_n 2, 1) := by decide +kernel
theorem d_Q_lengthShielded_13 : decode prog_7_method_4_code 13 = .ok (.aload_n 0, 1) := by decide +kernel
theorem d_Q_lengthShielded_14 : decode prog_7_method_4_code 14 = .ok (.getfield 14, 3) := by decide +kernel
theorem d_Q_lengthShielded_17 : decode prog_7_method_4_code 17 = .ok (.invokevirtual 73, 3) := by decide +kernel
theorem d_Q_lengthShielded_20 : decode prog_7_method_4_code 20 = .ok (.if_icmp .ge 26, 3) := by decide +kernel
theorem d_Q_lengthShielded_23 : decode prog_7_method_4_code 23 = .ok (.aload_n 0, 1) := by decide +kernel
theorem d_Q_lengthShielded_24 : decode prog_7_method_4_code 24 = .ok (.getfield 14, 3) := by decide +kernel
theorem d_Q_lengthShielded_27 : decode prog_7_method_4_code 27 = .ok (.iload_n 2, 1) := by decide +kernel
theorem d_Q_lengthShielded_28 : decode prog_7_method_4_code 28 = .ok (.invokevirtual 81, 3) := by decide +kernel
theorem d_Q_lengthShielded_31 : decode prog_7_method_4_code 31 = .ok (.invokestatic 84, 3) := by decide +kernel
theorem d_Q_lengthShielded_34 : decode prog_7_method_4_code 34 = .ok (.ifCond .eq 6, 3) := by decide +kernel
theorem d_Q_lengthShielded_37 : decode prog_7_method_4_code 37 = .ok (.iinc 1 1, 3) := by decide +kernel
theorem d_Q_lengthShielded_40 : decode prog_7_method_4_code 40 = .ok (.iinc 2 1, 3) := by decide +kernel
theorem d_Q_lengthShielded_43 : decode prog_7_method_4_code 43 = .ok (.goto (-31), 3) := by decide +kernel
theorem d_Q_lengthShielded_46 : decode prog_7_method_4_code 46 = .ok (.iload_n 1, 1) := by decide +kernel
theorem d_Q_lengthShielded_47 : decode prog_7_method_4_code 47 = .ok (.ireturn, 1) := by decide +kernel
def cd_Q_lengthShielded_0 : Nat → g_T := g_tab [(0, tr_cst (.int (1)) 1), (1, tr_ald 0 2), (2, tr_get 6 0 5), (5, tr_cV J_I_size 0 0 8), (8, tr_ii (fun x y => x + y) 9), (9, tr_ist 1 10), (10, tr_cst (.int (0)) 11), (11, tr_ist 2 12), (12, tr_ild 2 13), (13, tr_ald 0 14), (14, tr_get 6 0 17), (17, tr_cV J_I_size 0 0 20), (20, tr_if2 (fun x y => y ≤ x) 46 23), (23, tr_ald 0 24), (24, tr_get 6 0 27), (27, tr_ild 2 28)]
set_option maxRecDepth 100000 in
theorem ok_Q_lengthShielded_0 : ∀ pc, g_S (J_Q_lengthShielded) pc (cd_Q_lengthShielded_0 pc) := g_tab_ok <|
  List.forall_mem_cons.mpr ⟨so_iconst (by decide) d_Q_lengthShielded_0 rfl,
  List.forall_mem_cons.mpr ⟨so_aload_n d_Q_lengthShielded_1 rfl rfl,
  List.forall_mem_cons.mpr ⟨so_get d_Q_lengthShielded_2 (rfl : vwCl[6]? = some (R_Q, F_Q, 3)) (Nat.le_of_ble_eq_true rfl) i_Q w_1_137 rfl,
  List.forall_mem_cons.mpr ⟨so_cV g_good d_Q_lengthShielded_5 ⟨w_2_28, (Nat.le_of_ble_eq_true rfl), (Nat.le_of_ble_eq_true rfl), w_1_2, ⟨by decide, by decide⟩, by decide +kernel⟩ (rfl : vwCl[0]? = some (R_I, F_I, 2)) w_3_42 w_2_26 w_2_27 rfl,
  List.forall_mem_cons.mpr ⟨so_iadd d_Q_lengthShielded_8 rfl,
  List.forall_mem_cons.mpr ⟨so_istore_n d_Q_lengthShielded_9 rfl (Nat.le_of_ble_eq_true rfl) rfl,
  List.forall_mem_cons.mpr ⟨so_iconst (by decide) d_Q_lengthShielded_10 rfl,
  List.forall_mem_cons.mpr ⟨so_istore_n d_Q_lengthShielded_11 rfl (Nat.le_of_ble_eq_true rfl) rfl,
  List.forall_mem_cons.mpr ⟨so_iload_n d_Q_lengthShielded_12 rfl rfl,
  List.forall_mem_cons.mpr ⟨so_aload_n d_Q_lengthShielded_13 rfl rfl,
  List.forall_mem_cons.mpr ⟨so_get d_Q_lengthShielded_14 (rfl : vwCl[6]? = some (R_Q, F_Q, 3)) (Nat.le_of_ble_eq_true rfl) i_Q w_1_137 rfl,
  List.forall_mem_cons.mpr ⟨so_cV g_good d_Q_lengthShielded_17 ⟨w_2_28, (Nat.le_of_ble_eq_true rfl), (Nat.le_of_ble_eq_true rfl), w_1_2, ⟨by decide, by decide⟩, by decide +kernel⟩ (rfl : vwCl[0]? = some (R_I, F_I, 2)) w_3_42 w_2_26 w_2_27 rfl,
  List.forall_mem_cons.mpr ⟨so_icmp_ge d_Q_lengthShielded_20 (by decide) rfl,
  List.forall_mem_cons.mpr ⟨so_aload_n d_Q_lengthShielded_23 rfl rfl,
  List.forall_mem_cons.mpr ⟨so_get d_Q_lengthShielded_24 (rfl : vwCl[6]? = some (R_Q, F_Q, 3)) (Nat.le_of_ble_eq_true rfl) i_Q w_1_137 rfl,
  List.forall_mem_cons.mpr ⟨so_iload_n d_Q_lengthShielded_27 rfl rfl,
  fun _ h => absurd h List.not_mem_nil⟩⟩⟩⟩⟩⟩⟩⟩⟩⟩⟩⟩⟩⟩⟩⟩
def cd_Q_lengthShielded_1 : Nat → g_T := g_tab [(28, tr_cV J_I_at 0 1 31), (31, tr_cS J_Q_isShielded 1 34), (34, tr_if1 (fun x => x = 0) 40 37), (37, tr_inc 1 (1) 40), (40, tr_inc 2 (1) 43), (43, tr_goto 12), (46, tr_ild 1 47), (47, tr_ri)]
set_option maxRecDepth 100000 in
theorem ok_Q_lengthShielded_1 : ∀ pc, g_S (J_Q_lengthShielded) pc (cd_Q_lengthShielded_1 pc) := g_tab_ok <|
  List.forall_mem_cons.mpr ⟨so_cV g_good d_Q_lengthShielded_28 ⟨w_2_151, (Nat.le_of_ble_eq_true rfl), (Nat.le_of_ble_eq_true rfl), w_1_2, ⟨by decide, by decide⟩, by decide +kernel⟩ (rfl : vwCl[0]? = some (R_I, F_I, 2)) w_3_54 w_2_149 w_2_150 rfl,
  List.forall_mem_cons.mpr ⟨so_cS g_good d_Q_lengthShielded_31 ⟨w_3_57, (Nat.le_of_ble_eq_true rfl), (Nat.le_of_ble_eq_true rfl), w_1_5, ⟨by decide, by decide⟩, by decide +kernel⟩ w_3_55 w_3_56 rfl,
  List.forall_mem_cons.mpr ⟨so_if_eq d_Q_lengthShielded_34 (by decide) rfl,
  List.forall_mem_cons.mpr ⟨so_iinc d_Q_lengthShielded_37 (by decide) (Nat.le_of_ble_eq_true rfl) rfl,
  List.forall_mem_cons.mpr ⟨so_iinc d_Q_lengthShielded_40 (by decide) (Nat.le_of_ble_eq_true rfl) rfl,
  List.forall_mem_cons.mpr ⟨so_goto d_Q_lengthShielded_43 (by decide),
  List.forall_mem_cons.mpr ⟨so_iload_n d_Q_lengthShielded_46 rfl rfl,
  List.forall_mem_cons.mpr ⟨so_iret d_Q_lengthShielded_47 rfl,
  fun _ h => absurd h List.not_mem_nil⟩⟩⟩⟩⟩⟩⟩⟩
def cd_Q_lengthShielded : Nat → g_T := g_chk [(27, cd_Q_lengthShielded_0), (47, cd_Q_lengthShielded_1)]
theorem ok_Q_lengthShielded : ∀ pc, g_S (J_Q_lengthShielded) pc (cd_Q_lengthShielded pc) := g_chk_ok <|
  List.forall_mem_cons.mpr ⟨ok_Q_lengthShielded_0,
  List.forall_mem_cons.mpr ⟨ok_Q_lengthShielded_1,
  fun _ h => absurd h List.not_mem_nil⟩⟩
abbrev J_Q_moveBehind : g_J := (y_Q_moveBehind, prog_7_method_3_code, 4, (some .boolean), (2, 43), [], none)
theorem d_Q_moveBehind_0 : decode prog_7_method_3_code 0 = .ok (.aload_n 0, 1) := by decide +kernel
theorem d_Q_moveBehind_1 : decode prog_7_method_3_code 1 = .ok (.invokevirtual 78, 3) := by decide +kernel
theorem d_Q_moveBehind_4 : decode prog_7_method_3_code 4 = .ok (.sipush 16384, 3) := by decide +kernel
theorem d_Q_moveBehind_7 : decode prog_7_method_3_code 7 = .ok (.aload_n 1, 1) := by decide +kernel
theorem d_Q_moveBehind_8 : decode prog_7_method_3_code 8 = .ok (.invokevirtual 73, 3) := by decide +kernel
theorem d_Q_moveBehind_11 : decode prog_7_method_3_code 11 = .ok (.isub, 1) := by decide +kernel
theorem d_Q_moveBehind_12 : decode prog_7_method_3_code 12 = .ok (.if_icmp .le 5, 3) := by decide +kernel
theorem d_Q_moveBehind_15 : decode prog_7_method_3_code 15 = .ok (.iconst 0, 1) := by decide +kernel
theorem d_Q_moveBehind_16 : decode prog_7_method_3_code 16 = .ok (.ireturn, 1) := by decide +kernel
theorem d_Q_moveBehind_17 : decode prog_7_method_3_code 17 = .ok (.aload_n 1, 1) := by decide +kernel
theorem d_Q_moveBehind_18 : decode prog_7_method_3_code 18 = .ok (.bipush 126, 2) := by decide +kernel
theorem d_Q_moveBehind_20 : decode prog_7_method_3_code 20 = .ok (.invokevirtual 46, 3) := by decide +kernel
theorem d_Q_moveBehind_23 : decode prog_7_method_3_code 23 = .ok (.pop, 1) := by decide +kernel
theorem d_Q_moveBehind_24 : decode prog_7_method_3_code 24 = .ok (.iconst 0, 1) := by decide +kernel
theorem d_Q_moveBehind_25 : decode prog_7_method_3_code 25 = .ok (.istore_n 2, 1) := by decide +kernel
theorem d_Q_moveBehind_26 : decode prog_7_method_3_code 26 = .ok (.iload_n 2, 1) := by decide +kernel
theorem d_Q_moveBehind_27 : decode prog_7_method_3_code 27 = .ok (.aload_n 0, 1) := by decide +kernel
theorem d_Q_moveBehind_28 : decode prog_7_method_3_code 28 = .ok (.getfield 14, 3) := by decide +kernel
theorem d_Q_moveBehind_31 : decode prog_7_method_3_code 31 = .ok (.invokevirtual 73, 3) := by decide +kernel
theorem d_Q_moveBehind_34 : decode prog_7_method_3_code 34 = .ok (.if_icmp .ge 59, 3) := by decide +kernel
theorem d_Q_moveBehind_37 : decode prog_7_method_3_code 37 = .ok (.aload_n 0, 1) := by decide +kernel
theorem d_Q_moveBehind_38 : decode prog_7_method_3_code 38 = .ok (.getfield 14, 3) := by decide +kernel
theorem d_Q_moveBehind_41 : decode prog_7_method_3_code 41 = .ok (.iload_n 2, 1) := by decide +kernel
theorem d_Q_moveBehind_42 : decode prog_7_method_3_code 42 = .ok (.invokevirtual 81, 3) := by decide +kernel
theorem d_Q_moveBehind_45 : decode prog_7_method_3_code 45 = .ok (.istore_n 3, 1) := by decide +kernel
theorem d_Q_moveBehind_46 : decode prog_7_method_3_code 46 = .ok (.iload_n 3, 1) := by decide +kernel
theorem d_Q_moveBehind_47 : decode prog_7_method_3_code 47 = .ok (.invokestatic 84, 3) := by decide +kernel
theorem d_Q_moveBehind_50 : decode prog_7_method_3_code 50 = .ok (.ifCond .eq 31, 3) := by decide +kernel
theorem d_Q_moveBehind_53 : decode prog_7_method_3_code 53 = .ok (.aload_n 1, 1) := by decide +kernel
theorem d_Q_moveBehind_54 : decode prog_7_method_3_code 54 = .ok (.bipush 125, 2) := by decide +kernel
theorem d_Q_moveBehind_56 : decode prog_7_method_3_code 56 = .ok (.invokevirtual 46, 3) := by decide +kernel
theorem d_Q_moveBehind_59 : decode prog_7_method_3_code 59 = .ok (.pop, 1) := by decide +kernel
theorem d_Q_moveBehind_60 : decode prog_7_method_3_code 60 = .ok (.aload_n 1, 1) := by decide +kernel
theorem d_Q_moveBehind_61 : decode prog_7_method_3_code 61 = .ok (.iload_n 3, 1) := by decide +kernel
theorem d_Q_moveBehind_62 : decode prog_7_method_3_code 62 = .ok (.bipush 126, 2) := by decide +kernel
theorem d_Q_moveBehind_64 : decode prog_7_method_3_code 64 = .ok (.if_icmp .ne 8, 3) := by decide +kernel
theorem d_Q_moveBehind_67 : decode prog_7_method_3_code 67 = .ok (.bipush 94, 2) := by decide +kernel
theorem d_Q_moveBehind_69 : decode prog_7_method_3_code 69 = .ok (.goto 5, 3) := by decide +kernel
theorem d_Q_moveBehind_72 : decode prog_7_method_3_code 72 = .ok (.bipush 93, 2) := by decide +kernel
theorem d_Q_moveBehind_74 : decode prog_7_method_3_code 74 = .ok (.invokevirtual 46, 3) := by decide +kernel
theorem d_Q_moveBehind_77 : decode prog_7_method_3_code 77 = .ok (.pop, 1) := by decide +kernel
theorem d_Q_moveBehind_78 : decode prog_7_method_3_code 78 = .ok (.goto 9, 3) := by decide +kernel
theorem d_Q_moveBehind_81 : decode prog_7_method_3_code 81 = .ok (.aload_n 1, 1) := by decide +kernel
theorem d_Q_moveBehind_82 : decode prog_7_method_3_code 82 = .ok (.iload_n 3, 1) := by decide +kernel
theorem d_Q_moveBehind_83 : decode prog_7_method_3_code 83 = .ok (.invokevirtual 46, 3) := by decide +kernel
theorem d_Q_moveBehind_86 : decode prog_7_method_3_code 86 = .ok (.pop, 1) := by decide +kernel
theorem d_Q_moveBehind_87 : decode prog_7_method_3_code 87 = .ok (.iinc 2 1, 3) := by decide +kernel
theorem d_Q_moveBehind_90 : decode prog_7_method_3_code 90 = .ok (.goto (-64), 3) := by decide +kernel
theorem d_Q_moveBehind_93 : decode prog_7_method_3_code 93 = .ok (.iconst 1, 1) := by decide +kernel
theorem d_Q_moveBehind_94 : decode prog_7_method_3_code 94 = .ok (.ireturn, 1) := by decide +kernel
def cd_Q_moveBehind_0 : Nat → g_T := g_tab [(0, tr_ald 0 1), (1, tr_cV J_Q_lengthShielded 6 0 4), (4, tr_cst (.int (16384)) 7), (7, tr_ald 1 8), (8, tr_cV J_I_size 0 0 11), (11, tr_ii (fun x y => x - y) 12), (12, tr_if2 (fun x y => x ≤ y) 17 15), (15, tr_cst (.int (0)) 16), (16, tr_rz), (17, tr_ald 1 18), (18, tr_cst (.int (126)) 20), (20, tr_cV J_I_add 0 1 23), (23, tr_pop 24), (24, tr_cst (.int (0)) 25), (25, tr_ist 2 26), (26, tr_ild 2 27)]
set_option maxRecDepth 100000 in
theorem ok_Q_moveBehind_0 : ∀ pc, g_S (J_Q_moveBehind) pc (cd_Q_moveBehind_0 pc) := g_tab_ok <|
  List.forall_mem_cons.mpr ⟨so_aload_n d_Q_moveBehind_0 rfl rfl,
  List.forall_mem_cons.mpr ⟨so_cV g_good d_Q_moveBehind_1 ⟨w_3_53, (Nat.le_of_ble_eq_true rfl), (Nat.le_of_ble_eq_true rfl), w_1_5, ⟨by decide, by decide⟩, by decide +kernel⟩ (rfl : vwCl[6]? = some (R_Q, F_Q, 3)) w_3_50 w_3_52 w_p10 rfl,
  List.forall_mem_cons.mpr ⟨so_sipush (by decide) d_Q_moveBehind_4 rfl,
  List.forall_mem_cons.mpr ⟨so_aload_n d_Q_moveBehind_7 rfl rfl,
  List.forall_mem_cons.mpr ⟨so_cV g_good d_Q_moveBehind_8 ⟨w_2_28, (Nat.le_of_ble_eq_true rfl), (Nat.le_of_ble_eq_true rfl), w_1_2, ⟨by decide, by decide⟩, by decide +kernel⟩ (rfl : vwCl[0]? = some (R_I, F_I, 2)) w_3_42 w_2_26 w_2_27 rfl,
  List.forall_mem_cons.mpr ⟨so_isub d_Q_moveBehind_11 rfl,
  List.forall_mem_cons.mpr ⟨so_icmp_le d_Q_moveBehind_12 (by decide) rfl,
  List.forall_mem_cons.mpr ⟨so_iconst (by decide) d_Q_moveBehind_15 rfl,
  List.forall_mem_cons.mpr ⟨so_zret d_Q_moveBehind_16 rfl,
  List.forall_mem_cons.mpr ⟨so_aload_n d_Q_moveBehind_17 rfl rfl,
  List.forall_mem_cons.mpr ⟨so_bipush (by decide) d_Q_moveBehind_18 rfl,
  List.forall_mem_cons.mpr ⟨so_cV g_good d_Q_moveBehind_20 ⟨w_1_47, (Nat.le_of_ble_eq_true rfl), (Nat.le_of_ble_eq_true rfl), w_1_2, ⟨by decide, by decide⟩, by decide +kernel⟩ (rfl : vwCl[0]? = some (R_I, F_I, 2)) w_2_206 w_1_45 w_1_46 rfl,
  List.forall_mem_cons.mpr ⟨so_pop d_Q_moveBehind_23 rfl,
  List.forall_mem_cons.mpr ⟨so_iconst (by decide) d_Q_moveBehind_24 rfl,
  List.forall_mem_cons.mpr ⟨so_istore_n d_Q_moveBehind_25 rfl (Nat.le_of_ble_eq_true rfl) rfl,
  List.forall_mem_cons.mpr ⟨so_iload_n d_Q_moveBehind_26 rfl rfl,
  fun _ h => absurd h List.not_mem_nil⟩⟩⟩⟩⟩⟩⟩⟩⟩⟩⟩⟩⟩⟩⟩⟩
def cd_Q_moveBehind_1 : Nat → g_T := g_tab [(27, tr_ald 0 28), (28, tr_get 6 0 31), (31, tr_cV J_I_size 0 0 34), (34, tr_if2 (fun x y => y ≤ x) 93 37), (37, tr_ald 0 38), (38, tr_get 6 0 41), (41, tr_ild 2 42), (42, tr_cV J_I_at 0 1 45), (45, tr_ist 3 46), (46, tr_ild 3 47), (47, tr_cS J_Q_isShielded 1 50), (50, tr_if1 (fun x => x = 0) 81 53), (53, tr_ald 1 54), (54, tr_cst (.int (125)) 56), (56, tr_cV J_I_add 0 1 59), (59, tr_pop 60)]
set_option maxRecDepth 100000 in
theorem ok_Q_moveBehind_1 : ∀ pc, g_S (J_Q_moveBehind) pc (cd_Q_moveBehind_1 pc) := g_tab_ok <|
  List.forall_mem_cons.mpr ⟨so_aload_n d_Q_moveBehind_27 rfl rfl,
  List.forall_mem_cons.mpr ⟨so_get d_Q_moveBehind_28 (rfl : vwCl[6]? = some (R_Q, F_Q, 3)) (Nat.le_of_ble_eq_true rfl) i_Q w_1_137 rfl,
  List.forall_mem_cons.mpr ⟨so_cV g_good d_Q_moveBehind_31 ⟨w_2_28, (Nat.le_of_ble_eq_true rfl), (Nat.le_of_ble_eq_true rfl), w_1_2, ⟨by decide, by decide⟩, by decide +kernel⟩ (rfl : vwCl[0]? = some (R_I, F_I, 2)) w_3_42 w_2_26 w_2_27 rfl,
  List.forall_mem_cons.mpr ⟨so_icmp_ge d_Q_moveBehind_34 (by decide) rfl,
  List.forall_mem_cons.mpr ⟨so_aload_n d_Q_moveBehind_37 rfl rfl,
  List.forall_mem_cons.mpr ⟨so_get d_Q_moveBehind_38 (rfl : vwCl[6]? = some (R_Q, F_Q, 3)) (Nat.le_of_ble_eq_true rfl) i_Q w_1_137 rfl,
  List.forall_mem_cons.mpr ⟨so_iload_n d_Q_moveBehind_41 rfl rfl,
  List.forall_mem_cons.mpr ⟨so_cV g_good d_Q_moveBehind_42 ⟨w_2_151, (Nat.le_of_ble_eq_true rfl), (Nat.le_of_ble_eq_true rfl), w_1_2, ⟨by decide, by decide⟩, by decide +kernel⟩ (rfl : vwCl[0]? = some (R_I, F_I, 2)) w_3_54 w_2_149 w_2_150 rfl,
  List.forall_mem_cons.mpr ⟨so_istore_n d_Q_moveBehind_45 rfl (Nat.le_of_ble_eq_true rfl) rfl,
  List.forall_mem_cons.mpr ⟨so_iload_n d_Q_moveBehind_46 rfl rfl,
  List.forall_mem_cons.mpr ⟨so_cS g_good d_Q_moveBehind_47 ⟨w_3_57, (Nat.le_of_ble_eq_true rfl), (Nat.le_of_ble_eq_true rfl), w_1_5, ⟨by decide, by decide⟩, by decide +kernel⟩ w_3_55 w_3_56 rfl,
  List.forall_mem_cons.mpr ⟨so_if_eq d_Q_moveBehind_50 (by decide) rfl,
  List.forall_mem_cons.mpr ⟨so_aload_n d_Q_moveBehind_53 rfl rfl,
  List.forall_mem_cons.mpr ⟨so_bipush (by decide) d_Q_moveBehind_54 rfl,
  List.forall_mem_cons.mpr ⟨so_cV g_good d_Q_moveBehind_56 ⟨w_1_47, (Nat.le_of_ble_eq_true rfl), (Nat.le_of_ble_eq_true rfl), w_1_2, ⟨by decide, by decide⟩, by decide +kernel⟩ (rfl : vwCl[0]? = some (R_I, F_I, 2)) w_2_206 w_1_45 w_1_46 rfl,
  List.forall_mem_cons.mpr ⟨so_pop d_Q_moveBehind_59 rfl,
  fun _ h => absurd h List.not_mem_nil⟩⟩⟩⟩⟩⟩⟩⟩⟩⟩⟩⟩⟩⟩⟩⟩
def cd_Q_moveBehind_2 : Nat → g_T := g_tab [(60, tr_ald 1 61), (61, tr_ild 3 62), (62, tr_cst (.int (126)) 64), (64, tr_if2 (fun x y => ¬ x = y) 72 67), (67, tr_cst (.int (94)) 69), (69, tr_goto 74), (72, tr_cst (.int (93)) 74), (74, tr_cV J_I_add 0 1 77), (77, tr_pop 78), (78, tr_goto 87), (81, tr_ald 1 82), (82, tr_ild 3 83), (83, tr_cV J_I_add 0 1 86), (86, tr_pop 87), (87, tr_inc 2 (1) 90), (90, tr_goto 26)]
set_option maxRecDepth 100000 in
theorem ok_Q_moveBehind_2 : ∀ pc, g_S (J_Q_moveBehind) pc (cd_Q_moveBehind_2 pc) := g_tab_ok <|
  List.forall_mem_cons.mpr ⟨so_aload_n d_Q_moveBehind_60 rfl rfl,
  List.forall_mem_cons.mpr ⟨so_iload_n d_Q_moveBehind_61 rfl rfl,
  List.forall_mem_cons.mpr ⟨so_bipush (by decide) d_Q_moveBehind_62 rfl,
  List.forall_mem_cons.mpr ⟨so_icmp_ne d_Q_moveBehind_64 (by decide) rfl,
  List.forall_mem_cons.mpr ⟨so_bipush (by decide) d_Q_moveBehind_67 rfl,
  List.forall_mem_cons.mpr ⟨so_goto d_Q_moveBehind_69 (by decide),
  List.forall_mem_cons.mpr ⟨so_bipush (by decide) d_Q_moveBehind_72 rfl,
  List.forall_mem_cons.mpr ⟨so_cV g_good d_Q_moveBehind_74 ⟨w_1_47, (Nat.le_of_ble_eq_true rfl), (Nat.le_of_ble_eq_true rfl), w_1_2, ⟨by decide, by decide⟩, by decide +kernel⟩ (rfl : vwCl[0]? = some (R_I, F_I, 2)) w_2_206 w_1_45 w_1_46 rfl,
  List.forall_mem_cons.mpr ⟨so_pop d_Q_moveBehind_77 rfl,
  List.forall_mem_cons.mpr ⟨so_goto d_Q_moveBehind_78 (by decide),
  List.forall_mem_cons.mpr ⟨so_aload_n d_Q_moveBehind_81 rfl rfl,
  List.forall_mem_cons.mpr ⟨so_iload_n d_Q_moveBehind_82 rfl rfl,
  List.forall_mem_cons.mpr ⟨so_cV g_good d_Q_moveBehind_83 ⟨w_1_47, (Nat.le_of_ble_eq_true rfl), (Nat.le_of_ble_eq_true rfl), w_1_2, ⟨by decide, by decide⟩, by decide +kernel⟩ (rfl : vwCl[0]? = some (R_I, F_I, 2)) w_2_206 w_1_45 w_1_46 rfl,
  List.forall_mem_cons.mpr ⟨so_pop d_Q_moveBehind_86 rfl,
  List.forall_mem_cons.mpr ⟨so_iinc d_Q_moveBehind_87 (by decide) (Nat.le_of_ble_eq_true rfl) rfl,
  List.forall_mem_cons.mpr ⟨so_goto d_Q_moveBehind_90 (by decide),
  fun _ h => absurd h List.not_mem_nil⟩⟩⟩⟩⟩⟩⟩⟩⟩⟩⟩⟩⟩⟩⟩⟩
def cd_Q_moveBehind_3 : Nat → g_T := g_tab [(93, tr_cst (.int (1)) 94), (94, tr_rz)]
set_option maxRecDepth 100000 in
theorem ok_Q_moveBehind_3 : ∀ pc, g_S (J_Q_moveBehind) pc (cd_Q_moveBehind_3 pc) := g_tab_ok <|
  List.forall_mem_cons.mpr ⟨so_iconst (by decide) d_Q_moveBehind_93 rfl,
  List.forall_mem_cons.mpr ⟨so_zret d_Q_moveBehind_94 rfl,
  fun _ h => absurd h List.not_mem_nil⟩⟩
def cd_Q_moveBehind : Nat → g_T := g_chk [(26, cd_Q_moveBehind_0), (59, cd_Q_moveBehind_1), (90, cd_Q_moveBehind_2), (94, cd_Q_moveBehind_3)]
theorem ok_Q_moveBehind : ∀ pc, g_S (J_Q_moveBehind) pc (cd_Q_moveBehind pc) := g_chk_ok <|
  List.forall_mem_cons.mpr ⟨ok_Q_moveBehind_0,
  List.forall_mem_cons.mpr ⟨ok_Q_moveBehind_1,
  List.forall_mem_cons.mpr ⟨ok_Q_moveBehind_2,
  List.forall_mem_cons.mpr ⟨ok_Q_moveBehind_3,
  fun _ h => absurd h List.not_mem_nil⟩⟩⟩⟩
abbrev J_T_differenceOf : g_J := (y_T_differenceOf, prog_1_method_18_code, 2, (some .int), (0, 0), [], none)
theorem d_T_differenceOf_0 : decode prog_1_method_18_code 0 = .ok (.lload_n 0, 1) := by decide +kernel
theorem d_T_differenceOf_1 : decode prog_1_method_18_code 1 = .ok (.ldc2_w 170, 3) := by decide +kernel
theorem d_T_differenceOf_4 : decode prog_1_method_18_code 4 = .ok (.lrem, 1) := by decide +kernel
theorem d_T_differenceOf_5 : decode prog_1_method_18_code 5 = .ok (.lconst 0, 1) := by decide +kernel
theorem d_T_differenceOf_6 : decode prog_1_method_18_code 6 = .ok (.lcmp, 1) := by decide +kernel
theorem d_T_differenceOf_7 : decode prog_1_method_18_code 7 = .ok (.ifCond .ne 11, 3) := by decide +kernel
theorem d_T_differenceOf_10 : decode prog_1_method_18_code 10 = .ok (.lload_n 0, 1) := by decide +kernel
theorem d_T_differenceOf_11 : decode prog_1_method_18_code 11 = .ok (.ldc2_w 170, 3) := by decide +kernel
theorem d_T_differenceOf_14 : decode prog_1_method_18_code 14 = .ok (.ldiv, 1) := by decide +kernel
theorem d_T_differenceOf_15 : decode prog_1_method_18_code 15 = .ok (.goto 10, 3) := by decide +kernel
theorem d_T_differenceOf_18 : decode prog_1_method_18_code 18 = .ok (.lload_n 0, 1) := by decide +kernel
theorem d_T_differenceOf_19 : decode prog_1_method_18_code 19 = .ok (.lconst 1, 1) := by decide +kernel
theorem d_T_differenceOf_20 : decode prog_1_method_18_code 20 = .ok (.ladd, 1) := by decide +kernel
theorem d_T_differenceOf_21 : decode prog_1_method_18_code 21 = .ok (.ldc2_w 172, 3) := by decide +kernel
theorem d_T_differenceOf_24 : decode prog_1_method_18_code 24 = .ok (.ldiv, 1) := by decide +kernel
theorem d_T_differenceOf_25 : decode prog_1_method_18_code 25 = .ok (.l2i, 1) := by decide +kernel
theorem d_T_differenceOf_26 : decode prog_1_method_18_code 26 = .ok (.ireturn, 1) := by decide +kernel
def cd_T_differenceOf_0 : Nat → g_T := g_tab [(0, tr_lld 0 1), (1, tr_cst (.long (2)) 4), (4, tr_lz (fun x y => x - x / y * y) 5), (5, tr_cst (.long (0)) 6), (6, tr_lcmp 7), (7, tr_if1 (fun x => ¬ x = 0) 18 10), (10, tr_lld 0 11), (11, tr_cst (.long (2)) 14), (14, tr_lz (fun x y => x / y) 15), (15, tr_goto 25), (18, tr_lld 0 19), (19, tr_cst (.long (1)) 20), (20, tr_ll (fun x y => x + y) 21), (21, tr_cst (.long (-2)) 24), (24, tr_lz (fun x y => x / y) 25), (25, tr_l2i 26)]
set_option maxRecDepth 100000 in
theorem ok_T_differenceOf_0 : ∀ pc, g_S (J_T_differenceOf) pc (cd_T_differenceOf_0 pc) := g_tab_ok <|
  List.forall_mem_cons.mpr ⟨so_lload_n d_T_differenceOf_0 rfl rfl,
  List.forall_mem_cons.mpr ⟨so_ldc2 w_3_0 d_T_differenceOf_1 rfl,
  List.forall_mem_cons.mpr ⟨so_lrem d_T_differenceOf_4 rfl,
  List.forall_mem_cons.mpr ⟨so_lconst (by decide) d_T_differenceOf_5 rfl,
  List.forall_mem_cons.mpr ⟨so_lcmp d_T_differenceOf_6 rfl,
  List.forall_mem_cons.mpr ⟨so_if_ne d_T_differenceOf_7 (by decide) rfl,
  List.forall_mem_cons.mpr ⟨so_lload_n d_T_differenceOf_10 rfl rfl,
  List.forall_mem_cons.mpr ⟨so_ldc2 w_3_0 d_T_differenceOf_11 rfl,
  List.forall_mem_cons.mpr ⟨so_ldiv d_T_differenceOf_14 rfl,
  List.forall_mem_cons.mpr ⟨so_goto d_T_differenceOf_15 (by decide),
  List.forall_mem_cons.mpr ⟨so_lload_n d_T_differenceOf_18 rfl rfl,
  List.forall_mem_cons.mpr ⟨so_lconst (by decide) d_T_differenceOf_19 rfl,
  List.forall_mem_cons.mpr ⟨so_ladd d_T_differenceOf_20 rfl,
  List.forall_mem_cons.mpr ⟨so_ldc2 w_3_1 d_T_differenceOf_21 rfl,
  List.forall_mem_cons.mpr ⟨so_ldiv d_T_differenceOf_24 rfl,
  List.forall_mem_cons.mpr ⟨so_l2i d_T_differenceOf_25 rfl,
  fun _ h => absurd h List.not_mem_nil⟩⟩⟩⟩⟩⟩⟩⟩⟩⟩⟩⟩⟩⟩⟩⟩
def cd_T_differenceOf_1 : Nat → g_T := g_tab [(26, tr_ri)]
set_option maxRecDepth 100000 in
theorem ok_T_differenceOf_1 : ∀ pc, g_S (J_T_differenceOf) pc (cd_T_differenceOf_1 pc) := g_tab_ok <|
  List.forall_mem_cons.mpr ⟨so_iret d_T_differenceOf_26 rfl,
  fun _ h => absurd h List.not_mem_nil⟩
def cd_T_differenceOf : Nat → g_T := g_chk [(25, cd_T_differenceOf_0), (26, cd_T_differenceOf_1)]
theorem ok_T_differenceOf : ∀ pc, g_S (J_T_differenceOf) pc (cd_T_differenceOf pc) := g_chk_ok <|
  List.forall_mem_cons.mpr ⟨ok_T_differenceOf_0,
  List.forall_mem_cons.mpr ⟨ok_T_differenceOf_1,
  fun _ h => absurd h List.not_mem_nil⟩⟩
