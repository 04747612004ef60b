/-! tables, by program (wip/whole/gen/mkt.py W !W_law) -/
abbrev J_W_thread : g_J := (y_W_thread, method_3_code, 4, (some .int), (7, 122), [(0, 9, 12, 13)], none)
theorem d_W_thread_0 : decode method_3_code 0 = .ok (.aload_n 2, 1) := by decide +kernel
theorem d_W_thread_1 : decode method_3_code 1 = .ok (.iconst 0, 1) := by decide +kernel
theorem d_W_thread_2 : decode method_3_code 2 = .ok (.aload_n 0, 1) := by decide +kernel
theorem d_W_thread_3 : decode method_3_code 3 = .ok (.iload_n 1, 1) := by decide +kernel
theorem d_W_thread_4 : decode method_3_code 4 = .ok (.invokevirtual 7, 3) := by decide +kernel
theorem d_W_thread_7 : decode method_3_code 7 = .ok (.i2l, 1) := by decide +kernel
theorem d_W_thread_8 : decode method_3_code 8 = .ok (.lastore, 1) := by decide +kernel
theorem d_W_thread_9 : decode method_3_code 9 = .ok (.goto 6, 3) := by decide +kernel
theorem d_W_thread_12 : decode method_3_code 12 = .ok (.astore_n 3, 1) := by decide +kernel
theorem d_W_thread_13 : decode method_3_code 13 = .ok (.iconst 1, 1) := by decide +kernel
theorem d_W_thread_14 : decode method_3_code 14 = .ok (.ireturn, 1) := by decide +kernel
theorem d_W_thread_15 : decode method_3_code 15 = .ok (.iconst 0, 1) := by decide +kernel
theorem d_W_thread_16 : decode method_3_code 16 = .ok (.ireturn, 1) := by decide +kernel
def cd_W_thread_0 : Nat → g_T := g_tab [(0, tr_ald 2 1), (1, tr_cst (.int (0)) 2), (2, tr_ald 0 3), (3, tr_ild 1 4), (4, tr_cVh J_T_thread 9 1 7 [(z_X1, 12)]), (7, tr_i2l 8), (8, tr_las 9), (9, tr_goto 15), (12, tr_ast 3 13), (13, tr_cst (.int (1)) 14), (14, tr_ri), (15, tr_cst (.int (0)) 16), (16, tr_ri)]
set_option maxRecDepth 100000 in
theorem ok_W_thread_0 : ∀ pc, g_S (J_W_thread) pc (cd_W_thread_0 pc) := g_tab_ok <|
  List.forall_mem_cons.mpr ⟨so_aload_n d_W_thread_0 rfl rfl,
  List.forall_mem_cons.mpr ⟨so_iconst (by decide) d_W_thread_1 rfl,
  List.forall_mem_cons.mpr ⟨so_aload_n d_W_thread_2 rfl rfl,
  List.forall_mem_cons.mpr ⟨so_iload_n d_W_thread_3 rfl rfl,
  List.forall_mem_cons.mpr ⟨so_cVh d_W_thread_4 ⟨w_2_66, (Nat.le_of_ble_eq_true rfl), (Nat.le_of_ble_eq_true rfl), w_1_1, ⟨by decide, by decide⟩, by decide +kernel⟩ (rfl : vwCl[9]? = some (R_T, F_T, 9)) w_2_63 w_2_64 w_2_65 (List.forall_mem_cons.mpr ⟨⟨[], (0, 9, 12, 13), [], rfl, rfl, (Nat.le_of_ble_eq_true rfl), (Nat.le_of_ble_eq_true rfl), by decide, w_2_62, z_c1, fun _ h => absurd h List.not_mem_nil⟩, fun _ h => absurd h List.not_mem_nil⟩) rfl,
  List.forall_mem_cons.mpr ⟨so_i2l d_W_thread_7 rfl,
  List.forall_mem_cons.mpr ⟨so_lastore d_W_thread_8 rfl,
  List.forall_mem_cons.mpr ⟨so_goto d_W_thread_9 (by decide),
  List.forall_mem_cons.mpr ⟨so_astore_n d_W_thread_12 rfl (Nat.le_of_ble_eq_true rfl) rfl,
  List.forall_mem_cons.mpr ⟨so_iconst (by decide) d_W_thread_13 rfl,
  List.forall_mem_cons.mpr ⟨so_iret d_W_thread_14 rfl,
  List.forall_mem_cons.mpr ⟨so_iconst (by decide) d_W_thread_15 rfl,
  List.forall_mem_cons.mpr ⟨so_iret d_W_thread_16 rfl,
  fun _ h => absurd h List.not_mem_nil⟩⟩⟩⟩⟩⟩⟩⟩⟩⟩⟩⟩⟩
def cd_W_thread : Nat → g_T := g_chk [(16, cd_W_thread_0)]
theorem ok_W_thread : ∀ pc, g_S (J_W_thread) pc (cd_W_thread pc) := g_chk_ok <|
  List.forall_mem_cons.mpr ⟨ok_W_thread_0,
  fun _ h => absurd h List.not_mem_nil⟩
abbrev J_W_row : g_J := (y_W_row, method_4_code, 6, (some .int), (7, 159), [(0, 12, 15, 19), (0, 12, 19, 21)], none)
theorem d_W_row_0 : decode method_4_code 0 = .ok (.aload 4, 2) := by decide +kernel
theorem d_W_row_2 : decode method_4_code 2 = .ok (.iconst 0, 1) := by decide +kernel
theorem d_W_row_3 : decode method_4_code 3 = .ok (.aload_n 0, 1) := by decide +kernel
theorem d_W_row_4 : decode method_4_code 4 = .ok (.iload_n 1, 1) := by decide +kernel
theorem d_W_row_5 : decode method_4_code 5 = .ok (.iload_n 2, 1) := by decide +kernel
theorem d_W_row_6 : decode method_4_code 6 = .ok (.iload_n 3, 1) := by decide +kernel
theorem d_W_row_7 : decode method_4_code 7 = .ok (.invokevirtual 15, 3) := by decide +kernel
theorem d_W_row_10 : decode method_4_code 10 = .ok (.i2l, 1) := by decide +kernel
theorem d_W_row_11 : decode method_4_code 11 = .ok (.lastore, 1) := by decide +kernel
theorem d_W_row_12 : decode method_4_code 12 = .ok (.goto 11, 3) := by decide +kernel
theorem d_W_row_15 : decode method_4_code 15 = .ok (.astore 5, 2) := by decide +kernel
theorem d_W_row_17 : decode method_4_code 17 = .ok (.iconst 1, 1) := by decide +kernel
theorem d_W_row_18 : decode method_4_code 18 = .ok (.ireturn, 1) := by decide +kernel
theorem d_W_row_19 : decode method_4_code 19 = .ok (.astore 5, 2) := by decide +kernel
theorem d_W_row_21 : decode method_4_code 21 = .ok (.iconst 2, 1) := by decide +kernel
theorem d_W_row_22 : decode method_4_code 22 = .ok (.ireturn, 1) := by decide +kernel
theorem d_W_row_23 : decode method_4_code 23 = .ok (.iconst 0, 1) := by decide +kernel
theorem d_W_row_24 : decode method_4_code 24 = .ok (.ireturn, 1) := by decide +kernel
def cd_W_row_0 : Nat → g_T := g_tab [(0, tr_ald 4 2), (2, tr_cst (.int (0)) 3), (3, tr_ald 0 4), (4, tr_ild 1 5), (5, tr_ild 2 6), (6, tr_ild 3 7), (7, tr_cVh J_T_row 9 3 10 [(z_X2, 15), (z_X3, 19)]), (10, tr_i2l 11), (11, tr_las 12), (12, tr_goto 23), (15, tr_ast 5 17), (17, tr_cst (.int (1)) 18), (18, tr_ri), (19, tr_ast 5 21), (21, tr_cst (.int (2)) 22), (22, tr_ri)]
set_option maxRecDepth 100000 in
theorem ok_W_row_0 : ∀ pc, g_S (J_W_row) pc (cd_W_row_0 pc) := g_tab_ok <|
  List.forall_mem_cons.mpr ⟨so_aload d_W_row_0 rfl,
  List.forall_mem_cons.mpr ⟨so_iconst (by decide) d_W_row_2 rfl,
  List.forall_mem_cons.mpr ⟨so_aload_n d_W_row_3 rfl rfl,
  List.forall_mem_cons.mpr ⟨so_iload_n d_W_row_4 rfl rfl,
  List.forall_mem_cons.mpr ⟨so_iload_n d_W_row_5 rfl rfl,
  List.forall_mem_cons.mpr ⟨so_iload_n d_W_row_6 rfl rfl,
  List.forall_mem_cons.mpr ⟨so_cVh d_W_row_7 ⟨w_2_143, (Nat.le_of_ble_eq_true rfl), (Nat.le_of_ble_eq_true rfl), w_1_1, ⟨by decide, by decide⟩, by decide +kernel⟩ (rfl : vwCl[9]? = some (R_T, F_T, 9)) w_2_140 w_2_141 w_2_142 (List.forall_mem_cons.mpr ⟨⟨[], (0, 12, 15, 19), [(0, 12, 19, 21)], rfl, rfl, (Nat.le_of_ble_eq_true rfl), (Nat.le_of_ble_eq_true rfl), by decide, w_2_138, z_c2, fun _ h => absurd h List.not_mem_nil⟩, List.forall_mem_cons.mpr ⟨⟨[(0, 12, 15, 19)], (0, 12, 19, 21), [], rfl, rfl, (Nat.le_of_ble_eq_true rfl), (Nat.le_of_ble_eq_true rfl), by decide, w_2_139, z_c3, fun y hy => by cases List.mem_singleton.mp hy; exact ⟨by decide, z_X2, w_2_138, z_n32⟩⟩, fun _ h => absurd h List.not_mem_nil⟩⟩) rfl,
  List.forall_mem_cons.mpr ⟨so_i2l d_W_row_10 rfl,
  List.forall_mem_cons.mpr ⟨so_lastore d_W_row_11 rfl,
  List.forall_mem_cons.mpr ⟨so_goto d_W_row_12 (by decide),
  List.forall_mem_cons.mpr ⟨so_astore d_W_row_15 (Nat.le_of_ble_eq_true rfl) rfl,
  List.forall_mem_cons.mpr ⟨so_iconst (by decide) d_W_row_17 rfl,
  List.forall_mem_cons.mpr ⟨so_iret d_W_row_18 rfl,
  List.forall_mem_cons.mpr ⟨so_astore d_W_row_19 (Nat.le_of_ble_eq_true rfl) rfl,
  List.forall_mem_cons.mpr ⟨so_iconst (by decide) d_W_row_21 rfl,
  List.forall_mem_cons.mpr ⟨so_iret d_W_row_22 rfl,
  fun _ h => absurd h List.not_mem_nil⟩⟩⟩⟩⟩⟩⟩⟩⟩⟩⟩⟩⟩⟩⟩⟩
def cd_W_row_1 : Nat → g_T := g_tab [(23, tr_cst (.int (0)) 24), (24, tr_ri)]
set_option maxRecDepth 100000 in
theorem ok_W_row_1 : ∀ pc, g_S (J_W_row) pc (cd_W_row_1 pc) := g_tab_ok <|
  List.forall_mem_cons.mpr ⟨so_iconst (by decide) d_W_row_23 rfl,
  List.forall_mem_cons.mpr ⟨so_iret d_W_row_24 rfl,
  fun _ h => absurd h List.not_mem_nil⟩⟩
def cd_W_row : Nat → g_T := g_chk [(22, cd_W_row_0), (24, cd_W_row_1)]
theorem ok_W_row : ∀ pc, g_S (J_W_row) pc (cd_W_row pc) := g_chk_ok <|
  List.forall_mem_cons.mpr ⟨ok_W_row_0,
  List.forall_mem_cons.mpr ⟨ok_W_row_1,
  fun _ h => absurd h List.not_mem_nil⟩⟩
abbrev J_W_mark : g_J := (y_W_mark, method_5_code, 3, (some .int), (7, 156), [(0, 8, 11, 21)], none)
theorem d_W_mark_0 : decode method_5_code 0 = .ok (.aload_n 1, 1) := by decide +kernel
theorem d_W_mark_1 : decode method_5_code 1 = .ok (.iconst 0, 1) := by decide +kernel
theorem d_W_mark_2 : decode method_5_code 2 = .ok (.aload_n 0, 1) := by decide +kernel
theorem d_W_mark_3 : decode method_5_code 3 = .ok (.invokevirtual 23, 3) := by decide +kernel
theorem d_W_mark_6 : decode method_5_code 6 = .ok (.i2l, 1) := by decide +kernel
theorem d_W_mark_7 : decode method_5_code 7 = .ok (.lastore, 1) := by decide +kernel
theorem d_W_mark_8 : decode method_5_code 8 = .ok (.goto 6, 3) := by decide +kernel
theorem d_W_mark_11 : decode method_5_code 11 = .ok (.astore_n 2, 1) := by decide +kernel
theorem d_W_mark_12 : decode method_5_code 12 = .ok (.iconst 1, 1) := by decide +kernel
theorem d_W_mark_13 : decode method_5_code 13 = .ok (.ireturn, 1) := by decide +kernel
theorem d_W_mark_14 : decode method_5_code 14 = .ok (.iconst 0, 1) := by decide +kernel
theorem d_W_mark_15 : decode method_5_code 15 = .ok (.ireturn, 1) := by decide +kernel
def cd_W_mark_0 : Nat → g_T := g_tab [(0, tr_ald 1 1), (1, tr_cst (.int (0)) 2), (2, tr_ald 0 3), (3, tr_cVh J_T_mark 9 0 6 [(z_X3, 11)]), (6, tr_i2l 7), (7, tr_las 8), (8, tr_goto 14), (11, tr_ast 2 12), (12, tr_cst (.int (1)) 13), (13, tr_ri), (14, tr_cst (.int (0)) 15), (15, tr_ri)]
set_option maxRecDepth 100000 in
theorem ok_W_mark_0 : ∀ pc, g_S (J_W_mark) pc (cd_W_mark_0 pc) := g_tab_ok <|
  List.forall_mem_cons.mpr ⟨so_aload_n d_W_mark_0 rfl rfl,
  List.forall_mem_cons.mpr ⟨so_iconst (by decide) d_W_mark_1 rfl,
  List.forall_mem_cons.mpr ⟨so_aload_n d_W_mark_2 rfl rfl,
  List.forall_mem_cons.mpr ⟨so_cVh d_W_mark_3 ⟨w_3_96, (Nat.le_of_ble_eq_true rfl), (Nat.le_of_ble_eq_true rfl), w_1_1, ⟨by decide, by decide⟩, by decide +kernel⟩ (rfl : vwCl[9]? = some (R_T, F_T, 9)) w_3_93 w_3_94 w_3_95 (List.forall_mem_cons.mpr ⟨⟨[], (0, 8, 11, 21), [], rfl, rfl, (Nat.le_of_ble_eq_true rfl), (Nat.le_of_ble_eq_true rfl), by decide, w_2_139, z_c3, fun _ h => absurd h List.not_mem_nil⟩, fun _ h => absurd h List.not_mem_nil⟩) rfl,
  List.forall_mem_cons.mpr ⟨so_i2l d_W_mark_6 rfl,
  List.forall_mem_cons.mpr ⟨so_lastore d_W_mark_7 rfl,
  List.forall_mem_cons.mpr ⟨so_goto d_W_mark_8 (by decide),
  List.forall_mem_cons.mpr ⟨so_astore_n d_W_mark_11 rfl (Nat.le_of_ble_eq_true rfl) rfl,
  List.forall_mem_cons.mpr ⟨so_iconst (by decide) d_W_mark_12 rfl,
  List.forall_mem_cons.mpr ⟨so_iret d_W_mark_13 rfl,
  List.forall_mem_cons.mpr ⟨so_iconst (by decide) d_W_mark_14 rfl,
  List.forall_mem_cons.mpr ⟨so_iret d_W_mark_15 rfl,
  fun _ h => absurd h List.not_mem_nil⟩⟩⟩⟩⟩⟩⟩⟩⟩⟩⟩⟩
def cd_W_mark : Nat → g_T := g_chk [(15, cd_W_mark_0)]
theorem ok_W_mark : ∀ pc, g_S (J_W_mark) pc (cd_W_mark pc) := g_chk_ok <|
  List.forall_mem_cons.mpr ⟨ok_W_mark_0,
  fun _ h => absurd h List.not_mem_nil⟩
abbrev J_W_byteAt : g_J := (y_W_byteAt, method_6_code, 4, (some .int), (7, 121), [(0, 9, 12, 13)], none)
theorem d_W_byteAt_0 : decode method_6_code 0 = .ok (.aload_n 2, 1) := by decide +kernel
theorem d_W_byteAt_1 : decode method_6_code 1 = .ok (.iconst 0, 1) := by decide +kernel
theorem d_W_byteAt_2 : decode method_6_code 2 = .ok (.aload_n 0, 1) := by decide +kernel
theorem d_W_byteAt_3 : decode method_6_code 3 = .ok (.iload_n 1, 1) := by decide +kernel
theorem d_W_byteAt_4 : decode method_6_code 4 = .ok (.invokevirtual 27, 3) := by decide +kernel
theorem d_W_byteAt_7 : decode method_6_code 7 = .ok (.i2l, 1) := by decide +kernel
theorem d_W_byteAt_8 : decode method_6_code 8 = .ok (.lastore, 1) := by decide +kernel
theorem d_W_byteAt_9 : decode method_6_code 9 = .ok (.goto 6, 3) := by decide +kernel
theorem d_W_byteAt_12 : decode method_6_code 12 = .ok (.astore_n 3, 1) := by decide +kernel
theorem d_W_byteAt_13 : decode method_6_code 13 = .ok (.iconst 1, 1) := by decide +kernel
theorem d_W_byteAt_14 : decode method_6_code 14 = .ok (.ireturn, 1) := by decide +kernel
theorem d_W_byteAt_15 : decode method_6_code 15 = .ok (.iconst 0, 1) := by decide +kernel
theorem d_W_byteAt_16 : decode method_6_code 16 = .ok (.ireturn, 1) := by decide +kernel
def cd_W_byteAt_0 : Nat → g_T := g_tab [(0, tr_ald 2 1), (1, tr_cst (.int (0)) 2), (2, tr_ald 0 3), (3, tr_ild 1 4), (4, tr_cVh J_T_byteAt 9 1 7 [(z_X1, 12)]), (7, tr_i2l 8), (8, tr_las 9), (9, tr_goto 15), (12, tr_ast 3 13), (13, tr_cst (.int (1)) 14), (14, tr_ri), (15, tr_cst (.int (0)) 16), (16, tr_ri)]
set_option maxRecDepth 100000 in
theorem ok_W_byteAt_0 : ∀ pc, g_S (J_W_byteAt) pc (cd_W_byteAt_0 pc) := g_tab_ok <|
  List.forall_mem_cons.mpr ⟨so_aload_n d_W_byteAt_0 rfl rfl,
  List.forall_mem_cons.mpr ⟨so_iconst (by decide) d_W_byteAt_1 rfl,
  List.forall_mem_cons.mpr ⟨so_aload_n d_W_byteAt_2 rfl rfl,
  List.forall_mem_cons.mpr ⟨so_iload_n d_W_byteAt_3 rfl rfl,
  List.forall_mem_cons.mpr ⟨so_cVh d_W_byteAt_4 ⟨w_3_103, (Nat.le_of_ble_eq_true rfl), (Nat.le_of_ble_eq_true rfl), w_1_1, ⟨by decide, by decide⟩, by decide +kernel⟩ (rfl : vwCl[9]? = some (R_T, F_T, 9)) w_3_100 w_3_101 w_3_102 (List.forall_mem_cons.mpr ⟨⟨[], (0, 9, 12, 13), [], rfl, rfl, (Nat.le_of_ble_eq_true rfl), (Nat.le_of_ble_eq_true rfl), by decide, w_2_62, z_c1, fun _ h => absurd h List.not_mem_nil⟩, fun _ h => absurd h List.not_mem_nil⟩) rfl,
  List.forall_mem_cons.mpr ⟨so_i2l d_W_byteAt_7 rfl,
  List.forall_mem_cons.mpr ⟨so_lastore d_W_byteAt_8 rfl,
  List.forall_mem_cons.mpr ⟨so_goto d_W_byteAt_9 (by decide),
  List.forall_mem_cons.mpr ⟨so_astore_n d_W_byteAt_12 rfl (Nat.le_of_ble_eq_true rfl) rfl,
  List.forall_mem_cons.mpr ⟨so_iconst (by decide) d_W_byteAt_13 rfl,
  List.forall_mem_cons.mpr ⟨so_iret d_W_byteAt_14 rfl,
  List.forall_mem_cons.mpr ⟨so_iconst (by decide) d_W_byteAt_15 rfl,
  List.forall_mem_cons.mpr ⟨so_iret d_W_byteAt_16 rfl,
  fun _ h => absurd h List.not_mem_nil⟩⟩⟩⟩⟩⟩⟩⟩⟩⟩⟩⟩⟩
def cd_W_byteAt : Nat → g_T := g_chk [(16, cd_W_byteAt_0)]
theorem ok_W_byteAt : ∀ pc, g_S (J_W_byteAt) pc (cd_W_byteAt pc) := g_chk_ok <|
  List.forall_mem_cons.mpr ⟨ok_W_byteAt_0,
  fun _ h => absurd h List.not_mem_nil⟩
abbrev J_W_flip : g_J := (y_W_flip, method_7_code, 5, (some .int), (7, 122), [(0, 10, 13, 13), (0, 10, 17, 19)], none)
theorem d_W_flip_0 : decode method_7_code 0 = .ok (.aload_n 3, 1) := by decide +kernel
theorem d_W_flip_1 : decode method_7_code 1 = .ok (.iconst 0, 1) := by decide +kernel
theorem d_W_flip_2 : decode method_7_code 2 = .ok (.aload_n 0, 1) := by decide +kernel
theorem d_W_flip_3 : decode method_7_code 3 = .ok (.iload_n 1, 1) := by decide +kernel
theorem d_W_flip_4 : decode method_7_code 4 = .ok (.iload_n 2, 1) := by decide +kernel
theorem d_W_flip_5 : decode method_7_code 5 = .ok (.invokevirtual 30, 3) := by decide +kernel
theorem d_W_flip_8 : decode method_7_code 8 = .ok (.i2l, 1) := by decide +kernel
theorem d_W_flip_9 : decode method_7_code 9 = .ok (.lastore, 1) := by decide +kernel
theorem d_W_flip_10 : decode method_7_code 10 = .ok (.goto 11, 3) := by decide +kernel
theorem d_W_flip_13 : decode method_7_code 13 = .ok (.astore 4, 2) := by decide +kernel
theorem d_W_flip_15 : decode method_7_code 15 = .ok (.iconst 1, 1) := by decide +kernel
theorem d_W_flip_16 : decode method_7_code 16 = .ok (.ireturn, 1) := by decide +kernel
theorem d_W_flip_17 : decode method_7_code 17 = .ok (.astore 4, 2) := by decide +kernel
theorem d_W_flip_19 : decode method_7_code 19 = .ok (.iconst 2, 1) := by decide +kernel
theorem d_W_flip_20 : decode method_7_code 20 = .ok (.ireturn, 1) := by decide +kernel
theorem d_W_flip_21 : decode method_7_code 21 = .ok (.iconst 0, 1) := by decide +kernel
theorem d_W_flip_22 : decode method_7_code 22 = .ok (.ireturn, 1) := by decide +kernel
def cd_W_flip_0 : Nat → g_T := g_tab [(0, tr_ald 3 1), (1, tr_cst (.int (0)) 2), (2, tr_ald 0 3), (3, tr_ild 1 4), (4, tr_ild 2 5), (5, tr_cVh J_T_flip 9 2 8 [(z_X1, 13), (z_X2, 17)]), (8, tr_i2l 9), (9, tr_las 10), (10, tr_goto 21), (13, tr_ast 4 15), (15, tr_cst (.int (1)) 16), (16, tr_ri), (17, tr_ast 4 19), (19, tr_cst (.int (2)) 20), (20, tr_ri), (21, tr_cst (.int (0)) 22)]
set_option maxRecDepth 100000 in
theorem ok_W_flip_0 : ∀ pc, g_S (J_W_flip) pc (cd_W_flip_0 pc) := g_tab_ok <|
  List.forall_mem_cons.mpr ⟨so_aload_n d_W_flip_0 rfl rfl,
  List.forall_mem_cons.mpr ⟨so_iconst (by decide) d_W_flip_1 rfl,
  List.forall_mem_cons.mpr ⟨so_aload_n d_W_flip_2 rfl rfl,
  List.forall_mem_cons.mpr ⟨so_iload_n d_W_flip_3 rfl rfl,
  List.forall_mem_cons.mpr ⟨so_iload_n d_W_flip_4 rfl rfl,
  List.forall_mem_cons.mpr ⟨so_cVh d_W_flip_5 ⟨w_3_115, (Nat.le_of_ble_eq_true rfl), (Nat.le_of_ble_eq_true rfl), w_1_1, ⟨by decide, by decide⟩, by decide +kernel⟩ (rfl : vwCl[9]? = some (R_T, F_T, 9)) w_3_112 w_3_113 w_3_114 (List.forall_mem_cons.mpr ⟨⟨[], (0, 10, 13, 13), [(0, 10, 17, 19)], rfl, rfl, (Nat.le_of_ble_eq_true rfl), (Nat.le_of_ble_eq_true rfl), by decide, w_2_62, z_c1, fun _ h => absurd h List.not_mem_nil⟩, List.forall_mem_cons.mpr ⟨⟨[(0, 10, 13, 13)], (0, 10, 17, 19), [], rfl, rfl, (Nat.le_of_ble_eq_true rfl), (Nat.le_of_ble_eq_true rfl), by decide, w_2_138, z_c2, fun y hy => by cases List.mem_singleton.mp hy; exact ⟨by decide, z_X1, w_2_62, z_n21⟩⟩, fun _ h => absurd h List.not_mem_nil⟩⟩) rfl,
  List.forall_mem_cons.mpr ⟨so_i2l d_W_flip_8 rfl,
  List.forall_mem_cons.mpr ⟨so_lastore d_W_flip_9 rfl,
  List.forall_mem_cons.mpr ⟨so_goto d_W_flip_10 (by decide),
  List.forall_mem_cons.mpr ⟨so_astore d_W_flip_13 (Nat.le_of_ble_eq_true rfl) rfl,
  List.forall_mem_cons.mpr ⟨so_iconst (by decide) d_W_flip_15 rfl,
  List.forall_mem_cons.mpr ⟨so_iret d_W_flip_16 rfl,
  List.forall_mem_cons.mpr ⟨so_astore d_W_flip_17 (Nat.le_of_ble_eq_true rfl) rfl,
  List.forall_mem_cons.mpr ⟨so_iconst (by decide) d_W_flip_19 rfl,
  List.forall_mem_cons.mpr ⟨so_iret d_W_flip_20 rfl,
  List.forall_mem_cons.mpr ⟨so_iconst (by decide) d_W_flip_21 rfl,
  fun _ h => absurd h List.not_mem_nil⟩⟩⟩⟩⟩⟩⟩⟩⟩⟩⟩⟩⟩⟩⟩⟩
def cd_W_flip_1 : Nat → g_T := g_tab [(22, tr_ri)]
set_option maxRecDepth 100000 in
theorem ok_W_flip_1 : ∀ pc, g_S (J_W_flip) pc (cd_W_flip_1 pc) := g_tab_ok <|
  List.forall_mem_cons.mpr ⟨so_iret d_W_flip_22 rfl,
  fun _ h => absurd h List.not_mem_nil⟩
def cd_W_flip : Nat → g_T := g_chk [(21, cd_W_flip_0), (22, cd_W_flip_1)]
theorem ok_W_flip : ∀ pc, g_S (J_W_flip) pc (cd_W_flip pc) := g_chk_ok <|
  List.forall_mem_cons.mpr ⟨ok_W_flip_0,
  List.forall_mem_cons.mpr ⟨ok_W_flip_1,
  fun _ h => absurd h List.not_mem_nil⟩⟩
abbrev J_W_put : g_J := (y_W_put, method_8_code, 4, (some .int), (7, 121), [(0, 9, 12, 19), (0, 9, 15, 21)], none)
theorem d_W_put_0 : decode method_8_code 0 = .ok (.aload_n 2, 1) := by decide +kernel
theorem d_W_put_1 : decode method_8_code 1 = .ok (.iconst 0, 1) := by decide +kernel
theorem d_W_put_2 : decode method_8_code 2 = .ok (.aload_n 0, 1) := by decide +kernel
theorem d_W_put_3 : decode method_8_code 3 = .ok (.iload_n 1, 1) := by decide +kernel
theorem d_W_put_4 : decode method_8_code 4 = .ok (.invokevirtual 34, 3) := by decide +kernel
theorem d_W_put_7 : decode method_8_code 7 = .ok (.i2l, 1) := by decide +kernel
theorem d_W_put_8 : decode method_8_code 8 = .ok (.lastore, 1) := by decide +kernel
theorem d_W_put_9 : decode method_8_code 9 = .ok (.goto 9, 3) := by decide +kernel
theorem d_W_put_12 : decode method_8_code 12 = .ok (.astore_n 3, 1) := by decide +kernel
theorem d_W_put_13 : decode method_8_code 13 = .ok (.iconst 1, 1) := by decide +kernel
theorem d_W_put_14 : decode method_8_code 14 = .ok (.ireturn, 1) := by decide +kernel
theorem d_W_put_15 : decode method_8_code 15 = .ok (.astore_n 3, 1) := by decide +kernel
theorem d_W_put_16 : decode method_8_code 16 = .ok (.iconst 2, 1) := by decide +kernel
theorem d_W_put_17 : decode method_8_code 17 = .ok (.ireturn, 1) := by decide +kernel
theorem d_W_put_18 : decode method_8_code 18 = .ok (.iconst 0, 1) := by decide +kernel
theorem d_W_put_19 : decode method_8_code 19 = .ok (.ireturn, 1) := by decide +kernel
def cd_W_put_0 : Nat → g_T := g_tab [(0, tr_ald 2 1), (1, tr_cst (.int (0)) 2), (2, tr_ald 0 3), (3, tr_ild 1 4), (4, tr_cVh J_T_put 9 1 7 [(z_X2, 12), (z_X3, 15)]), (7, tr_i2l 8), (8, tr_las 9), (9, tr_goto 18), (12, tr_ast 3 13), (13, tr_cst (.int (1)) 14), (14, tr_ri), (15, tr_ast 3 16), (16, tr_cst (.int (2)) 17), (17, tr_ri), (18, tr_cst (.int (0)) 19), (19, tr_ri)]
set_option maxRecDepth 100000 in
theorem ok_W_put_0 : ∀ pc, g_S (J_W_put) pc (cd_W_put_0 pc) := g_tab_ok <|
  List.forall_mem_cons.mpr ⟨so_aload_n d_W_put_0 rfl rfl,
  List.forall_mem_cons.mpr ⟨so_iconst (by decide) d_W_put_1 rfl,
  List.forall_mem_cons.mpr ⟨so_aload_n d_W_put_2 rfl rfl,
  List.forall_mem_cons.mpr ⟨so_iload_n d_W_put_3 rfl rfl,
  List.forall_mem_cons.mpr ⟨so_cVh d_W_put_4 ⟨w_3_123, (Nat.le_of_ble_eq_true rfl), (Nat.le_of_ble_eq_true rfl), w_1_1, ⟨by decide, by decide⟩, by decide +kernel⟩ (rfl : vwCl[9]? = some (R_T, F_T, 9)) w_3_120 w_3_121 w_3_122 (List.forall_mem_cons.mpr ⟨⟨[], (0, 9, 12, 19), [(0, 9, 15, 21)], rfl, rfl, (Nat.le_of_ble_eq_true rfl), (Nat.le_of_ble_eq_true rfl), by decide, w_2_138, z_c2, fun _ h => absurd h List.not_mem_nil⟩, List.forall_mem_cons.mpr ⟨⟨[(0, 9, 12, 19)], (0, 9, 15, 21), [], rfl, rfl, (Nat.le_of_ble_eq_true rfl), (Nat.le_of_ble_eq_true rfl), by decide, w_2_139, z_c3, fun y hy => by cases List.mem_singleton.mp hy; exact ⟨by decide, z_X2, w_2_138, z_n32⟩⟩, fun _ h => absurd h List.not_mem_nil⟩⟩) rfl,
  List.forall_mem_cons.mpr ⟨so_i2l d_W_put_7 rfl,
  List.forall_mem_cons.mpr ⟨so_lastore d_W_put_8 rfl,
  List.forall_mem_cons.mpr ⟨so_goto d_W_put_9 (by decide),
  List.forall_mem_cons.mpr ⟨so_astore_n d_W_put_12 rfl (Nat.le_of_ble_eq_true rfl) rfl,
  List.forall_mem_cons.mpr ⟨so_iconst (by decide) d_W_put_13 rfl,
  List.forall_mem_cons.mpr ⟨so_iret d_W_put_14 rfl,
  List.forall_mem_cons.mpr ⟨so_astore_n d_W_put_15 rfl (Nat.le_of_ble_eq_true rfl) rfl,
  List.forall_mem_cons.mpr ⟨so_iconst (by decide) d_W_put_16 rfl,
  List.forall_mem_cons.mpr ⟨so_iret d_W_put_17 rfl,
  List.forall_mem_cons.mpr ⟨so_iconst (by decide) d_W_put_18 rfl,
  List.forall_mem_cons.mpr ⟨so_iret d_W_put_19 rfl,
  fun _ h => absurd h List.not_mem_nil⟩⟩⟩⟩⟩⟩⟩⟩⟩⟩⟩⟩⟩⟩⟩⟩
def cd_W_put : Nat → g_T := g_chk [(19, cd_W_put_0)]
theorem ok_W_put : ∀ pc, g_S (J_W_put) pc (cd_W_put pc) := g_chk_ok <|
  List.forall_mem_cons.mpr ⟨ok_W_put_0,
  fun _ h => absurd h List.not_mem_nil⟩
abbrev J_W_cut : g_J := (y_W_cut, method_9_code, 4, (some .int), (7, 122), [(0, 9, 12, 19)], none)
theorem d_W_cut_0 : decode method_9_code 0 = .ok (.aload_n 2, 1) := by decide +kernel
theorem d_W_cut_1 : decode method_9_code 1 = .ok (.iconst 0, 1) := by decide +kernel
theorem d_W_cut_2 : decode method_9_code 2 = .ok (.aload_n 0, 1) := by decide +kernel
theorem d_W_cut_3 : decode method_9_code 3 = .ok (.iload_n 1, 1) := by decide +kernel
theorem d_W_cut_4 : decode method_9_code 4 = .ok (.invokevirtual 37, 3) := by decide +kernel
theorem d_W_cut_7 : decode method_9_code 7 = .ok (.i2l, 1) := by decide +kernel
theorem d_W_cut_8 : decode method_9_code 8 = .ok (.lastore, 1) := by decide +kernel
theorem d_W_cut_9 : decode method_9_code 9 = .ok (.goto 6, 3) := by decide +kernel
theorem d_W_cut_12 : decode method_9_code 12 = .ok (.astore_n 3, 1) := by decide +kernel
theorem d_W_cut_13 : decode method_9_code 13 = .ok (.iconst 1, 1) := by decide +kernel
theorem d_W_cut_14 : decode method_9_code 14 = .ok (.ireturn, 1) := by decide +kernel
theorem d_W_cut_15 : decode method_9_code 15 = .ok (.iconst 0, 1) := by decide +kernel
theorem d_W_cut_16 : decode method_9_code 16 = .ok (.ireturn, 1) := by decide +kernel
def cd_W_cut_0 : Nat → g_T := g_tab [(0, tr_ald 2 1), (1, tr_cst (.int (0)) 2), (2, tr_ald 0 3), (3, tr_ild 1 4), (4, tr_cVh J_T_cut 9 1 7 [(z_X2, 12)]), (7, tr_i2l 8), (8, tr_las 9), (9, tr_goto 15), (12, tr_ast 3 13), (13, tr_cst (.int (1)) 14), (14, tr_ri), (15, tr_cst (.int (0)) 16), (16, tr_ri)]
set_option maxRecDepth 100000 in
theorem ok_W_cut_0 : ∀ pc, g_S (J_W_cut) pc (cd_W_cut_0 pc) := g_tab_ok <|
  List.forall_mem_cons.mpr ⟨so_aload_n d_W_cut_0 rfl rfl,
  List.forall_mem_cons.mpr ⟨so_iconst (by decide) d_W_cut_1 rfl,
  List.forall_mem_cons.mpr ⟨so_aload_n d_W_cut_2 rfl rfl,
  List.forall_mem_cons.mpr ⟨so_iload_n d_W_cut_3 rfl rfl,
  List.forall_mem_cons.mpr ⟨so_cVh d_W_cut_4 ⟨w_3_132, (Nat.le_of_ble_eq_true rfl), (Nat.le_of_ble_eq_true rfl), w_1_1, ⟨by decide, by decide⟩, by decide +kernel⟩ (rfl : vwCl[9]? = some (R_T, F_T, 9)) w_3_129 w_3_130 w_3_131 (List.forall_mem_cons.mpr ⟨⟨[], (0, 9, 12, 19), [], rfl, rfl, (Nat.le_of_ble_eq_true rfl), (Nat.le_of_ble_eq_true rfl), by decide, w_2_138, z_c2, fun _ h => absurd h List.not_mem_nil⟩, fun _ h => absurd h List.not_mem_nil⟩) rfl,
  List.forall_mem_cons.mpr ⟨so_i2l d_W_cut_7 rfl,
  List.forall_mem_cons.mpr ⟨so_lastore d_W_cut_8 rfl,
  List.forall_mem_cons.mpr ⟨so_goto d_W_cut_9 (by decide),
  List.forall_mem_cons.mpr ⟨so_astore_n d_W_cut_12 rfl (Nat.le_of_ble_eq_true rfl) rfl,
  List.forall_mem_cons.mpr ⟨so_iconst (by decide) d_W_cut_13 rfl,
  List.forall_mem_cons.mpr ⟨so_iret d_W_cut_14 rfl,
  List.forall_mem_cons.mpr ⟨so_iconst (by decide) d_W_cut_15 rfl,
  List.forall_mem_cons.mpr ⟨so_iret d_W_cut_16 rfl,
  fun _ h => absurd h List.not_mem_nil⟩⟩⟩⟩⟩⟩⟩⟩⟩⟩⟩⟩⟩
def cd_W_cut : Nat → g_T := g_chk [(16, cd_W_cut_0)]
theorem ok_W_cut : ∀ pc, g_S (J_W_cut) pc (cd_W_cut pc) := g_chk_ok <|
  List.forall_mem_cons.mpr ⟨ok_W_cut_0,
  fun _ h => absurd h List.not_mem_nil⟩
abbrev J_W_choose : g_J := (y_W_choose, method_10_code, 5, (some .int), (7, 123), [(0, 10, 13, 19)], none)
theorem d_W_choose_0 : decode method_10_code 0 = .ok (.aload_n 3, 1) := by decide +kernel
theorem d_W_choose_1 : decode method_10_code 1 = .ok (.iconst 0, 1) := by decide +kernel
theorem d_W_choose_2 : decode method_10_code 2 = .ok (.aload_n 0, 1) := by decide +kernel
theorem d_W_choose_3 : decode method_10_code 3 = .ok (.iload_n 1, 1) := by decide +kernel
theorem d_W_choose_4 : decode method_10_code 4 = .ok (.iload_n 2, 1) := by decide +kernel
theorem d_W_choose_5 : decode method_10_code 5 = .ok (.invokevirtual 40, 3) := by decide +kernel
theorem d_W_choose_8 : decode method_10_code 8 = .ok (.i2l, 1) := by decide +kernel
theorem d_W_choose_9 : decode method_10_code 9 = .ok (.lastore, 1) := by decide +kernel
theorem d_W_choose_10 : decode method_10_code 10 = .ok (.goto 7, 3) := by decide +kernel
theorem d_W_choose_13 : decode method_10_code 13 = .ok (.astore 4, 2) := by decide +kernel
theorem d_W_choose_15 : decode method_10_code 15 = .ok (.iconst 1, 1) := by decide +kernel
theorem d_W_choose_16 : decode method_10_code 16 = .ok (.ireturn, 1) := by decide +kernel
theorem d_W_choose_17 : decode method_10_code 17 = .ok (.iconst 0, 1) := by decide +kernel
theorem d_W_choose_18 : decode method_10_code 18 = .ok (.ireturn, 1) := by decide +kernel
def cd_W_choose_0 : Nat → g_T := g_tab [(0, tr_ald 3 1), (1, tr_cst (.int (0)) 2), (2, tr_ald 0 3), (3, tr_ild 1 4), (4, tr_ild 2 5), (5, tr_cVh J_T_choose 9 2 8 [(z_X2, 13)]), (8, tr_i2l 9), (9, tr_las 10), (10, tr_goto 17), (13, tr_ast 4 15), (15, tr_cst (.int (1)) 16), (16, tr_ri), (17, tr_cst (.int (0)) 18), (18, tr_ri)]
set_option maxRecDepth 100000 in
theorem ok_W_choose_0 : ∀ pc, g_S (J_W_choose) pc (cd_W_choose_0 pc) := g_tab_ok <|
  List.forall_mem_cons.mpr ⟨so_aload_n d_W_choose_0 rfl rfl,
  List.forall_mem_cons.mpr ⟨so_iconst (by decide) d_W_choose_1 rfl,
  List.forall_mem_cons.mpr ⟨so_aload_n d_W_choose_2 rfl rfl,
  List.forall_mem_cons.mpr ⟨so_iload_n d_W_choose_3 rfl rfl,
  List.forall_mem_cons.mpr ⟨so_iload_n d_W_choose_4 rfl rfl,
  List.forall_mem_cons.mpr ⟨so_cVh d_W_choose_5 ⟨w_3_141, (Nat.le_of_ble_eq_true rfl), (Nat.le_of_ble_eq_true rfl), w_1_1, ⟨by decide, by decide⟩, by decide +kernel⟩ (rfl : vwCl[9]? = some (R_T, F_T, 9)) w_3_138 w_3_139 w_3_140 (List.forall_mem_cons.mpr ⟨⟨[], (0, 10, 13, 19), [], rfl, rfl, (Nat.le_of_ble_eq_true rfl), (Nat.le_of_ble_eq_true rfl), by decide, w_2_138, z_c2, fun _ h => absurd h List.not_mem_nil⟩, fun _ h => absurd h List.not_mem_nil⟩) rfl,
  List.forall_mem_cons.mpr ⟨so_i2l d_W_choose_8 rfl,
  List.forall_mem_cons.mpr ⟨so_lastore d_W_choose_9 rfl,
  List.forall_mem_cons.mpr ⟨so_goto d_W_choose_10 (by decide),
  List.forall_mem_cons.mpr ⟨so_astore d_W_choose_13 (Nat.le_of_ble_eq_true rfl) rfl,
  List.forall_mem_cons.mpr ⟨so_iconst (by decide) d_W_choose_15 rfl,
  List.forall_mem_cons.mpr ⟨so_iret d_W_choose_16 rfl,
  List.forall_mem_cons.mpr ⟨so_iconst (by decide) d_W_choose_17 rfl,
  List.forall_mem_cons.mpr ⟨so_iret d_W_choose_18 rfl,
  fun _ h => absurd h List.not_mem_nil⟩⟩⟩⟩⟩⟩⟩⟩⟩⟩⟩⟩⟩⟩
def cd_W_choose : Nat → g_T := g_chk [(18, cd_W_choose_0)]
theorem ok_W_choose : ∀ pc, g_S (J_W_choose) pc (cd_W_choose pc) := g_chk_ok <|
  List.forall_mem_cons.mpr ⟨ok_W_choose_0,
  fun _ h => absurd h List.not_mem_nil⟩
abbrev J_W_read : g_J := (y_W_read, method_11_code, 4, (some .int), (7, 171), [(0, 9, 12, 13)], none)
theorem d_W_read_0 : decode method_11_code 0 = .ok (.aload_n 2, 1) := by decide +kernel
theorem d_W_read_1 : decode method_11_code 1 = .ok (.iconst 0, 1) := by decide +kernel
theorem d_W_read_2 : decode method_11_code 2 = .ok (.aload_n 0, 1) := by decide +kernel
theorem d_W_read_3 : decode method_11_code 3 = .ok (.iload_n 1, 1) := by decide +kernel
theorem d_W_read_4 : decode method_11_code 4 = .ok (.invokevirtual 43, 3) := by decide +kernel
theorem d_W_read_7 : decode method_11_code 7 = .ok (.i2l, 1) := by decide +kernel
theorem d_W_read_8 : decode method_11_code 8 = .ok (.lastore, 1) := by decide +kernel
theorem d_W_read_9 : decode method_11_code 9 = .ok (.goto 6, 3) := by decide +kernel
theorem d_W_read_12 : decode method_11_code 12 = .ok (.astore_n 3, 1) := by decide +kernel
theorem d_W_read_13 : decode method_11_code 13 = .ok (.iconst 1, 1) := by decide +kernel
theorem d_W_read_14 : decode method_11_code 14 = .ok (.ireturn, 1) := by decide +kernel
theorem d_W_read_15 : decode method_11_code 15 = .ok (.iconst 0, 1) := by decide +kernel
theorem d_W_read_16 : decode method_11_code 16 = .ok (.ireturn, 1) := by decide +kernel
def cd_W_read_0 : Nat → g_T := g_tab [(0, tr_ald 2 1), (1, tr_cst (.int (0)) 2), (2, tr_ald 0 3), (3, tr_ild 1 4), (4, tr_cVh J_T_read 9 1 7 [(z_X1, 12)]), (7, tr_i2l 8), (8, tr_las 9), (9, tr_goto 15), (12, tr_ast 3 13), (13, tr_cst (.int (1)) 14), (14, tr_ri), (15, tr_cst (.int (0)) 16), (16, tr_ri)]
set_option maxRecDepth 100000 in
theorem ok_W_read_0 : ∀ pc, g_S (J_W_read) pc (cd_W_read_0 pc) := g_tab_ok <|
  List.forall_mem_cons.mpr ⟨so_aload_n d_W_read_0 rfl rfl,
  List.forall_mem_cons.mpr ⟨so_iconst (by decide) d_W_read_1 rfl,
  List.forall_mem_cons.mpr ⟨so_aload_n d_W_read_2 rfl rfl,
  List.forall_mem_cons.mpr ⟨so_iload_n d_W_read_3 rfl rfl,
  List.forall_mem_cons.mpr ⟨so_cVh d_W_read_4 ⟨w_3_149, (Nat.le_of_ble_eq_true rfl), (Nat.le_of_ble_eq_true rfl), w_1_1, ⟨by decide, by decide⟩, by decide +kernel⟩ (rfl : vwCl[9]? = some (R_T, F_T, 9)) w_3_146 w_3_147 w_3_148 (List.forall_mem_cons.mpr ⟨⟨[], (0, 9, 12, 13), [], rfl, rfl, (Nat.le_of_ble_eq_true rfl), (Nat.le_of_ble_eq_true rfl), by decide, w_2_62, z_c1, fun _ h => absurd h List.not_mem_nil⟩, fun _ h => absurd h List.not_mem_nil⟩) rfl,
  List.forall_mem_cons.mpr ⟨so_i2l d_W_read_7 rfl,
  List.forall_mem_cons.mpr ⟨so_lastore d_W_read_8 rfl,
  List.forall_mem_cons.mpr ⟨so_goto d_W_read_9 (by decide),
  List.forall_mem_cons.mpr ⟨so_astore_n d_W_read_12 rfl (Nat.le_of_ble_eq_true rfl) rfl,
  List.forall_mem_cons.mpr ⟨so_iconst (by decide) d_W_read_13 rfl,
  List.forall_mem_cons.mpr ⟨so_iret d_W_read_14 rfl,
  List.forall_mem_cons.mpr ⟨so_iconst (by decide) d_W_read_15 rfl,
  List.forall_mem_cons.mpr ⟨so_iret d_W_read_16 rfl,
  fun _ h => absurd h List.not_mem_nil⟩⟩⟩⟩⟩⟩⟩⟩⟩⟩⟩⟩⟩
def cd_W_read : Nat → g_T := g_chk [(16, cd_W_read_0)]
theorem ok_W_read : ∀ pc, g_S (J_W_read) pc (cd_W_read pc) := g_chk_ok <|
  List.forall_mem_cons.mpr ⟨ok_W_read_0,
  fun _ h => absurd h List.not_mem_nil⟩
abbrev J_W_kept : g_J := (y_W_kept, method_12_code, 5, (some .int), (7, 122), [(0, 10, 13, 13)], none)
theorem d_W_kept_0 : decode method_12_code 0 = .ok (.aload_n 3, 1) := by decide +kernel
theorem d_W_kept_1 : decode method_12_code 1 = .ok (.iconst 0, 1) := by decide +kernel
theorem d_W_kept_2 : decode method_12_code 2 = .ok (.aload_n 0, 1) := by decide +kernel
theorem d_W_kept_3 : decode method_12_code 3 = .ok (.iload_n 1, 1) := by decide +kernel
theorem d_W_kept_4 : decode method_12_code 4 = .ok (.iload_n 2, 1) := by decide +kernel
theorem d_W_kept_5 : decode method_12_code 5 = .ok (.invokevirtual 46, 3) := by decide +kernel
theorem d_W_kept_8 : decode method_12_code 8 = .ok (.i2l, 1) := by decide +kernel
theorem d_W_kept_9 : decode method_12_code 9 = .ok (.lastore, 1) := by decide +kernel
theorem d_W_kept_10 : decode method_12_code 10 = .ok (.goto 7, 3) := by decide +kernel
theorem d_W_kept_13 : decode method_12_code 13 = .ok (.astore 4, 2) := by decide +kernel
theorem d_W_kept_15 : decode method_12_code 15 = .ok (.iconst 1, 1) := by decide +kernel
theorem d_W_kept_16 : decode method_12_code 16 = .ok (.ireturn, 1) := by decide +kernel
theorem d_W_kept_17 : decode method_12_code 17 = .ok (.iconst 0, 1) := by decide +kernel
theorem d_W_kept_18 : decode method_12_code 18 = .ok (.ireturn, 1) := by decide +kernel
def cd_W_kept_0 : Nat → g_T := g_tab [(0, tr_ald 3 1), (1, tr_cst (.int (0)) 2), (2, tr_ald 0 3), (3, tr_ild 1 4), (4, tr_ild 2 5), (5, tr_cVh J_T_kept 9 2 8 [(z_X1, 13)]), (8, tr_i2l 9), (9, tr_las 10), (10, tr_goto 17), (13, tr_ast 4 15), (15, tr_cst (.int (1)) 16), (16, tr_ri), (17, tr_cst (.int (0)) 18), (18, tr_ri)]
set_option maxRecDepth 100000 in
theorem ok_W_kept_0 : ∀ pc, g_S (J_W_kept) pc (cd_W_kept_0 pc) := g_tab_ok <|
  List.forall_mem_cons.mpr ⟨so_aload_n d_W_kept_0 rfl rfl,
  List.forall_mem_cons.mpr ⟨so_iconst (by decide) d_W_kept_1 rfl,
  List.forall_mem_cons.mpr ⟨so_aload_n d_W_kept_2 rfl rfl,
  List.forall_mem_cons.mpr ⟨so_iload_n d_W_kept_3 rfl rfl,
  List.forall_mem_cons.mpr ⟨so_iload_n d_W_kept_4 rfl rfl,
  List.forall_mem_cons.mpr ⟨so_cVh d_W_kept_5 ⟨w_4_53, (Nat.le_of_ble_eq_true rfl), (Nat.le_of_ble_eq_true rfl), w_1_1, ⟨by decide, by decide⟩, by decide +kernel⟩ (rfl : vwCl[9]? = some (R_T, F_T, 9)) w_4_50 w_4_51 w_4_52 (List.forall_mem_cons.mpr ⟨⟨[], (0, 10, 13, 13), [], rfl, rfl, (Nat.le_of_ble_eq_true rfl), (Nat.le_of_ble_eq_true rfl), by decide, w_2_62, z_c1, fun _ h => absurd h List.not_mem_nil⟩, fun _ h => absurd h List.not_mem_nil⟩) rfl,
  List.forall_mem_cons.mpr ⟨so_i2l d_W_kept_8 rfl,
  List.forall_mem_cons.mpr ⟨so_lastore d_W_kept_9 rfl,
  List.forall_mem_cons.mpr ⟨so_goto d_W_kept_10 (by decide),
  List.forall_mem_cons.mpr ⟨so_astore d_W_kept_13 (Nat.le_of_ble_eq_true rfl) rfl,
  List.forall_mem_cons.mpr ⟨so_iconst (by decide) d_W_kept_15 rfl,
  List.forall_mem_cons.mpr ⟨so_iret d_W_kept_16 rfl,
  List.forall_mem_cons.mpr ⟨so_iconst (by decide) d_W_kept_17 rfl,
  List.forall_mem_cons.mpr ⟨so_iret d_W_kept_18 rfl,
  fun _ h => absurd h List.not_mem_nil⟩⟩⟩⟩⟩⟩⟩⟩⟩⟩⟩⟩⟩⟩
def cd_W_kept : Nat → g_T := g_chk [(18, cd_W_kept_0)]
theorem ok_W_kept : ∀ pc, g_S (J_W_kept) pc (cd_W_kept pc) := g_chk_ok <|
  List.forall_mem_cons.mpr ⟨ok_W_kept_0,
  fun _ h => absurd h List.not_mem_nil⟩
abbrev J_W_merged : g_J := (y_W_merged, method_13_code, 4, (some .int), (7, 134), [(0, 9, 12, 13)], none)
theorem d_W_merged_0 : decode method_13_code 0 = .ok (.aload_n 2, 1) := by decide +kernel
theorem d_W_merged_1 : decode method_13_code 1 = .ok (.iconst 0, 1) := by decide +kernel
theorem d_W_merged_2 : decode method_13_code 2 = .ok (.aload_n 0, 1) := by decide +kernel
theorem d_W_merged_3 : decode method_13_code 3 = .ok (.iload_n 1, 1) := by decide +kernel
theorem d_W_merged_4 : decode method_13_code 4 = .ok (.invokevirtual 49, 3) := by decide +kernel
theorem d_W_merged_7 : decode method_13_code 7 = .ok (.i2l, 1) := by decide +kernel
theorem d_W_merged_8 : decode method_13_code 8 = .ok (.lastore, 1) := by decide +kernel
theorem d_W_merged_9 : decode method_13_code 9 = .ok (.goto 6, 3) := by decide +kernel
theorem d_W_merged_12 : decode method_13_code 12 = .ok (.astore_n 3, 1) := by decide +kernel
theorem d_W_merged_13 : decode method_13_code 13 = .ok (.iconst 1, 1) := by decide +kernel
theorem d_W_merged_14 : decode method_13_code 14 = .ok (.ireturn, 1) := by decide +kernel
theorem d_W_merged_15 : decode method_13_code 15 = .ok (.iconst 0, 1) := by decide +kernel
theorem d_W_merged_16 : decode method_13_code 16 = .ok (.ireturn, 1) := by decide +kernel
def cd_W_merged_0 : Nat → g_T := g_tab [(0, tr_ald 2 1), (1, tr_cst (.int (0)) 2), (2, tr_ald 0 3), (3, tr_ild 1 4), (4, tr_cVh J_T_merged 9 1 7 [(z_X1, 12)]), (7, tr_i2l 8), (8, tr_las 9), (9, tr_goto 15), (12, tr_ast 3 13), (13, tr_cst (.int (1)) 14), (14, tr_ri), (15, tr_cst (.int (0)) 16), (16, tr_ri)]
set_option maxRecDepth 100000 in
theorem ok_W_merged_0 : ∀ pc, g_S (J_W_merged) pc (cd_W_merged_0 pc) := g_tab_ok <|
  List.forall_mem_cons.mpr ⟨so_aload_n d_W_merged_0 rfl rfl,
  List.forall_mem_cons.mpr ⟨so_iconst (by decide) d_W_merged_1 rfl,
  List.forall_mem_cons.mpr ⟨so_aload_n d_W_merged_2 rfl rfl,
  List.forall_mem_cons.mpr ⟨so_iload_n d_W_merged_3 rfl rfl,
  List.forall_mem_cons.mpr ⟨so_cVh d_W_merged_4 ⟨w_4_71, (Nat.le_of_ble_eq_true rfl), (Nat.le_of_ble_eq_true rfl), w_1_1, ⟨by decide, by decide⟩, by decide +kernel⟩ (rfl : vwCl[9]? = some (R_T, F_T, 9)) w_4_68 w_4_69 w_4_70 (List.forall_mem_cons.mpr ⟨⟨[], (0, 9, 12, 13), [], rfl, rfl, (Nat.le_of_ble_eq_true rfl), (Nat.le_of_ble_eq_true rfl), by decide, w_2_62, z_c1, fun _ h => absurd h List.not_mem_nil⟩, fun _ h => absurd h List.not_mem_nil⟩) rfl,
  List.forall_mem_cons.mpr ⟨so_i2l d_W_merged_7 rfl,
  List.forall_mem_cons.mpr ⟨so_lastore d_W_merged_8 rfl,
  List.forall_mem_cons.mpr ⟨so_goto d_W_merged_9 (by decide),
  List.forall_mem_cons.mpr ⟨so_astore_n d_W_merged_12 rfl (Nat.le_of_ble_eq_true rfl) rfl,
  List.forall_mem_cons.mpr ⟨so_iconst (by decide) d_W_merged_13 rfl,
  List.forall_mem_cons.mpr ⟨so_iret d_W_merged_14 rfl,
  List.forall_mem_cons.mpr ⟨so_iconst (by decide) d_W_merged_15 rfl,
  List.forall_mem_cons.mpr ⟨so_iret d_W_merged_16 rfl,
  fun _ h => absurd h List.not_mem_nil⟩⟩⟩⟩⟩⟩⟩⟩⟩⟩⟩⟩⟩
def cd_W_merged : Nat → g_T := g_chk [(16, cd_W_merged_0)]
theorem ok_W_merged : ∀ pc, g_S (J_W_merged) pc (cd_W_merged pc) := g_chk_ok <|
  List.forall_mem_cons.mpr ⟨ok_W_merged_0,
  fun _ h => absurd h List.not_mem_nil⟩
