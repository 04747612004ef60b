/-! where methods begin, by program (wip/whole/gen/mkgo.py T W !T_numberOf !T_sumOf !T_differenceOf) -/
set_option maxRecDepth 100000 in
theorem go_T_init (S : List Nat) (n : Nat) {l : Launch} {h : g_H} {Post : g_P} {a : Nat} (k : cd_T_init 0 l [some (.ref a), none] [] h (g_N l J_T_init cd_T_init S Post n) Post) : g_Run l J_T_init [.ref a] h Post :=
  g_run_of [some (.ref a), none] (by decide) w_1_23 rfl (Nat.le_of_ble_eq_true rfl) rfl (g_go ok_T_init S n k)
set_option maxRecDepth 100000 in
theorem go_T_count (S : List Nat) (n : Nat) {l : Launch} {h : g_H} {Post : g_P} {a : Nat} {v1 : Int32} (k : cd_T_count 0 l [some (.ref a), some (.int v1)] [] h (g_N l J_T_count cd_T_count S Post n) Post) : g_Run l J_T_count [.ref a, .int v1] h Post :=
  g_run_of [some (.ref a), some (.int v1)] (by decide) w_2_24 rfl (Nat.le_of_ble_eq_true rfl) rfl (g_go ok_T_count S n k)
set_option maxRecDepth 100000 in
theorem go_W_thread (S : List Nat) (n : Nat) {l : Launch} {h : g_H} {Post : g_P} {v0 : Nat} {v1 : Int32} {v2 : Nat} (k : cd_W_thread 0 l [some (.ref v0), some (.int v1), some (.ref v2), none] [] h (g_N l J_W_thread cd_W_thread S Post n) Post) : g_Run l J_W_thread [.ref v0, .int v1, .ref v2] h Post :=
  g_run_of [some (.ref v0), some (.int v1), some (.ref v2), none] (by decide) w_2_61 rfl (Nat.le_of_ble_eq_true rfl) rfl (g_go ok_W_thread S n k)
set_option maxRecDepth 100000 in
theorem go_T_thread (S : List Nat) (n : Nat) {l : Launch} {h : g_H} {Post : g_P} {a : Nat} {v1 : Int32} (k : cd_T_thread 0 l [some (.ref a), some (.int v1), none] [] h (g_N l J_T_thread cd_T_thread S Post n) Post) : g_Run l J_T_thread [.ref a, .int v1] h Post :=
  g_run_of [some (.ref a), some (.int v1), none] (by decide) w_2_66 rfl (Nat.le_of_ble_eq_true rfl) rfl (g_go ok_T_thread S n k)
set_option maxRecDepth 100000 in
theorem go_W_row (S : List Nat) (n : Nat) {l : Launch} {h : g_H} {Post : g_P} {v0 : Nat} {v1 : Int32} {v2 : Int32} {v3 : Int32} {v4 : Nat} (k : cd_W_row 0 l [some (.ref v0), some (.int v1), some (.int v2), some (.int v3), some (.ref v4), none] [] h (g_N l J_W_row cd_W_row S Post n) Post) : g_Run l J_W_row [.ref v0, .int v1, .int v2, .int v3, .ref v4] h Post :=
  g_run_of [some (.ref v0), some (.int v1), some (.int v2), some (.int v3), some (.ref v4), none] (by decide) w_2_137 rfl (Nat.le_of_ble_eq_true rfl) rfl (g_go ok_W_row S n k)
set_option maxRecDepth 100000 in
theorem go_T_row (S : List Nat) (n : Nat) {l : Launch} {h : g_H} {Post : g_P} {a : Nat} {v1 : Int32} {v2 : Int32} {v3 : Int32} (k : cd_T_row 0 l [some (.ref a), some (.int v1), some (.int v2), some (.int v3)] [] h (g_N l J_T_row cd_T_row S Post n) Post) : g_Run l J_T_row [.ref a, .int v1, .int v2, .int v3] h Post :=
  g_run_of [some (.ref a), some (.int v1), some (.int v2), some (.int v3)] (by decide) w_2_143 rfl (Nat.le_of_ble_eq_true rfl) rfl (g_go ok_T_row S n k)
set_option maxRecDepth 100000 in
theorem go_T_isRow (S : List Nat) (n : Nat) {l : Launch} {h : g_H} {Post : g_P} {a : Nat} {v1 : Int32} {v2 : Int32} {v3 : Int32} (k : cd_T_isRow 0 l [some (.ref a), some (.int v1), some (.int v2), some (.int v3)] [] h (g_N l J_T_isRow cd_T_isRow S Post n) Post) : g_Run l J_T_isRow [.ref a, .int v1, .int v2, .int v3] h Post :=
  g_run_of [some (.ref a), some (.int v1), some (.int v2), some (.int v3)] (by decide) w_2_147 rfl (Nat.le_of_ble_eq_true rfl) rfl (g_go ok_T_isRow S n k)
set_option maxRecDepth 100000 in
theorem go_T_closeOpen (S : List Nat) (n : Nat) {l : Launch} {h : g_H} {Post : g_P} {a : Nat} (k : cd_T_closeOpen 0 l [some (.ref a)] [] h (g_N l J_T_closeOpen cd_T_closeOpen S Post n) Post) : g_Run l J_T_closeOpen [.ref a] h Post :=
  g_run_of [some (.ref a)] (by decide) w_2_176 rfl (Nat.le_of_ble_eq_true rfl) rfl (g_go ok_T_closeOpen S n k)
set_option maxRecDepth 100000 in
theorem go_W_mark (S : List Nat) (n : Nat) {l : Launch} {h : g_H} {Post : g_P} {v0 : Nat} {v1 : Nat} (k : cd_W_mark 0 l [some (.ref v0), some (.ref v1), none] [] h (g_N l J_W_mark cd_W_mark S Post n) Post) : g_Run l J_W_mark [.ref v0, .ref v1] h Post :=
  g_run_of [some (.ref v0), some (.ref v1), none] (by decide) w_3_92 rfl (Nat.le_of_ble_eq_true rfl) rfl (g_go ok_W_mark S n k)
set_option maxRecDepth 100000 in
theorem go_T_mark (S : List Nat) (n : Nat) {l : Launch} {h : g_H} {Post : g_P} {a : Nat} (k : cd_T_mark 0 l [some (.ref a)] [] h (g_N l J_T_mark cd_T_mark S Post n) Post) : g_Run l J_T_mark [.ref a] h Post :=
  g_run_of [some (.ref a)] (by decide) w_3_96 rfl (Nat.le_of_ble_eq_true rfl) rfl (g_go ok_T_mark S n k)
set_option maxRecDepth 100000 in
theorem go_W_byteAt (S : List Nat) (n : Nat) {l : Launch} {h : g_H} {Post : g_P} {v0 : Nat} {v1 : Int32} {v2 : Nat} (k : cd_W_byteAt 0 l [some (.ref v0), some (.int v1), some (.ref v2), none] [] h (g_N l J_W_byteAt cd_W_byteAt S Post n) Post) : g_Run l J_W_byteAt [.ref v0, .int v1, .ref v2] h Post :=
  g_run_of [some (.ref v0), some (.int v1), some (.ref v2), none] (by decide) w_3_99 rfl (Nat.le_of_ble_eq_true rfl) rfl (g_go ok_W_byteAt S n k)
set_option maxRecDepth 100000 in
theorem go_T_byteAt (S : List Nat) (n : Nat) {l : Launch} {h : g_H} {Post : g_P} {a : Nat} {v1 : Int32} (k : cd_T_byteAt 0 l [some (.ref a), some (.int v1)] [] h (g_N l J_T_byteAt cd_T_byteAt S Post n) Post) : g_Run l J_T_byteAt [.ref a, .int v1] h Post :=
  g_run_of [some (.ref a), some (.int v1)] (by decide) w_3_103 rfl (Nat.le_of_ble_eq_true rfl) rfl (g_go ok_T_byteAt S n k)
set_option maxRecDepth 100000 in
theorem go_W_flip (S : List Nat) (n : Nat) {l : Launch} {h : g_H} {Post : g_P} {v0 : Nat} {v1 : Int32} {v2 : Int32} {v3 : Nat} (k : cd_W_flip 0 l [some (.ref v0), some (.int v1), some (.int v2), some (.ref v3), none] [] h (g_N l J_W_flip cd_W_flip S Post n) Post) : g_Run l J_W_flip [.ref v0, .int v1, .int v2, .ref v3] h Post :=
  g_run_of [some (.ref v0), some (.int v1), some (.int v2), some (.ref v3), none] (by decide) w_3_111 rfl (Nat.le_of_ble_eq_true rfl) rfl (g_go ok_W_flip S n k)
set_option maxRecDepth 100000 in
theorem go_T_flip (S : List Nat) (n : Nat) {l : Launch} {h : g_H} {Post : g_P} {a : Nat} {v1 : Int32} {v2 : Int32} (k : cd_T_flip 0 l [some (.ref a), some (.int v1), some (.int v2)] [] h (g_N l J_T_flip cd_T_flip S Post n) Post) : g_Run l J_T_flip [.ref a, .int v1, .int v2] h Post :=
  g_run_of [some (.ref a), some (.int v1), some (.int v2)] (by decide) w_3_115 rfl (Nat.le_of_ble_eq_true rfl) rfl (g_go ok_T_flip S n k)
set_option maxRecDepth 100000 in
theorem go_W_put (S : List Nat) (n : Nat) {l : Launch} {h : g_H} {Post : g_P} {v0 : Nat} {v1 : Int32} {v2 : Nat} (k : cd_W_put 0 l [some (.ref v0), some (.int v1), some (.ref v2), none] [] h (g_N l J_W_put cd_W_put S Post n) Post) : g_Run l J_W_put [.ref v0, .int v1, .ref v2] h Post :=
  g_run_of [some (.ref v0), some (.int v1), some (.ref v2), none] (by decide) w_3_119 rfl (Nat.le_of_ble_eq_true rfl) rfl (g_go ok_W_put S n k)
set_option maxRecDepth 100000 in
theorem go_T_put (S : List Nat) (n : Nat) {l : Launch} {h : g_H} {Post : g_P} {a : Nat} {v1 : Int32} (k : cd_T_put 0 l [some (.ref a), some (.int v1)] [] h (g_N l J_T_put cd_T_put S Post n) Post) : g_Run l J_T_put [.ref a, .int v1] h Post :=
  g_run_of [some (.ref a), some (.int v1)] (by decide) w_3_123 rfl (Nat.le_of_ble_eq_true rfl) rfl (g_go ok_T_put S n k)
set_option maxRecDepth 100000 in
theorem go_W_cut (S : List Nat) (n : Nat) {l : Launch} {h : g_H} {Post : g_P} {v0 : Nat} {v1 : Int32} {v2 : Nat} (k : cd_W_cut 0 l [some (.ref v0), some (.int v1), some (.ref v2), none] [] h (g_N l J_W_cut cd_W_cut S Post n) Post) : g_Run l J_W_cut [.ref v0, .int v1, .ref v2] h Post :=
  g_run_of [some (.ref v0), some (.int v1), some (.ref v2), none] (by decide) w_3_128 rfl (Nat.le_of_ble_eq_true rfl) rfl (g_go ok_W_cut S n k)
set_option maxRecDepth 100000 in
theorem go_T_cut (S : List Nat) (n : Nat) {l : Launch} {h : g_H} {Post : g_P} {a : Nat} {v1 : Int32} (k : cd_T_cut 0 l [some (.ref a), some (.int v1), none] [] h (g_N l J_T_cut cd_T_cut S Post n) Post) : g_Run l J_T_cut [.ref a, .int v1] h Post :=
  g_run_of [some (.ref a), some (.int v1), none] (by decide) w_3_132 rfl (Nat.le_of_ble_eq_true rfl) rfl (g_go ok_T_cut S n k)
set_option maxRecDepth 100000 in
theorem go_W_choose (S : List Nat) (n : Nat) {l : Launch} {h : g_H} {Post : g_P} {v0 : Nat} {v1 : Int32} {v2 : Int32} {v3 : Nat} (k : cd_W_choose 0 l [some (.ref v0), some (.int v1), some (.int v2), some (.ref v3), none] [] h (g_N l J_W_choose cd_W_choose S Post n) Post) : g_Run l J_W_choose [.ref v0, .int v1, .int v2, .ref v3] h Post :=
  g_run_of [some (.ref v0), some (.int v1), some (.int v2), some (.ref v3), none] (by decide) w_3_137 rfl (Nat.le_of_ble_eq_true rfl) rfl (g_go ok_W_choose S n k)
set_option maxRecDepth 100000 in
theorem go_T_choose (S : List Nat) (n : Nat) {l : Launch} {h : g_H} {Post : g_P} {a : Nat} {v1 : Int32} {v2 : Int32} (k : cd_T_choose 0 l [some (.ref a), some (.int v1), some (.int v2), none] [] h (g_N l J_T_choose cd_T_choose S Post n) Post) : g_Run l J_T_choose [.ref a, .int v1, .int v2] h Post :=
  g_run_of [some (.ref a), some (.int v1), some (.int v2), none] (by decide) w_3_141 rfl (Nat.le_of_ble_eq_true rfl) rfl (g_go ok_T_choose S n k)
set_option maxRecDepth 100000 in
theorem go_W_read (S : List Nat) (n : Nat) {l : Launch} {h : g_H} {Post : g_P} {v0 : Nat} {v1 : Int32} {v2 : Nat} (k : cd_W_read 0 l [some (.ref v0), some (.int v1), some (.ref v2), none] [] h (g_N l J_W_read cd_W_read S Post n) Post) : g_Run l J_W_read [.ref v0, .int v1, .ref v2] h Post :=
  g_run_of [some (.ref v0), some (.int v1), some (.ref v2), none] (by decide) w_3_145 rfl (Nat.le_of_ble_eq_true rfl) rfl (g_go ok_W_read S n k)
set_option maxRecDepth 100000 in
theorem go_T_read (S : List Nat) (n : Nat) {l : Launch} {h : g_H} {Post : g_P} {a : Nat} {v1 : Int32} (k : cd_T_read 0 l [some (.ref a), some (.int v1)] [] h (g_N l J_T_read cd_T_read S Post n) Post) : g_Run l J_T_read [.ref a, .int v1] h Post :=
  g_run_of [some (.ref a), some (.int v1)] (by decide) w_3_149 rfl (Nat.le_of_ble_eq_true rfl) rfl (g_go ok_T_read S n k)
set_option maxRecDepth 100000 in
theorem go_W_kept (S : List Nat) (n : Nat) {l : Launch} {h : g_H} {Post : g_P} {v0 : Nat} {v1 : Int32} {v2 : Int32} {v3 : Nat} (k : cd_W_kept 0 l [some (.ref v0), some (.int v1), some (.int v2), some (.ref v3), none] [] h (g_N l J_W_kept cd_W_kept S Post n) Post) : g_Run l J_W_kept [.ref v0, .int v1, .int v2, .ref v3] h Post :=
  g_run_of [some (.ref v0), some (.int v1), some (.int v2), some (.ref v3), none] (by decide) w_4_49 rfl (Nat.le_of_ble_eq_true rfl) rfl (g_go ok_W_kept S n k)
set_option maxRecDepth 100000 in
theorem go_T_kept (S : List Nat) (n : Nat) {l : Launch} {h : g_H} {Post : g_P} {a : Nat} {v1 : Int32} {v2 : Int32} (k : cd_T_kept 0 l [some (.ref a), some (.int v1), some (.int v2)] [] h (g_N l J_T_kept cd_T_kept S Post n) Post) : g_Run l J_T_kept [.ref a, .int v1, .int v2] h Post :=
  g_run_of [some (.ref a), some (.int v1), some (.int v2)] (by decide) w_4_53 rfl (Nat.le_of_ble_eq_true rfl) rfl (g_go ok_T_kept S n k)
set_option maxRecDepth 100000 in
theorem go_W_merged (S : List Nat) (n : Nat) {l : Launch} {h : g_H} {Post : g_P} {v0 : Nat} {v1 : Int32} {v2 : Nat} (k : cd_W_merged 0 l [some (.ref v0), some (.int v1), some (.ref v2), none] [] h (g_N l J_W_merged cd_W_merged S Post n) Post) : g_Run l J_W_merged [.ref v0, .int v1, .ref v2] h Post :=
  g_run_of [some (.ref v0), some (.int v1), some (.ref v2), none] (by decide) w_4_67 rfl (Nat.le_of_ble_eq_true rfl) rfl (g_go ok_W_merged S n k)
set_option maxRecDepth 100000 in
theorem go_T_merged (S : List Nat) (n : Nat) {l : Launch} {h : g_H} {Post : g_P} {a : Nat} {v1 : Int32} (k : cd_T_merged 0 l [some (.ref a), some (.int v1)] [] h (g_N l J_T_merged cd_T_merged S Post n) Post) : g_Run l J_T_merged [.ref a, .int v1] h Post :=
  g_run_of [some (.ref a), some (.int v1)] (by decide) w_4_71 rfl (Nat.le_of_ble_eq_true rfl) rfl (g_go ok_T_merged S n k)
