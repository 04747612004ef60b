/-! where methods begin, by program (wip/whole/gen/mkgo.py I L B V M Q U K R Z T_numberOf T_sumOf T_differenceOf) -/
set_option maxRecDepth 100000 in
theorem go_I_init (S : List Nat) (n : Nat) {l : Launch} {h : g_H} {Post : g_P} {a : Nat} {v1 : Int32} (k : cd_I_init 0 l [some (.ref a), some (.int v1)] [] h (g_N l J_I_init cd_I_init S Post n) Post) : g_Run l J_I_init [.ref a, .int v1] h Post :=
  g_run_of [some (.ref a), some (.int v1)] (by decide) w_1_31 rfl (Nat.le_of_ble_eq_true rfl) rfl (g_go ok_I_init S n k)
set_option maxRecDepth 100000 in
theorem go_I_add (S : List Nat) (n : Nat) {l : Launch} {h : g_H} {Post : g_P} {a : Nat} {v1 : Int32} (k : cd_I_add 0 l [some (.ref a), some (.int v1)] [] h (g_N l J_I_add cd_I_add S Post n) Post) : g_Run l J_I_add [.ref a, .int v1] h Post :=
  g_run_of [some (.ref a), some (.int v1)] (by decide) w_1_47 rfl (Nat.le_of_ble_eq_true rfl) rfl (g_go ok_I_add S n k)
set_option maxRecDepth 100000 in
theorem go_B_init (S : List Nat) (n : Nat) {l : Launch} {h : g_H} {Post : g_P} {a : Nat} (k : cd_B_init 0 l [some (.ref a)] [] h (g_N l J_B_init cd_B_init S Post n) Post) : g_Run l J_B_init [.ref a] h Post :=
  g_run_of [some (.ref a)] (by decide) w_1_52 rfl (Nat.le_of_ble_eq_true rfl) rfl (g_go ok_B_init S n k)
set_option maxRecDepth 100000 in
theorem go_Q_init (S : List Nat) (n : Nat) {l : Launch} {h : g_H} {Post : g_P} {a : Nat} (k : cd_Q_init 0 l [some (.ref a)] [] h (g_N l J_Q_init cd_Q_init S Post n) Post) : g_Run l J_Q_init [.ref a] h Post :=
  g_run_of [some (.ref a)] (by decide) w_1_76 rfl (Nat.le_of_ble_eq_true rfl) rfl (g_go ok_Q_init S n k)
set_option maxRecDepth 100000 in
theorem go_M_init (S : List Nat) (n : Nat) {l : Launch} {h : g_H} {Post : g_P} {a : Nat} (k : cd_M_init 0 l [some (.ref a)] [] h (g_N l J_M_init cd_M_init S Post n) Post) : g_Run l J_M_init [.ref a] h Post :=
  g_run_of [some (.ref a)] (by decide) w_1_84 rfl (Nat.le_of_ble_eq_true rfl) rfl (g_go ok_M_init S n k)
set_option maxRecDepth 100000 in
theorem go_L_init (S : List Nat) (n : Nat) {l : Launch} {h : g_H} {Post : g_P} {a : Nat} (k : cd_L_init 0 l [some (.ref a)] [] h (g_N l J_L_init cd_L_init S Post n) Post) : g_Run l J_L_init [.ref a] h Post :=
  g_run_of [some (.ref a)] (by decide) w_1_90 rfl (Nat.le_of_ble_eq_true rfl) rfl (g_go ok_L_init S n k)
set_option maxRecDepth 100000 in
theorem go_V_init (S : List Nat) (n : Nat) {l : Launch} {h : g_H} {Post : g_P} {a : Nat} (k : cd_V_init 0 l [some (.ref a)] [] h (g_N l J_V_init cd_V_init S Post n) Post) : g_Run l J_V_init [.ref a] h Post :=
  g_run_of [some (.ref a)] (by decide) w_1_103 rfl (Nat.le_of_ble_eq_true rfl) rfl (g_go ok_V_init S n k)
set_option maxRecDepth 100000 in
theorem go_R_init (S : List Nat) (n : Nat) {l : Launch} {h : g_H} {Post : g_P} {a : Nat} (k : cd_R_init 0 l [some (.ref a)] [] h (g_N l J_R_init cd_R_init S Post n) Post) : g_Run l J_R_init [.ref a] h Post :=
  g_run_of [some (.ref a)] (by decide) w_1_151 rfl (Nat.le_of_ble_eq_true rfl) rfl (g_go ok_R_init S n k)
set_option maxRecDepth 100000 in
theorem go_U_init (S : List Nat) (n : Nat) {l : Launch} {h : g_H} {Post : g_P} {a : Nat} (k : cd_U_init 0 l [some (.ref a)] [] h (g_N l J_U_init cd_U_init S Post n) Post) : g_Run l J_U_init [.ref a] h Post :=
  g_run_of [some (.ref a)] (by decide) w_1_157 rfl (Nat.le_of_ble_eq_true rfl) rfl (g_go ok_U_init S n k)
set_option maxRecDepth 100000 in
theorem go_K_init (S : List Nat) (n : Nat) {l : Launch} {h : g_H} {Post : g_P} {a : Nat} (k : cd_K_init 0 l [some (.ref a)] [] h (g_N l J_K_init cd_K_init S Post n) Post) : g_Run l J_K_init [.ref a] h Post :=
  g_run_of [some (.ref a)] (by decide) w_1_182 rfl (Nat.le_of_ble_eq_true rfl) rfl (g_go ok_K_init S n k)
set_option maxRecDepth 100000 in
theorem go_I_size (S : List Nat) (n : Nat) {l : Launch} {h : g_H} {Post : g_P} {a : Nat} (k : cd_I_size 0 l [some (.ref a)] [] h (g_N l J_I_size cd_I_size S Post n) Post) : g_Run l J_I_size [.ref a] h Post :=
  g_run_of [some (.ref a)] (by decide) w_2_28 rfl (Nat.le_of_ble_eq_true rfl) rfl (g_go ok_I_size S n k)
set_option maxRecDepth 100000 in
theorem go_B_size (S : List Nat) (n : Nat) {l : Launch} {h : g_H} {Post : g_P} {a : Nat} (k : cd_B_size 0 l [some (.ref a)] [] h (g_N l J_B_size cd_B_size S Post n) Post) : g_Run l J_B_size [.ref a] h Post :=
  g_run_of [some (.ref a)] (by decide) w_2_32 rfl (Nat.le_of_ble_eq_true rfl) rfl (g_go ok_B_size S n k)
set_option maxRecDepth 100000 in
theorem go_R_passedOver (S : List Nat) (n : Nat) {l : Launch} {h : g_H} {Post : g_P} {a : Nat} (k : cd_R_passedOver 0 l [some (.ref a)] [] h (g_N l J_R_passedOver cd_R_passedOver S Post n) Post) : g_Run l J_R_passedOver [.ref a] h Post :=
  g_run_of [some (.ref a)] (by decide) w_2_37 rfl (Nat.le_of_ble_eq_true rfl) rfl (g_go ok_R_passedOver S n k)
set_option maxRecDepth 100000 in
theorem go_R_blocks (S : List Nat) (n : Nat) {l : Launch} {h : g_H} {Post : g_P} {a : Nat} (k : cd_R_blocks 0 l [some (.ref a)] [] h (g_N l J_R_blocks cd_R_blocks S Post n) Post) : g_Run l J_R_blocks [.ref a] h Post :=
  g_run_of [some (.ref a)] (by decide) w_2_41 rfl (Nat.le_of_ble_eq_true rfl) rfl (g_go ok_R_blocks S n k)
set_option maxRecDepth 100000 in
theorem go_R_broken (S : List Nat) (n : Nat) {l : Launch} {h : g_H} {Post : g_P} {a : Nat} (k : cd_R_broken 0 l [some (.ref a)] [] h (g_N l J_R_broken cd_R_broken S Post n) Post) : g_Run l J_R_broken [.ref a] h Post :=
  g_run_of [some (.ref a)] (by decide) w_2_45 rfl (Nat.le_of_ble_eq_true rfl) rfl (g_go ok_R_broken S n k)
set_option maxRecDepth 100000 in
theorem go_R_rows (S : List Nat) (n : Nat) {l : Launch} {h : g_H} {Post : g_P} {a : Nat} (k : cd_R_rows 0 l [some (.ref a)] [] h (g_N l J_R_rows cd_R_rows S Post n) Post) : g_Run l J_R_rows [.ref a] h Post :=
  g_run_of [some (.ref a)] (by decide) w_2_49 rfl (Nat.le_of_ble_eq_true rfl) rfl (g_go ok_R_rows S n k)
set_option maxRecDepth 100000 in
theorem go_K_size (S : List Nat) (n : Nat) {l : Launch} {h : g_H} {Post : g_P} {a : Nat} (k : cd_K_size 0 l [some (.ref a)] [] h (g_N l J_K_size cd_K_size S Post n) Post) : g_Run l J_K_size [.ref a] h Post :=
  g_run_of [some (.ref a)] (by decide) w_2_53 rfl (Nat.le_of_ble_eq_true rfl) rfl (g_go ok_K_size S n k)
set_option maxRecDepth 100000 in
theorem go_R_notKept (S : List Nat) (n : Nat) {l : Launch} {h : g_H} {Post : g_P} {a : Nat} (k : cd_R_notKept 0 l [some (.ref a)] [] h (g_N l J_R_notKept cd_R_notKept S Post n) Post) : g_Run l J_R_notKept [.ref a] h Post :=
  g_run_of [some (.ref a)] (by decide) w_2_58 rfl (Nat.le_of_ble_eq_true rfl) rfl (g_go ok_R_notKept S n k)
set_option maxRecDepth 100000 in
theorem go_I_at (S : List Nat) (n : Nat) {l : Launch} {h : g_H} {Post : g_P} {a : Nat} {v1 : Int32} (k : cd_I_at 0 l [some (.ref a), some (.int v1)] [] h (g_N l J_I_at cd_I_at S Post n) Post) : g_Run l J_I_at [.ref a, .int v1] h Post :=
  g_run_of [some (.ref a), some (.int v1)] (by decide) w_2_151 rfl (Nat.le_of_ble_eq_true rfl) rfl (g_go ok_I_at S n k)
set_option maxRecDepth 100000 in
theorem go_B_isClosedBy (S : List Nat) (n : Nat) {l : Launch} {h : g_H} {Post : g_P} {a : Nat} {v1 : Int32} (k : cd_B_isClosedBy 0 l [some (.ref a), some (.int v1)] [] h (g_N l J_B_isClosedBy cd_B_isClosedBy S Post n) Post) : g_Run l J_B_isClosedBy [.ref a, .int v1] h Post :=
  g_run_of [some (.ref a), some (.int v1)] (by decide) w_2_171 rfl (Nat.le_of_ble_eq_true rfl) rfl (g_go ok_B_isClosedBy S n k)
set_option maxRecDepth 100000 in
theorem go_Q_fill (S : List Nat) (n : Nat) {l : Launch} {h : g_H} {Post : g_P} {a : Nat} {v1 : Nat} (k : cd_Q_fill 0 l [some (.ref a), some (.ref v1), none] [] h (g_N l J_Q_fill cd_Q_fill S Post n) Post) : g_Run l J_Q_fill [.ref a, .ref v1] h Post :=
  g_run_of [some (.ref a), some (.ref v1), none] (by decide) w_2_180 rfl (Nat.le_of_ble_eq_true rfl) rfl (g_go ok_Q_fill S n k)
set_option maxRecDepth 100000 in
theorem go_I_shorten (S : List Nat) (n : Nat) {l : Launch} {h : g_H} {Post : g_P} {a : Nat} {v1 : Int32} (k : cd_I_shorten 0 l [some (.ref a), some (.int v1)] [] h (g_N l J_I_shorten cd_I_shorten S Post n) Post) : g_Run l J_I_shorten [.ref a, .int v1] h Post :=
  g_run_of [some (.ref a), some (.int v1)] (by decide) w_2_184 rfl (Nat.le_of_ble_eq_true rfl) rfl (g_go ok_I_shorten S n k)
set_option maxRecDepth 100000 in
theorem go_B_time (S : List Nat) (n : Nat) {l : Launch} {h : g_H} {Post : g_P} {a : Nat} (k : cd_B_time 0 l [some (.ref a)] [] h (g_N l J_B_time cd_B_time S Post n) Post) : g_Run l J_B_time [.ref a] h Post :=
  g_run_of [some (.ref a)] (by decide) w_2_188 rfl (Nat.le_of_ble_eq_true rfl) rfl (g_go ok_B_time S n k)
set_option maxRecDepth 100000 in
theorem go_M_begin (S : List Nat) (n : Nat) {l : Launch} {h : g_H} {Post : g_P} {a : Nat} {v1 : Int32} (k : cd_M_begin 0 l [some (.ref a), some (.int v1)] [] h (g_N l J_M_begin cd_M_begin S Post n) Post) : g_Run l J_M_begin [.ref a, .int v1] h Post :=
  g_run_of [some (.ref a), some (.int v1)] (by decide) w_2_192 rfl (Nat.le_of_ble_eq_true rfl) rfl (g_go ok_M_begin S n k)
set_option maxRecDepth 100000 in
theorem go_L_clear (S : List Nat) (n : Nat) {l : Launch} {h : g_H} {Post : g_P} {a : Nat} (k : cd_L_clear 0 l [some (.ref a)] [] h (g_N l J_L_clear cd_L_clear S Post n) Post) : g_Run l J_L_clear [.ref a] h Post :=
  g_run_of [some (.ref a)] (by decide) w_2_196 rfl (Nat.le_of_ble_eq_true rfl) rfl (g_go ok_L_clear S n k)
set_option maxRecDepth 100000 in
theorem go_V_clear (S : List Nat) (n : Nat) {l : Launch} {h : g_H} {Post : g_P} {a : Nat} (k : cd_V_clear 0 l [some (.ref a)] [] h (g_N l J_V_clear cd_V_clear S Post n) Post) : g_Run l J_V_clear [.ref a] h Post :=
  g_run_of [some (.ref a)] (by decide) w_2_200 rfl (Nat.le_of_ble_eq_true rfl) rfl (g_go ok_V_clear S n k)
set_option maxRecDepth 100000 in
theorem go_B_owner (S : List Nat) (n : Nat) {l : Launch} {h : g_H} {Post : g_P} {a : Nat} (k : cd_B_owner 0 l [some (.ref a)] [] h (g_N l J_B_owner cd_B_owner S Post n) Post) : g_Run l J_B_owner [.ref a] h Post :=
  g_run_of [some (.ref a)] (by decide) w_2_205 rfl (Nat.le_of_ble_eq_true rfl) rfl (g_go ok_B_owner S n k)
set_option maxRecDepth 100000 in
theorem go_Q_addWord (S : List Nat) (n : Nat) {l : Launch} {h : g_H} {Post : g_P} {a : Nat} {v1 : Int32} (k : cd_Q_addWord 0 l [some (.ref a), some (.int v1), none] [] h (g_N l J_Q_addWord cd_Q_addWord S Post n) Post) : g_Run l J_Q_addWord [.ref a, .int v1] h Post :=
  g_run_of [some (.ref a), some (.int v1), none] (by decide) w_2_210 rfl (Nat.le_of_ble_eq_true rfl) rfl (g_go ok_Q_addWord S n k)
set_option maxRecDepth 100000 in
theorem go_B_kind (S : List Nat) (n : Nat) {l : Launch} {h : g_H} {Post : g_P} {a : Nat} {v1 : Int32} (k : cd_B_kind 0 l [some (.ref a), some (.int v1)] [] h (g_N l J_B_kind cd_B_kind S Post n) Post) : g_Run l J_B_kind [.ref a, .int v1] h Post :=
  g_run_of [some (.ref a), some (.int v1)] (by decide) w_2_215 rfl (Nat.le_of_ble_eq_true rfl) rfl (g_go ok_B_kind S n k)
set_option maxRecDepth 100000 in
theorem go_Q_addBranches (S : List Nat) (n : Nat) {l : Launch} {h : g_H} {Post : g_P} {a : Nat} (k : cd_Q_addBranches 0 l [some (.ref a)] [] h (g_N l J_Q_addBranches cd_Q_addBranches S Post n) Post) : g_Run l J_Q_addBranches [.ref a] h Post :=
  g_run_of [some (.ref a)] (by decide) w_2_220 rfl (Nat.le_of_ble_eq_true rfl) rfl (g_go ok_Q_addBranches S n k)
set_option maxRecDepth 100000 in
theorem go_Q_addKind (S : List Nat) (n : Nat) {l : Launch} {h : g_H} {Post : g_P} {a : Nat} {v1 : Int32} {v2 : Int32} (k : cd_Q_addKind 0 l [some (.ref a), some (.int v1), some (.int v2)] [] h (g_N l J_Q_addKind cd_Q_addKind S Post n) Post) : g_Run l J_Q_addKind [.ref a, .int v1, .int v2] h Post :=
  g_run_of [some (.ref a), some (.int v1), some (.int v2)] (by decide) w_2_224 rfl (Nat.le_of_ble_eq_true rfl) rfl (g_go ok_Q_addKind S n k)
set_option maxRecDepth 100000 in
theorem go_B_a (S : List Nat) (n : Nat) {l : Launch} {h : g_H} {Post : g_P} {a : Nat} {v1 : Int32} (k : cd_B_a 0 l [some (.ref a), some (.int v1)] [] h (g_N l J_B_a cd_B_a S Post n) Post) : g_Run l J_B_a [.ref a, .int v1] h Post :=
  g_run_of [some (.ref a), some (.int v1)] (by decide) w_2_228 rfl (Nat.le_of_ble_eq_true rfl) rfl (g_go ok_B_a S n k)
set_option maxRecDepth 100000 in
theorem go_B_b (S : List Nat) (n : Nat) {l : Launch} {h : g_H} {Post : g_P} {a : Nat} {v1 : Int32} (k : cd_B_b 0 l [some (.ref a), some (.int v1)] [] h (g_N l J_B_b cd_B_b S Post n) Post) : g_Run l J_B_b [.ref a, .int v1] h Post :=
  g_run_of [some (.ref a), some (.int v1)] (by decide) w_2_232 rfl (Nat.le_of_ble_eq_true rfl) rfl (g_go ok_B_b S n k)
set_option maxRecDepth 100000 in
theorem go_Q_addRow (S : List Nat) (n : Nat) {l : Launch} {h : g_H} {Post : g_P} {a : Nat} {v1 : Int32} {v2 : Int32} {v3 : Int32} (k : cd_Q_addRow 0 l [some (.ref a), some (.int v1), some (.int v2), some (.int v3)] [] h (g_N l J_Q_addRow cd_Q_addRow S Post n) Post) : g_Run l J_Q_addRow [.ref a, .int v1, .int v2, .int v3] h Post :=
  g_run_of [some (.ref a), some (.int v1), some (.int v2), some (.int v3)] (by decide) w_2_236 rfl (Nat.le_of_ble_eq_true rfl) rfl (g_go ok_Q_addRow S n k)
set_option maxRecDepth 100000 in
theorem go_T_numberOf (S : List Nat) (n : Nat) {l : Launch} {h : g_H} {Post : g_P} {v0 : Int32} (k : cd_T_numberOf 0 l [some (.int v0)] [] h (g_N l J_T_numberOf cd_T_numberOf S Post n) Post) : g_Run l J_T_numberOf [.int v0] h Post :=
  g_run_of [some (.int v0)] (by decide) w_2_239 rfl (Nat.le_of_ble_eq_true rfl) rfl (g_go ok_T_numberOf S n k)
set_option maxRecDepth 100000 in
theorem go_Q_addNumber (S : List Nat) (n : Nat) {l : Launch} {h : g_H} {Post : g_P} {a : Nat} {v1 : Int64} (k : cd_Q_addNumber 0 l [some (.ref a), some (.long v1), none, none, none, none] [] h (g_N l J_Q_addNumber cd_Q_addNumber S Post n) Post) : g_Run l J_Q_addNumber [.ref a, .long v1] h Post :=
  g_run_of [some (.ref a), some (.long v1), none, none, none, none] (by decide) w_3_5 rfl (Nat.le_of_ble_eq_true rfl) rfl (g_go ok_Q_addNumber S n k)
set_option maxRecDepth 100000 in
theorem go_Q_addLoad (S : List Nat) (n : Nat) {l : Launch} {h : g_H} {Post : g_P} {a : Nat} {v1 : Int32} (k : cd_Q_addLoad 0 l [some (.ref a), some (.int v1)] [] h (g_N l J_Q_addLoad cd_Q_addLoad S Post n) Post) : g_Run l J_Q_addLoad [.ref a, .int v1] h Post :=
  g_run_of [some (.ref a), some (.int v1)] (by decide) w_3_10 rfl (Nat.le_of_ble_eq_true rfl) rfl (g_go ok_Q_addLoad S n k)
set_option maxRecDepth 100000 in
theorem go_L_expected (S : List Nat) (n : Nat) {l : Launch} {h : g_H} {Post : g_P} {a : Nat} (k : cd_L_expected 0 l [some (.ref a)] [] h (g_N l J_L_expected cd_L_expected S Post n) Post) : g_Run l J_L_expected [.ref a] h Post :=
  g_run_of [some (.ref a)] (by decide) w_3_14 rfl (Nat.le_of_ble_eq_true rfl) rfl (g_go ok_L_expected S n k)
set_option maxRecDepth 100000 in
theorem go_L_differenceTo (S : List Nat) (n : Nat) {l : Launch} {h : g_H} {Post : g_P} {a : Nat} {v1 : Int32} (k : cd_L_differenceTo 0 l [some (.ref a), some (.int v1)] [] h (g_N l J_L_differenceTo cd_L_differenceTo S Post n) Post) : g_Run l J_L_differenceTo [.ref a, .int v1] h Post :=
  g_run_of [some (.ref a), some (.int v1)] (by decide) w_3_18 rfl (Nat.le_of_ble_eq_true rfl) rfl (g_go ok_L_differenceTo S n k)
set_option maxRecDepth 100000 in
theorem go_L_goTo (S : List Nat) (n : Nat) {l : Launch} {h : g_H} {Post : g_P} {a : Nat} {v1 : Int32} (k : cd_L_goTo 0 l [some (.ref a), some (.int v1)] [] h (g_N l J_L_goTo cd_L_goTo S Post n) Post) : g_Run l J_L_goTo [.ref a, .int v1] h Post :=
  g_run_of [some (.ref a), some (.int v1)] (by decide) w_3_22 rfl (Nat.le_of_ble_eq_true rfl) rfl (g_go ok_L_goTo S n k)
set_option maxRecDepth 100000 in
theorem go_Q_addStore (S : List Nat) (n : Nat) {l : Launch} {h : g_H} {Post : g_P} {a : Nat} {v1 : Int32} {v2 : Int32} (k : cd_Q_addStore 0 l [some (.ref a), some (.int v1), some (.int v2), none, none, none] [] h (g_N l J_Q_addStore cd_Q_addStore S Post n) Post) : g_Run l J_Q_addStore [.ref a, .int v1, .int v2] h Post :=
  g_run_of [some (.ref a), some (.int v1), some (.int v2), none, none, none] (by decide) w_3_26 rfl (Nat.le_of_ble_eq_true rfl) rfl (g_go ok_Q_addStore S n k)
set_option maxRecDepth 100000 in
theorem go_V_numberOfValue (S : List Nat) (n : Nat) {l : Launch} {h : g_H} {Post : g_P} {a : Nat} {v1 : Int32} (k : cd_V_numberOfValue 0 l [some (.ref a), some (.int v1), none] [] h (g_N l J_V_numberOfValue cd_V_numberOfValue S Post n) Post) : g_Run l J_V_numberOfValue [.ref a, .int v1] h Post :=
  g_run_of [some (.ref a), some (.int v1), none] (by decide) w_3_30 rfl (Nat.le_of_ble_eq_true rfl) rfl (g_go ok_V_numberOfValue S n k)
set_option maxRecDepth 100000 in
theorem go_V_use (S : List Nat) (n : Nat) {l : Launch} {h : g_H} {Post : g_P} {a : Nat} {v1 : Int32} (k : cd_V_use 0 l [some (.ref a), some (.int v1), none, none, none] [] h (g_N l J_V_use cd_V_use S Post n) Post) : g_Run l J_V_use [.ref a, .int v1] h Post :=
  g_run_of [some (.ref a), some (.int v1), none, none, none] (by decide) w_3_36 rfl (Nat.le_of_ble_eq_true rfl) rfl (g_go ok_V_use S n k)
set_option maxRecDepth 100000 in
theorem go_I_set (S : List Nat) (n : Nat) {l : Launch} {h : g_H} {Post : g_P} {a : Nat} {v1 : Int32} {v2 : Int32} (k : cd_I_set 0 l [some (.ref a), some (.int v1), some (.int v2)] [] h (g_N l J_I_set cd_I_set S Post n) Post) : g_Run l J_I_set [.ref a, .int v1, .int v2] h Post :=
  g_run_of [some (.ref a), some (.int v1), some (.int v2)] (by decide) w_3_40 rfl (Nat.le_of_ble_eq_true rfl) rfl (g_go ok_I_set S n k)
set_option maxRecDepth 100000 in
theorem go_T_sumOf (S : List Nat) (n : Nat) {l : Launch} {h : g_H} {Post : g_P} {v0 : Nat} {v1 : Int32} (k : cd_T_sumOf 0 l [some (.ref v0), some (.int v1), none, none, none] [] h (g_N l J_T_sumOf cd_T_sumOf S Post n) Post) : g_Run l J_T_sumOf [.ref v0, .int v1] h Post :=
  g_run_of [some (.ref v0), some (.int v1), none, none, none] (by decide) w_3_45 rfl (Nat.le_of_ble_eq_true rfl) rfl (g_go ok_T_sumOf S n k)
set_option maxRecDepth 100000 in
theorem go_Q_moveBehind (S : List Nat) (n : Nat) {l : Launch} {h : g_H} {Post : g_P} {a : Nat} {v1 : Nat} (k : cd_Q_moveBehind 0 l [some (.ref a), some (.ref v1), none, none] [] h (g_N l J_Q_moveBehind cd_Q_moveBehind S Post n) Post) : g_Run l J_Q_moveBehind [.ref a, .ref v1] h Post :=
  g_run_of [some (.ref a), some (.ref v1), none, none] (by decide) w_3_49 rfl (Nat.le_of_ble_eq_true rfl) rfl (g_go ok_Q_moveBehind S n k)
set_option maxRecDepth 100000 in
theorem go_Q_lengthShielded (S : List Nat) (n : Nat) {l : Launch} {h : g_H} {Post : g_P} {a : Nat} (k : cd_Q_lengthShielded 0 l [some (.ref a), none, none] [] h (g_N l J_Q_lengthShielded cd_Q_lengthShielded S Post n) Post) : g_Run l J_Q_lengthShielded [.ref a] h Post :=
  g_run_of [some (.ref a), none, none] (by decide) w_3_53 rfl (Nat.le_of_ble_eq_true rfl) rfl (g_go ok_Q_lengthShielded S n k)
set_option maxRecDepth 100000 in
theorem go_Q_isShielded (S : List Nat) (n : Nat) {l : Launch} {h : g_H} {Post : g_P} {v0 : Int32} (k : cd_Q_isShielded 0 l [some (.int v0)] [] h (g_N l J_Q_isShielded cd_Q_isShielded S Post n) Post) : g_Run l J_Q_isShielded [.int v0] h Post :=
  g_run_of [some (.int v0)] (by decide) w_3_57 rfl (Nat.le_of_ble_eq_true rfl) rfl (g_go ok_Q_isShielded S n k)
set_option maxRecDepth 100000 in
theorem go_B_clear (S : List Nat) (n : Nat) {l : Launch} {h : g_H} {Post : g_P} {a : Nat} (k : cd_B_clear 0 l [some (.ref a)] [] h (g_N l J_B_clear cd_B_clear S Post n) Post) : g_Run l J_B_clear [.ref a] h Post :=
  g_run_of [some (.ref a)] (by decide) w_3_61 rfl (Nat.le_of_ble_eq_true rfl) rfl (g_go ok_B_clear S n k)
set_option maxRecDepth 100000 in
theorem go_B_begin (S : List Nat) (n : Nat) {l : Launch} {h : g_H} {Post : g_P} {a : Nat} {v1 : Int32} {v2 : Int32} (k : cd_B_begin 0 l [some (.ref a), some (.int v1), some (.int v2)] [] h (g_N l J_B_begin cd_B_begin S Post n) Post) : g_Run l J_B_begin [.ref a, .int v1, .int v2] h Post :=
  g_run_of [some (.ref a), some (.int v1), some (.int v2)] (by decide) w_3_82 rfl (Nat.le_of_ble_eq_true rfl) rfl (g_go ok_B_begin S n k)
set_option maxRecDepth 100000 in
theorem go_B_add (S : List Nat) (n : Nat) {l : Launch} {h : g_H} {Post : g_P} {a : Nat} {v1 : Int32} {v2 : Int32} {v3 : Int32} (k : cd_B_add 0 l [some (.ref a), some (.int v1), some (.int v2), some (.int v3)] [] h (g_N l J_B_add cd_B_add S Post n) Post) : g_Run l J_B_add [.ref a, .int v1, .int v2, .int v3] h Post :=
  g_run_of [some (.ref a), some (.int v1), some (.int v2), some (.int v3)] (by decide) w_3_87 rfl (Nat.le_of_ble_eq_true rfl) rfl (g_go ok_B_add S n k)
set_option maxRecDepth 100000 in
theorem go_I_has (S : List Nat) (n : Nat) {l : Launch} {h : g_H} {Post : g_P} {a : Nat} {v1 : Int32} (k : cd_I_has 0 l [some (.ref a), some (.int v1)] [] h (g_N l J_I_has cd_I_has S Post n) Post) : g_Run l J_I_has [.ref a, .int v1] h Post :=
  g_run_of [some (.ref a), some (.int v1)] (by decide) w_3_107 rfl (Nat.le_of_ble_eq_true rfl) rfl (g_go ok_I_has S n k)
set_option maxRecDepth 100000 in
theorem go_R_readFrom (S : List Nat) (n : Nat) {l : Launch} {h : g_H} {Post : g_P} {a : Nat} {v1 : Nat} {v2 : Int32} {v3 : Int32} (k : cd_R_readFrom 0 l [some (.ref a), some (.ref v1), some (.int v2), some (.int v3), none, none, none] [] h (g_N l J_R_readFrom cd_R_readFrom S Post n) Post) : g_Run l J_R_readFrom [.ref a, .ref v1, .int v2, .int v3] h Post :=
  g_run_of [some (.ref a), some (.ref v1), some (.int v2), some (.int v3), none, none, none] (by decide) w_3_154 rfl (Nat.le_of_ble_eq_true rfl) rfl (g_go ok_R_readFrom S n k)
set_option maxRecDepth 100000 in
theorem go_R_clear (S : List Nat) (n : Nat) {l : Launch} {h : g_H} {Post : g_P} {a : Nat} (k : cd_R_clear 0 l [some (.ref a)] [] h (g_N l J_R_clear cd_R_clear S Post n) Post) : g_Run l J_R_clear [.ref a] h Post :=
  g_run_of [some (.ref a)] (by decide) w_3_158 rfl (Nat.le_of_ble_eq_true rfl) rfl (g_go ok_R_clear S n k)
set_option maxRecDepth 100000 in
theorem go_K_clear (S : List Nat) (n : Nat) {l : Launch} {h : g_H} {Post : g_P} {a : Nat} (k : cd_K_clear 0 l [some (.ref a)] [] h (g_N l J_K_clear cd_K_clear S Post n) Post) : g_Run l J_K_clear [.ref a] h Post :=
  g_run_of [some (.ref a)] (by decide) w_3_162 rfl (Nat.le_of_ble_eq_true rfl) rfl (g_go ok_K_clear S n k)
set_option maxRecDepth 100000 in
theorem go_R_firstMark (S : List Nat) (n : Nat) {l : Launch} {h : g_H} {Post : g_P} {v0 : Nat} {v1 : Int32} (k : cd_R_firstMark 0 l [some (.ref v0), some (.int v1), none] [] h (g_N l J_R_firstMark cd_R_firstMark S Post n) Post) : g_Run l J_R_firstMark [.ref v0, .int v1] h Post :=
  g_run_of [some (.ref v0), some (.int v1), none] (by decide) w_3_166 rfl (Nat.le_of_ble_eq_true rfl) rfl (g_go ok_R_firstMark S n k)
set_option maxRecDepth 100000 in
theorem go_U_unpack (S : List Nat) (n : Nat) {l : Launch} {h : g_H} {Post : g_P} {a : Nat} {v1 : Nat} {v2 : Int32} {v3 : Int32} (k : cd_U_unpack 0 l [some (.ref a), some (.ref v1), some (.int v2), some (.int v3), none, none] [] h (g_N l J_U_unpack cd_U_unpack S Post n) Post) : g_Run l J_U_unpack [.ref a, .ref v1, .int v2, .int v3] h Post :=
  g_run_of [some (.ref a), some (.ref v1), some (.int v2), some (.int v3), none, none] (by decide) w_3_172 rfl (Nat.le_of_ble_eq_true rfl) rfl (g_go ok_U_unpack S n k)
set_option maxRecDepth 100000 in
theorem go_U_unshield (S : List Nat) (n : Nat) {l : Launch} {h : g_H} {Post : g_P} {a : Nat} {v1 : Nat} {v2 : Int32} {v3 : Int32} (k : cd_U_unshield 0 l [some (.ref a), some (.ref v1), some (.int v2), some (.int v3), none, none, none] [] h (g_N l J_U_unshield cd_U_unshield S Post n) Post) : g_Run l J_U_unshield [.ref a, .ref v1, .int v2, .int v3] h Post :=
  g_run_of [some (.ref a), some (.ref v1), some (.int v2), some (.int v3), none, none, none] (by decide) w_3_176 rfl (Nat.le_of_ble_eq_true rfl) rfl (g_go ok_U_unshield S n k)
set_option maxRecDepth 100000 in
theorem go_U_unshielded (S : List Nat) (n : Nat) {l : Launch} {h : g_H} {Post : g_P} {v0 : Int32} (k : cd_U_unshielded 0 l [some (.int v0)] [] h (g_N l J_U_unshielded cd_U_unshielded S Post n) Post) : g_Run l J_U_unshielded [.int v0] h Post :=
  g_run_of [some (.int v0)] (by decide) w_3_181 rfl (Nat.le_of_ble_eq_true rfl) rfl (g_go ok_U_unshielded S n k)
set_option maxRecDepth 100000 in
theorem go_U_takeSum (S : List Nat) (n : Nat) {l : Launch} {h : g_H} {Post : g_P} {a : Nat} (k : cd_U_takeSum 0 l [some (.ref a), none, none] [] h (g_N l J_U_takeSum cd_U_takeSum S Post n) Post) : g_Run l J_U_takeSum [.ref a] h Post :=
  g_run_of [some (.ref a), none, none] (by decide) w_3_186 rfl (Nat.le_of_ble_eq_true rfl) rfl (g_go ok_U_takeSum S n k)
set_option maxRecDepth 100000 in
theorem go_U_takeHead (S : List Nat) (n : Nat) {l : Launch} {h : g_H} {Post : g_P} {a : Nat} (k : cd_U_takeHead 0 l [some (.ref a), none, none, none, none] [] h (g_N l J_U_takeHead cd_U_takeHead S Post n) Post) : g_Run l J_U_takeHead [.ref a] h Post :=
  g_run_of [some (.ref a), none, none, none, none] (by decide) w_3_192 rfl (Nat.le_of_ble_eq_true rfl) rfl (g_go ok_U_takeHead S n k)
set_option maxRecDepth 100000 in
theorem go_U_takeWord (S : List Nat) (n : Nat) {l : Launch} {h : g_H} {Post : g_P} {a : Nat} (k : cd_U_takeWord 0 l [some (.ref a), none, none, none] [] h (g_N l J_U_takeWord cd_U_takeWord S Post n) Post) : g_Run l J_U_takeWord [.ref a] h Post :=
  g_run_of [some (.ref a), none, none, none] (by decide) w_3_196 rfl (Nat.le_of_ble_eq_true rfl) rfl (g_go ok_U_takeWord S n k)
set_option maxRecDepth 100000 in
theorem go_U_takeRow (S : List Nat) (n : Nat) {l : Launch} {h : g_H} {Post : g_P} {a : Nat} (k : cd_U_takeRow 0 l [some (.ref a), none, none, none, none, none] [] h (g_N l J_U_takeRow cd_U_takeRow S Post n) Post) : g_Run l J_U_takeRow [.ref a] h Post :=
  g_run_of [some (.ref a), none, none, none, none, none] (by decide) w_3_205 rfl (Nat.le_of_ble_eq_true rfl) rfl (g_go ok_U_takeRow S n k)
set_option maxRecDepth 100000 in
theorem go_U_isNumberBehind (S : List Nat) (n : Nat) {l : Launch} {h : g_H} {Post : g_P} {v0 : Int32} {v1 : Int32} (k : cd_U_isNumberBehind 0 l [some (.int v0), some (.int v1)] [] h (g_N l J_U_isNumberBehind cd_U_isNumberBehind S Post n) Post) : g_Run l J_U_isNumberBehind [.int v0, .int v1] h Post :=
  g_run_of [some (.int v0), some (.int v1)] (by decide) w_3_208 rfl (Nat.le_of_ble_eq_true rfl) rfl (g_go ok_U_isNumberBehind S n k)
set_option maxRecDepth 100000 in
theorem go_U_takeNumber (S : List Nat) (n : Nat) {l : Launch} {h : g_H} {Post : g_P} {a : Nat} (k : cd_U_takeNumber 0 l [some (.ref a), none, none, none, none] [] h (g_N l J_U_takeNumber cd_U_takeNumber S Post n) Post) : g_Run l J_U_takeNumber [.ref a] h Post :=
  g_run_of [some (.ref a), none, none, none, none] (by decide) w_3_212 rfl (Nat.le_of_ble_eq_true rfl) rfl (g_go ok_U_takeNumber S n k)
set_option maxRecDepth 100000 in
theorem go_U_isLastOfNumber (S : List Nat) (n : Nat) {l : Launch} {h : g_H} {Post : g_P} {v0 : Int32} {v1 : Int32} (k : cd_U_isLastOfNumber 0 l [some (.int v0), some (.int v1)] [] h (g_N l J_U_isLastOfNumber cd_U_isLastOfNumber S Post n) Post) : g_Run l J_U_isLastOfNumber [.int v0, .int v1] h Post :=
  g_run_of [some (.int v0), some (.int v1)] (by decide) w_3_215 rfl (Nat.le_of_ble_eq_true rfl) rfl (g_go ok_U_isLastOfNumber S n k)
set_option maxRecDepth 100000 in
theorem go_U_takeBranches (S : List Nat) (n : Nat) {l : Launch} {h : g_H} {Post : g_P} {a : Nat} {v1 : Int32} (k : cd_U_takeBranches 0 l [some (.ref a), some (.int v1), none, none, none] [] h (g_N l J_U_takeBranches cd_U_takeBranches S Post n) Post) : g_Run l J_U_takeBranches [.ref a, .int v1] h Post :=
  g_run_of [some (.ref a), some (.int v1), none, none, none] (by decide) w_3_219 rfl (Nat.le_of_ble_eq_true rfl) rfl (g_go ok_U_takeBranches S n k)
set_option maxRecDepth 100000 in
theorem go_U_takeJump (S : List Nat) (n : Nat) {l : Launch} {h : g_H} {Post : g_P} {a : Nat} {v1 : Int64} (k : cd_U_takeJump 0 l [some (.ref a), some (.long v1), none] [] h (g_N l J_U_takeJump cd_U_takeJump S Post n) Post) : g_Run l J_U_takeJump [.ref a, .long v1] h Post :=
  g_run_of [some (.ref a), some (.long v1), none] (by decide) w_3_224 rfl (Nat.le_of_ble_eq_true rfl) rfl (g_go ok_U_takeJump S n k)
set_option maxRecDepth 100000 in
theorem go_T_differenceOf (S : List Nat) (n : Nat) {l : Launch} {h : g_H} {Post : g_P} {v0 : Int64} (k : cd_T_differenceOf 0 l [some (.long v0), none] [] h (g_N l J_T_differenceOf cd_T_differenceOf S Post n) Post) : g_Run l J_T_differenceOf [.long v0] h Post :=
  g_run_of [some (.long v0), none] (by decide) w_3_227 rfl (Nat.le_of_ble_eq_true rfl) rfl (g_go ok_T_differenceOf S n k)
set_option maxRecDepth 100000 in
theorem go_U_takeLoad (S : List Nat) (n : Nat) {l : Launch} {h : g_H} {Post : g_P} {a : Nat} {v1 : Int32} {v2 : Int64} (k : cd_U_takeLoad 0 l [some (.ref a), some (.int v1), some (.long v2), none, none] [] h (g_N l J_U_takeLoad cd_U_takeLoad S Post n) Post) : g_Run l J_U_takeLoad [.ref a, .int v1, .long v2] h Post :=
  g_run_of [some (.ref a), some (.int v1), some (.long v2), none, none] (by decide) w_3_231 rfl (Nat.le_of_ble_eq_true rfl) rfl (g_go ok_U_takeLoad S n k)
set_option maxRecDepth 100000 in
theorem go_L_after (S : List Nat) (n : Nat) {l : Launch} {h : g_H} {Post : g_P} {a : Nat} {v1 : Int32} (k : cd_L_after 0 l [some (.ref a), some (.int v1)] [] h (g_N l J_L_after cd_L_after S Post n) Post) : g_Run l J_L_after [.ref a, .int v1] h Post :=
  g_run_of [some (.ref a), some (.int v1)] (by decide) w_3_235 rfl (Nat.le_of_ble_eq_true rfl) rfl (g_go ok_L_after S n k)
set_option maxRecDepth 100000 in
theorem go_L_last (S : List Nat) (n : Nat) {l : Launch} {h : g_H} {Post : g_P} {a : Nat} (k : cd_L_last 0 l [some (.ref a)] [] h (g_N l J_L_last cd_L_last S Post n) Post) : g_Run l J_L_last [.ref a] h Post :=
  g_run_of [some (.ref a)] (by decide) w_4_1 rfl (Nat.le_of_ble_eq_true rfl) rfl (g_go ok_L_last S n k)
set_option maxRecDepth 100000 in
theorem go_U_takeStore (S : List Nat) (n : Nat) {l : Launch} {h : g_H} {Post : g_P} {a : Nat} {v1 : Int32} {v2 : Int64} (k : cd_U_takeStore 0 l [some (.ref a), some (.int v1), some (.long v2), none, none, none, none, none, none] [] h (g_N l J_U_takeStore cd_U_takeStore S Post n) Post) : g_Run l J_U_takeStore [.ref a, .int v1, .long v2] h Post :=
  g_run_of [some (.ref a), some (.int v1), some (.long v2), none, none, none, none, none, none] (by decide) w_4_5 rfl (Nat.le_of_ble_eq_true rfl) rfl (g_go ok_U_takeStore S n k)
set_option maxRecDepth 100000 in
theorem go_V_at (S : List Nat) (n : Nat) {l : Launch} {h : g_H} {Post : g_P} {a : Nat} {v1 : Int32} (k : cd_V_at 0 l [some (.ref a), some (.int v1)] [] h (g_N l J_V_at cd_V_at S Post n) Post) : g_Run l J_V_at [.ref a, .int v1] h Post :=
  g_run_of [some (.ref a), some (.int v1)] (by decide) w_4_9 rfl (Nat.le_of_ble_eq_true rfl) rfl (g_go ok_V_at S n k)
set_option maxRecDepth 100000 in
theorem go_V_has (S : List Nat) (n : Nat) {l : Launch} {h : g_H} {Post : g_P} {a : Nat} {v1 : Int32} (k : cd_V_has 0 l [some (.ref a), some (.int v1)] [] h (g_N l J_V_has cd_V_has S Post n) Post) : g_Run l J_V_has [.ref a, .int v1] h Post :=
  g_run_of [some (.ref a), some (.int v1)] (by decide) w_4_13 rfl (Nat.le_of_ble_eq_true rfl) rfl (g_go ok_V_has S n k)
set_option maxRecDepth 100000 in
theorem go_U_takeTime (S : List Nat) (n : Nat) {l : Launch} {h : g_H} {Post : g_P} {a : Nat} {v1 : Int64} (k : cd_U_takeTime 0 l [some (.ref a), some (.long v1), none] [] h (g_N l J_U_takeTime cd_U_takeTime S Post n) Post) : g_Run l J_U_takeTime [.ref a, .long v1] h Post :=
  g_run_of [some (.ref a), some (.long v1), none] (by decide) w_4_19 rfl (Nat.le_of_ble_eq_true rfl) rfl (g_go ok_U_takeTime S n k)
set_option maxRecDepth 100000 in
theorem go_U_block (S : List Nat) (n : Nat) {l : Launch} {h : g_H} {Post : g_P} {a : Nat} (k : cd_U_block 0 l [some (.ref a)] [] h (g_N l J_U_block cd_U_block S Post n) Post) : g_Run l J_U_block [.ref a] h Post :=
  g_run_of [some (.ref a)] (by decide) w_4_25 rfl (Nat.le_of_ble_eq_true rfl) rfl (g_go ok_U_block S n k)
set_option maxRecDepth 100000 in
theorem go_R_keepRows (S : List Nat) (n : Nat) {l : Launch} {h : g_H} {Post : g_P} {a : Nat} {v1 : Nat} {v2 : Int32} (k : cd_R_keepRows 0 l [some (.ref a), some (.ref v1), some (.int v2), none, none] [] h (g_N l J_R_keepRows cd_R_keepRows S Post n) Post) : g_Run l J_R_keepRows [.ref a, .ref v1, .int v2] h Post :=
  g_run_of [some (.ref a), some (.ref v1), some (.int v2), none, none] (by decide) w_4_29 rfl (Nat.le_of_ble_eq_true rfl) rfl (g_go ok_R_keepRows S n k)
set_option maxRecDepth 100000 in
theorem go_R_isChosen (S : List Nat) (n : Nat) {l : Launch} {h : g_H} {Post : g_P} {v0 : Int32} {v1 : Int32} {v2 : Int32} (k : cd_R_isChosen 0 l [some (.int v0), some (.int v1), some (.int v2)] [] h (g_N l J_R_isChosen cd_R_isChosen S Post n) Post) : g_Run l J_R_isChosen [.int v0, .int v1, .int v2] h Post :=
  g_run_of [some (.int v0), some (.int v1), some (.int v2)] (by decide) w_4_37 rfl (Nat.le_of_ble_eq_true rfl) rfl (g_go ok_R_isChosen S n k)
set_option maxRecDepth 100000 in
theorem go_K_add (S : List Nat) (n : Nat) {l : Launch} {h : g_H} {Post : g_P} {a : Nat} {v1 : Nat} {v2 : Int32} {v3 : Int32} {v4 : Int32} (k : cd_K_add 0 l [some (.ref a), some (.ref v1), some (.int v2), some (.int v3), some (.int v4)] [] h (g_N l J_K_add cd_K_add S Post n) Post) : g_Run l J_K_add [.ref a, .ref v1, .int v2, .int v3, .int v4] h Post :=
  g_run_of [some (.ref a), some (.ref v1), some (.int v2), some (.int v3), some (.int v4)] (by decide) w_4_41 rfl (Nat.le_of_ble_eq_true rfl) rfl (g_go ok_K_add S n k)
set_option maxRecDepth 100000 in
theorem go_K_has (S : List Nat) (n : Nat) {l : Launch} {h : g_H} {Post : g_P} {a : Nat} {v1 : Int32} {v2 : Int32} (k : cd_K_has 0 l [some (.ref a), some (.int v1), some (.int v2)] [] h (g_N l J_K_has cd_K_has S Post n) Post) : g_Run l J_K_has [.ref a, .int v1, .int v2] h Post :=
  g_run_of [some (.ref a), some (.int v1), some (.int v2)] (by decide) w_4_57 rfl (Nat.le_of_ble_eq_true rfl) rfl (g_go ok_K_has S n k)
set_option maxRecDepth 100000 in
theorem go_K_at (S : List Nat) (n : Nat) {l : Launch} {h : g_H} {Post : g_P} {a : Nat} {v1 : Int32} {v2 : Int32} (k : cd_K_at 0 l [some (.ref a), some (.int v1), some (.int v2)] [] h (g_N l J_K_at cd_K_at S Post n) Post) : g_Run l J_K_at [.ref a, .int v1, .int v2] h Post :=
  g_run_of [some (.ref a), some (.int v1), some (.int v2)] (by decide) w_4_63 rfl (Nat.le_of_ble_eq_true rfl) rfl (g_go ok_K_at S n k)
set_option maxRecDepth 100000 in
theorem go_K_byTime (S : List Nat) (n : Nat) {l : Launch} {h : g_H} {Post : g_P} {a : Nat} {v1 : Int32} (k : cd_K_byTime 0 l [some (.ref a), some (.int v1)] [] h (g_N l J_K_byTime cd_K_byTime S Post n) Post) : g_Run l J_K_byTime [.ref a, .int v1] h Post :=
  g_run_of [some (.ref a), some (.int v1)] (by decide) w_4_75 rfl (Nat.le_of_ble_eq_true rfl) rfl (g_go ok_K_byTime S n k)
set_option maxRecDepth 100000 in
theorem go_K_putInOrder (S : List Nat) (n : Nat) {l : Launch} {h : g_H} {Post : g_P} {a : Nat} (k : cd_K_putInOrder 0 l [some (.ref a), none, none] [] h (g_N l J_K_putInOrder cd_K_putInOrder S Post n) Post) : g_Run l J_K_putInOrder [.ref a] h Post :=
  g_run_of [some (.ref a), none, none] (by decide) w_4_79 rfl (Nat.le_of_ble_eq_true rfl) rfl (g_go ok_K_putInOrder S n k)
set_option maxRecDepth 100000 in
theorem go_K_joinRuns (S : List Nat) (n : Nat) {l : Launch} {h : g_H} {Post : g_P} {a : Nat} {v1 : Int32} {v2 : Int32} {v3 : Int32} (k : cd_K_joinRuns 0 l [some (.ref a), some (.int v1), some (.int v2), some (.int v3), none, none, none, none] [] h (g_N l J_K_joinRuns cd_K_joinRuns S Post n) Post) : g_Run l J_K_joinRuns [.ref a, .int v1, .int v2, .int v3] h Post :=
  g_run_of [some (.ref a), some (.int v1), some (.int v2), some (.int v3), none, none, none, none] (by decide) w_4_87 rfl (Nat.le_of_ble_eq_true rfl) rfl (g_go ok_K_joinRuns S n k)
set_option maxRecDepth 100000 in
theorem go_K_goesBefore (S : List Nat) (n : Nat) {l : Launch} {h : g_H} {Post : g_P} {a : Nat} {v1 : Int32} {v2 : Int32} (k : cd_K_goesBefore 0 l [some (.ref a), some (.int v1), some (.int v2)] [] h (g_N l J_K_goesBefore cd_K_goesBefore S Post n) Post) : g_Run l J_K_goesBefore [.ref a, .int v1, .int v2] h Post :=
  g_run_of [some (.ref a), some (.int v1), some (.int v2)] (by decide) w_4_91 rfl (Nat.le_of_ble_eq_true rfl) rfl (g_go ok_K_goesBefore S n k)
set_option maxRecDepth 100000 in
theorem go_Z_init (S : List Nat) (n : Nat) {l : Launch} {h : g_H} {Post : g_P} {a : Nat} (k : cd_Z_init 0 l [some (.ref a)] [] h (g_N l J_Z_init cd_Z_init S Post n) Post) : g_Run l J_Z_init [.ref a] h Post :=
  g_run_of [some (.ref a)] (by decide) w_4_96 rfl (Nat.le_of_ble_eq_true rfl) rfl (g_go ok_Z_init S n k)
set_option maxRecDepth 100000 in
theorem go_Z_thrown (S : List Nat) (n : Nat) {l : Launch} {h : g_H} {Post : g_P} {a : Nat} (k : cd_Z_thrown 0 l [some (.ref a)] [] h (g_N l J_Z_thrown cd_Z_thrown S Post n) Post) : g_Run l J_Z_thrown [.ref a] h Post :=
  g_run_of [some (.ref a)] (by decide) w_4_222 rfl (Nat.le_of_ble_eq_true rfl) rfl (g_go ok_Z_thrown S n k)
set_option maxRecDepth 100000 in
theorem go_Z_thread (S : List Nat) (n : Nat) {l : Launch} {h : g_H} {Post : g_P} {a : Nat} {v1 : Int32} (k : cd_Z_thread 0 l [some (.ref a), some (.int v1), none] [] h (g_N l J_Z_thread cd_Z_thread S Post n) Post) : g_Run l J_Z_thread [.ref a, .int v1] h Post :=
  g_run_of [some (.ref a), some (.int v1), none] (by decide) w_4_226 rfl (Nat.le_of_ble_eq_true rfl) rfl (g_go ok_Z_thread S n k)
set_option maxRecDepth 100000 in
theorem go_Z_within (S : List Nat) (n : Nat) {l : Launch} {h : g_H} {Post : g_P} {v0 : Int64} {v1 : Int64} {v2 : Int64} (k : cd_Z_within 0 l [some (.long v0), none, some (.long v1), none, some (.long v2), none] [] h (g_N l J_Z_within cd_Z_within S Post n) Post) : g_Run l J_Z_within [.long v0, .long v1, .long v2] h Post :=
  g_run_of [some (.long v0), none, some (.long v1), none, some (.long v2), none] (by decide) w_4_230 rfl (Nat.le_of_ble_eq_true rfl) rfl (g_go ok_Z_within S n k)
set_option maxRecDepth 100000 in
theorem go_Z_fail (S : List Nat) (n : Nat) {l : Launch} {h : g_H} {Post : g_P} {a : Nat} {v1 : Int32} (k : cd_Z_fail 0 l [some (.ref a), some (.int v1)] [] h (g_N l J_Z_fail cd_Z_fail S Post n) Post) : g_Run l J_Z_fail [.ref a, .int v1] h Post :=
  g_run_of [some (.ref a), some (.int v1)] (by decide) w_4_234 rfl (Nat.le_of_ble_eq_true rfl) rfl (g_go ok_Z_fail S n k)
set_option maxRecDepth 100000 in
theorem go_Z_row (S : List Nat) (n : Nat) {l : Launch} {h : g_H} {Post : g_P} {a : Nat} {v1 : Int32} {v2 : Int32} {v3 : Int32} (k : cd_Z_row 0 l [some (.ref a), some (.int v1), some (.int v2), some (.int v3), none, none] [] h (g_N l J_Z_row cd_Z_row S Post n) Post) : g_Run l J_Z_row [.ref a, .int v1, .int v2, .int v3] h Post :=
  g_run_of [some (.ref a), some (.int v1), some (.int v2), some (.int v3), none, none] (by decide) w_4_238 rfl (Nat.le_of_ble_eq_true rfl) rfl (g_go ok_Z_row S n k)
set_option maxRecDepth 100000 in
theorem go_Z_close (S : List Nat) (n : Nat) {l : Launch} {h : g_H} {Post : g_P} {a : Nat} (k : cd_Z_close 0 l [some (.ref a), none, none] [] h (g_N l J_Z_close cd_Z_close S Post n) Post) : g_Run l J_Z_close [.ref a] h Post :=
  g_run_of [some (.ref a), none, none] (by decide) w_5_3 rfl (Nat.le_of_ble_eq_true rfl) rfl (g_go ok_Z_close S n k)
set_option maxRecDepth 100000 in
theorem go_Z_makeInside (S : List Nat) (n : Nat) {l : Launch} {h : g_H} {Post : g_P} {a : Nat} (k : cd_Z_makeInside 0 l [some (.ref a), none, none] [] h (g_N l J_Z_makeInside cd_Z_makeInside S Post n) Post) : g_Run l J_Z_makeInside [.ref a] h Post :=
  g_run_of [some (.ref a), none, none] (by decide) w_5_7 rfl (Nat.le_of_ble_eq_true rfl) rfl (g_go ok_Z_makeInside S n k)
set_option maxRecDepth 100000 in
theorem go_Z_say (S : List Nat) (n : Nat) {l : Launch} {h : g_H} {Post : g_P} {a : Nat} {v1 : Int32} (k : cd_Z_say 0 l [some (.ref a), some (.int v1)] [] h (g_N l J_Z_say cd_Z_say S Post n) Post) : g_Run l J_Z_say [.ref a, .int v1] h Post :=
  g_run_of [some (.ref a), some (.int v1)] (by decide) w_5_11 rfl (Nat.le_of_ble_eq_true rfl) rfl (g_go ok_Z_say S n k)
set_option maxRecDepth 100000 in
theorem go_Z_sayFour (S : List Nat) (n : Nat) {l : Launch} {h : g_H} {Post : g_P} {a : Nat} {v1 : Int32} (k : cd_Z_sayFour 0 l [some (.ref a), some (.int v1), none] [] h (g_N l J_Z_sayFour cd_Z_sayFour S Post n) Post) : g_Run l J_Z_sayFour [.ref a, .int v1] h Post :=
  g_run_of [some (.ref a), some (.int v1), none] (by decide) w_5_15 rfl (Nat.le_of_ble_eq_true rfl) rfl (g_go ok_Z_sayFour S n k)
set_option maxRecDepth 100000 in
theorem go_Z_sayRows (S : List Nat) (n : Nat) {l : Launch} {h : g_H} {Post : g_P} {a : Nat} (k : cd_Z_sayRows 0 l [some (.ref a), none, none, none, none, none, none, none, none, none, none] [] h (g_N l J_Z_sayRows cd_Z_sayRows S Post n) Post) : g_Run l J_Z_sayRows [.ref a] h Post :=
  g_run_of [some (.ref a), none, none, none, none, none, none, none, none, none, none] (by decide) w_5_19 rfl (Nat.le_of_ble_eq_true rfl) rfl (g_go ok_Z_sayRows S n k)
set_option maxRecDepth 100000 in
theorem go_Z_sayDifference (S : List Nat) (n : Nat) {l : Launch} {h : g_H} {Post : g_P} {a : Nat} {v1 : Int32} (k : cd_Z_sayDifference 0 l [some (.ref a), some (.int v1)] [] h (g_N l J_Z_sayDifference cd_Z_sayDifference S Post n) Post) : g_Run l J_Z_sayDifference [.ref a, .int v1] h Post :=
  g_run_of [some (.ref a), some (.int v1)] (by decide) w_5_23 rfl (Nat.le_of_ble_eq_true rfl) rfl (g_go ok_Z_sayDifference S n k)
set_option maxRecDepth 100000 in
theorem go_Z_sayNumber (S : List Nat) (n : Nat) {l : Launch} {h : g_H} {Post : g_P} {a : Nat} {v1 : Int64} (k : cd_Z_sayNumber 0 l [some (.ref a), some (.long v1), none, none, none] [] h (g_N l J_Z_sayNumber cd_Z_sayNumber S Post n) Post) : g_Run l J_Z_sayNumber [.ref a, .long v1] h Post :=
  g_run_of [some (.ref a), some (.long v1), none, none, none] (by decide) w_5_29 rfl (Nat.le_of_ble_eq_true rfl) rfl (g_go ok_Z_sayNumber S n k)
set_option maxRecDepth 100000 in
theorem go_Z_putValue (S : List Nat) (n : Nat) {l : Launch} {h : g_H} {Post : g_P} {a : Nat} {v1 : Int32} (k : cd_Z_putValue 0 l [some (.ref a), some (.int v1), none, none, none] [] h (g_N l J_Z_putValue cd_Z_putValue S Post n) Post) : g_Run l J_Z_putValue [.ref a, .int v1] h Post :=
  g_run_of [some (.ref a), some (.int v1), none, none, none] (by decide) w_5_34 rfl (Nat.le_of_ble_eq_true rfl) rfl (g_go ok_Z_putValue S n k)
set_option maxRecDepth 100000 in
theorem go_Z_sumUp (S : List Nat) (n : Nat) {l : Launch} {h : g_H} {Post : g_P} {a : Nat} {v1 : Int32} (k : cd_Z_sumUp 0 l [some (.ref a), some (.int v1), none] [] h (g_N l J_Z_sumUp cd_Z_sumUp S Post n) Post) : g_Run l J_Z_sumUp [.ref a, .int v1] h Post :=
  g_run_of [some (.ref a), some (.int v1), none] (by decide) w_5_38 rfl (Nat.le_of_ble_eq_true rfl) rfl (g_go ok_Z_sumUp S n k)
set_option maxRecDepth 100000 in
theorem go_Z_isShielded (S : List Nat) (n : Nat) {l : Launch} {h : g_H} {Post : g_P} {v0 : Int32} (k : cd_Z_isShielded 0 l [some (.int v0)] [] h (g_N l J_Z_isShielded cd_Z_isShielded S Post n) Post) : g_Run l J_Z_isShielded [.int v0] h Post :=
  g_run_of [some (.int v0)] (by decide) w_5_41 rfl (Nat.le_of_ble_eq_true rfl) rfl (g_go ok_Z_isShielded S n k)
set_option maxRecDepth 100000 in
theorem go_Z_putByte (S : List Nat) (n : Nat) {l : Launch} {h : g_H} {Post : g_P} {a : Nat} {v1 : Int32} (k : cd_Z_putByte 0 l [some (.ref a), some (.int v1)] [] h (g_N l J_Z_putByte cd_Z_putByte S Post n) Post) : g_Run l J_Z_putByte [.ref a, .int v1] h Post :=
  g_run_of [some (.ref a), some (.int v1)] (by decide) w_5_45 rfl (Nat.le_of_ble_eq_true rfl) rfl (g_go ok_Z_putByte S n k)
set_option maxRecDepth 100000 in
theorem go_Z_mark (S : List Nat) (n : Nat) {l : Launch} {h : g_H} {Post : g_P} {a : Nat} (k : cd_Z_mark 0 l [some (.ref a)] [] h (g_N l J_Z_mark cd_Z_mark S Post n) Post) : g_Run l J_Z_mark [.ref a] h Post :=
  g_run_of [some (.ref a)] (by decide) w_5_49 rfl (Nat.le_of_ble_eq_true rfl) rfl (g_go ok_Z_mark S n k)
set_option maxRecDepth 100000 in
theorem go_Z_byteAt (S : List Nat) (n : Nat) {l : Launch} {h : g_H} {Post : g_P} {a : Nat} {v1 : Int32} (k : cd_Z_byteAt 0 l [some (.ref a), some (.int v1)] [] h (g_N l J_Z_byteAt cd_Z_byteAt S Post n) Post) : g_Run l J_Z_byteAt [.ref a, .int v1] h Post :=
  g_run_of [some (.ref a), some (.int v1)] (by decide) w_5_53 rfl (Nat.le_of_ble_eq_true rfl) rfl (g_go ok_Z_byteAt S n k)
set_option maxRecDepth 100000 in
theorem go_Z_flip (S : List Nat) (n : Nat) {l : Launch} {h : g_H} {Post : g_P} {a : Nat} {v1 : Int32} {v2 : Int32} (k : cd_Z_flip 0 l [some (.ref a), some (.int v1), some (.int v2)] [] h (g_N l J_Z_flip cd_Z_flip S Post n) Post) : g_Run l J_Z_flip [.ref a, .int v1, .int v2] h Post :=
  g_run_of [some (.ref a), some (.int v1), some (.int v2)] (by decide) w_5_57 rfl (Nat.le_of_ble_eq_true rfl) rfl (g_go ok_Z_flip S n k)
set_option maxRecDepth 100000 in
theorem go_Z_put (S : List Nat) (n : Nat) {l : Launch} {h : g_H} {Post : g_P} {a : Nat} {v1 : Int32} (k : cd_Z_put 0 l [some (.ref a), some (.int v1)] [] h (g_N l J_Z_put cd_Z_put S Post n) Post) : g_Run l J_Z_put [.ref a, .int v1] h Post :=
  g_run_of [some (.ref a), some (.int v1)] (by decide) w_5_62 rfl (Nat.le_of_ble_eq_true rfl) rfl (g_go ok_Z_put S n k)
set_option maxRecDepth 100000 in
theorem go_Z_cut (S : List Nat) (n : Nat) {l : Launch} {h : g_H} {Post : g_P} {a : Nat} {v1 : Int32} (k : cd_Z_cut 0 l [some (.ref a), some (.int v1), none] [] h (g_N l J_Z_cut cd_Z_cut S Post n) Post) : g_Run l J_Z_cut [.ref a, .int v1] h Post :=
  g_run_of [some (.ref a), some (.int v1), none] (by decide) w_5_66 rfl (Nat.le_of_ble_eq_true rfl) rfl (g_go ok_Z_cut S n k)
set_option maxRecDepth 100000 in
theorem go_Z_choose (S : List Nat) (n : Nat) {l : Launch} {h : g_H} {Post : g_P} {a : Nat} {v1 : Int32} {v2 : Int32} (k : cd_Z_choose 0 l [some (.ref a), some (.int v1), some (.int v2), none] [] h (g_N l J_Z_choose cd_Z_choose S Post n) Post) : g_Run l J_Z_choose [.ref a, .int v1, .int v2] h Post :=
  g_run_of [some (.ref a), some (.int v1), some (.int v2), none] (by decide) w_5_70 rfl (Nat.le_of_ble_eq_true rfl) rfl (g_go ok_Z_choose S n k)
set_option maxRecDepth 100000 in
theorem go_Z_read (S : List Nat) (n : Nat) {l : Launch} {h : g_H} {Post : g_P} {a : Nat} {v1 : Int32} (k : cd_Z_read 0 l [some (.ref a), some (.int v1), none, none] [] h (g_N l J_Z_read cd_Z_read S Post n) Post) : g_Run l J_Z_read [.ref a, .int v1] h Post :=
  g_run_of [some (.ref a), some (.int v1), none, none] (by decide) w_5_76 rfl (Nat.le_of_ble_eq_true rfl) rfl (g_go ok_Z_read S n k)
set_option maxRecDepth 100000 in
theorem go_Z_block (S : List Nat) (n : Nat) {l : Launch} {h : g_H} {Post : g_P} {a : Nat} {v1 : Int32} {v2 : Int32} (k : cd_Z_block 0 l [some (.ref a), some (.int v1), some (.int v2), none, none, none, none] [] h (g_N l J_Z_block cd_Z_block S Post n) Post) : g_Run l J_Z_block [.ref a, .int v1, .int v2] h Post :=
  g_run_of [some (.ref a), some (.int v1), some (.int v2), none, none, none, none] (by decide) w_5_80 rfl (Nat.le_of_ble_eq_true rfl) rfl (g_go ok_Z_block S n k)
set_option maxRecDepth 100000 in
theorem go_Z_unshield (S : List Nat) (n : Nat) {l : Launch} {h : g_H} {Post : g_P} {a : Nat} {v1 : Int32} {v2 : Int32} (k : cd_Z_unshield 0 l [some (.ref a), some (.int v1), some (.int v2), none, none, none] [] h (g_N l J_Z_unshield cd_Z_unshield S Post n) Post) : g_Run l J_Z_unshield [.ref a, .int v1, .int v2] h Post :=
  g_run_of [some (.ref a), some (.int v1), some (.int v2), none, none, none] (by decide) w_5_84 rfl (Nat.le_of_ble_eq_true rfl) rfl (g_go ok_Z_unshield S n k)
set_option maxRecDepth 100000 in
theorem go_Z_next (S : List Nat) (n : Nat) {l : Launch} {h : g_H} {Post : g_P} {a : Nat} (k : cd_Z_next 0 l [some (.ref a)] [] h (g_N l J_Z_next cd_Z_next S Post n) Post) : g_Run l J_Z_next [.ref a] h Post :=
  g_run_of [some (.ref a)] (by decide) w_5_88 rfl (Nat.le_of_ble_eq_true rfl) rfl (g_go ok_Z_next S n k)
set_option maxRecDepth 100000 in
theorem go_Z_nextFour (S : List Nat) (n : Nat) {l : Launch} {h : g_H} {Post : g_P} {a : Nat} (k : cd_Z_nextFour 0 l [some (.ref a), none, none] [] h (g_N l J_Z_nextFour cd_Z_nextFour S Post n) Post) : g_Run l J_Z_nextFour [.ref a] h Post :=
  g_run_of [some (.ref a), none, none] (by decide) w_5_92 rfl (Nat.le_of_ble_eq_true rfl) rfl (g_go ok_Z_nextFour S n k)
set_option maxRecDepth 100000 in
theorem go_Z_getRows (S : List Nat) (n : Nat) {l : Launch} {h : g_H} {Post : g_P} {a : Nat} {v1 : Int32} (k : cd_Z_getRows 0 l [some (.ref a), some (.int v1), none, none, none, none, none, none, none, none, none, none, none] [] h (g_N l J_Z_getRows cd_Z_getRows S Post n) Post) : g_Run l J_Z_getRows [.ref a, .int v1] h Post :=
  g_run_of [some (.ref a), some (.int v1), none, none, none, none, none, none, none, none, none, none, none] (by decide) w_5_97 rfl (Nat.le_of_ble_eq_true rfl) rfl (g_go ok_Z_getRows S n k)
set_option maxRecDepth 100000 in
theorem go_Z_get (S : List Nat) (n : Nat) {l : Launch} {h : g_H} {Post : g_P} {a : Nat} {v1 : Int32} {v2 : Int32} {v3 : Int32} {v4 : Int32} (k : cd_Z_get 0 l [some (.ref a), some (.int v1), some (.int v2), some (.int v3), some (.int v4)] [] h (g_N l J_Z_get cd_Z_get S Post n) Post) : g_Run l J_Z_get [.ref a, .int v1, .int v2, .int v3, .int v4] h Post :=
  g_run_of [some (.ref a), some (.int v1), some (.int v2), some (.int v3), some (.int v4)] (by decide) w_5_101 rfl (Nat.le_of_ble_eq_true rfl) rfl (g_go ok_Z_get S n k)
set_option maxRecDepth 100000 in
theorem go_Z_nextDifference (S : List Nat) (n : Nat) {l : Launch} {h : g_H} {Post : g_P} {a : Nat} (k : cd_Z_nextDifference 0 l [some (.ref a), none, none] [] h (g_N l J_Z_nextDifference cd_Z_nextDifference S Post n) Post) : g_Run l J_Z_nextDifference [.ref a] h Post :=
  g_run_of [some (.ref a), none, none] (by decide) w_5_105 rfl (Nat.le_of_ble_eq_true rfl) rfl (g_go ok_Z_nextDifference S n k)
set_option maxRecDepth 100000 in
theorem go_Z_nextNumber (S : List Nat) (n : Nat) {l : Launch} {h : g_H} {Post : g_P} {a : Nat} (k : cd_Z_nextNumber 0 l [some (.ref a), none, none, none, none] [] h (g_N l J_Z_nextNumber cd_Z_nextNumber S Post n) Post) : g_Run l J_Z_nextNumber [.ref a] h Post :=
  g_run_of [some (.ref a), none, none, none, none] (by decide) w_5_109 rfl (Nat.le_of_ble_eq_true rfl) rfl (g_go ok_Z_nextNumber S n k)
set_option maxRecDepth 100000 in
theorem go_Z_keep (S : List Nat) (n : Nat) {l : Launch} {h : g_H} {Post : g_P} {a : Nat} {v1 : Int32} {v2 : Int32} (k : cd_Z_keep 0 l [some (.ref a), some (.int v1), some (.int v2), none] [] h (g_N l J_Z_keep cd_Z_keep S Post n) Post) : g_Run l J_Z_keep [.ref a, .int v1, .int v2] h Post :=
  g_run_of [some (.ref a), some (.int v1), some (.int v2), none] (by decide) w_5_114 rfl (Nat.le_of_ble_eq_true rfl) rfl (g_go ok_Z_keep S n k)
set_option maxRecDepth 100000 in
theorem go_Z_kept (S : List Nat) (n : Nat) {l : Launch} {h : g_H} {Post : g_P} {a : Nat} {v1 : Int32} {v2 : Int32} (k : cd_Z_kept 0 l [some (.ref a), some (.int v1), some (.int v2)] [] h (g_N l J_Z_kept cd_Z_kept S Post n) Post) : g_Run l J_Z_kept [.ref a, .int v1, .int v2] h Post :=
  g_run_of [some (.ref a), some (.int v1), some (.int v2)] (by decide) w_5_118 rfl (Nat.le_of_ble_eq_true rfl) rfl (g_go ok_Z_kept S n k)
set_option maxRecDepth 100000 in
theorem go_Z_merged (S : List Nat) (n : Nat) {l : Launch} {h : g_H} {Post : g_P} {a : Nat} {v1 : Int32} (k : cd_Z_merged 0 l [some (.ref a), some (.int v1), none, none, none, none] [] h (g_N l J_Z_merged cd_Z_merged S Post n) Post) : g_Run l J_Z_merged [.ref a, .int v1] h Post :=
  g_run_of [some (.ref a), some (.int v1), none, none, none, none] (by decide) w_5_123 rfl (Nat.le_of_ble_eq_true rfl) rfl (g_go ok_Z_merged S n k)
set_option maxRecDepth 100000 in
theorem go_Z_isBefore (S : List Nat) (n : Nat) {l : Launch} {h : g_H} {Post : g_P} {a : Nat} {v1 : Int32} {v2 : Int32} (k : cd_Z_isBefore 0 l [some (.ref a), some (.int v1), some (.int v2)] [] h (g_N l J_Z_isBefore cd_Z_isBefore S Post n) Post) : g_Run l J_Z_isBefore [.ref a, .int v1, .int v2] h Post :=
  g_run_of [some (.ref a), some (.int v1), some (.int v2)] (by decide) w_5_127 rfl (Nat.le_of_ble_eq_true rfl) rfl (g_go ok_Z_isBefore S n k)
set_option maxRecDepth 100000 in
theorem go_Z_count (S : List Nat) (n : Nat) {l : Launch} {h : g_H} {Post : g_P} {a : Nat} {v1 : Int32} (k : cd_Z_count 0 l [some (.ref a), some (.int v1)] [] h (g_N l J_Z_count cd_Z_count S Post n) Post) : g_Run l J_Z_count [.ref a, .int v1] h Post :=
  g_run_of [some (.ref a), some (.int v1)] (by decide) w_5_131 rfl (Nat.le_of_ble_eq_true rfl) rfl (g_go ok_Z_count S n k)
