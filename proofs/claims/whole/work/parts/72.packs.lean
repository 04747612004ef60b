/-! TracePacks: its state, as a value -/
/-- pack, times, the rows that wait (rows, thread, time), (current, chosen, rows so far, blocks so far), what the last reading found (rows, passed over, blocks, broken, not kept) -/
abbrev q_S : Type := List Int32 × List Int32 × (List o_Rw × Int32 × Int32) × (Int32 × Int32 × Int32 × Int32) × (List o_Kr × Int32 × Int32 × Int32 × Int32)
abbrev q_cell (a : Nat) (c : Int32 × Int32 × Int32 × Int32) : g_E := .inr (9, [.ref (a + 1), .ref (a + 3), .ref (a + 5), .ref (a + 12), .ref (a + 21), .int c.1, .int c.2.1, .int c.2.2.1, .int c.2.2.2])
def o_T (h : g_H) (a : Nat) (S : q_S) : Prop := h.1 a = some (q_cell a S.2.2.2.1) ∧ g_I h (a + 1) 16384 S.1 ∧ g_I h (a + 3) 4 S.2.1 ∧ o_B h (a + 5) S.2.2.1.1 S.2.2.1.2.1 S.2.2.1.2.2 ∧ (∃ ins m, o_Q h (a + 12) ins m 1) ∧ o_R h (a + 21) S.2.2.2.2.1 S.2.2.2.2.2.1 S.2.2.2.2.2.2.1 S.2.2.2.2.2.2.2.1 S.2.2.2.2.2.2.2.2
theorem o_T_Fr {h h1 : g_H} {a lo hi : Nat} {S : q_S} (hT : o_T h a S) (hf : g_Fr lo hi h h1) (hd : a + 55 ≤ lo ∨ hi ≤ a) : o_T h1 a S := by
  obtain ⟨h0, h2, h3, h4, ⟨ins, m, h5⟩, h6⟩ := hT
  exact ⟨(hf.2 a (by omega)).trans h0, g_I_Fr h2 hf (by omega), g_I_Fr h3 hf (by omega), o_B_Fr h4 hf (by omega), ⟨ins, m, o_Q_Fr h5 hf (by omega)⟩, o_R_Fr h6 hf (by omega)⟩
theorem o_K_rg {h h1 : g_H} {a p q : Nat} {ks : List o_Kr} {z : Int32} {os ss : List Int32} (hK : o_K h a ks p q z os ss) (e : ∀ x, a ≤ x → x < a + 17 → h1.1 x = h.1 x) : o_K h1 a ks p q z os ss := by
  have hpq := hK.2.2.1
  unfold k_pq at hpq
  exact ⟨(e a (by omega) (by omega)).trans hK.1, fun j hj => g_I_rg (hK.2.1 j hj) (fun x h1 h2 => e x (by omega) (by omega)), hK.2.2.1, g_I_rg hK.2.2.2.1 (fun x h1 h2 => e x (by omega) (by omega)), g_I_rg hK.2.2.2.2 (fun x h1 h2 => e x (by omega) (by omega))⟩
theorem o_R_rg {h h1 : g_H} {a : Nat} {ks : List o_Kr} {po bl br nk : Int32} (hR : o_R h a ks po bl br nk) (e : ∀ x, a ≤ x → x < a + 34 → h1.1 x = h.1 x) : o_R h1 a ks po bl br nk := by
  obtain ⟨h0, ⟨ins, m, rs, o, t, pl, hU⟩, ⟨p, q, z, os, ss, hK, hz⟩⟩ := hR
  exact ⟨(e a (by omega) (by omega)).trans h0, ⟨ins, m, rs, o, t, pl, o_U_rg hU (fun x h1 h2 => e x (by omega) (by omega))⟩, ⟨p, q, z, os, ss, o_K_rg hK (fun x h1 h2 => e x (by omega) (by omega)), hz⟩⟩
theorem o_T_rg {h h1 : g_H} {a : Nat} {S : q_S} (hT : o_T h a S) (e : ∀ x, a ≤ x → x < a + 55 → h1.1 x = h.1 x) : o_T h1 a S := by
  obtain ⟨h0, h2, h3, h4, ⟨ins, m, h5⟩, h6⟩ := hT
  exact ⟨(e a (by omega) (by omega)).trans h0, g_I_rg h2 (fun x h1 h2 => e x (by omega) (by omega)), g_I_rg h3 (fun x h1 h2 => e x (by omega) (by omega)), o_B_rg h4 (fun x h1 h2 => e x (by omega) (by omega)), ⟨ins, m, o_Q_rg h5 (fun x h1 h2 => e x (by omega) (by omega))⟩, o_R_rg h6 (fun x h1 h2 => e x (by omega) (by omega))⟩
theorem c_B_initW {l : Launch} {f : Nat → Option g_E} {w a W : Nat} {o t : Int32} (hW : W = 306) (h0 : f a = some (.inr (2, [.null, .null, .null, .int o, .int t]))) : g_Run l J_B_init [.ref a] (f, a + 1, w) (fun oc hE => oc = .inl none ∧ o_B hE a [] o t ∧ g_Nw a (a + 7) W (f, a + 1, w) hE) := by
  subst hW
  exact c_B_init h0
theorem c_Q_initW {l : Launch} {f : Nat → Option g_E} {w a W : Nat} (hW : W = 1030) (h0 : f a = some (.inr (6, [.null, .null, .int 0]))) : g_Run l J_Q_init [.ref a] (f, a + 1, w) (fun oc hE => oc = .inl none ∧ o_Q hE a [] ((0, 0), (0, 0), [], 0, 0) 1 ∧ g_Nw a (a + 9) W (f, a + 1, w) hE) := by
  subst hW
  exact c_Q_init h0
theorem c_I_initW {l : Launch} {f : Nat → Option g_E} {w a cap W : Nat} {v : Int32} (hW : W = cap) (h0 : f a = some (.inr (0, [.null, .int 0]))) (hv : v = nI cap) (hc : cap ≤ 16384) : g_Run l J_I_init [.ref a, .int v] (f, a + 1, w) (fun oc hE => oc = .inl none ∧ g_I hE a cap [] ∧ g_Nw a (a + 2) W (f, a + 1, w) hE) := by
  subst hW
  exact c_I_init h0 hv hc
abbrev q_cl (p t b q r ch : Value) : List Value := [p, t, b, q, r, .int 0, ch, .int 0, .int 0]
def q_0 : q_S := ([], [0, 0, 0, 0], ([], 0, 0), (0, 511, 0, 0), ([], 0, 0, 0, 0))
theorem c_T_init {l : Launch} {f : Nat → Option g_E} {w a W : Nat} (hW : W = 35112) (h0 : f a = some (.inr (9, q_cl .null .null .null .null .null (.int 0)))) : g_Run l J_T_init [.ref a] (f, a + 1, w) (fun oc hE => oc = .inl none ∧ o_T hE a q_0 ∧ g_Nw a (a + 55) W (f, a + 1, w) hE) := by
  obtain ⟨W1, e1⟩ : ∃ x : Nat, x = 16384 := ⟨_, rfl⟩
  obtain ⟨W2, e2⟩ : ∃ x : Nat, x = 4 := ⟨_, rfl⟩
  obtain ⟨W3, e3⟩ : ∃ x : Nat, x = 306 := ⟨_, rfl⟩
  obtain ⟨W4, e4⟩ : ∃ x : Nat, x = 1030 := ⟨_, rfl⟩
  obtain ⟨W5, e5⟩ : ∃ x : Nat, x = 17370 := ⟨_, rfl⟩
  refine go_T_init [] 200 ?_
  refine g_cs_i (c_I_initW (cap := 16384) (a := a + 1) e1 (g_nw_eq (n := 2) rfl) rfl (Nat.le_refl _)) (fun oc h1 hp => ?_)
  obtain ⟨f1, m1, w1⟩ := h1
  obtain ⟨rfl, i1, p1, q1, n1⟩ := hp
  have u1 : m1 = a + 3 := p1
  have v1 : w1 = w + 2 + W1 := q1
  clear p1 q1
  subst u1
  refine ⟨_, rfl, ?_⟩
  have a1 : f1 a = some (.inr (9, q_cl .null .null .null .null .null (.int 0))) := (n1 a (by omega)).trans ((g_nw_ne (by show a ≠ a + 1; omega)).trans h0)
  refine g_pt_j (q_cl (.ref (a + 1)) .null .null .null .null (.int 0)) a1 (Nat.le_of_ble_eq_true rfl) rfl rfl rfl ?_
  have l1 : ∀ q, q < a → f1 q = f q := fun q hq => (n1 q (by omega)).trans (g_nw_ne (by show q ≠ a + 1; omega))
  refine g_cs_i (c_I_initW (cap := 4) (a := a + 3) e2 (g_nw_eq (n := 2) rfl) rfl (by omega)) (fun oc h2 hp => ?_)
  obtain ⟨f2, m2, w2⟩ := h2
  obtain ⟨rfl, i2, p2, q2, n2⟩ := hp
  have u2 : m2 = a + 5 := p2
  have v2 : w2 = w1 + 2 + W2 := q2
  clear p2 q2
  subst u2
  refine ⟨_, rfl, ?_⟩
  have a2 : f2 a = some (.inr (9, q_cl (.ref (a + 1)) .null .null .null .null (.int 0))) := (n2 a (by omega)).trans ((g_nw_ne (by show a ≠ a + 3; omega)).trans g_up_eq)
  refine g_pt_j (q_cl (.ref (a + 1)) (.ref (a + 3)) .null .null .null (.int 0)) a2 (Nat.le_of_ble_eq_true rfl) rfl rfl rfl ?_
  have r2 : ∀ q, q < a + 3 → q ≠ a → f2 q = f1 q := fun q h1 h2 => (n2 q h1).trans ((g_nw_ne (by show q ≠ a + 3; omega)).trans (g_up_ne h2))
  have I2 : g_I (g_up (f2, a + 5, w2) a (.inr (9, q_cl (.ref (a + 1)) (.ref (a + 3)) .null .null .null (.int 0)))) (a + 3) 4 [] := g_I_rg i2 (fun q h1 h2 => g_up_ne (by omega))
  have J2 : g_I (g_up (f2, a + 5, w2) a (.inr (9, q_cl (.ref (a + 1)) (.ref (a + 3)) .null .null .null (.int 0)))) (a + 1) 16384 [] := g_I_rg i1 (fun q h1 h2 => (g_up_ne (by omega)).trans (r2 q (by omega) (by omega)))
  have L2 : ∀ q, q < a → (g_up (f2, a + 5, w2) a (.inr (9, q_cl (.ref (a + 1)) (.ref (a + 3)) .null .null .null (.int 0)))).1 q = f q := fun q hq => (g_up_ne (by omega)).trans ((r2 q (by omega) (by omega)).trans (l1 q hq))
  have A2 : (g_up (f2, a + 5, w2) a (.inr (9, q_cl (.ref (a + 1)) (.ref (a + 3)) .null .null .null (.int 0)))).1 a = some (.inr (9, q_cl (.ref (a + 1)) (.ref (a + 3)) .null .null .null (.int 0))) := g_up_eq
  have Z2 : (g_up (f2, a + 5, w2) a (.inr (9, q_cl (.ref (a + 1)) (.ref (a + 3)) .null .null .null (.int 0)))).2 = (a + 5, w2) := rfl
  generalize (g_up (f2, a + 5, w2) a (.inr (9, q_cl (.ref (a + 1)) (.ref (a + 3)) .null .null .null (.int 0)))) = H2 at I2 J2 L2 A2 Z2 ⊢
  -- four times
  refine g_br_f (by decide) ?_
  refine g_gt_i A2 rfl ?_
  refine g_cv_i (g_I_ty I2) (c_I_add I2) (fun oc h3 hp => ?_)
  obtain ⟨rfl, i3, f3⟩ := hp
  refine ⟨_, rfl, ?_⟩
  have A3 := (f3.2 a (by omega)).trans A2
  refine g_br_f (by decide) ?_
  refine g_gt_i A3 rfl ?_
  refine g_cv_i (g_I_ty i3) (c_I_add i3) (fun oc h4 hp => ?_)
  obtain ⟨rfl, i4, f4⟩ := hp
  refine ⟨_, rfl, ?_⟩
  have A4 := (f4.2 a (by omega)).trans A3
  refine g_br_f (by decide) ?_
  refine g_gt_i A4 rfl ?_
  refine g_cv_i (g_I_ty i4) (c_I_add i4) (fun oc h5 hp => ?_)
  obtain ⟨rfl, i5, f5⟩ := hp
  refine ⟨_, rfl, ?_⟩
  have A5 := (f5.2 a (by omega)).trans A4
  refine g_br_f (by decide) ?_
  refine g_gt_i A5 rfl ?_
  refine g_cv_i (g_I_ty i5) (c_I_add i5) (fun oc h6 hp => ?_)
  obtain ⟨rfl, i6, f6⟩ := hp
  refine ⟨_, rfl, ?_⟩
  have A6 := (f6.2 a (by omega)).trans A5
  refine g_br_t (by decide) ?_
  have F6 : g_Fr (a + 3) (a + 3 + 2) H2 h6 := g_Fr_tr f3 (g_Fr_tr f4 (g_Fr_tr f5 f6))
  have I6 : g_I h6 (a + 3) 4 [0, 0, 0, 0] := i6
  have J6 := g_I_Fr J2 F6 (by omega)
  have L6 : ∀ q, q < a → h6.1 q = f q := fun q hq => (F6.2 q (by omega)).trans (L2 q hq)
  have Z6 : h6.2 = (a + 5, w2) := F6.1.trans Z2
  clear F6 f3 f4 f5 f6 i3 i4 i5 i6 A3 A4 A5 I2 J2 L2 A2 Z2
  obtain ⟨g6, m6, x6⟩ := h6
  have u6 : m6 = a + 5 := congrArg Prod.fst Z6
  have v6 : x6 = w2 := congrArg Prod.snd Z6
  clear Z6
  subst u6 v6
  -- Block
  refine g_cs_i (c_B_initW (a := a + 5) (o := 0) (t := 0) e3 (g_nw_eq (n := 5) rfl)) (fun oc h7 hp => ?_)
  obtain ⟨f7, m7, w7⟩ := h7
  obtain ⟨rfl, i7, p7, q7, n7⟩ := hp
  have u7 : m7 = a + 12 := p7
  have v7 : w7 = x6 + 5 + W3 := q7
  clear p7 q7
  subst u7
  refine ⟨_, rfl, ?_⟩
  have a7 : f7 a = some (.inr (9, q_cl (.ref (a + 1)) (.ref (a + 3)) .null .null .null (.int 0))) := (n7 a (by omega)).trans ((g_nw_ne (by show a ≠ a + 5; omega)).trans A6)
  refine g_pt_j (q_cl (.ref (a + 1)) (.ref (a + 3)) (.ref (a + 5)) .null .null (.int 0)) a7 (Nat.le_of_ble_eq_true rfl) rfl rfl rfl ?_
  have r7 : ∀ q, q < a + 5 → f7 q = g6 q := fun q h1 => (n7 q h1).trans (g_nw_ne (by show q ≠ a + 5; omega))
  -- Packer
  refine g_cs_i (c_Q_initW (a := a + 12) e4 (g_nw_eq (n := 3) rfl)) (fun oc h8 hp => ?_)
  obtain ⟨f8, m8, w8⟩ := h8
  obtain ⟨rfl, i8, p8, q8, n8⟩ := hp
  have u8 : m8 = a + 21 := p8
  have v8 : w8 = w7 + 3 + W4 := q8
  clear p8 q8
  subst u8
  refine ⟨_, rfl, ?_⟩
  have a8 : f8 a = some (.inr (9, q_cl (.ref (a + 1)) (.ref (a + 3)) (.ref (a + 5)) .null .null (.int 0))) := (n8 a (by omega)).trans ((g_nw_ne (by show a ≠ a + 12; omega)).trans g_up_eq)
  refine g_pt_j (q_cl (.ref (a + 1)) (.ref (a + 3)) (.ref (a + 5)) (.ref (a + 12)) .null (.int 0)) a8 (Nat.le_of_ble_eq_true rfl) rfl rfl rfl ?_
  have r8 : ∀ q, q < a + 12 → q ≠ a → f8 q = f7 q := fun q h1 h2 => (n8 q h1).trans ((g_nw_ne (by show q ≠ a + 12; omega)).trans (g_up_ne h2))
  -- Reader
  refine g_cs_i (c_R_init (a := a + 21) e5 (g_nw_eq (n := 6) rfl)) (fun oc h9 hp => ?_)
  obtain ⟨f9, m9, w9⟩ := h9
  obtain ⟨rfl, i9, p9, q9, n9⟩ := hp
  have u9 : m9 = a + 55 := p9
  have v9 : w9 = w8 + 6 + W5 := q9
  clear p9 q9
  subst u9
  refine ⟨_, rfl, ?_⟩
  have a9 : f9 a = some (.inr (9, q_cl (.ref (a + 1)) (.ref (a + 3)) (.ref (a + 5)) (.ref (a + 12)) .null (.int 0))) := (n9 a (by omega)).trans ((g_nw_ne (by show a ≠ a + 21; omega)).trans g_up_eq)
  refine g_pt_j (q_cl (.ref (a + 1)) (.ref (a + 3)) (.ref (a + 5)) (.ref (a + 12)) (.ref (a + 21)) (.int 0)) a9 (Nat.le_of_ble_eq_true rfl) rfl rfl rfl ?_
  refine g_pt_j (q_cl (.ref (a + 1)) (.ref (a + 3)) (.ref (a + 5)) (.ref (a + 12)) (.ref (a + 21)) (.int 511)) g_up_eq (Nat.le_of_ble_eq_true rfl) rfl rfl rfl ?_
  have r9 : ∀ q, q < a + 21 → q ≠ a → f9 q = f8 q := fun q h1 h2 => (n9 q h1).trans ((g_nw_ne (by show q ≠ a + 21; omega)).trans (g_up_ne h2))
  have fz : g_Fr a (a + 1) (f9, a + 55, w9) (g_up (g_up (f9, a + 55, w9) a (.inr (9, q_cl (.ref (a + 1)) (.ref (a + 3)) (.ref (a + 5)) (.ref (a + 12)) (.ref (a + 21)) (.int 0)))) a (.inr (9, q_cl (.ref (a + 1)) (.ref (a + 3)) (.ref (a + 5)) (.ref (a + 12)) (.ref (a + 21)) (.int 511)))) := g_Fr_tr (g_Fr_up (by omega) (by omega)) (g_Fr_up (by omega) (by omega))
  have ez : ∀ q, q < a + 5 → q ≠ a → (g_up (g_up (f9, a + 55, w9) a (.inr (9, q_cl (.ref (a + 1)) (.ref (a + 3)) (.ref (a + 5)) (.ref (a + 12)) (.ref (a + 21)) (.int 0)))) a (.inr (9, q_cl (.ref (a + 1)) (.ref (a + 3)) (.ref (a + 5)) (.ref (a + 12)) (.ref (a + 21)) (.int 511)))).1 q = g6 q := fun q h1 h2 => (fz.2 q (by omega)).trans ((r9 q (by omega) h2).trans ((r8 q (by omega) h2).trans (r7 q h1)))
  refine ⟨rfl, ⟨g_up_eq, g_I_rg J6 (fun q h1 h2 => ez q (by omega) (by omega)), g_I_rg I6 (fun q h1 h2 => ez q (by omega) (by omega)), o_B_rg i7 (fun q h1 h2 => (fz.2 q (by omega)).trans ((r9 q (by omega) (by omega)).trans (r8 q (by omega) (by omega)))), ⟨_, _, o_Q_rg i8 (fun q h1 h2 => (fz.2 q (by omega)).trans (r9 q (by omega) (by omega)))⟩, o_R_Fr i9 fz (by omega)⟩, rfl, ?_, fun q hq => (ez q (by omega) (by omega)).trans (L6 q hq)⟩
  show w9 = w + W
  omega
