/-! constructors of Ints; Places; Block; LastValues; Memory -/
def g_Nw (lo hi w : Nat) (h h1 : g_H) : Prop := h1.2.1 = hi ∧ h1.2.2 = h.2.2 + w ∧ ∀ q : Nat, q < lo → h1.1 q = h.1 q
theorem g_nw_ne {h : g_H} {x : g_E} {n b : Nat} (hb : b ≠ h.2.1) : (g_nw h x n).1 b = h.1 b := by simp [g_nw, hb]
theorem g_nw_eq {h : g_H} {x : g_E} {n b : Nat} (hb : b = h.2.1) : (g_nw h x n).1 b = some x := by simp [g_nw, hb]
theorem c_I_init {l : Launch} {f : Nat → Option g_E} {w a cap : Nat} {v : Int32} (h0 : f a = some (.inr (0, [.null, .int 0]))) (hv : v = nI cap) (hc : cap ≤ 16384) : g_Run l J_I_init [.ref a, .int v] (f, a + 1, w) (fun o hE => o = .inl none ∧ g_I hE a cap [] ∧ g_Nw a (a + 2) cap (f, a + 1, w) hE) := by
  subst hv
  have e : (if nI cap < 0 then 0 else nI cap) = nI cap := if_neg (nI_pos (by omega))
  refine go_I_init [] 40 ?_
  refine And.intro ?_ (And.intro ?_ ?_)
  · rw [e]
    exact nI_pos (by omega)
  · rw [e, nI_clamp (by omega)]
    omega
  · rw [e, nI_clamp (by omega)]
    refine g_pt_i (fs := [.null, .int 0]) ?_ (Nat.le_of_ble_eq_true rfl) rfl rfl ?_
    · rw [g_nw_ne (by show a ≠ a + 1; omega)]
      exact h0
    · refine ⟨rfl, ⟨List.replicate cap 0, ?_, ?_, by simp, by simp, by omega, by simp⟩, rfl, rfl, fun q hq => ?_⟩
      · rw [g_up_eq]
        rfl
      · rw [g_up_ne (by omega), g_nw_eq rfl]
      · rw [g_up_ne (by omega), g_nw_ne (by show q ≠ a + 1; omega)]
/-! Places -/
def o_L (h : g_H) (a : Nat) (p s : Int32) : Prop := h.1 a = some (.inr (1, [.int p, .int s]))
theorem o_L_Fr {h h1 : g_H} {a lo hi : Nat} {p s : Int32} (hL : o_L h a p s) (hf : g_Fr lo hi h h1) (hd : a < lo ∨ hi ≤ a) : o_L h1 a p s := (hf.2 a hd).trans hL
theorem c_L_init {l : Launch} {h : g_H} {a : Nat} : g_Run l J_L_init [.ref a] h (fun o hE => o = .inl none ∧ hE = h) := by
  refine go_L_init [] 20 ?_
  exact ⟨rfl, rfl⟩
theorem c_L_clear {l : Launch} {h : g_H} {a : Nat} {p s : Int32} (hL : o_L h a p s) : g_Run l J_L_clear [.ref a] h (fun o hE => o = .inl none ∧ o_L hE a 0 0 ∧ g_Fr a (a + 1) h hE) := by
  refine go_L_clear [] 20 ?_
  refine g_pt_i hL (Nat.le_of_ble_eq_true rfl) rfl rfl ?_
  refine g_pt_i g_up_eq (Nat.le_of_ble_eq_true rfl) rfl rfl ?_
  exact ⟨rfl, g_up_eq, g_Fr_tr (g_Fr_up (by omega) (by omega)) (g_Fr_up (by omega) (by omega))⟩
theorem c_L_after {l : Launch} {h : g_H} {a : Nat} {p s d : Int32} (hL : o_L h a p s) : g_Run l J_L_after [.ref a, .int d] h (fun o hE => o = .inl (some (.int (p + d))) ∧ hE = h) := by
  refine go_L_after [] 20 ?_
  refine g_gt_i hL rfl ?_
  exact ⟨rfl, rfl⟩
theorem c_L_expected {l : Launch} {h : g_H} {a : Nat} {p s : Int32} (hL : o_L h a p s) : g_Run l J_L_expected [.ref a] h (fun o hE => o = .inl (some (.int (p + s))) ∧ hE = h) := by
  refine go_L_expected [] 20 ?_
  refine g_gt_i hL rfl ?_
  refine g_gt_i hL rfl ?_
  exact ⟨rfl, rfl⟩
theorem c_L_last {l : Launch} {h : g_H} {a : Nat} {p s : Int32} (hL : o_L h a p s) : g_Run l J_L_last [.ref a] h (fun o hE => o = .inl (some (.int p)) ∧ hE = h) := by
  refine go_L_last [] 20 ?_
  refine g_gt_i hL rfl ?_
  exact ⟨rfl, rfl⟩
theorem c_L_differenceTo {l : Launch} {h : g_H} {a : Nat} {p s x : Int32} (hL : o_L h a p s) : g_Run l J_L_differenceTo [.ref a, .int x] h (fun o hE => o = .inl (some (.int (x - p))) ∧ hE = h) := by
  refine go_L_differenceTo [] 20 ?_
  refine g_gt_i hL rfl ?_
  exact ⟨rfl, rfl⟩
theorem c_L_goTo {l : Launch} {h : g_H} {a : Nat} {p s x : Int32} (hL : o_L h a p s) : g_Run l J_L_goTo [.ref a, .int x] h (fun o hE => o = .inl none ∧ o_L hE a x (x - p) ∧ g_Fr a (a + 1) h hE) := by
  refine go_L_goTo [] 20 ?_
  refine g_gt_i hL rfl ?_
  refine g_pt_i hL (Nat.le_of_ble_eq_true rfl) rfl rfl ?_
  refine g_pt_i g_up_eq (Nat.le_of_ble_eq_true rfl) rfl rfl ?_
  exact ⟨rfl, g_up_eq, g_Fr_tr (g_Fr_up (by omega) (by omega)) (g_Fr_up (by omega) (by omega))⟩
/-! Block: rows (kind, a, b), owner, time -/
abbrev o_Rw : Type := Int32 × Int32 × Int32
def o_B (h : g_H) (a : Nat) (rs : List o_Rw) (o t : Int32) : Prop := h.1 a = some (.inr (2, [.ref (a + 1), .ref (a + 3), .ref (a + 5), .int o, .int t])) ∧ g_I h (a + 1) 100 (rs.map (·.1)) ∧ g_I h (a + 3) 100 (rs.map (·.2.1)) ∧ g_I h (a + 5) 100 (rs.map (·.2.2))
theorem o_B_Fr {h h1 : g_H} {a lo hi : Nat} {rs : List o_Rw} {o t : Int32} (hB : o_B h a rs o t) (hf : g_Fr lo hi h h1) (hd : a + 7 ≤ lo ∨ hi ≤ a) : o_B h1 a rs o t :=
  ⟨(hf.2 a (by omega)).trans hB.1, g_I_Fr hB.2.1 hf (by omega), g_I_Fr hB.2.2.1 hf (by omega), g_I_Fr hB.2.2.2 hf (by omega)⟩
theorem o_B_len {h : g_H} {a : Nat} {rs : List o_Rw} {o t : Int32} (hB : o_B h a rs o t) : rs.length ≤ 100 := by
  have := (g_I_len hB.2.1).1
  simpa using this
theorem g_I_Nw {h h1 : g_H} {a cap lo hi w : Nat} {xs : List Int32} (hI : g_I h a cap xs) (hf : g_Nw lo hi w h h1) (hd : a + 2 ≤ lo) : g_I h1 a cap xs := g_I_fr hI (hf.2.2 a (by omega)) (hf.2.2 (a + 1) (by omega))
theorem g_Nw_at {lo hi w q : Nat} {h h1 : g_H} {x : Option g_E} (hw : g_Nw lo hi w h h1) (hq : q < lo) (hx : h.1 q = x) : h1.1 q = x := (hw.2.2 q hq).trans hx
theorem c_B_init {l : Launch} {f : Nat → Option g_E} {w a : Nat} {o t : Int32} (h0 : f a = some (.inr (2, [.null, .null, .null, .int o, .int t]))) : g_Run l J_B_init [.ref a] (f, a + 1, w) (fun oc hE => oc = .inl none ∧ o_B hE a [] o t ∧ g_Nw a (a + 7) 306 (f, a + 1, w) hE) := by
  refine go_B_init [] 60 ?_
  refine g_cs_i (c_I_init (cap := 100) (a := a + 1) (g_nw_eq (n := 2) rfl) rfl (by omega)) (fun oc h1 hp => ?_)
  obtain ⟨f1, _, w1⟩ := h1
  obtain ⟨rfl, i1, rfl, rfl, n1⟩ := hp
  refine ⟨_, rfl, ?_⟩
  have f1a : f1 a = some (.inr (2, [.null, .null, .null, .int o, .int t])) := (n1 a (by omega)).trans ((g_nw_ne (by show a ≠ a + 1; omega)).trans h0)
  refine g_pt_i f1a (Nat.le_of_ble_eq_true rfl) rfl rfl ?_
  refine g_cs_i (c_I_init (cap := 100) (a := a + 3) (g_nw_eq (n := 2) rfl) rfl (by omega)) (fun oc h2 hp => ?_)
  obtain ⟨f2, _, w2⟩ := h2
  obtain ⟨rfl, i2, rfl, rfl, n2⟩ := hp
  refine ⟨_, rfl, ?_⟩
  have f2a : f2 a = some (.inr (2, [.ref (a + 1), .null, .null, .int o, .int t])) := (n2 a (by omega)).trans ((g_nw_ne (by show a ≠ a + 3; omega)).trans g_up_eq)
  refine g_pt_i f2a (Nat.le_of_ble_eq_true rfl) rfl rfl ?_
  refine g_cs_i (c_I_init (cap := 100) (a := a + 5) (g_nw_eq (n := 2) rfl) rfl (by omega)) (fun oc h3 hp => ?_)
  obtain ⟨f3, _, w3⟩ := h3
  obtain ⟨rfl, i3, rfl, rfl, n3⟩ := hp
  refine ⟨_, rfl, ?_⟩
  have f3a : f3 a = some (.inr (2, [.ref (a + 1), .ref (a + 3), .null, .int o, .int t])) := (n3 a (by omega)).trans ((g_nw_ne (by show a ≠ a + 5; omega)).trans g_up_eq)
  refine g_pt_i f3a (Nat.le_of_ble_eq_true rfl) rfl rfl ?_
  have g2 : ∀ q, q < a + 3 → q ≠ a → f2 q = f1 q := fun q h1 h2 => (n2 q h1).trans ((g_nw_ne (by show q ≠ a + 3; omega)).trans (g_up_ne h2))
  have g3 : ∀ q, q < a + 5 → q ≠ a → f3 q = f2 q := fun q h1 h2 => (n3 q h1).trans ((g_nw_ne (by show q ≠ a + 5; omega)).trans (g_up_ne h2))
  refine ⟨rfl, ⟨g_up_eq, ?_, ?_, ?_⟩, rfl, rfl, fun q hq => ?_⟩
  · exact g_I_fr i1 ((g_up_ne (by omega)).trans ((g3 _ (by omega) (by omega)).trans (g2 _ (by omega) (by omega)))) ((g_up_ne (by omega)).trans ((g3 _ (by omega) (by omega)).trans (g2 _ (by omega) (by omega))))
  · exact g_I_fr i2 ((g_up_ne (by omega)).trans (g3 _ (by omega) (by omega))) ((g_up_ne (by omega)).trans (g3 _ (by omega) (by omega)))
  · exact g_I_fr i3 (g_up_ne (by omega)) (g_up_ne (by omega))
  · exact (g_up_ne (by omega)).trans ((g3 q (by omega) (by omega)).trans ((g2 q (by omega) (by omega)).trans ((n1 q (by omega)).trans (g_nw_ne (by show q ≠ a + 1; omega)))))
