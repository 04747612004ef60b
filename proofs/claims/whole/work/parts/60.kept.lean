/-! Kept: six columns, order and spare (which change places) -/
abbrev o_Kr : Type := Int32 × Int32 × Int32 × Int32 × Int32 × Int32
def k_col (j : Nat) (r : o_Kr) : Int32 := match j with
  | 0 => r.1
  | 1 => r.2.1
  | 2 => r.2.2.1
  | 3 => r.2.2.2.1
  | 4 => r.2.2.2.2.1
  | _ => r.2.2.2.2.2
def k_cs (h : g_H) (a : Nat) (c : Nat → List Int32) : Prop := ∀ j, j < 6 → g_I h (a + 1 + 2 * j) 2000 (c j)
theorem k_cs_up {h h1 : g_H} {a i : Nat} {c : Nat → List Int32} {xs : List Int32} (hc : k_cs h a c) (i1 : g_I h1 (a + 1 + 2 * i) 2000 xs) (f1 : g_Fr (a + 1 + 2 * i) (a + 1 + 2 * i + 2) h h1) : k_cs h1 a (fun j => if j = i then xs else c j) := by
  intro j hj
  by_cases e : j = i
  · subst e
    simp only [if_true]
    exact i1
  · simp only [if_neg e]
    exact g_I_Fr (hc j hj) f1 (by omega)
theorem k_cs_eq {h : g_H} {a : Nat} {c c' : Nat → List Int32} (hc : k_cs h a c) (e0 : c 0 = c' 0) (e1 : c 1 = c' 1) (e2 : c 2 = c' 2) (e3 : c 3 = c' 3) (e4 : c 4 = c' 4) (e5 : c 5 = c' 5) : k_cs h a c' := by
  intro j hj
  have h0 := hc j hj
  rcases (show j = 0 ∨ j = 1 ∨ j = 2 ∨ j = 3 ∨ j = 4 ∨ j = 5 by omega) with rfl | rfl | rfl | rfl | rfl | rfl
  · rw [← e0]; exact h0
  · rw [← e1]; exact h0
  · rw [← e2]; exact h0
  · rw [← e3]; exact h0
  · rw [← e4]; exact h0
  · rw [← e5]; exact h0
theorem k_cs_Fr {h h1 : g_H} {a lo hi : Nat} {c : Nat → List Int32} (hc : k_cs h a c) (hf : g_Fr lo hi h h1) (hd : a + 13 ≤ lo ∨ hi ≤ a + 1) : k_cs h1 a c := fun j hj => g_I_Fr (hc j hj) hf (by omega)
/-- where order and spare lie -/
def k_pq (a p q : Nat) : Prop := (p = a + 13 ∧ q = a + 15) ∨ (p = a + 15 ∧ q = a + 13)
abbrev k_cell (a p q : Nat) (z : Int32) : g_E := .inr (5, [.ref (a + 1), .ref (a + 3), .ref (a + 5), .ref (a + 7), .ref (a + 9), .ref (a + 11), .ref p, .ref q, .int z])
def o_K (h : g_H) (a : Nat) (ks : List o_Kr) (p q : Nat) (z : Int32) (os ss : List Int32) : Prop := h.1 a = some (k_cell a p q z) ∧ k_cs h a (fun j => ks.map (k_col j)) ∧ k_pq a p q ∧ g_I h p 2000 os ∧ g_I h q 2000 ss
theorem o_K_Fr {h h1 : g_H} {a lo hi p q : Nat} {ks : List o_Kr} {z : Int32} {os ss : List Int32} (hK : o_K h a ks p q z os ss) (hf : g_Fr lo hi h h1) (hd : a + 17 ≤ lo ∨ hi ≤ a) : o_K h1 a ks p q z os ss := by
  have hpq := hK.2.2.1
  unfold k_pq at hpq
  exact ⟨(hf.2 a (by omega)).trans hK.1, k_cs_Fr hK.2.1 hf (by omega), hK.2.2.1, g_I_Fr hK.2.2.2.1 hf (by omega), g_I_Fr hK.2.2.2.2 hf (by omega)⟩
theorem o_K_len {h : g_H} {a p q : Nat} {ks : List o_Kr} {z : Int32} {os ss : List Int32} (hK : o_K h a ks p q z os ss) : ks.length ≤ 2000 := by
  have := (g_I_len (hK.2.1 0 (by omega))).1
  simpa using this
theorem g_pt_j {h : g_H} {a ci k : Nat} {ty : FieldType} {v : Value} {P : g_H → Prop} {fs : List Value} (fs' : List Value) (h1 : h.1 a = some (.inr (ci, fs))) (h2 : k < fs.length) (h3 : narrow ty v = v) (h4 : fits ty v = true) (he : fs.set k v = fs') (h5 : P (g_up h a (.inr (ci, fs')))) : g_pt h a ci k ty v P := ⟨fs, _, h1, h2, ⟨h3, h4⟩, by rw [he], h5⟩
theorem k_step {h h1 : g_H} {a k n : Nat} {cell : g_E} (hn : n = a + 1 + 2 * k) (hs : ∀ j, j < k → g_I h (a + 1 + 2 * j) 2000 []) (i1 : g_I h1 n 2000 []) (n1 : ∀ q, q < n → h1.1 q = h.1 q) : ∀ j, j < k + 1 → g_I (g_up h1 a cell) (a + 1 + 2 * j) 2000 [] := by
  intro j hj
  by_cases e : j = k
  · subst e
    subst hn
    exact g_I_fr i1 (g_up_ne (by omega)) (g_up_ne (by omega))
  · exact g_I_fr (hs j (by omega)) ((g_up_ne (by omega)).trans (n1 _ (by omega))) ((g_up_ne (by omega)).trans (n1 _ (by omega)))

theorem c_K_init {l : Launch} {f : Nat → Option g_E} {w a : Nat} (h0 : f a = some (.inr (5, [.null, .null, .null, .null, .null, .null, .null, .null, .int 0]))) : g_Run l J_K_init [.ref a] (f, a + 1, w) (fun oc hE => oc = .inl none ∧ o_K hE a [] (a + 13) (a + 15) 0 [] [] ∧ g_Nw a (a + 17) 16016 (f, a + 1, w) hE) := by
  refine go_K_init [] 100 ?_
  have s0 : ∀ j, j < 0 → g_I (f, a + 1, w) (a + 1 + 2 * j) 2000 [] := fun j hj => absurd hj (by omega)
  refine g_cs_i (c_I_init (cap := 2000) (a := a + 1) (g_nw_eq (n := 2) rfl) rfl (by omega)) (fun oc h1 hp => ?_)
  obtain ⟨f1, m1, w1⟩ := h1
  obtain ⟨rfl, i1, p1, q1, n1⟩ := hp
  have u1 : m1 = a + 3 := p1
  have v1 : w1 = w + 2002 := q1
  clear p1 q1
  subst u1 v1
  refine ⟨_, rfl, ?_⟩
  have a1 : f1 a = some (.inr (5, [.null, .null, .null, .null, .null, .null, .null, .null, .int 0])) := (n1 a (by omega)).trans ((g_nw_ne (by show a ≠ a + 1; omega)).trans h0)
  refine g_pt_j [.ref (a + 1), .null, .null, .null, .null, .null, .null, .null, .int 0] a1 (Nat.le_of_ble_eq_true rfl) rfl rfl rfl ?_
  have s1 := k_step (cell := .inr (5, [.ref (a + 1), .null, .null, .null, .null, .null, .null, .null, .int 0])) (k := 0) (by omega) s0 i1 (fun q hq => (n1 q hq).trans (g_nw_ne (by show q ≠ a + 1; omega)))
  have l1 : ∀ q, q < a → f1 q = f q := fun q hq => (n1 q (by omega)).trans (g_nw_ne (by show q ≠ a + 1; omega))
  refine g_cs_i (c_I_init (cap := 2000) (a := a + 3) (g_nw_eq (n := 2) rfl) rfl (by omega)) (fun oc h2 hp => ?_)
  obtain ⟨f2, m2, w2⟩ := h2
  obtain ⟨rfl, i2, p2, q2, n2⟩ := hp
  have u2 : m2 = a + 5 := p2
  have v2 : w2 = w + 4004 := q2
  clear p2 q2
  subst u2 v2
  refine ⟨_, rfl, ?_⟩
  have a2 : f2 a = some (.inr (5, [.ref (a + 1), .null, .null, .null, .null, .null, .null, .null, .int 0])) := (n2 a (by omega)).trans ((g_nw_ne (by show a ≠ a + 3; omega)).trans g_up_eq)
  refine g_pt_j [.ref (a + 1), .ref (a + 3), .null, .null, .null, .null, .null, .null, .int 0] a2 (Nat.le_of_ble_eq_true rfl) rfl rfl rfl ?_
  have s2 := k_step (cell := .inr (5, [.ref (a + 1), .ref (a + 3), .null, .null, .null, .null, .null, .null, .int 0])) (k := 1) (by omega) s1 i2 (fun q hq => (n2 q hq).trans (g_nw_ne (by show q ≠ a + 3; omega)))
  have l2 : ∀ q, q < a → f2 q = f q := fun q hq => (n2 q (by omega)).trans ((g_nw_ne (by show q ≠ a + 3; omega)).trans ((g_up_ne (by omega)).trans (l1 q hq)))
  refine g_cs_i (c_I_init (cap := 2000) (a := a + 5) (g_nw_eq (n := 2) rfl) rfl (by omega)) (fun oc h3 hp => ?_)
  obtain ⟨f3, m3, w3⟩ := h3
  obtain ⟨rfl, i3, p3, q3, n3⟩ := hp
  have u3 : m3 = a + 7 := p3
  have v3 : w3 = w + 6006 := q3
  clear p3 q3
  subst u3 v3
  refine ⟨_, rfl, ?_⟩
  have a3 : f3 a = some (.inr (5, [.ref (a + 1), .ref (a + 3), .null, .null, .null, .null, .null, .null, .int 0])) := (n3 a (by omega)).trans ((g_nw_ne (by show a ≠ a + 5; omega)).trans g_up_eq)
  refine g_pt_j [.ref (a + 1), .ref (a + 3), .ref (a + 5), .null, .null, .null, .null, .null, .int 0] a3 (Nat.le_of_ble_eq_true rfl) rfl rfl rfl ?_
  have s3 := k_step (cell := .inr (5, [.ref (a + 1), .ref (a + 3), .ref (a + 5), .null, .null, .null, .null, .null, .int 0])) (k := 2) (by omega) s2 i3 (fun q hq => (n3 q hq).trans (g_nw_ne (by show q ≠ a + 5; omega)))
  have l3 : ∀ q, q < a → f3 q = f q := fun q hq => (n3 q (by omega)).trans ((g_nw_ne (by show q ≠ a + 5; omega)).trans ((g_up_ne (by omega)).trans (l2 q hq)))
  refine g_cs_i (c_I_init (cap := 2000) (a := a + 7) (g_nw_eq (n := 2) rfl) rfl (by omega)) (fun oc h4 hp => ?_)
  obtain ⟨f4, m4, w4⟩ := h4
  obtain ⟨rfl, i4, p4, q4, n4⟩ := hp
  have u4 : m4 = a + 9 := p4
  have v4 : w4 = w + 8008 := q4
  clear p4 q4
  subst u4 v4
  refine ⟨_, rfl, ?_⟩
  have a4 : f4 a = some (.inr (5, [.ref (a + 1), .ref (a + 3), .ref (a + 5), .null, .null, .null, .null, .null, .int 0])) := (n4 a (by omega)).trans ((g_nw_ne (by show a ≠ a + 7; omega)).trans g_up_eq)
  refine g_pt_j [.ref (a + 1), .ref (a + 3), .ref (a + 5), .ref (a + 7), .null, .null, .null, .null, .int 0] a4 (Nat.le_of_ble_eq_true rfl) rfl rfl rfl ?_
  have s4 := k_step (cell := .inr (5, [.ref (a + 1), .ref (a + 3), .ref (a + 5), .ref (a + 7), .null, .null, .null, .null, .int 0])) (k := 3) (by omega) s3 i4 (fun q hq => (n4 q hq).trans (g_nw_ne (by show q ≠ a + 7; omega)))
  have l4 : ∀ q, q < a → f4 q = f q := fun q hq => (n4 q (by omega)).trans ((g_nw_ne (by show q ≠ a + 7; omega)).trans ((g_up_ne (by omega)).trans (l3 q hq)))
  refine g_cs_i (c_I_init (cap := 2000) (a := a + 9) (g_nw_eq (n := 2) rfl) rfl (by omega)) (fun oc h5 hp => ?_)
  obtain ⟨f5, m5, w5⟩ := h5
  obtain ⟨rfl, i5, p5, q5, n5⟩ := hp
  have u5 : m5 = a + 11 := p5
  have v5 : w5 = w + 10010 := q5
  clear p5 q5
  subst u5 v5
  refine ⟨_, rfl, ?_⟩
  have a5 : f5 a = some (.inr (5, [.ref (a + 1), .ref (a + 3), .ref (a + 5), .ref (a + 7), .null, .null, .null, .null, .int 0])) := (n5 a (by omega)).trans ((g_nw_ne (by show a ≠ a + 9; omega)).trans g_up_eq)
  refine g_pt_j [.ref (a + 1), .ref (a + 3), .ref (a + 5), .ref (a + 7), .ref (a + 9), .null, .null, .null, .int 0] a5 (Nat.le_of_ble_eq_true rfl) rfl rfl rfl ?_
  have s5 := k_step (cell := .inr (5, [.ref (a + 1), .ref (a + 3), .ref (a + 5), .ref (a + 7), .ref (a + 9), .null, .null, .null, .int 0])) (k := 4) (by omega) s4 i5 (fun q hq => (n5 q hq).trans (g_nw_ne (by show q ≠ a + 9; omega)))
  have l5 : ∀ q, q < a → f5 q = f q := fun q hq => (n5 q (by omega)).trans ((g_nw_ne (by show q ≠ a + 9; omega)).trans ((g_up_ne (by omega)).trans (l4 q hq)))
  refine g_cs_i (c_I_init (cap := 2000) (a := a + 11) (g_nw_eq (n := 2) rfl) rfl (by omega)) (fun oc h6 hp => ?_)
  obtain ⟨f6, m6, w6⟩ := h6
  obtain ⟨rfl, i6, p6, q6, n6⟩ := hp
  have u6 : m6 = a + 13 := p6
  have v6 : w6 = w + 12012 := q6
  clear p6 q6
  subst u6 v6
  refine ⟨_, rfl, ?_⟩
  have a6 : f6 a = some (.inr (5, [.ref (a + 1), .ref (a + 3), .ref (a + 5), .ref (a + 7), .ref (a + 9), .null, .null, .null, .int 0])) := (n6 a (by omega)).trans ((g_nw_ne (by show a ≠ a + 11; omega)).trans g_up_eq)
  refine g_pt_j [.ref (a + 1), .ref (a + 3), .ref (a + 5), .ref (a + 7), .ref (a + 9), .ref (a + 11), .null, .null, .int 0] a6 (Nat.le_of_ble_eq_true rfl) rfl rfl rfl ?_
  have s6 := k_step (cell := .inr (5, [.ref (a + 1), .ref (a + 3), .ref (a + 5), .ref (a + 7), .ref (a + 9), .ref (a + 11), .null, .null, .int 0])) (k := 5) (by omega) s5 i6 (fun q hq => (n6 q hq).trans (g_nw_ne (by show q ≠ a + 11; omega)))
  have l6 : ∀ q, q < a → f6 q = f q := fun q hq => (n6 q (by omega)).trans ((g_nw_ne (by show q ≠ a + 11; omega)).trans ((g_up_ne (by omega)).trans (l5 q hq)))
  refine g_cs_i (c_I_init (cap := 2000) (a := a + 13) (g_nw_eq (n := 2) rfl) rfl (by omega)) (fun oc h7 hp => ?_)
  obtain ⟨f7, m7, w7⟩ := h7
  obtain ⟨rfl, i7, p7, q7, n7⟩ := hp
  have u7 : m7 = a + 15 := p7
  have v7 : w7 = w + 14014 := q7
  clear p7 q7
  subst u7 v7
  refine ⟨_, rfl, ?_⟩
  have a7 : f7 a = some (.inr (5, [.ref (a + 1), .ref (a + 3), .ref (a + 5), .ref (a + 7), .ref (a + 9), .ref (a + 11), .null, .null, .int 0])) := (n7 a (by omega)).trans ((g_nw_ne (by show a ≠ a + 13; omega)).trans g_up_eq)
  refine g_pt_j [.ref (a + 1), .ref (a + 3), .ref (a + 5), .ref (a + 7), .ref (a + 9), .ref (a + 11), .ref (a + 13), .null, .int 0] a7 (Nat.le_of_ble_eq_true rfl) rfl rfl rfl ?_
  have s7 := k_step (cell := .inr (5, [.ref (a + 1), .ref (a + 3), .ref (a + 5), .ref (a + 7), .ref (a + 9), .ref (a + 11), .ref (a + 13), .null, .int 0])) (k := 6) (by omega) s6 i7 (fun q hq => (n7 q hq).trans (g_nw_ne (by show q ≠ a + 13; omega)))
  have l7 : ∀ q, q < a → f7 q = f q := fun q hq => (n7 q (by omega)).trans ((g_nw_ne (by show q ≠ a + 13; omega)).trans ((g_up_ne (by omega)).trans (l6 q hq)))
  refine g_cs_i (c_I_init (cap := 2000) (a := a + 15) (g_nw_eq (n := 2) rfl) rfl (by omega)) (fun oc h8 hp => ?_)
  obtain ⟨f8, m8, w8⟩ := h8
  obtain ⟨rfl, i8, p8, q8, n8⟩ := hp
  have u8 : m8 = a + 17 := p8
  have v8 : w8 = w + 16016 := q8
  clear p8 q8
  subst u8 v8
  refine ⟨_, rfl, ?_⟩
  have a8 : f8 a = some (.inr (5, [.ref (a + 1), .ref (a + 3), .ref (a + 5), .ref (a + 7), .ref (a + 9), .ref (a + 11), .ref (a + 13), .null, .int 0])) := (n8 a (by omega)).trans ((g_nw_ne (by show a ≠ a + 15; omega)).trans g_up_eq)
  refine g_pt_j [.ref (a + 1), .ref (a + 3), .ref (a + 5), .ref (a + 7), .ref (a + 9), .ref (a + 11), .ref (a + 13), .ref (a + 15), .int 0] a8 (Nat.le_of_ble_eq_true rfl) rfl rfl rfl ?_
  have s8 := k_step (cell := .inr (5, [.ref (a + 1), .ref (a + 3), .ref (a + 5), .ref (a + 7), .ref (a + 9), .ref (a + 11), .ref (a + 13), .ref (a + 15), .int 0])) (k := 7) (by omega) s7 i8 (fun q hq => (n8 q hq).trans (g_nw_ne (by show q ≠ a + 15; omega)))
  have l8 : ∀ q, q < a → f8 q = f q := fun q hq => (n8 q (by omega)).trans ((g_nw_ne (by show q ≠ a + 15; omega)).trans ((g_up_ne (by omega)).trans (l7 q hq)))
  refine ⟨rfl, ⟨g_up_eq, fun j hj => s8 j (by omega), Or.inl ⟨rfl, rfl⟩, s8 6 (by omega), s8 7 (by omega)⟩, rfl, rfl, fun q hq => (g_up_ne (by omega)).trans (l8 q hq)⟩
theorem c_K_size {l : Launch} {h : g_H} {a p q : Nat} {ks : List o_Kr} {z : Int32} {os ss : List Int32} (hK : o_K h a ks p q z os ss) : g_Run l J_K_size [.ref a] h (fun oc hE => oc = .inl (some (.int (nI ks.length))) ∧ hE = h) := by
  refine go_K_size [] 20 ?_
  refine g_gt_i hK.1 rfl ?_
  refine g_cv_i (g_I_ty (hK.2.1 0 (by omega))) (c_I_size (hK.2.1 0 (by omega))) (fun oc h1 hp => ?_)
  obtain ⟨rfl, rfl⟩ := hp
  refine ⟨_, rfl, ?_⟩
  exact ⟨by simp, rfl⟩
theorem c_K_has {l : Launch} {h : g_H} {a p q : Nat} {ks : List o_Kr} {z k i : Int32} {os ss : List Int32} (hK : o_K h a ks p q z os ss) : g_Run l J_K_has [.ref a, .int k, .int i] h (fun oc hE => oc = .inl (some (.int (if (0 ≤ k ∧ k < nI ks.length) ∧ 0 ≤ i ∧ i < 6 then 1 else 0))) ∧ hE = h) := by
  refine go_K_has [] 20 ?_
  refine g_gt_i hK.1 rfl ?_
  refine g_cv_i (g_I_ty (hK.2.1 0 (by omega))) (c_I_has (hK.2.1 0 (by omega))) (fun oc h1 hp => ?_)
  obtain ⟨rfl, rfl⟩ := hp
  refine ⟨_, rfl, ?_⟩
  simp only [List.length_map]
  by_cases q1 : 0 ≤ k ∧ k < nI ks.length
  · rw [if_pos q1]
    refine g_br_f (by decide) ?_
    refine g_br_i (fun q2 => ?_) (fun q2 => ?_)
    · refine ⟨by decide, ?_, rfl⟩
      rw [if_neg (fun z => absurd z.2.1 (Int32.not_le.mpr q2))]
    · refine g_br_i (fun q3 => ?_) (fun q3 => ?_)
      · refine ⟨by decide, ?_, rfl⟩
        rw [if_neg (fun z => absurd z.2.2 (Int32.not_lt.mpr q3))]
      · refine ⟨by decide, ?_, rfl⟩
        rw [if_pos ⟨q1, Int32.not_lt.mp q2, Int32.not_le.mp q3⟩]
  · rw [if_neg q1]
    refine g_br_t (by decide) ?_
    refine ⟨by decide, ?_, rfl⟩
    rw [if_neg (fun z => q1 z.1)]
theorem c_K_at {l : Launch} {h : g_H} {a p q : Nat} {ks : List o_Kr} {z k : Int32} {i : Nat} {os ss : List Int32} (hi : i < 6) (hK : o_K h a ks p q z os ss) : g_Run l J_K_at [.ref a, .int k, .int (nI i)] h (fun oc hE => oc = .inl (some (.int (v_at (ks.map (k_col i)) k))) ∧ hE = h) := by
  refine go_K_at [] 20 ?_
  refine g_br_i (fun q => ?_) (fun q => ?_)
  · have q : i = 0 := (nI_eq (b := 0) (by omega) (by omega)).mp q
    subst q
    refine g_gt_i hK.1 rfl ?_
    refine g_cv_i (g_I_ty (hK.2.1 0 (by omega))) (c_I_at (hK.2.1 0 (by omega))) (fun oc h1 hp => ?_)
    obtain ⟨rfl, rfl⟩ := hp
    refine ⟨_, rfl, ?_⟩
    exact ⟨rfl, rfl⟩
  have q0 : ¬ i = 0 := fun z => q (by rw [z]; rfl)
  refine g_br_i (fun q => ?_) (fun q => ?_)
  · have q : i = 1 := (nI_eq (b := 1) (by omega) (by omega)).mp q
    subst q
    refine g_gt_i hK.1 rfl ?_
    refine g_cv_i (g_I_ty (hK.2.1 1 (by omega))) (c_I_at (hK.2.1 1 (by omega))) (fun oc h1 hp => ?_)
    obtain ⟨rfl, rfl⟩ := hp
    refine ⟨_, rfl, ?_⟩
    exact ⟨rfl, rfl⟩
  have q1 : ¬ i = 1 := fun z => q (by rw [z]; rfl)
  refine g_br_i (fun q => ?_) (fun q => ?_)
  · have q : i = 2 := (nI_eq (b := 2) (by omega) (by omega)).mp q
    subst q
    refine g_gt_i hK.1 rfl ?_
    refine g_cv_i (g_I_ty (hK.2.1 2 (by omega))) (c_I_at (hK.2.1 2 (by omega))) (fun oc h1 hp => ?_)
    obtain ⟨rfl, rfl⟩ := hp
    refine ⟨_, rfl, ?_⟩
    exact ⟨rfl, rfl⟩
  have q2 : ¬ i = 2 := fun z => q (by rw [z]; rfl)
  refine g_br_i (fun q => ?_) (fun q => ?_)
  · have q : i = 3 := (nI_eq (b := 3) (by omega) (by omega)).mp q
    subst q
    refine g_gt_i hK.1 rfl ?_
    refine g_cv_i (g_I_ty (hK.2.1 3 (by omega))) (c_I_at (hK.2.1 3 (by omega))) (fun oc h1 hp => ?_)
    obtain ⟨rfl, rfl⟩ := hp
    refine ⟨_, rfl, ?_⟩
    exact ⟨rfl, rfl⟩
  have q3 : ¬ i = 3 := fun z => q (by rw [z]; rfl)
  refine g_br_i (fun q => ?_) (fun q => ?_)
  · have q : i = 4 := (nI_eq (b := 4) (by omega) (by omega)).mp q
    subst q
    refine g_gt_i hK.1 rfl ?_
    refine g_cv_i (g_I_ty (hK.2.1 4 (by omega))) (c_I_at (hK.2.1 4 (by omega))) (fun oc h1 hp => ?_)
    obtain ⟨rfl, rfl⟩ := hp
    refine ⟨_, rfl, ?_⟩
    exact ⟨rfl, rfl⟩
  have q4 : ¬ i = 4 := fun z => q (by rw [z]; rfl)
  refine g_br_i (fun q => ?_) (fun q => ?_)
  · have q : i = 5 := (nI_eq (b := 5) (by omega) (by omega)).mp q
    subst q
    refine g_gt_i hK.1 rfl ?_
    refine g_cv_i (g_I_ty (hK.2.1 5 (by omega))) (c_I_at (hK.2.1 5 (by omega))) (fun oc h1 hp => ?_)
    obtain ⟨rfl, rfl⟩ := hp
    refine ⟨_, rfl, ?_⟩
    exact ⟨rfl, rfl⟩
  have q5 : ¬ i = 5 := fun z => q (by rw [z]; rfl)
  omega
theorem k_cell_up {h : g_H} {a p q : Nat} {ks : List o_Kr} {z : Int32} {os ss : List Int32} (hK : o_K h a ks p q z os ss) (p' q' : Nat) (z' : Int32) (os' ss' : List Int32) (hpq : k_pq a p' q') (ho : g_I h p' 2000 os') (hs : g_I h q' 2000 ss') : o_K (g_up h a (k_cell a p' q' z')) a ks p' q' z' os' ss' ∧ g_Fr a (a + 17) h (g_up h a (k_cell a p' q' z')) := by
  have f1 : g_Fr a (a + 1) h (g_up h a (k_cell a p' q' z')) := g_Fr_up (by omega) (by omega)
  have hpq' := hpq
  unfold k_pq at hpq'
  exact ⟨⟨g_up_eq, k_cs_Fr hK.2.1 f1 (by omega), hpq, g_I_Fr ho f1 (by omega), g_I_Fr hs f1 (by omega)⟩, g_Fr_wd f1 (by omega) (by omega)⟩
theorem c_K_clear {l : Launch} {h : g_H} {a p q : Nat} {ks : List o_Kr} {z : Int32} {os ss : List Int32} (hK : o_K h a ks p q z os ss) : g_Run l J_K_clear [.ref a] h (fun oc hE => oc = .inl none ∧ o_K hE a [] p q 0 os ss ∧ g_Fr a (a + 17) h hE) := by
  have hl := o_K_len hK
  have hpq := hK.2.2.1
  unfold k_pq at hpq
  have zz : ∀ (f : o_Kr → Int32), v_cut (ks.map f) 0 = [] := fun f => v_cut_0 (by simp; omega)
  have b0 := hK.1
  have c0 := hK.2.1
  refine go_K_clear [] 60 ?_
  refine g_gt_i b0 rfl ?_
  refine g_cv_i (g_I_ty (c0 0 (by omega))) (c_I_shorten (c0 0 (by omega))) (fun oc h1 hp => ?_)
  obtain ⟨rfl, i1, f1⟩ := hp
  refine ⟨_, rfl, ?_⟩
  have b1 := (f1.2 a (by omega)).trans b0
  have c1 := k_cs_up (i := 0) c0 i1 f1
  refine g_gt_i b1 rfl ?_
  refine g_cv_i (g_I_ty (c1 1 (by omega))) (c_I_shorten (c1 1 (by omega))) (fun oc h2 hp => ?_)
  obtain ⟨rfl, i2, f2⟩ := hp
  refine ⟨_, rfl, ?_⟩
  have b2 := (f2.2 a (by omega)).trans b1
  have c2 := k_cs_up (i := 1) c1 i2 f2
  refine g_gt_i b2 rfl ?_
  refine g_cv_i (g_I_ty (c2 2 (by omega))) (c_I_shorten (c2 2 (by omega))) (fun oc h3 hp => ?_)
  obtain ⟨rfl, i3, f3⟩ := hp
  refine ⟨_, rfl, ?_⟩
  have b3 := (f3.2 a (by omega)).trans b2
  have c3 := k_cs_up (i := 2) c2 i3 f3
  refine g_gt_i b3 rfl ?_
  refine g_cv_i (g_I_ty (c3 3 (by omega))) (c_I_shorten (c3 3 (by omega))) (fun oc h4 hp => ?_)
  obtain ⟨rfl, i4, f4⟩ := hp
  refine ⟨_, rfl, ?_⟩
  have b4 := (f4.2 a (by omega)).trans b3
  have c4 := k_cs_up (i := 3) c3 i4 f4
  refine g_gt_i b4 rfl ?_
  refine g_cv_i (g_I_ty (c4 4 (by omega))) (c_I_shorten (c4 4 (by omega))) (fun oc h5 hp => ?_)
  obtain ⟨rfl, i5, f5⟩ := hp
  refine ⟨_, rfl, ?_⟩
  have b5 := (f5.2 a (by omega)).trans b4
  have c5 := k_cs_up (i := 4) c4 i5 f5
  refine g_gt_i b5 rfl ?_
  refine g_cv_i (g_I_ty (c5 5 (by omega))) (c_I_shorten (c5 5 (by omega))) (fun oc h6 hp => ?_)
  obtain ⟨rfl, i6, f6⟩ := hp
  refine ⟨_, rfl, ?_⟩
  have b6 := (f6.2 a (by omega)).trans b5
  have c6 := k_cs_up (i := 5) c5 i6 f6
  have F : g_Fr (a + 1) (a + 13) h h6 := g_Fr_tr (g_Fr_wd f1 (lo' := a + 1) (hi' := a + 13) (by omega) (by omega)) (g_Fr_tr (g_Fr_wd f2 (lo' := a + 1) (hi' := a + 13) (by omega) (by omega)) (g_Fr_tr (g_Fr_wd f3 (lo' := a + 1) (hi' := a + 13) (by omega) (by omega)) (g_Fr_tr (g_Fr_wd f4 (lo' := a + 1) (hi' := a + 13) (by omega) (by omega)) (g_Fr_tr (g_Fr_wd f5 (lo' := a + 1) (hi' := a + 13) (by omega) (by omega)) (g_Fr_wd f6 (lo' := a + 1) (hi' := a + 13) (by omega) (by omega))))))
  refine g_pt_i b6 (Nat.le_of_ble_eq_true rfl) rfl rfl ?_
  have k6 : o_K h6 a [] p q z os ss := by
    refine ⟨b6, k_cs_eq c6 ?_ ?_ ?_ ?_ ?_ ?_, hK.2.2.1, g_I_Fr hK.2.2.2.1 F (by omega), g_I_Fr hK.2.2.2.2 F (by omega)⟩
    · exact zz _
    · exact zz _
    · exact zz _
    · exact zz _
    · exact zz _
    · exact zz _
  obtain ⟨k7, f7⟩ := k_cell_up k6 p q 0 os ss k6.2.2.1 k6.2.2.2.1 k6.2.2.2.2
  exact ⟨rfl, k7, g_Fr_tr (g_Fr_wd F (by omega) (by omega)) f7⟩
theorem c_K_add {l : Launch} {h : g_H} {a b p q i : Nat} {ks : List o_Kr} {z tm nr : Int32} {os ss : List Int32} {rs : List o_Rw} {r : o_Rw} {o t : Int32} (hK : o_K h a ks p q z os ss) (hB : o_B h b rs o t) (hab : a + 17 ≤ b ∨ b + 7 ≤ a) (hr : rs[i]? = some r) : g_Run l J_K_add [.ref a, .ref b, .int (nI i), .int tm, .int nr] h (fun oc hE => oc = .inl (some (.int (if ks.length < 2000 then 1 else 0))) ∧ o_K hE a (if ks.length < 2000 then ks ++ [(r.1, r.2.1, r.2.2, o, tm, nr)] else ks) p q z os ss ∧ g_Fr a (a + 17) h hE) := by
  have hl := o_K_len hK
  have hpq := hK.2.2.1
  unfold k_pq at hpq
  have hbl := o_B_len hB
  have ra : ∀ (f : o_Rw → Int32), v_at (rs.map f) (nI i) = f r := fun f => v_at_some (by simp; omega) (by rw [List.getElem?_map, hr]; rfl)
  have b0 := hK.1
  have c0 := hK.2.1
  have B0 := hB
  by_cases hq : ks.length < 2000
  · have zz : ∀ (f : o_Kr → Int32) (v : Int32), v_add 2000 (ks.map f) v = ks.map f ++ [v] := fun f v => v_add_lt (by simpa using hq)
    have e1 : ∀ (f : o_Kr → Int32), (if (ks.map f).length < 2000 then (1 : Int32) else 0) = 1 := fun f => by rw [if_pos (by simpa using hq)]
    refine go_K_add [] 60 ?_
    refine g_gt_i b0 rfl ?_
    refine g_cv_i (o_B_ty B0) (c_B_kind B0) (fun oc hx hp => ?_)
    obtain ⟨rfl, rfl⟩ := hp
    refine ⟨_, rfl, ?_⟩
    rw [ra]
    refine g_cv_i (g_I_ty (c0 0 (by omega))) (c_I_add (c0 0 (by omega))) (fun oc h1 hp => ?_)
    obtain ⟨rfl, i1, f1⟩ := hp
    refine ⟨_, rfl, ?_⟩
    refine g_br_f (show ¬ (if (ks.map (k_col 0)).length < 2000 then (1 : Int32) else 0) = 0 by rw [e1]; decide) ?_
    have b1 := (f1.2 a (by omega)).trans b0
    have c1 := k_cs_up (i := 0) c0 i1 f1
    have B1 := o_B_Fr B0 f1 (by omega)
    refine g_gt_i b1 rfl ?_
    refine g_cv_i (o_B_ty B1) (c_B_a B1) (fun oc hx hp => ?_)
    obtain ⟨rfl, rfl⟩ := hp
    refine ⟨_, rfl, ?_⟩
    rw [ra]
    refine g_cv_i (g_I_ty (c1 1 (by omega))) (c_I_add (c1 1 (by omega))) (fun oc h2 hp => ?_)
    obtain ⟨rfl, i2, f2⟩ := hp
    refine ⟨_, rfl, ?_⟩
    refine g_br_f (show ¬ (if (ks.map (k_col 1)).length < 2000 then (1 : Int32) else 0) = 0 by rw [e1]; decide) ?_
    have b2 := (f2.2 a (by omega)).trans b1
    have c2 := k_cs_up (i := 1) c1 i2 f2
    have B2 := o_B_Fr B1 f2 (by omega)
    refine g_gt_i b2 rfl ?_
    refine g_cv_i (o_B_ty B2) (c_B_b B2) (fun oc hx hp => ?_)
    obtain ⟨rfl, rfl⟩ := hp
    refine ⟨_, rfl, ?_⟩
    rw [ra]
    refine g_cv_i (g_I_ty (c2 2 (by omega))) (c_I_add (c2 2 (by omega))) (fun oc h3 hp => ?_)
    obtain ⟨rfl, i3, f3⟩ := hp
    refine ⟨_, rfl, ?_⟩
    refine g_br_f (show ¬ (if (ks.map (k_col 2)).length < 2000 then (1 : Int32) else 0) = 0 by rw [e1]; decide) ?_
    have b3 := (f3.2 a (by omega)).trans b2
    have c3 := k_cs_up (i := 2) c2 i3 f3
    have B3 := o_B_Fr B2 f3 (by omega)
    refine g_gt_i b3 rfl ?_
    refine g_cv_i (o_B_ty B3) (c_B_owner B3) (fun oc hx hp => ?_)
    obtain ⟨rfl, rfl⟩ := hp
    refine ⟨_, rfl, ?_⟩
    refine g_cv_i (g_I_ty (c3 3 (by omega))) (c_I_add (c3 3 (by omega))) (fun oc h4 hp => ?_)
    obtain ⟨rfl, i4, f4⟩ := hp
    refine ⟨_, rfl, ?_⟩
    refine g_br_f (show ¬ (if (ks.map (k_col 3)).length < 2000 then (1 : Int32) else 0) = 0 by rw [e1]; decide) ?_
    have b4 := (f4.2 a (by omega)).trans b3
    have c4 := k_cs_up (i := 3) c3 i4 f4
    have B4 := o_B_Fr B3 f4 (by omega)
    refine g_gt_i b4 rfl ?_
    refine g_cv_i (g_I_ty (c4 4 (by omega))) (c_I_add (c4 4 (by omega))) (fun oc h5 hp => ?_)
    obtain ⟨rfl, i5, f5⟩ := hp
    refine ⟨_, rfl, ?_⟩
    refine g_br_f (show ¬ (if (ks.map (k_col 4)).length < 2000 then (1 : Int32) else 0) = 0 by rw [e1]; decide) ?_
    have b5 := (f5.2 a (by omega)).trans b4
    have c5 := k_cs_up (i := 4) c4 i5 f5
    have B5 := o_B_Fr B4 f5 (by omega)
    refine g_gt_i b5 rfl ?_
    refine g_cv_i (g_I_ty (c5 5 (by omega))) (c_I_add (c5 5 (by omega))) (fun oc h6 hp => ?_)
    obtain ⟨rfl, i6, f6⟩ := hp
    refine ⟨_, rfl, ?_⟩
    refine g_br_f (show ¬ (if (ks.map (k_col 5)).length < 2000 then (1 : Int32) else 0) = 0 by rw [e1]; decide) ?_
    have b6 := (f6.2 a (by omega)).trans b5
    have c6 := k_cs_up (i := 5) c5 i6 f6
    have F : g_Fr (a + 1) (a + 13) _ h6 := g_Fr_tr (g_Fr_wd f1 (lo' := a + 1) (hi' := a + 13) (by omega) (by omega)) (g_Fr_tr (g_Fr_wd f2 (lo' := a + 1) (hi' := a + 13) (by omega) (by omega)) (g_Fr_tr (g_Fr_wd f3 (lo' := a + 1) (hi' := a + 13) (by omega) (by omega)) (g_Fr_tr (g_Fr_wd f4 (lo' := a + 1) (hi' := a + 13) (by omega) (by omega)) (g_Fr_tr (g_Fr_wd f5 (lo' := a + 1) (hi' := a + 13) (by omega) (by omega)) (g_Fr_wd f6 (lo' := a + 1) (hi' := a + 13) (by omega) (by omega))))))
    rw [if_pos hq, if_pos hq]
    refine ⟨by decide, rfl, ⟨b6, k_cs_eq c6 ?_ ?_ ?_ ?_ ?_ ?_, hK.2.2.1, g_I_Fr hK.2.2.2.1 F (by omega), g_I_Fr hK.2.2.2.2 F (by omega)⟩, g_Fr_wd F (by omega) (by omega)⟩
    · exact (zz _ _).trans (by simp [k_col])
    · exact (zz _ _).trans (by simp [k_col])
    · exact (zz _ _).trans (by simp [k_col])
    · exact (zz _ _).trans (by simp [k_col])
    · exact (zz _ _).trans (by simp [k_col])
    · exact (zz _ _).trans (by simp [k_col])
  · have e1 : (if (ks.map (k_col 0)).length < 2000 then (1 : Int32) else 0) = 0 := by rw [if_neg (by simpa using hq)]
    refine go_K_add [] 60 ?_
    refine g_gt_i b0 rfl ?_
    refine g_cv_i (o_B_ty B0) (c_B_kind B0) (fun oc hx hp => ?_)
    obtain ⟨rfl, rfl⟩ := hp
    refine ⟨_, rfl, ?_⟩
    refine g_cv_i (g_I_ty (c0 0 (by omega))) (c_I_add (c0 0 (by omega))) (fun oc h1 hp => ?_)
    obtain ⟨rfl, i1, f1⟩ := hp
    refine ⟨_, rfl, ?_⟩
    refine g_br_t e1 ?_
    rw [v_add_ge (by simp; omega)] at i1
    rw [if_neg hq, if_neg hq]
    refine ⟨by decide, rfl, ⟨(f1.2 a (by omega)).trans b0, k_cs_eq (k_cs_up (i := 0) c0 i1 f1) rfl rfl rfl rfl rfl rfl, hK.2.2.1, g_I_Fr hK.2.2.2.1 f1 (by omega), g_I_Fr hK.2.2.2.2 f1 (by omega)⟩, g_Fr_wd f1 (by omega) (by omega)⟩
