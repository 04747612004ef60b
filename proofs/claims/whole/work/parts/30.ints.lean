/-! Ints at a: its array at a + 1; frames by intervals of addresses -/
def g_Fr (lo hi : Nat) (h h1 : g_H) : Prop := h1.2 = h.2 ∧ ∀ q : Nat, (q < lo ∨ hi ≤ q) → h1.1 q = h.1 q
theorem g_Fr_rf (lo hi : Nat) (h : g_H) : g_Fr lo hi h h := ⟨rfl, fun _ _ => rfl⟩
theorem g_Fr_tr {lo hi : Nat} {h h1 h2 : g_H} (a : g_Fr lo hi h h1) (b : g_Fr lo hi h1 h2) : g_Fr lo hi h h2 := ⟨b.1.trans a.1, fun q z => (b.2 q z).trans (a.2 q z)⟩
theorem g_Fr_wd {lo hi lo' hi' : Nat} {h h1 : g_H} (a : g_Fr lo hi h h1) (b : lo' ≤ lo) (c : hi ≤ hi') : g_Fr lo' hi' h h1 := ⟨a.1, fun q z => a.2 q (by omega)⟩
theorem g_Fr_up {lo hi : Nat} {h : g_H} {a : Nat} {x : g_E} (b : lo ≤ a) (c : a < hi) : g_Fr lo hi h (g_up h a x) := ⟨rfl, fun q z => by
  simp only [g_up]
  rw [if_neg (by omega)]⟩
theorem g_up_eq {h : g_H} {a : Nat} {x : g_E} : (g_up h a x).1 a = some x := by simp [g_up]
theorem g_up_ne {h : g_H} {a b : Nat} {x : g_E} (hb : b ≠ a) : (g_up h a x).1 b = h.1 b := by simp [g_up, hb]
def g_I (h : g_H) (a cap : Nat) (xs : List Int32) : Prop := ∃ ys : List Int32, h.1 a = some (.inr (0, [.ref (a + 1), .int (nI xs.length)])) ∧ h.1 (a + 1) = some (.inl (.inl ys)) ∧ ys.length = cap ∧ xs.length ≤ cap ∧ cap < 2 ^ 31 ∧ ys.take xs.length = xs
theorem g_I_fr {h h1 : g_H} {a cap : Nat} {xs : List Int32} (hI : g_I h a cap xs) (e0 : h1.1 a = h.1 a) (e1 : h1.1 (a + 1) = h.1 (a + 1)) : g_I h1 a cap xs := by
  obtain ⟨ys, h1, h2, h3⟩ := hI
  exact ⟨ys, e0.trans h1, e1.trans h2, h3⟩
theorem g_I_Fr {h h1 : g_H} {a cap lo hi : Nat} {xs : List Int32} (hI : g_I h a cap xs) (hf : g_Fr lo hi h h1) (hd : a + 2 ≤ lo ∨ hi ≤ a) : g_I h1 a cap xs := g_I_fr hI (hf.2 a (by omega)) (hf.2 (a + 1) (by omega))
theorem g_I_len {h : g_H} {a cap : Nat} {xs : List Int32} (hI : g_I h a cap xs) : xs.length ≤ cap ∧ cap < 2 ^ 31 := by
  obtain ⟨ys, -, -, -, h4, h5, -⟩ := hI
  exact ⟨h4, h5⟩
theorem g_I_ty {h : g_H} {a cap : Nat} {xs : List Int32} (hI : g_I h a cap xs) : h.1 a = some (.inr (0, [.ref (a + 1), .int (nI xs.length)])) := by
  obtain ⟨ys, h1, -⟩ := hI
  exact h1
abbrev v_in (xs : List Int32) (i : Int32) : Prop := 0 ≤ i ∧ i < nI xs.length
theorem v_in_of {xs : List Int32} {i : Int32} (hl : xs.length < 2 ^ 31) (h : v_in xs i) : ∃ k : Nat, k < xs.length ∧ i = nI k := by
  obtain ⟨j, hj, rfl⟩ := nI_of (x := i) (Int32.not_lt.mpr h.1)
  exact ⟨j, (nI_ltI hj hl).mp h.2, rfl⟩
theorem v_in_nI {xs : List Int32} {k : Nat} (hl : xs.length < 2 ^ 31) (h : k < xs.length) : v_in xs (nI k) := ⟨nI_pos' (by omega), nI_lt h hl⟩
theorem v_not_in {xs : List Int32} {k : Nat} (hk : k < 2 ^ 31) (hl : xs.length < 2 ^ 31) (h : xs.length ≤ k) : ¬ v_in xs (nI k) := fun z => by
  have := (nI_ltI hk hl).mp z.2
  omega
def v_at (xs : List Int32) (i : Int32) : Int32 := if 0 ≤ i ∧ i < nI xs.length then xs.getD i.toNatClampNeg 0 else -1
theorem v_at_nI {xs : List Int32} {k : Nat} (hl : xs.length < 2 ^ 31) (h : k < xs.length) : v_at xs (nI k) = xs.getD k 0 := by
  unfold v_at
  rw [if_pos (v_in_nI hl h), nI_clamp (by omega)]
theorem v_at_out {xs : List Int32} {i : Int32} (h : ¬ v_in xs i) : v_at xs i = -1 := by
  unfold v_at
  rw [if_neg h]
def v_set (xs : List Int32) (i v : Int32) : List Int32 := if 0 ≤ i ∧ i < nI xs.length then xs.set i.toNatClampNeg v else xs
def v_add (cap : Nat) (xs : List Int32) (v : Int32) : List Int32 := (xs ++ [v]).take cap
theorem v_add_lt {cap : Nat} {xs : List Int32} {v : Int32} (h : xs.length < cap) : v_add cap xs v = xs ++ [v] := by
  unfold v_add
  exact List.take_of_length_le (by simp; omega)
theorem v_add_ge {cap : Nat} {xs : List Int32} {v : Int32} (h : xs.length = cap) : v_add cap xs v = xs := by
  unfold v_add
  rw [List.take_append_of_le_length (by omega)]
  exact List.take_of_length_le (by omega)
def v_cut (xs : List Int32) (n : Int32) : List Int32 := if 0 ≤ n ∧ n < nI xs.length then xs.take n.toNatClampNeg else xs
theorem c_I_size {l : Launch} {h : g_H} {a cap : Nat} {xs : List Int32} (hI : g_I h a cap xs) : g_Run l J_I_size [.ref a] h (fun o hE => o = .inl (some (.int (nI xs.length))) ∧ hE = h) := by
  obtain ⟨ys, h1, h2, h3, h4, h5, h6⟩ := hI
  refine go_I_size [] 20 ?_
  refine g_gt_i h1 rfl ?_
  exact ⟨rfl, rfl⟩
theorem c_I_has {l : Launch} {h : g_H} {a cap : Nat} {xs : List Int32} {i : Int32} (hI : g_I h a cap xs) : g_Run l J_I_has [.ref a, .int i] h (fun o hE => o = .inl (some (.int (if 0 ≤ i ∧ i < nI xs.length then 1 else 0))) ∧ hE = h) := by
  obtain ⟨ys, h1, h2, h3, h4, h5, h6⟩ := hI
  refine go_I_has [] 20 ?_
  refine g_br_i (fun q => ?_) (fun q => ?_)
  · refine ⟨by decide, ?_, rfl⟩
    rw [if_neg (fun z => absurd z.1 (Int32.not_le.mpr q))]
  · refine g_gt_i h1 rfl ?_
    refine g_br_i (fun q2 => ?_) (fun q2 => ?_)
    · refine ⟨by decide, ?_, rfl⟩
      rw [if_neg (fun z => absurd z.2 (Int32.not_lt.mpr q2))]
    · refine ⟨by decide, ?_, rfl⟩
      rw [if_pos ⟨Int32.not_lt.mp q, Int32.not_le.mp q2⟩]
theorem v_in_cap {xs ys : List Int32} {cap : Nat} {i : Int32} (h3 : ys.length = cap) (h4 : xs.length ≤ cap) (h5 : cap < 2 ^ 31) (h : v_in xs i) : vp_in i ys.length := by
  obtain ⟨k, hk, rfl⟩ := v_in_of (by omega) h
  exact vp_in_nI (by omega) (by omega)
theorem v_take_get {xs ys : List Int32} {k : Nat} (h6 : ys.take xs.length = xs) (hk : k < xs.length) : ys.getD k 0 = xs.getD k 0 := by
  have : xs[k]? = ys[k]? := by
    rw [← h6, List.getElem?_take, if_pos (by simpa using hk)]
  simp [List.getD_eq_getElem?_getD, this]
theorem c_I_at {l : Launch} {h : g_H} {a cap : Nat} {xs : List Int32} {i : Int32} (hI : g_I h a cap xs) : g_Run l J_I_at [.ref a, .int i] h (fun o hE => o = .inl (some (.int (v_at xs i))) ∧ hE = h) := by
  obtain ⟨ys, h1, h2, h3, h4, h5, h6⟩ := hI
  refine go_I_at [] 20 ?_
  refine g_br_i (fun q => ?_) (fun q => ?_)
  · refine ⟨?_, rfl⟩
    rw [v_at_out (fun z => absurd z.1 (Int32.not_le.mpr q))]
  · refine g_gt_i h1 rfl ?_
    refine g_br_i (fun q2 => ?_) (fun q2 => ?_)
    · refine ⟨?_, rfl⟩
      rw [v_at_out (fun z => absurd z.2 (Int32.not_lt.mpr q2))]
    · have hin : v_in xs i := ⟨Int32.not_lt.mp q, Int32.not_le.mp q2⟩
      refine g_gt_i h1 rfl ?_
      refine g_al_i h2 (v_in_cap h3 h4 h5 hin) ?_
      refine ⟨?_, rfl⟩
      obtain ⟨k, hk, rfl⟩ := v_in_of (by omega) hin
      rw [v_at_nI (by omega) hk, nI_clamp (by omega), v_take_get h6 hk]
theorem c_I_set {l : Launch} {h : g_H} {a cap : Nat} {xs : List Int32} {i v : Int32} (hI : g_I h a cap xs) : g_Run l J_I_set [.ref a, .int i, .int v] h (fun o hE => o = .inl none ∧ g_I hE a cap (v_set xs i v) ∧ g_Fr a (a + 2) h hE) := by
  obtain ⟨ys, h1, h2, h3, h4, h5, h6⟩ := hI
  refine go_I_set [] 20 ?_
  refine g_br_i (fun q => ?_) (fun q => ?_)
  · refine ⟨rfl, ?_, g_Fr_rf _ _ _⟩
    rw [show v_set xs i v = xs by unfold v_set; rw [if_neg (fun z => absurd z.1 (Int32.not_le.mpr q))]]
    exact ⟨ys, h1, h2, h3, h4, h5, h6⟩
  · refine g_gt_i h1 rfl ?_
    refine g_br_i (fun q2 => ?_) (fun q2 => ?_)
    · refine ⟨rfl, ?_, g_Fr_rf _ _ _⟩
      rw [show v_set xs i v = xs by unfold v_set; rw [if_neg (fun z => absurd z.2 (Int32.not_lt.mpr q2))]]
      exact ⟨ys, h1, h2, h3, h4, h5, h6⟩
    · have hin : v_in xs i := ⟨Int32.not_lt.mp q, Int32.not_le.mp q2⟩
      refine g_gt_i h1 rfl ?_
      refine g_as_i h2 (v_in_cap h3 h4 h5 hin) ?_
      refine ⟨rfl, ?_, g_Fr_up (by omega) (by omega)⟩
      rw [show v_set xs i v = xs.set i.toNatClampNeg v by unfold v_set; rw [if_pos hin]]
      refine ⟨ys.set i.toNatClampNeg v, ?_, g_up_eq, by rw [List.length_set]; exact h3, by rw [List.length_set]; exact h4, h5, ?_⟩
      · rw [g_up_ne (by omega), h1, List.length_set]
      · rw [List.length_set, List.take_set, h6]
theorem v_add_len {cap : Nat} {xs : List Int32} {v : Int32} (h : xs.length < cap) : (v_add cap xs v).length = xs.length + 1 := by
  rw [v_add_lt h]
  simp
theorem c_I_add {l : Launch} {h : g_H} {a cap : Nat} {xs : List Int32} {v : Int32} (hI : g_I h a cap xs) : g_Run l J_I_add [.ref a, .int v] h (fun o hE => o = .inl (some (.int (if xs.length < cap then 1 else 0))) ∧ g_I hE a cap (v_add cap xs v) ∧ g_Fr a (a + 2) h hE) := by
  obtain ⟨ys, h1, h2, h3, h4, h5, h6⟩ := hI
  refine go_I_add [] 40 ?_
  refine g_gt_i h1 rfl ?_
  refine g_gt_i h1 rfl ?_
  refine ⟨ys, h2, ?_⟩
  refine g_br_i (fun q => ?_) (fun q => ?_)
  · have q : xs.length < cap := by
      rw [h3] at q
      exact (nI_ltI (by omega) h5).mp q
    refine g_gt_i h1 rfl ?_
    refine g_gt_i h1 rfl ?_
    refine g_as_i h2 (vp_in_nI (by omega) (by omega)) ?_
    refine g_gt_i (by rw [g_up_ne (by omega)]; exact h1) rfl ?_
    refine g_pt_i (by rw [g_up_ne (by omega)]; exact h1) (Nat.le_of_ble_eq_true rfl) rfl rfl ?_
    refine ⟨by decide, by rw [if_pos q], ?_, g_Fr_tr (g_Fr_up (by omega) (by omega)) (g_Fr_up (by omega) (by omega))⟩
    refine ⟨ys.set xs.length v, ?_, ?_, by rw [List.length_set]; exact h3, by rw [v_add_len q]; omega, h5, ?_⟩
    · rw [g_up_eq, v_add_len q, ← nI_1]
      rfl
    · rw [g_up_ne (by omega), g_up_eq, nI_clamp (by omega)]
    · rw [v_add_len q, v_add_lt q]
      apply List.ext_getElem?
      intro i
      have e6 : ∀ j : Nat, xs[j]? = if j < xs.length then ys[j]? else none := fun j => by
        conv => lhs; rw [← h6]
        rw [List.getElem?_take]
      rcases Nat.lt_trichotomy i xs.length with c | c | c
      · rw [List.getElem?_take, if_pos (by omega), List.getElem?_set_ne (by omega), List.getElem?_append_left c, e6 i, if_pos c]
      · subst c
        rw [List.getElem?_take, if_pos (by omega), List.getElem?_set_self (by omega), List.getElem?_append_right (by omega)]
        simp
      · rw [List.getElem?_take, if_neg (by omega), List.getElem?_append_right (by omega), List.getElem?_eq_none (by simp; omega)]
  · have q : ¬ xs.length < cap := fun z => by
      rw [h3] at q
      exact q ((nI_ltI (by omega) h5).mpr z)
    refine ⟨by decide, by rw [if_neg q], ?_, g_Fr_rf _ _ _⟩
    rw [v_add_ge (by omega)]
    exact ⟨ys, h1, h2, h3, h4, h5, h6⟩
theorem c_I_shorten {l : Launch} {h : g_H} {a cap : Nat} {xs : List Int32} {n : Int32} (hI : g_I h a cap xs) : g_Run l J_I_shorten [.ref a, .int n] h (fun o hE => o = .inl none ∧ g_I hE a cap (v_cut xs n) ∧ g_Fr a (a + 2) h hE) := by
  obtain ⟨ys, h1, h2, h3, h4, h5, h6⟩ := hI
  refine go_I_shorten [] 20 ?_
  refine g_br_i (fun q => ?_) (fun q => ?_)
  · refine ⟨rfl, ?_, g_Fr_rf _ _ _⟩
    rw [show v_cut xs n = xs by unfold v_cut; rw [if_neg (fun z => absurd z.1 (Int32.not_le.mpr q))]]
    exact ⟨ys, h1, h2, h3, h4, h5, h6⟩
  · refine g_gt_i h1 rfl ?_
    refine g_br_i (fun q2 => ?_) (fun q2 => ?_)
    · refine ⟨rfl, ?_, g_Fr_rf _ _ _⟩
      rw [show v_cut xs n = xs by unfold v_cut; rw [if_neg (fun z => absurd z.2 (Int32.not_lt.mpr q2))]]
      exact ⟨ys, h1, h2, h3, h4, h5, h6⟩
    · have hin : v_in xs n := ⟨Int32.not_lt.mp q, Int32.not_le.mp q2⟩
      refine g_pt_i h1 (Nat.le_of_ble_eq_true rfl) rfl rfl ?_
      refine ⟨rfl, ?_, g_Fr_up (by omega) (by omega)⟩
      obtain ⟨k, hk, rfl⟩ := v_in_of (by omega) hin
      rw [show v_cut xs (nI k) = xs.take k by unfold v_cut; rw [if_pos hin, nI_clamp (by omega)]]
      have e : (xs.take k).length = k := by rw [List.length_take]; omega
      refine ⟨ys, ?_, ?_, h3, by omega, h5, ?_⟩
      · rw [g_up_eq, e]
        rfl
      · rw [g_up_ne (by omega)]
        exact h2
      · rw [e, ← h6, List.take_take]
        congr 1
        omega
