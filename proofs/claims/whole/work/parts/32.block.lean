/-! Block's methods -/
theorem v_cut_0 {xs : List Int32} (h : xs.length < 2 ^ 31) : v_cut xs 0 = [] := by
  unfold v_cut
  by_cases hx : xs = []
  · subst hx
    split <;> simp
  · have : 0 < xs.length := List.length_pos_iff.mpr hx
    rw [if_pos ⟨by decide, by rw [← nI_0]; exact nI_lt this h⟩]
    have e : (0 : Int32).toNatClampNeg = 0 := by decide
    rw [e]
    simp
theorem c_B_size {l : Launch} {h : g_H} {a : Nat} {rs : List o_Rw} {o t : Int32} (hB : o_B h a rs o t) : g_Run l J_B_size [.ref a] h (fun oc hE => oc = .inl (some (.int (nI rs.length))) ∧ hE = h) := by
  refine go_B_size [] 20 ?_
  refine g_gt_i hB.1 rfl ?_
  refine g_cv_i (g_I_ty hB.2.1) (c_I_size hB.2.1) (fun oc h1 hp => ?_)
  obtain ⟨rfl, rfl⟩ := hp
  refine ⟨_, rfl, ?_⟩
  exact ⟨by simp, rfl⟩
theorem c_B_owner {l : Launch} {h : g_H} {a : Nat} {rs : List o_Rw} {o t : Int32} (hB : o_B h a rs o t) : g_Run l J_B_owner [.ref a] h (fun oc hE => oc = .inl (some (.int o)) ∧ hE = h) := by
  refine go_B_owner [] 20 ?_
  refine g_gt_i hB.1 rfl ?_
  exact ⟨rfl, rfl⟩
theorem c_B_time {l : Launch} {h : g_H} {a : Nat} {rs : List o_Rw} {o t : Int32} (hB : o_B h a rs o t) : g_Run l J_B_time [.ref a] h (fun oc hE => oc = .inl (some (.int t)) ∧ hE = h) := by
  refine go_B_time [] 20 ?_
  refine g_gt_i hB.1 rfl ?_
  exact ⟨rfl, rfl⟩
theorem c_B_kind {l : Launch} {h : g_H} {a : Nat} {rs : List o_Rw} {o t i : Int32} (hB : o_B h a rs o t) : g_Run l J_B_kind [.ref a, .int i] h (fun oc hE => oc = .inl (some (.int (v_at (rs.map (·.1)) i))) ∧ hE = h) := by
  refine go_B_kind [] 20 ?_
  refine g_gt_i hB.1 rfl ?_
  refine g_cv_i (g_I_ty hB.2.1) (c_I_at hB.2.1) (fun oc h1 hp => ?_)
  obtain ⟨rfl, rfl⟩ := hp
  refine ⟨_, rfl, ?_⟩
  exact ⟨rfl, rfl⟩
theorem c_B_a {l : Launch} {h : g_H} {a : Nat} {rs : List o_Rw} {o t i : Int32} (hB : o_B h a rs o t) : g_Run l J_B_a [.ref a, .int i] h (fun oc hE => oc = .inl (some (.int (v_at (rs.map (·.2.1)) i))) ∧ hE = h) := by
  refine go_B_a [] 20 ?_
  refine g_gt_i hB.1 rfl ?_
  refine g_cv_i (g_I_ty hB.2.2.1) (c_I_at hB.2.2.1) (fun oc h1 hp => ?_)
  obtain ⟨rfl, rfl⟩ := hp
  refine ⟨_, rfl, ?_⟩
  exact ⟨rfl, rfl⟩
theorem c_B_b {l : Launch} {h : g_H} {a : Nat} {rs : List o_Rw} {o t i : Int32} (hB : o_B h a rs o t) : g_Run l J_B_b [.ref a, .int i] h (fun oc hE => oc = .inl (some (.int (v_at (rs.map (·.2.2)) i))) ∧ hE = h) := by
  refine go_B_b [] 20 ?_
  refine g_gt_i hB.1 rfl ?_
  refine g_cv_i (g_I_ty hB.2.2.2) (c_I_at hB.2.2.2) (fun oc h1 hp => ?_)
  obtain ⟨rfl, rfl⟩ := hp
  refine ⟨_, rfl, ?_⟩
  exact ⟨rfl, rfl⟩
theorem c_B_clear {l : Launch} {h : g_H} {a : Nat} {rs : List o_Rw} {o t : Int32} (hB : o_B h a rs o t) : g_Run l J_B_clear [.ref a] h (fun oc hE => oc = .inl none ∧ o_B hE a [] o t ∧ g_Fr a (a + 7) h hE) := by
  have hl := o_B_len hB
  have z : ∀ (f : o_Rw → Int32), v_cut (rs.map f) 0 = [] := fun f => v_cut_0 (by simp; omega)
  refine go_B_clear [] 30 ?_
  refine g_gt_i hB.1 rfl ?_
  refine g_cv_i (g_I_ty hB.2.1) (c_I_shorten hB.2.1) (fun oc h1 hp => ?_)
  obtain ⟨rfl, i1, f1⟩ := hp
  rw [z] at i1
  refine ⟨_, rfl, ?_⟩
  have b1 := (f1.2 a (by omega)).trans hB.1
  have j1 := g_I_Fr hB.2.2.1 f1 (by omega)
  refine g_gt_i b1 rfl ?_
  refine g_cv_i (g_I_ty j1) (c_I_shorten j1) (fun oc h2 hp => ?_)
  obtain ⟨rfl, i2, f2⟩ := hp
  rw [z] at i2
  refine ⟨_, rfl, ?_⟩
  have b2 := (f2.2 a (by omega)).trans b1
  have j2 := g_I_Fr (g_I_Fr hB.2.2.2 f1 (by omega)) f2 (by omega)
  refine g_gt_i b2 rfl ?_
  refine g_cv_i (g_I_ty j2) (c_I_shorten j2) (fun oc h3 hp => ?_)
  obtain ⟨rfl, i3, f3⟩ := hp
  rw [z] at i3
  refine ⟨_, rfl, ?_⟩
  exact ⟨rfl, ⟨(f3.2 a (by omega)).trans b2, g_I_Fr (g_I_Fr i1 f2 (by omega)) f3 (by omega), g_I_Fr i2 f3 (by omega), i3⟩, g_Fr_tr (g_Fr_wd f1 (by omega) (by omega)) (g_Fr_tr (g_Fr_wd f2 (by omega) (by omega)) (g_Fr_wd f3 (by omega) (by omega)))⟩
theorem o_B_ty {h : g_H} {a : Nat} {rs : List o_Rw} {o t : Int32} (hB : o_B h a rs o t) : h.1 a = some (.inr (2, [.ref (a + 1), .ref (a + 3), .ref (a + 5), .int o, .int t])) := hB.1
theorem c_B_begin {l : Launch} {h : g_H} {a : Nat} {rs : List o_Rw} {o t x y : Int32} (hB : o_B h a rs o t) : g_Run l J_B_begin [.ref a, .int x, .int y] h (fun oc hE => oc = .inl none ∧ o_B hE a [] x y ∧ g_Fr a (a + 7) h hE) := by
  refine go_B_begin [] 30 ?_
  refine g_cv_i (o_B_ty hB) (c_B_clear hB) (fun oc h1 hp => ?_)
  obtain ⟨rfl, b1, f1⟩ := hp
  refine ⟨_, rfl, ?_⟩
  refine g_pt_i b1.1 (Nat.le_of_ble_eq_true rfl) rfl rfl ?_
  refine g_pt_i g_up_eq (Nat.le_of_ble_eq_true rfl) rfl rfl ?_
  have f2 : g_Fr a (a + 1) h1 (g_up (g_up h1 a (.inr (2, [.ref (a + 1), .ref (a + 3), .ref (a + 5), .int x, .int t]))) a (.inr (2, [.ref (a + 1), .ref (a + 3), .ref (a + 5), .int x, .int y]))) := g_Fr_tr (g_Fr_up (by omega) (by omega)) (g_Fr_up (by omega) (by omega))
  exact ⟨rfl, ⟨g_up_eq, g_I_Fr b1.2.1 f2 (by omega), g_I_Fr b1.2.2.1 f2 (by omega), g_I_Fr b1.2.2.2 f2 (by omega)⟩, g_Fr_tr f1 (g_Fr_wd f2 (by omega) (by omega))⟩
theorem c_B_isClosedBy {l : Launch} {h : g_H} {a : Nat} {rs : List o_Rw} {o t x : Int32} (hB : o_B h a rs o t) : g_Run l J_B_isClosedBy [.ref a, .int x] h (fun oc hE => oc = .inl (some (.int (if 0 < rs.length ∧ (x ≠ o ∨ rs.length = 100) then 1 else 0))) ∧ hE = h) := by
  have hl := o_B_len hB
  refine go_B_isClosedBy [] 30 ?_
  refine g_cv_i (o_B_ty hB) (c_B_size hB) (fun oc h1 hp => ?_)
  obtain ⟨rfl, rfl⟩ := hp
  refine ⟨_, rfl, ?_⟩
  refine g_br_i (fun q => ?_) (fun q => ?_)
  · have q : rs.length = 0 := by
      have q : nI rs.length ≤ 0 := q
      rw [← nI_0, nI_leI (by omega) (by omega)] at q
      omega
    refine ⟨by decide, ?_, rfl⟩
    rw [if_neg (by omega)]
  · have q : 0 < rs.length := Nat.pos_of_ne_zero fun z => q (by rw [z]; decide)
    refine g_gt_i hB.1 rfl ?_
    refine g_br_i (fun q2 => ?_) (fun q2 => ?_)
    · refine ⟨by decide, ?_, rfl⟩
      rw [if_pos ⟨q, Or.inl q2⟩]
    · refine g_cv_i (o_B_ty hB) (c_B_size hB) (fun oc h1 hp => ?_)
      obtain ⟨rfl, rfl⟩ := hp
      refine ⟨_, rfl, ?_⟩
      refine g_br_i (fun q3 => ?_) (fun q3 => ?_)
      · refine ⟨by decide, ?_, rfl⟩
        rw [if_neg]
        rintro ⟨-, z | z⟩
        · exact q2 z
        · exact q3 (by rw [z]; rfl)
      · have q3 : rs.length = 100 := by
          have q3 : nI rs.length = nI 100 := Classical.not_not.mp q3
          exact (nI_eq (by omega) (by omega)).mp q3
        refine ⟨by decide, ?_, rfl⟩
        rw [if_pos ⟨q, Or.inr q3⟩]
