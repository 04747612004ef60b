/-! TracePacks: cut, choose, count, read, kept, merged -/
def q_cut (S : q_S) (n : Int32) : q_A := if 0 ≤ n ∧ n ≤ nI S.1.length then (.inl (nI S.1.length - n), (v_cut S.1 n, S.2)) else (.inr z_X2, S)
theorem c_T_cut {l : Launch} {h : g_H} {a : Nat} {S : q_S} {n : Int32} (hl : l.stackTraces = false) (hT : o_T h a S) : g_Run l J_T_cut [.ref a, .int n] h (q_P a h (q_cut S n)) := by
  unfold q_cut
  have tF : ∀ (L : g_L), ¬ (0 ≤ n ∧ n ≤ nI S.1.length) → g_X l J_T_cut 15 L [] h (q_P a h (if 0 ≤ n ∧ n ≤ nI S.1.length then (.inl (nI S.1.length - n), (v_cut S.1 n, S.2)) else (.inr z_X2, S))) := fun L hn => by
    rw [if_neg hn]
    refine g_go ok_T_cut [] 20 ?_
    exact ⟨hl, q_P_t hT (g_Fr_rf _ _ _)⟩
  refine go_T_cut [15] 60 ?_
  refine g_br_i (fun q2 => ?_) (fun q2 => ?_)
  · exact tF _ (fun z => absurd z.1 (Int32.not_le.mpr q2))
  · refine g_gt_i hT.1 rfl ?_
    refine g_cv_i (g_I_ty hT.2.1) (c_I_size hT.2.1) (fun oc h1 hp => ?_)
    obtain ⟨rfl, rfl⟩ := hp
    refine ⟨_, rfl, ?_⟩
    refine g_br_i (fun q3 => ?_) (fun q3 => ?_)
    · rw [if_pos ⟨Int32.not_lt.mp q2, q3⟩]
      refine g_gt_i hT.1 rfl ?_
      refine g_cv_i (g_I_ty hT.2.1) (c_I_size hT.2.1) (fun oc h1 hp => ?_)
      obtain ⟨rfl, rfl⟩ := hp
      refine ⟨_, rfl, ?_⟩
      refine g_gt_i hT.1 rfl ?_
      refine g_cv_i (g_I_ty hT.2.1) (c_I_shorten hT.2.1) (fun oc h2 hp => ?_)
      obtain ⟨rfl, i2, f2⟩ := hp
      refine ⟨_, rfl, ?_⟩
      obtain ⟨t2, F2⟩ := o_T_pk hT i2 f2
      exact q_P_i t2 F2
    · exact tF _ (fun z => q3 z.2)
def q_choose (S : q_S) (k t : Int32) : q_A := if (0 ≤ k ∧ k ≤ 31) ∧ 0 ≤ t ∧ t ≤ 15 then (.inl S.2.2.2.1.2.1, q_cu S (S.2.2.2.1.1, k + 32 * t, S.2.2.2.1.2.2)) else (.inr z_X2, S)
theorem c_T_choose {l : Launch} {h : g_H} {a : Nat} {S : q_S} {k t : Int32} (hl : l.stackTraces = false) (hT : o_T h a S) : g_Run l J_T_choose [.ref a, .int k, .int t] h (q_P a h (q_choose S k t)) := by
  unfold q_choose
  have tF : ∀ (L : g_L), ¬ ((0 ≤ k ∧ k ≤ 31) ∧ 0 ≤ t ∧ t ≤ 15) → g_X l J_T_choose 20 L [] h (q_P a h (if (0 ≤ k ∧ k ≤ 31) ∧ 0 ≤ t ∧ t ≤ 15 then (.inl S.2.2.2.1.2.1, q_cu S (S.2.2.2.1.1, k + 32 * t, S.2.2.2.1.2.2)) else (.inr z_X2, S))) := fun L hn => by
    rw [if_neg hn]
    refine g_go ok_T_choose [] 20 ?_
    exact ⟨hl, q_P_t hT (g_Fr_rf _ _ _)⟩
  refine go_T_choose [20] 60 ?_
  refine g_br_i (fun q1 => ?_) (fun q1 => ?_)
  · exact tF _ (fun z => absurd z.1.1 (Int32.not_le.mpr q1))
  refine g_br_i (fun q2 => ?_) (fun q2 => ?_)
  · exact tF _ (fun z => absurd z.1.2 (Int32.not_le.mpr q2))
  refine g_br_i (fun q3 => ?_) (fun q3 => ?_)
  · exact tF _ (fun z => absurd z.2.1 (Int32.not_le.mpr q3))
  refine g_br_i (fun q4 => ?_) (fun q4 => ?_)
  · rw [if_pos ⟨⟨Int32.not_lt.mp q1, Int32.not_lt.mp q2⟩, Int32.not_lt.mp q3, q4⟩]
    refine g_gt_i hT.1 rfl ?_
    refine g_pt_i hT.1 (Nat.le_of_ble_eq_true rfl) rfl rfl ?_
    obtain ⟨t2, f2⟩ := o_T_cu (S.2.2.2.1.1, k + 32 * t, S.2.2.2.1.2.2) hT
    exact q_P_i t2 f2
  · exact tF _ (fun z => q4 z.2.2)
def q_count (S : q_S) (w : Int32) : Int32 :=
  if w = 0 then nI S.1.length else if w = 1 then nI S.2.2.1.1.length else if w = 2 then S.2.2.2.1.2.2.1 else if w = 3 then S.2.2.2.1.2.2.2
  else if w = 4 then S.2.2.2.2.2.1 else if w = 5 then S.2.2.2.2.2.2.1 else if w = 6 then S.2.2.2.2.2.2.2.1 else if w = 7 then nI S.2.2.2.2.1.length else if w = 8 then S.2.2.2.2.2.2.2.2 else -1
theorem c_T_count {l : Launch} {h : g_H} {a : Nat} {S : q_S} {w : Int32} (hT : o_T h a S) : g_Run l J_T_count [.ref a, .int w] h (fun oc hE => oc = .inl (some (.int (q_count S w))) ∧ hE = h) := by
  obtain ⟨h0, h2, h3, h4, h5, h6⟩ := hT
  obtain ⟨fs, hty⟩ := o_KK_ty h6.2.2
  unfold q_count
  refine go_T_count [] 40 ?_
  refine g_br_i (fun q => ?_) (fun q => ?_)
  · rw [if_pos q]
    refine g_gt_i h0 rfl ?_
    refine g_cv_i (g_I_ty h2) (c_I_size h2) (fun oc h1 hp => ?_)
    obtain ⟨rfl, rfl⟩ := hp
    exact ⟨_, rfl, rfl, rfl⟩
  rw [if_neg q]
  refine g_br_i (fun q => ?_) (fun q => ?_)
  · rw [if_pos q]
    refine g_gt_i h0 rfl ?_
    refine g_cv_i (o_B_ty h4) (c_B_size h4) (fun oc h1 hp => ?_)
    obtain ⟨rfl, rfl⟩ := hp
    exact ⟨_, rfl, rfl, rfl⟩
  rw [if_neg q]
  refine g_br_i (fun q => ?_) (fun q => ?_)
  · rw [if_pos q]
    refine g_gt_i h0 rfl ?_
    exact ⟨rfl, rfl⟩
  rw [if_neg q]
  refine g_br_i (fun q => ?_) (fun q => ?_)
  · rw [if_pos q]
    refine g_gt_i h0 rfl ?_
    exact ⟨rfl, rfl⟩
  rw [if_neg q]
  refine g_br_i (fun q => ?_) (fun q => ?_)
  · rw [if_pos q]
    refine g_gt_i h0 rfl ?_
    refine g_cv_i h6.1 (c_R_passedOver h6) (fun oc h1 hp => ?_)
    obtain ⟨rfl, rfl⟩ := hp
    exact ⟨_, rfl, rfl, rfl⟩
  rw [if_neg q]
  refine g_br_i (fun q => ?_) (fun q => ?_)
  · rw [if_pos q]
    refine g_gt_i h0 rfl ?_
    refine g_cv_i h6.1 (c_R_blocks h6) (fun oc h1 hp => ?_)
    obtain ⟨rfl, rfl⟩ := hp
    exact ⟨_, rfl, rfl, rfl⟩
  rw [if_neg q]
  refine g_br_i (fun q => ?_) (fun q => ?_)
  · rw [if_pos q]
    refine g_gt_i h0 rfl ?_
    refine g_cv_i h6.1 (c_R_broken h6) (fun oc h1 hp => ?_)
    obtain ⟨rfl, rfl⟩ := hp
    exact ⟨_, rfl, rfl, rfl⟩
  rw [if_neg q]
  refine g_br_i (fun q => ?_) (fun q => ?_)
  · rw [if_pos q]
    refine g_gt_i h0 rfl ?_
    refine g_cv_i h6.1 (c_R_rows h6) (fun oc h1 hp => ?_)
    obtain ⟨rfl, rfl⟩ := hp
    refine ⟨_, rfl, ?_⟩
    refine g_cv_i hty (c_KK_size h6.2.2) (fun oc h1 hp => ?_)
    obtain ⟨rfl, rfl⟩ := hp
    exact ⟨_, rfl, rfl, rfl⟩
  rw [if_neg q]
  refine g_br_i (fun q => ?_) (fun q => ?_)
  · rw [if_pos q]
    refine g_gt_i h0 rfl ?_
    refine g_cv_i h6.1 (c_R_notKept h6) (fun oc h1 hp => ?_)
    obtain ⟨rfl, rfl⟩ := hp
    exact ⟨_, rfl, rfl, rfl⟩
  rw [if_neg q]
  exact ⟨rfl, rfl⟩
abbrev q_rd (S : q_S) (d : o_Sd) (po : Int32) : q_S := (S.1, S.2.1, S.2.2.1, S.2.2.2.1, (d.1, po, d.2.1, d.2.2.1, d.2.2.2))
def q_read (S : q_S) (i : Int32) : q_A := if 0 ≤ i ∧ i ≤ nI S.1.length then (.inl (nI (d_read S.2.2.2.1.2.1 (S.1.drop i.toNatClampNeg)).1.length), q_rd S (d_read S.2.2.2.1.2.1 (S.1.drop i.toNatClampNeg)) (nI (d_skip (S.1.drop i.toNatClampNeg)))) else (.inr z_X1, S)
theorem c_T_read {l : Launch} {h : g_H} {a : Nat} {S : q_S} {i : Int32} (hl : l.stackTraces = false) (hby : o_by S.1) (hT : o_T h a S) : g_Run l J_T_read [.ref a, .int i] h (q_P a h (q_read S i)) := by
  have hpl := g_I_len hT.2.1
  unfold q_read
  have tF : ∀ (L : g_L), ¬ (0 ≤ i ∧ i ≤ nI S.1.length) → g_X l J_T_read 15 L [] h (q_P a h (if 0 ≤ i ∧ i ≤ nI S.1.length then (.inl (nI (d_read S.2.2.2.1.2.1 (S.1.drop i.toNatClampNeg)).1.length), q_rd S (d_read S.2.2.2.1.2.1 (S.1.drop i.toNatClampNeg)) (nI (d_skip (S.1.drop i.toNatClampNeg)))) else (.inr z_X1, S))) := fun L hn => by
    rw [if_neg hn]
    refine g_go ok_T_read [] 20 ?_
    exact ⟨hl, q_P_t hT (g_Fr_rf _ _ _)⟩
  refine go_T_read [15] 60 ?_
  refine g_br_i (fun q2 => ?_) (fun q2 => ?_)
  · exact tF _ (fun z => absurd z.1 (Int32.not_le.mpr q2))
  · refine g_gt_i hT.1 rfl ?_
    refine g_cv_i (g_I_ty hT.2.1) (c_I_size hT.2.1) (fun oc h1 hp => ?_)
    obtain ⟨rfl, rfl⟩ := hp
    refine ⟨_, rfl, ?_⟩
    refine g_br_i (fun q3 => ?_) (fun q3 => ?_)
    · rw [if_pos ⟨Int32.not_lt.mp q2, q3⟩]
      obtain ⟨j, hj, rfl⟩ := nI_of q2
      have hjl : j ≤ S.1.length := (nI_leI hj (by omega)).mp q3
      rw [nI_clamp hj]
      obtain ⟨h0, h2, h3, h4, h5, h6⟩ := hT
      refine g_gt_i h0 rfl ?_
      refine g_gt_i h0 rfl ?_
      refine g_gt_i h0 rfl ?_
      refine g_cv_i h6.1 (c_R_readFrom h6 h2 hby (by omega) hjl) (fun oc h2 hp => ?_)
      obtain ⟨rfl, r2, f2⟩ := hp
      refine ⟨_, rfl, ?_⟩
      obtain ⟨t2, F2⟩ := o_T_rd ⟨h0, ‹_›, h3, h4, h5, h6⟩ r2 f2
      obtain ⟨fs, hty⟩ := o_KK_ty r2.2.2
      refine g_gt_i t2.1 rfl ?_
      refine g_cv_i r2.1 (c_R_rows r2) (fun oc h3 hp => ?_)
      obtain ⟨rfl, rfl⟩ := hp
      refine ⟨_, rfl, ?_⟩
      refine g_cv_i hty (c_KK_size r2.2.2) (fun oc h3 hp => ?_)
      obtain ⟨rfl, rfl⟩ := hp
      refine ⟨_, rfl, ?_⟩
      exact q_P_i t2 F2
    · exact tF _ (fun z => q3 z.2)
def q_kept (S : q_S) (k w : Int32) : q_A := if (0 ≤ k ∧ k < nI S.2.2.2.2.1.length) ∧ 0 ≤ w ∧ w < 6 then (.inl (v_at (S.2.2.2.2.1.map (k_col w.toNatClampNeg)) k), S) else (.inr z_X1, S)
theorem c_T_kept {l : Launch} {h : g_H} {a : Nat} {S : q_S} {k w : Int32} (hl : l.stackTraces = false) (hT : o_T h a S) : g_Run l J_T_kept [.ref a, .int k, .int w] h (q_P a h (q_kept S k w)) := by
  have h0 := hT.1
  have h6 := hT.2.2.2.2.2
  obtain ⟨fs, hty⟩ := o_KK_ty h6.2.2
  unfold q_kept
  refine go_T_kept [] 60 ?_
  refine g_gt_i h0 rfl ?_
  refine g_cv_i h6.1 (c_R_rows h6) (fun oc h3 hp => ?_)
  obtain ⟨rfl, rfl⟩ := hp
  refine ⟨_, rfl, ?_⟩
  refine g_cv_i hty (c_KK_has h6.2.2) (fun oc h3 hp => ?_)
  obtain ⟨rfl, rfl⟩ := hp
  refine ⟨_, rfl, ?_⟩
  by_cases q : (0 ≤ k ∧ k < nI S.2.2.2.2.1.length) ∧ 0 ≤ w ∧ w < 6
  · rw [if_pos q, if_pos q]
    refine g_br_t (by decide) ?_
    obtain ⟨j, hj, rfl⟩ := nI_of (x := w) (Int32.not_lt.mpr q.2.1)
    have hj6 : j < 6 := (nI_ltI (b := 6) hj (by omega)).mp q.2.2
    rw [nI_clamp hj]
    refine g_gt_i h0 rfl ?_
    refine g_cv_i h6.1 (c_R_rows h6) (fun oc h3 hp => ?_)
    obtain ⟨rfl, rfl⟩ := hp
    refine ⟨_, rfl, ?_⟩
    refine g_cv_i hty (c_KK_at hj6 h6.2.2) (fun oc h3 hp => ?_)
    obtain ⟨rfl, rfl⟩ := hp
    refine ⟨_, rfl, ?_⟩
    exact q_P_i hT (g_Fr_rf _ _ _)
  · rw [if_neg q, if_neg q]
    refine g_br_f (by decide) ?_
    exact ⟨hl, q_P_t hT (g_Fr_rf _ _ _)⟩
/-! the row of a rank -/
def k_lb (ks : List o_Kr) (i j : Nat) : Bool := if k_tm ks i = k_tm ks j then (if k_ow ks i = k_ow ks j then decide (i < j) else decide (k_ow ks i < k_ow ks j)) else decide (k_tm ks i < k_tm ks j)
theorem k_lb_iff {ks : List o_Kr} {i j : Nat} : k_lb ks i j = true ↔ k_lt ks i j := by
  have e1 : ∀ x y : Int32, x = y ↔ x.toInt = y.toInt := fun x y => Int32.toInt_inj.symm
  unfold k_lb k_lt
  by_cases h : k_tm ks i = k_tm ks j
  · rw [if_pos h]
    have h' := (e1 _ _).mp h
    by_cases h2 : k_ow ks i = k_ow ks j
    · rw [if_pos h2, decide_eq_true_iff]
      have h2' := (e1 _ _).mp h2
      omega
    · rw [if_neg h2, decide_eq_true_iff, Int32.lt_iff_toInt_lt]
      have h2' : ¬ _ := fun z => h2 ((e1 _ _).mpr z)
      omega
  · rw [if_neg h, decide_eq_true_iff, Int32.lt_iff_toInt_lt]
    have h' : ¬ _ := fun z => h ((e1 _ _).mpr z)
    omega
def k_rk (ks : List o_Kr) (j : Nat) : Nat := ((List.range ks.length).filter (fun i => k_lb ks i j)).length
def k_mr (ks : List o_Kr) (k : Nat) : Nat := (List.range ks.length).foldl (fun a j => if k_rk ks j = k then j else a) 0
theorem k_is_rk {ks : List o_Kr} {is : List Nat} (h : k_is ks is) {k x : Nat} (hx : is[k]? = some x) : k_rk ks x = k := by
  obtain ⟨hp, hs⟩ := h
  have hk : k < is.length := (List.getElem?_eq_some_iff.mp hx).1
  unfold k_rk
  rw [← (hp.filter (fun i => k_lb ks i x)).length_eq]
  have e : is = is.take k ++ x :: is.drop (k + 1) := by
    have h1 := List.take_append_drop k is
    obtain ⟨y, hy, hd⟩ := l_drop (xs := is) (i := k) hk
    cases hx.symm.trans hy
    rw [hd] at h1
    exact h1.symm
  have hs2 := hs
  rw [e] at hs2
  rw [List.pairwise_append] at hs2
  obtain ⟨-, s2, s3⟩ := hs2
  rw [List.pairwise_cons] at s2
  have f1 : (is.take k).filter (fun i => k_lb ks i x) = is.take k := List.filter_eq_self.mpr (fun i hi => k_lb_iff.mpr (s3 i hi x List.mem_cons_self))
  have f2 : (x :: is.drop (k + 1)).filter (fun i => k_lb ks i x) = [] := by
    apply List.filter_eq_nil_iff.mpr
    intro i hi hb
    have hb := k_lb_iff.mp hb
    rcases List.mem_cons.mp hi with rfl | hi
    · unfold k_lt at hb
      omega
    · have := s2.1 i hi
      unfold k_lt at this hb
      omega
  rw [e, List.filter_append, f1, f2, List.append_nil, List.length_take]
  omega
theorem k_fold {P : Nat → Prop} [DecidablePred P] {x : Nat} : ∀ (xs : List Nat) (a : Nat), (∀ j ∈ xs, P j → j = x) → (x ∈ xs ∧ P x ∨ a = x ∧ ¬ ∃ j ∈ xs, P j) → xs.foldl (fun a j => if P j then j else a) a = x
  | [], a, _, h => by
    rcases h with ⟨h, -⟩ | ⟨h, -⟩
    · simp at h
    · exact h
  | y :: t, a, hu, h => by
    rw [List.foldl_cons]
    refine k_fold t _ (fun j hj => hu j (List.mem_cons_of_mem _ hj)) ?_
    by_cases hy : P y
    · rw [if_pos hy]
      have e := hu y List.mem_cons_self hy
      subst e
      by_cases ht : ∃ j ∈ t, P j
      · obtain ⟨j, hj, hP⟩ := ht
        have := hu j (List.mem_cons_of_mem _ hj) hP
        subst this
        exact Or.inl ⟨hj, hP⟩
      · exact Or.inr ⟨rfl, ht⟩
    · rw [if_neg hy]
      rcases h with ⟨hx, hP⟩ | ⟨e, hn⟩
      · rcases List.mem_cons.mp hx with e | hx
        · exact absurd (e ▸ hP) hy
        · exact Or.inl ⟨hx, hP⟩
      · exact Or.inr ⟨e, fun ⟨j, hj, hP⟩ => hn ⟨j, List.mem_cons_of_mem _ hj, hP⟩⟩
theorem k_is_mr {ks : List o_Kr} {is : List Nat} (h : k_is ks is) {k x : Nat} (hx : is[k]? = some x) : k_mr ks k = x := by
  unfold k_mr
  refine k_fold (P := fun j => k_rk ks j = k) _ _ (fun j hj hP => ?_) (Or.inl ⟨h.1.mem_iff.mp (List.mem_of_getElem? hx), k_is_rk h hx⟩)
  obtain ⟨i, hi⟩ := List.mem_iff_getElem?.mp (h.1.mem_iff.mpr hj)
  have := k_is_rk h hi
  rw [hP] at this
  subst this
  exact Option.some.inj (hi.symm.trans hx)
def q_merged (S : q_S) (k : Int32) : q_A := if 0 ≤ k ∧ k < nI S.2.2.2.2.1.length then (.inl (nI (k_mr S.2.2.2.2.1 k.toNatClampNeg)), S) else (.inr z_X1, S)
theorem c_T_merged {l : Launch} {h : g_H} {a : Nat} {S : q_S} {k : Int32} (hl : l.stackTraces = false) (hT : o_T h a S) : g_Run l J_T_merged [.ref a, .int k] h (q_P a h (q_merged S k)) := by
  have h0 := hT.1
  have h6 := hT.2.2.2.2.2
  have hkl := o_KK_len h6.2.2
  obtain ⟨fs, hty⟩ := o_KK_ty h6.2.2
  unfold q_merged
  have tF : ∀ (L : g_L), ¬ (0 ≤ k ∧ k < nI S.2.2.2.2.1.length) → g_X l J_T_merged 18 L [] h (q_P a h (if 0 ≤ k ∧ k < nI S.2.2.2.2.1.length then (.inl (nI (k_mr S.2.2.2.2.1 k.toNatClampNeg)), S) else (.inr z_X1, S))) := fun L hn => by
    rw [if_neg hn]
    refine g_go ok_T_merged [] 20 ?_
    exact ⟨hl, q_P_t hT (g_Fr_rf _ _ _)⟩
  refine go_T_merged [18] 60 ?_
  refine g_br_i (fun q2 => ?_) (fun q2 => ?_)
  · exact tF _ (fun z => absurd z.1 (Int32.not_le.mpr q2))
  · refine g_gt_i h0 rfl ?_
    refine g_cv_i h6.1 (c_R_rows h6) (fun oc h3 hp => ?_)
    obtain ⟨rfl, rfl⟩ := hp
    refine ⟨_, rfl, ?_⟩
    refine g_cv_i hty (c_KK_size h6.2.2) (fun oc h3 hp => ?_)
    obtain ⟨rfl, rfl⟩ := hp
    refine ⟨_, rfl, ?_⟩
    refine g_br_i (fun q3 => ?_) (fun q3 => ?_)
    · rw [if_pos ⟨Int32.not_lt.mp q2, q3⟩]
      obtain ⟨j, hj, rfl⟩ := nI_of q2
      have hjl : j < S.2.2.2.2.1.length := (nI_ltI hj (by omega)).mp q3
      rw [nI_clamp hj]
      refine g_gt_i h0 rfl ?_
      refine g_cv_i h6.1 (c_R_rows h6) (fun oc h3 hp => ?_)
      obtain ⟨rfl, rfl⟩ := hp
      refine ⟨_, rfl, ?_⟩
      refine g_cv_i hty (c_K_byTime hjl h6.2.2) (fun oc h4 hp => ?_)
      obtain ⟨⟨is, x, hz, hx, rfl⟩, k4, f4⟩ := hp
      refine ⟨_, rfl, ?_⟩
      rw [k_is_mr hz hx]
      have r4 : o_R h4 (a + 21) S.2.2.2.2.1 S.2.2.2.2.2.1 S.2.2.2.2.2.2.1 S.2.2.2.2.2.2.2.1 S.2.2.2.2.2.2.2.2 := by
        obtain ⟨b0, ⟨ins, m, rs, o, t, pl, hU⟩, -⟩ := h6
        exact ⟨(f4.2 _ (by omega)).trans b0, ⟨ins, m, rs, o, t, pl, o_U_Fr hU f4 (by omega)⟩, k4⟩
      obtain ⟨t4, F4⟩ := o_T_rd hT r4 (g_Fr_wd f4 (by omega) (by omega))
      exact q_P_i t4 F4
    · exact tF _ (fun z => q3 z.2)
