/-! TracePacks: row, mark -/
def q_isRow (S : q_S) (k a b : Int32) : Bool := decide (0 ≤ k ∧ k ≤ 4) && (decide (¬ k = 0) || decide (a = 0 ∨ a = 1)) && (decide (¬ k = 4) || decide (v_at S.2.1 S.2.2.2.1.1 ≤ a)) && decide (k = 3 ∨ b = 0)
theorem c_T_isRow {l : Launch} {h : g_H} {a : Nat} {S : q_S} {k x y : Int32} (hT : o_T h a S) : g_Run l J_T_isRow [.ref a, .int k, .int x, .int y] h (fun oc hE => oc = .inl (some (.int (if q_isRow S k x y = true then 1 else 0))) ∧ hE = h) := by
  have t48 : (0 ≤ k ∧ k ≤ 4) → (k = 0 → x = 0 ∨ x = 1) → (k = 4 → v_at S.2.1 S.2.2.2.1.1 ≤ x) → g_X l J_T_isRow 48 [some (.ref a), some (.int k), some (.int x), some (.int y)] [] h (fun oc hE => oc = .inl (some (.int (if q_isRow S k x y = true then 1 else 0))) ∧ hE = h) := by
    intro c1 c2 c3
    have e : q_isRow S k x y = decide (k = 3 ∨ y = 0) := by
      unfold q_isRow
      have d1 : decide (0 ≤ k ∧ k ≤ 4) = true := decide_eq_true c1
      have d2 : (decide (¬ k = 0) || decide (x = 0 ∨ x = 1)) = true := by
        by_cases z : k = 0
        · simp [c2 z]
        · simp [z]
      have d3 : (decide (¬ k = 4) || decide (v_at S.2.1 S.2.2.2.1.1 ≤ x)) = true := by
        by_cases z : k = 4
        · simp [c3 z]
        · simp [z]
      rw [d1, d2, d3]
      simp
    rw [e]
    refine g_go ok_T_isRow [] 40 ?_
    refine g_br_i (fun q => ?_) (fun q => ?_)
    · have q : k = 3 := q
      exact ⟨by decide, by rw [if_pos (decide_eq_true (Or.inl q))], rfl⟩
    · have q : ¬ k = 3 := q
      refine g_br_i (fun q2 => ?_) (fun q2 => ?_)
      · have q2 : ¬ y = 0 := q2
        exact ⟨by decide, by rw [if_neg (fun z => (of_decide_eq_true z).elim q q2)], rfl⟩
      · have q2 : y = 0 := Classical.not_not.mp q2
        exact ⟨by decide, by rw [if_pos (decide_eq_true (Or.inr q2))], rfl⟩
  have t26 : (0 ≤ k ∧ k ≤ 4) → (k = 0 → x = 0 ∨ x = 1) → g_X l J_T_isRow 26 [some (.ref a), some (.int k), some (.int x), some (.int y)] [] h (fun oc hE => oc = .inl (some (.int (if q_isRow S k x y = true then 1 else 0))) ∧ hE = h) := by
    intro c1 c2
    refine g_go ok_T_isRow [48] 40 ?_
    refine g_br_i (fun q => ?_) (fun q => ?_)
    · exact t48 c1 c2 (fun z => absurd z q)
    · have q : k = 4 := Classical.not_not.mp q
      refine g_gt_i hT.1 rfl ?_
      refine g_gt_i hT.1 rfl ?_
      refine g_cv_i (g_I_ty hT.2.2.1) (c_I_at hT.2.2.1) (fun oc h1 hp => ?_)
      obtain ⟨rfl, rfl⟩ := hp
      refine ⟨_, rfl, ?_⟩
      refine g_br_i (fun q2 => ?_) (fun q2 => ?_)
      · exact t48 c1 c2 (fun _ => q2)
      · have q2 : ¬ v_at S.2.1 S.2.2.2.1.1 ≤ x := q2
        have e : q_isRow S k x y = false := by
          unfold q_isRow
          simp [q, q2]
        rw [e]
        exact ⟨by decide, rfl, rfl⟩
  have tF : ∀ (L : g_L), ¬ (0 ≤ k ∧ k ≤ 4) → g_X l J_T_isRow 9 L [] h (fun oc hE => oc = .inl (some (.int (if q_isRow S k x y = true then 1 else 0))) ∧ hE = h) := fun L hn => by
    have e : q_isRow S k x y = false := by
      unfold q_isRow
      rw [decide_eq_false hn]
      rfl
    rw [e]
    refine g_go ok_T_isRow [] 10 ?_
    exact ⟨by decide, rfl, rfl⟩
  refine go_T_isRow [9, 26] 40 ?_
  refine g_br_i (fun q1 => ?_) (fun q1 => ?_)
  · exact tF _ (fun z => absurd z.1 (Int32.not_le.mpr q1))
  refine g_br_i (fun q2 => ?_) (fun q2 => ?_)
  · have c1 : 0 ≤ k ∧ k ≤ 4 := ⟨Int32.not_lt.mp q1, q2⟩
    refine g_br_i (fun q3 => ?_) (fun q3 => ?_)
    · exact t26 c1 (fun z => absurd z q3)
    · have q3 : k = 0 := Classical.not_not.mp q3
      refine g_br_i (fun q4 => ?_) (fun q4 => ?_)
      · exact t26 c1 (fun _ => Or.inl q4)
      · have q4 : ¬ x = 0 := q4
        refine g_br_i (fun q5 => ?_) (fun q5 => ?_)
        · exact t26 c1 (fun _ => Or.inr q5)
        · have q5 : ¬ x = 1 := q5
          have e : q_isRow S k x y = false := by
            unfold q_isRow
            simp [q3, q4, q5]
          rw [e]
          exact ⟨by decide, rfl, rfl⟩
  · exact tF _ (fun z => q2 z.2)
/-- the waiting rows are packed behind the pack -/
def q_fit (S : q_S) : Prop := S.1.length + (1 + (e_sh (e_in S.2.2.1.2.1 S.2.2.1.2.2 S.2.2.1.1)).length) ≤ 16384
def q_closed (S : q_S) : q_S := (S.1 ++ 126 :: e_sh (e_in S.2.2.1.2.1 S.2.2.1.2.2 S.2.2.1.1), S.2.1, ([], S.2.2.1.2.1, S.2.2.1.2.2), (S.2.2.2.1.1, S.2.2.2.1.2.1, S.2.2.2.1.2.2.1, S.2.2.2.1.2.2.2 + 1), S.2.2.2.2)
theorem c_T_closeOpen {l : Launch} {h : g_H} {a : Nat} {S : q_S} (hT : o_T h a S) : g_Run l J_T_closeOpen [.ref a] h (fun oc hE => (q_fit S ∧ oc = .inl (some (.int 1)) ∧ o_T hE a (q_closed S) ∨ ¬ q_fit S ∧ oc = .inl (some (.int 0)) ∧ o_T hE a S) ∧ g_Fr a (a + 55) h hE) := by
  obtain ⟨h0, h2, h3, h4, ⟨ins, m, h5⟩, h6⟩ := hT
  refine go_T_closeOpen [] 60 ?_
  refine g_gt_i h0 rfl ?_
  refine g_gt_i h0 rfl ?_
  refine g_cv_i h5.1 (c_Q_fill h5 h4 (by omega)) (fun oc h1 hp => ?_)
  obtain ⟨rfl, ⟨m1, q1⟩, f1⟩ := hp
  refine ⟨_, rfl, ?_⟩
  have T1 : o_T h1 a S := ⟨(f1.2 a (by omega)).trans h0, g_I_Fr h2 f1 (by omega), g_I_Fr h3 f1 (by omega), o_B_Fr h4 f1 (by omega), ⟨_, _, q1⟩, o_R_Fr h6 f1 (by omega)⟩
  refine g_gt_i T1.1 rfl ?_
  refine g_gt_i T1.1 rfl ?_
  refine g_cv_i q1.1 (c_Q_moveBehind q1 T1.2.1 (by omega)) (fun oc h2' hp => ?_)
  obtain ⟨rfl, i2, f2⟩ := hp
  refine ⟨_, rfl, ?_⟩
  have F1 : g_Fr a (a + 55) h h1 := g_Fr_wd f1 (by omega) (by omega)
  by_cases hq : q_fit S
  · have hq' := hq
    unfold q_fit at hq'
    rw [if_pos hq'] at i2 ⊢
    obtain ⟨T2, F2⟩ := o_T_pk T1 i2 f2
    refine g_br_t (by decide) ?_
    have B2 := T2.2.2.2.1
    refine g_gt_i T2.1 rfl ?_
    refine g_cv_i (o_B_ty B2) (c_B_clear B2) (fun oc h3' hp => ?_)
    obtain ⟨rfl, b3, f3⟩ := hp
    refine ⟨_, rfl, ?_⟩
    obtain ⟨T3, F3⟩ := o_T_op T2 b3 f3
    refine g_gt_i T3.1 rfl ?_
    refine g_pt_i T3.1 (Nat.le_of_ble_eq_true rfl) rfl rfl ?_
    obtain ⟨T4, F4⟩ := o_T_cu (S.2.2.2.1.1, S.2.2.2.1.2.1, S.2.2.2.1.2.2.1, S.2.2.2.1.2.2.2 + 1) T3
    exact ⟨by decide, Or.inl ⟨hq, rfl, T4⟩, g_Fr_tr F1 (g_Fr_tr F2 (g_Fr_tr F3 F4))⟩
  · have hq' := hq
    unfold q_fit at hq'
    rw [if_neg hq'] at i2 ⊢
    obtain ⟨T2, F2⟩ := o_T_pk T1 i2 f2
    refine g_br_f (by decide) ?_
    exact ⟨by decide, Or.inr ⟨hq, rfl, T2⟩, g_Fr_tr F1 F2⟩
/-- a row is put behind those that wait -/
def q_put1 (S : q_S) (k a b : Int32) : q_S :=
  ((S.1, if k = 4 then v_set S.2.1 S.2.2.2.1.1 a else S.2.1,
    ((if S.2.2.1.1.length < 100 then S.2.2.1.1 ++ [(k, a, b)] else S.2.2.1.1), (if S.2.2.1.1.length = 0 then S.2.2.2.1.1 else S.2.2.1.2.1), (if S.2.2.1.1.length = 0 then v_at S.2.1 S.2.2.2.1.1 else S.2.2.1.2.2)),
    (S.2.2.2.1.1, S.2.2.2.1.2.1, S.2.2.2.1.2.2.1 + 1, S.2.2.2.1.2.2.2), S.2.2.2.2))
def q_cls (S : q_S) : Prop := 0 < S.2.2.1.1.length ∧ (S.2.2.2.1.1 ≠ S.2.2.1.2.1 ∨ S.2.2.1.1.length = 100)
theorem c_T_row {l : Launch} {h : g_H} {a : Nat} {S : q_S} {k x y : Int32} (hl : l.stackTraces = false) (hT : o_T h a S) : g_Run l J_T_row [.ref a, .int k, .int x, .int y] h (fun oc hE =>
      (q_isRow S k x y = false ∧ q_P a h (.inr z_X2, S) oc hE) ∨ (q_isRow S k x y = true ∧ q_cls S ∧ ¬ q_fit S ∧ q_P a h (.inr z_X3, S) oc hE) ∨
      (q_isRow S k x y = true ∧ q_cls S ∧ q_fit S ∧ q_P a h (.inl (nI (q_put1 (q_closed S) k x y).2.2.1.1.length), q_put1 (q_closed S) k x y) oc hE) ∨ (q_isRow S k x y = true ∧ ¬ q_cls S ∧ q_P a h (.inl (nI (q_put1 S k x y).2.2.1.1.length), q_put1 S k x y) oc hE)) := by
  have tail : ∀ (S : q_S) (h1 : g_H) (Post : g_P), o_T h1 a S → (∀ hE, o_T hE a (q_put1 S k x y) → g_Fr a (a + 55) h1 hE → Post (.inl (some (.int (nI (q_put1 S k x y).2.2.1.1.length)))) hE) → g_X l J_T_row 51 [some (.ref a), some (.int k), some (.int x), some (.int y)] [] h1 Post := by
    intro S h1 Post T1 hP
    have hrl := o_B_len T1.2.2.2.1
    have t83 : ∀ (h2 : g_H), o_T h2 a (S.1, S.2.1, (S.2.2.1.1, (if S.2.2.1.1.length = 0 then S.2.2.2.1.1 else S.2.2.1.2.1), (if S.2.2.1.1.length = 0 then v_at S.2.1 S.2.2.2.1.1 else S.2.2.1.2.2)), S.2.2.2) → g_Fr a (a + 55) h1 h2 → g_X l J_T_row 83 [some (.ref a), some (.int k), some (.int x), some (.int y)] [] h2 Post := by
      intro h2 T2 F2
      have t111 : ∀ (h4 : g_H), o_T h4 a (S.1, (if k = 4 then v_set S.2.1 S.2.2.2.1.1 x else S.2.1), ((if S.2.2.1.1.length < 100 then S.2.2.1.1 ++ [(k, x, y)] else S.2.2.1.1), (if S.2.2.1.1.length = 0 then S.2.2.2.1.1 else S.2.2.1.2.1), (if S.2.2.1.1.length = 0 then v_at S.2.1 S.2.2.2.1.1 else S.2.2.1.2.2)), S.2.2.2) → g_Fr a (a + 55) h1 h4 → g_X l J_T_row 111 [some (.ref a), some (.int k), some (.int x), some (.int y)] [] h4 Post := by
        intro h4 T4 F4
        refine g_go ok_T_row [] 60 ?_
        refine g_gt_i T4.1 rfl ?_
        refine g_pt_i T4.1 (Nat.le_of_ble_eq_true rfl) rfl rfl ?_
        obtain ⟨T5, F5⟩ := o_T_cu (S.2.2.2.1.1, S.2.2.2.1.2.1, S.2.2.2.1.2.2.1 + 1, S.2.2.2.1.2.2.2) T4
        refine g_gt_i T5.1 rfl ?_
        have B5 := T5.2.2.2.1
        refine g_cv_i (o_B_ty B5) (c_B_size B5) (fun oc h6 hp => ?_)
        obtain ⟨rfl, rfl⟩ := hp
        refine ⟨_, rfl, ?_⟩
        exact hP _ T5 (g_Fr_tr F4 F5)
      refine g_go ok_T_row [111] 60 ?_
      refine g_gt_i T2.1 rfl ?_
      have B2 := T2.2.2.2.1
      refine g_cv_i (o_B_ty B2) (c_B_add (r := (k, x, y)) B2) (fun oc h3 hp => ?_)
      obtain ⟨rfl, b3, f3⟩ := hp
      refine ⟨_, rfl, ?_⟩
      obtain ⟨T3, F3⟩ := o_T_op T2 b3 f3
      have e : narrow .boolean (.int (if S.2.2.1.1.length < 100 then 1 else 0)) = .int (if S.2.2.1.1.length < 100 then 1 else 0) := by split <;> rfl
      refine g_br_i (fun q => ?_) (fun q => ?_)
      · have q : ¬ k = 4 := q
        refine t111 h3 ?_ (g_Fr_tr F2 F3)
        rw [if_neg q]
        exact T3
      · have q : k = 4 := Classical.not_not.mp q
        refine g_gt_i T3.1 rfl ?_
        refine g_gt_i T3.1 rfl ?_
        refine g_cv_i (g_I_ty T3.2.2.1) (c_I_set T3.2.2.1) (fun oc h4 hp => ?_)
        obtain ⟨rfl, i4, f4⟩ := hp
        refine ⟨_, rfl, ?_⟩
        obtain ⟨T4, F4⟩ := o_T_ts T3 i4 f4
        refine t111 h4 ?_ (g_Fr_tr F2 (g_Fr_tr F3 F4))
        rw [if_pos q]
        exact T4
    refine g_go ok_T_row [83] 60 ?_
    refine g_gt_i T1.1 rfl ?_
    have B1 := T1.2.2.2.1
    refine g_cv_i (o_B_ty B1) (c_B_size B1) (fun oc h2 hp => ?_)
    obtain ⟨rfl, rfl⟩ := hp
    refine ⟨_, rfl, ?_⟩
    by_cases q : S.2.2.1.1.length = 0
    · rw [if_pos q, if_pos q] at t83
      refine g_br_f (show ¬ ¬ nI S.2.2.1.1.length = 0 from fun z => z (by rw [q]; rfl)) ?_
      refine g_gt_i T1.1 rfl ?_
      refine g_gt_i T1.1 rfl ?_
      refine g_gt_i T1.1 rfl ?_
      refine g_gt_i T1.1 rfl ?_
      refine g_cv_i (g_I_ty T1.2.2.1) (c_I_at T1.2.2.1) (fun oc h3 hp => ?_)
      obtain ⟨rfl, rfl⟩ := hp
      refine ⟨_, rfl, ?_⟩
      refine g_cv_i (o_B_ty B1) (c_B_begin B1) (fun oc h3 hp => ?_)
      obtain ⟨rfl, b3, f3⟩ := hp
      refine ⟨_, rfl, ?_⟩
      obtain ⟨T3, F3⟩ := o_T_op T1 b3 f3
      refine t83 h3 ?_ F3
      rw [List.length_eq_zero_iff.mp q]
      exact T3
    · rw [if_neg q, if_neg q] at t83
      refine g_br_t (show ¬ nI S.2.2.1.1.length = 0 from nI_ne0 (by omega) (by omega)) ?_
      exact t83 _ T1 (g_Fr_rf _ _ _)
  refine go_T_row [51] 60 ?_
  refine g_cv_i hT.1 (c_T_isRow hT) (fun oc h1 hp => ?_)
  obtain ⟨rfl, rfl⟩ := hp
  refine ⟨_, rfl, ?_⟩
  by_cases q : q_isRow S k x y = true
  · rw [if_pos q]
    refine g_br_t (by decide) ?_
    have B1 := hT.2.2.2.1
    refine g_gt_i hT.1 rfl ?_
    refine g_gt_i hT.1 rfl ?_
    refine g_cv_i (o_B_ty B1) (c_B_isClosedBy B1) (fun oc h2 hp => ?_)
    obtain ⟨rfl, rfl⟩ := hp
    refine ⟨_, rfl, ?_⟩
    by_cases q2 : q_cls S
    · have q2' := q2
      unfold q_cls at q2'
      rw [if_pos q2']
      refine g_br_f (by decide) ?_
      refine g_cv_i hT.1 (c_T_closeOpen hT) (fun oc h3 hp => ?_)
      obtain ⟨hp, f3⟩ := hp
      rcases hp with ⟨q3, rfl, T3⟩ | ⟨q3, rfl, T3⟩
      · refine ⟨_, rfl, ?_⟩
        refine g_br_t (by decide) ?_
        exact tail _ h3 _ T3 (fun hE TE FE => Or.inr (Or.inr (Or.inl ⟨q, q2, q3, q_P_i TE (g_Fr_tr f3 FE)⟩)))
      · refine ⟨_, rfl, ?_⟩
        refine g_br_f (by decide) ?_
        exact ⟨hl, Or.inr (Or.inl ⟨q, q2, q3, q_P_t T3 f3⟩)⟩
    · have q2' := q2
      unfold q_cls at q2'
      rw [if_neg q2']
      refine g_br_t (by decide) ?_
      exact tail _ _ _ hT (fun hE TE FE => Or.inr (Or.inr (Or.inr ⟨q, q2, q_P_i TE FE⟩)))
  · rw [if_neg q]
    refine g_br_f (by decide) ?_
    exact ⟨hl, Or.inl ⟨by simpa using q, q_P_t hT (g_Fr_rf _ _ _)⟩⟩
theorem c_T_mark {l : Launch} {h : g_H} {a : Nat} {S : q_S} (hl : l.stackTraces = false) (hT : o_T h a S) : g_Run l J_T_mark [.ref a] h (fun oc hE =>
      (S.2.2.1.1.length = 0 ∧ q_P a h (.inl (nI S.1.length), S) oc hE) ∨ (¬ S.2.2.1.1.length = 0 ∧ q_fit S ∧ q_P a h (.inl (nI (q_closed S).1.length), q_closed S) oc hE) ∨ (¬ S.2.2.1.1.length = 0 ∧ ¬ q_fit S ∧ q_P a h (.inr z_X3, S) oc hE)) := by
  have hrl := o_B_len hT.2.2.2.1
  have tail : ∀ (S : q_S) (h1 : g_H) (Post : g_P), o_T h1 a S → Post (.inl (some (.int (nI S.1.length)))) h1 → g_X l J_T_mark 27 [some (.ref a)] [] h1 Post := by
    intro S h1 Post T1 hP
    refine g_go ok_T_mark [] 40 ?_
    refine g_gt_i T1.1 rfl ?_
    refine g_cv_i (g_I_ty T1.2.1) (c_I_size T1.2.1) (fun oc h2 hp => ?_)
    obtain ⟨rfl, rfl⟩ := hp
    exact ⟨_, rfl, hP⟩
  refine go_T_mark [27] 60 ?_
  refine g_gt_i hT.1 rfl ?_
  have B1 := hT.2.2.2.1
  refine g_cv_i (o_B_ty B1) (c_B_size B1) (fun oc h2 hp => ?_)
  obtain ⟨rfl, rfl⟩ := hp
  refine ⟨_, rfl, ?_⟩
  by_cases q : S.2.2.1.1.length = 0
  · refine g_br_t (show nI S.2.2.1.1.length ≤ 0 by rw [q]; decide) ?_
    exact tail S _ _ hT (Or.inl ⟨q, q_P_i hT (g_Fr_rf _ _ _)⟩)
  · refine g_br_f (show ¬ nI S.2.2.1.1.length ≤ 0 from nI_nle (by omega) (by omega)) ?_
    refine g_cv_i hT.1 (c_T_closeOpen hT) (fun oc h3 hp => ?_)
    obtain ⟨hp, f3⟩ := hp
    rcases hp with ⟨q3, rfl, T3⟩ | ⟨q3, rfl, T3⟩
    · refine ⟨_, rfl, ?_⟩
      refine g_br_t (by decide) ?_
      exact tail _ h3 _ T3 (Or.inr (Or.inl ⟨q, q3, q_P_i T3 f3⟩))
    · refine ⟨_, rfl, ?_⟩
      refine g_br_f (by decide) ?_
      exact ⟨hl, Or.inr (Or.inr ⟨q, q3, q_P_t T3 f3⟩)⟩
