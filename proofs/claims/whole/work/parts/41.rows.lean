/-! Packer: stores, rows -/
def e_vb (m : o_Mm) (v : Int32) : Int32 := if o_num m.2.2.1 v = -1 then 8 else o_num m.2.2.1 v
def e_store (m : o_Mm) (p v : Int32) : List Int32 := if p = m.2.1.1 + m.2.1.2 then e_kind 3 (e_vb m v) ++ (if o_num m.2.2.1 v = -1 then e_word v else []) else e_kind 3 (16 + e_vb m v) ++ (e_num 4 (e_zz (p - m.2.1.1)) ++ (if o_num m.2.2.1 v = -1 then e_word v else []))
theorem c_Q_addStore {l : Launch} {h : g_H} {a : Nat} {ins : List Int32} {m : o_Mm} {c p v : Int32} (hQ : o_Q h a ins m c) : g_Run l J_Q_addStore [.ref a, .int p, .int v] h (fun oc hE => oc = .inl none ∧ o_Q hE a (o_ap ins (e_store m p v)) (m.1, (p, p - m.2.1.1), o_use 8 m.2.2.1 v, m.2.2.2) c ∧ g_Fr a (a + 9) h hE) := by
  -- behind the value
  have t3 : ∀ (l3 l4 l5 : Option Value) (ins1 : List Int32) (h1 : g_H) (Post : g_P), o_Q h1 a ins1 m c → (∀ hE, o_Q hE a ins1 (m.1, (p, p - m.2.1.1), o_use 8 m.2.2.1 v, m.2.2.2) c → g_Fr a (a + 9) h1 hE → Post (.inl none) hE) → g_X l J_Q_addStore 100 [some (.ref a), some (.int p), some (.int v), l3, l4, l5] [] h1 Post := by
    intro l3 l4 l5 ins1 h1 Post q1 hP
    refine g_go ok_Q_addStore [] 40 ?_
    refine g_gt_i q1.1 rfl ?_
    refine g_gt_i q1.2.2.1 rfl ?_
    refine g_cv_i q1.2.2.2.2.1 (c_L_goTo q1.2.2.2.2.1) (fun oc h2 hp => ?_)
    obtain ⟨rfl, i2, f2⟩ := hp
    refine ⟨_, rfl, ?_⟩
    have b2 := (f2.2 a (by omega)).trans q1.1
    have m2 := (f2.2 (a + 3) (by omega)).trans q1.2.2.1
    have v2 := o_V_Fr q1.2.2.2.2.2 f2 (by omega)
    refine g_gt_i b2 rfl ?_
    refine g_gt_i m2 rfl ?_
    refine g_cv_i v2.1 (c_V_use v2) (fun oc h3 hp => ?_)
    obtain ⟨rfl, i3, f3⟩ := hp
    refine ⟨_, rfl, ?_⟩
    exact hP _ ⟨(f3.2 a (by omega)).trans b2, g_I_Fr (g_I_Fr q1.2.1 f2 (by omega)) f3 (by omega), (f3.2 (a + 3) (by omega)).trans m2, o_L_Fr (o_L_Fr q1.2.2.2.1 f2 (by omega)) f3 (by omega), o_L_Fr i2 f3 (by omega), i3⟩ (g_Fr_tr (g_Fr_wd f2 (by omega) (by omega)) (g_Fr_wd f3 (by omega) (by omega)))
  -- behind the difference
  have t2 : ∀ (l3 l5 : Option Value) (ins1 : List Int32) (h1 : g_H) (Post : g_P), o_Q h1 a ins1 m c → (∀ hE, o_Q hE a (o_ap ins1 (if o_num m.2.2.1 v = -1 then e_word v else [])) (m.1, (p, p - m.2.1.1), o_use 8 m.2.2.1 v, m.2.2.2) c → g_Fr a (a + 9) h1 hE → Post (.inl none) hE) → g_X l J_Q_addStore 89 [some (.ref a), some (.int p), some (.int v), l3, some (.int (o_num m.2.2.1 v)), l5] [] h1 Post := by
    intro l3 l5 ins1 h1 Post q1 hP
    have hl := (g_I_len q1.2.1).1
    refine g_go ok_Q_addStore [100] 40 ?_
    refine g_br_i (fun q => ?_) (fun q => ?_)
    · have q : ¬ o_num m.2.2.1 v = -1 := q
      refine t3 _ _ _ _ h1 _ q1 (fun hE qE fE => hP hE ?_ fE)
      rw [if_neg q, o_ap_nil hl]
      exact qE
    · have q : o_num m.2.2.1 v = -1 := Classical.not_not.mp q
      refine g_cv_i q1.1 (c_Q_addWord q1) (fun oc h2 hp => ?_)
      obtain ⟨rfl, q2, f2⟩ := hp
      refine ⟨_, rfl, ?_⟩
      refine t3 _ _ _ _ h2 _ q2 (fun hE qE fE => hP hE ?_ (g_Fr_tr f2 fE))
      rw [if_pos q]
      exact qE
  -- from the byte of the row on
  have t1 : ∀ (ex : Int32) (l3 : Int32), (l3 = if p = m.2.1.1 + m.2.1.2 then 1 else 0) → g_X l J_Q_addStore 48 [some (.ref a), some (.int p), some (.int v), some (.int l3), some (.int (o_num m.2.2.1 v)), some (.int (e_vb m v))] [] h (fun oc hE => oc = .inl none ∧ o_Q hE a (o_ap ins (e_store m p v)) (m.1, (p, p - m.2.1.1), o_use 8 m.2.2.1 v, m.2.2.2) c ∧ g_Fr a (a + 9) h hE) := by
    intro _ l3 e3
    unfold e_store
    by_cases hq : p = m.2.1.1 + m.2.1.2
    · rw [if_pos hq] at e3 ⊢
      subst e3
      refine g_go ok_Q_addStore [89] 40 ?_
      refine g_br_f (by decide) ?_
      refine g_cv_i hQ.1 (c_Q_addKind hQ) (fun oc h2 hp => ?_)
      obtain ⟨rfl, q2, f2⟩ := hp
      refine ⟨_, rfl, ?_⟩
      refine g_br_t (by decide) ?_
      refine t2 _ _ _ h2 _ q2 (fun hE qE fE => ⟨rfl, ?_, g_Fr_tr f2 fE⟩)
      rw [o_ap_ap] at qE
      exact qE
    · rw [if_neg hq] at e3 ⊢
      subst e3
      refine g_go ok_Q_addStore [89] 40 ?_
      refine g_br_t (by decide) ?_
      refine g_cv_i hQ.1 (c_Q_addKind hQ) (fun oc h2 hp => ?_)
      obtain ⟨rfl, q2, f2⟩ := hp
      refine ⟨_, rfl, ?_⟩
      refine g_br_f (by decide) ?_
      refine g_gt_i q2.1 rfl ?_
      refine g_gt_i q2.2.2.1 rfl ?_
      refine g_cv_i q2.2.2.2.2.1 (c_L_differenceTo q2.2.2.2.2.1) (fun oc h3 hp => ?_)
      obtain ⟨rfl, rfl⟩ := hp
      refine ⟨_, rfl, ?_⟩
      refine g_cs_i c_T_numberOf (fun oc h3 hp => ?_)
      obtain ⟨rfl, rfl⟩ := hp
      refine ⟨_, rfl, ?_⟩
      refine g_cv_i q2.1 (c_Q_addNumber q2) (fun oc h4 hp => ?_)
      obtain ⟨rfl, q4, f4⟩ := hp
      refine ⟨_, rfl, ?_⟩
      refine t2 _ _ _ h4 _ q4 (fun hE qE fE => ⟨rfl, ?_, g_Fr_tr f2 (g_Fr_tr f4 fE)⟩)
      rw [o_ap_ap, o_ap_ap] at qE
      exact qE
  have t0 : ∀ (l3 : Int32) (l4 l5 : Option Value), (l3 = if p = m.2.1.1 + m.2.1.2 then 1 else 0) → g_X l J_Q_addStore 19 [some (.ref a), some (.int p), some (.int v), none, l4, l5] [.int l3] h (fun oc hE => oc = .inl none ∧ o_Q hE a (o_ap ins (e_store m p v)) (m.1, (p, p - m.2.1.1), o_use 8 m.2.2.1 v, m.2.2.2) c ∧ g_Fr a (a + 9) h hE) := by
    intro l3 l4 l5 e3
    refine g_go ok_Q_addStore [48] 40 ?_
    refine g_gt_i hQ.1 rfl ?_
    refine g_gt_i hQ.2.2.1 rfl ?_
    refine g_cv_i hQ.2.2.2.2.2.1 (c_V_numberOfValue hQ.2.2.2.2.2) (fun oc h1 hp => ?_)
    obtain ⟨rfl, rfl⟩ := hp
    refine ⟨_, rfl, ?_⟩
    refine g_br_i (fun q => ?_) (fun q => ?_)
    · have q : ¬ o_num m.2.2.1 v = -1 := q
      have := t1 0 l3 e3
      rw [show e_vb m v = o_num m.2.2.1 v by unfold e_vb; rw [if_neg q]] at this
      exact this
    · have q : o_num m.2.2.1 v = -1 := Classical.not_not.mp q
      have := t1 0 l3 e3
      rw [show e_vb m v = 8 by unfold e_vb; rw [if_pos q]] at this
      exact this
  refine go_Q_addStore [19] 40 ?_
  refine g_gt_i hQ.1 rfl ?_
  refine g_gt_i hQ.2.2.1 rfl ?_
  refine g_cv_i hQ.2.2.2.2.1 (c_L_expected hQ.2.2.2.2.1) (fun oc h1 hp => ?_)
  obtain ⟨rfl, rfl⟩ := hp
  refine ⟨_, rfl, ?_⟩
  refine g_br_i (fun q => ?_) (fun q => ?_)
  · exact t0 0 none none (by rw [if_neg q])
  · exact t0 1 none none (by rw [if_pos (Classical.not_not.mp q)])
/-- a row's bytes, and what is remembered -/
def e_row (m : o_Mm) (c : Int32) (r : o_Rw) : List Int32 × o_Mm × Int32 :=
  if r.1 = 0 then ([], m, c * 2 + r.2.1)
  else if r.1 = 1 then (e_kind 1 0 ++ e_num 4 (e_zz (r.2.1 - m.2.2.2.1)), (m.1, m.2.1, m.2.2.1, r.2.1, m.2.2.2.2), c)
  else if r.1 = 2 then (e_load m r.2.1, ((r.2.1, r.2.1 - m.1.1), m.2), c)
  else if r.1 = 3 then (e_store m r.2.1 r.2.2, (m.1, (r.2.1, r.2.1 - m.2.1.1), o_use 8 m.2.2.1 r.2.2, m.2.2.2), c)
  else (e_kind 4 0 ++ e_num 4 (r.2.1 - m.2.2.2.2).toInt64, (m.1, m.2.1, m.2.2.1, m.2.2.2.1, r.2.1), c)
theorem c_Q_addRow {l : Launch} {h : g_H} {a : Nat} {ins : List Int32} {m : o_Mm} {c : Int32} {r : o_Rw} (hQ : o_Q h a ins m c) : g_Run l J_Q_addRow [.ref a, .int r.1, .int r.2.1, .int r.2.2] h (fun oc hE => oc = .inl none ∧ o_Q hE a (o_ap ins (e_row m c r).1) (e_row m c r).2.1 (e_row m c r).2.2 ∧ g_Fr a (a + 9) h hE) := by
  have hl := (g_I_len hQ.2.1).1
  unfold e_row
  refine go_Q_addRow [] 60 ?_
  refine g_br_i (fun q => ?_) (fun q => ?_)
  · rw [if_pos q]
    refine g_gt_i hQ.1 rfl ?_
    refine g_pt_i hQ.1 (Nat.le_of_ble_eq_true rfl) rfl rfl ?_
    have f2 : g_Fr a (a + 1) h (g_up h a (.inr (6, [.ref (a + 1), .ref (a + 3), .int (c * 2 + r.2.1)]))) := g_Fr_up (by omega) (by omega)
    refine ⟨rfl, ?_, g_Fr_wd f2 (by omega) (by omega)⟩
    rw [o_ap_nil hl]
    exact ⟨g_up_eq, g_I_Fr hQ.2.1 f2 (by omega), o_M_Fr hQ.2.2 f2 (by omega)⟩
  rw [if_neg q]
  refine g_br_i (fun q => ?_) (fun q => ?_)
  · rw [if_pos q]
    refine g_cv_i hQ.1 (c_Q_addKind hQ) (fun oc h1 hp => ?_)
    obtain ⟨rfl, q1, f1⟩ := hp
    refine ⟨_, rfl, ?_⟩
    refine g_gt_i q1.1 rfl ?_
    refine g_gt_i q1.2.2.1 rfl ?_
    refine g_cs_i c_T_numberOf (fun oc h2 hp => ?_)
    obtain ⟨rfl, rfl⟩ := hp
    refine ⟨_, rfl, ?_⟩
    refine g_cv_i q1.1 (c_Q_addNumber q1) (fun oc h3 hp => ?_)
    obtain ⟨rfl, q3, f3⟩ := hp
    refine ⟨_, rfl, ?_⟩
    refine g_gt_i q3.1 rfl ?_
    refine g_pt_i q3.2.2.1 (Nat.le_of_ble_eq_true rfl) rfl rfl ?_
    rw [o_ap_ap] at q3
    have f4 : g_Fr (a + 3) (a + 4) h3 (g_up h3 (a + 3) (.inr (4, [.ref (a + 3 + 1), .ref (a + 3 + 2), .ref (a + 3 + 3), .int r.2.1, .int m.2.2.2.2]))) := g_Fr_up (by omega) (by omega)
    exact ⟨rfl, ⟨(f4.2 a (by omega)).trans q3.1, g_I_Fr q3.2.1 f4 (by omega), g_up_eq, o_L_Fr q3.2.2.2.1 f4 (by omega), o_L_Fr q3.2.2.2.2.1 f4 (by omega), o_V_Fr q3.2.2.2.2.2 f4 (by omega)⟩, g_Fr_tr f1 (g_Fr_tr f3 (g_Fr_wd f4 (by omega) (by omega)))⟩
  rw [if_neg q]
  refine g_br_i (fun q => ?_) (fun q => ?_)
  · rw [if_pos q]
    refine g_cv_i hQ.1 (c_Q_addLoad hQ) (fun oc h1 hp => ?_)
    obtain ⟨rfl, q1, f1⟩ := hp
    refine ⟨_, rfl, ?_⟩
    exact ⟨rfl, q1, f1⟩
  rw [if_neg q]
  refine g_br_i (fun q => ?_) (fun q => ?_)
  · rw [if_pos q]
    refine g_cv_i hQ.1 (c_Q_addStore hQ) (fun oc h1 hp => ?_)
    obtain ⟨rfl, q1, f1⟩ := hp
    refine ⟨_, rfl, ?_⟩
    exact ⟨rfl, q1, f1⟩
  rw [if_neg q]
  refine g_cv_i hQ.1 (c_Q_addKind hQ) (fun oc h1 hp => ?_)
  obtain ⟨rfl, q1, f1⟩ := hp
  refine ⟨_, rfl, ?_⟩
  refine g_gt_i q1.1 rfl ?_
  refine g_gt_i q1.2.2.1 rfl ?_
  refine g_cv_i q1.1 (c_Q_addNumber q1) (fun oc h3 hp => ?_)
  obtain ⟨rfl, q3, f3⟩ := hp
  refine ⟨_, rfl, ?_⟩
  refine g_gt_i q3.1 rfl ?_
  refine g_pt_i q3.2.2.1 (Nat.le_of_ble_eq_true rfl) rfl rfl ?_
  rw [o_ap_ap] at q3
  have f4 : g_Fr (a + 3) (a + 4) h3 (g_up h3 (a + 3) (.inr (4, [.ref (a + 3 + 1), .ref (a + 3 + 2), .ref (a + 3 + 3), .int m.2.2.2.1, .int r.2.1]))) := g_Fr_up (by omega) (by omega)
  exact ⟨rfl, ⟨(f4.2 a (by omega)).trans q3.1, g_I_Fr q3.2.1 f4 (by omega), g_up_eq, o_L_Fr q3.2.2.2.1 f4 (by omega), o_L_Fr q3.2.2.2.2.1 f4 (by omega), o_V_Fr q3.2.2.2.2.2 f4 (by omega)⟩, g_Fr_tr f1 (g_Fr_tr f3 (g_Fr_wd f4 (by omega) (by omega)))⟩
