/-! the sum; Packer.fill -/
def e_md (x : Int32) : Int32 := x - x / 255 * 255
def e_pq : Int32 → Int32 → List Int32 → Int32 × Int32
  | p, q, [] => (p, q)
  | p, q, x :: t => e_pq (e_md (p + x)) (e_md (q + e_md (p + x))) t
def e_sum (xs : List Int32) : Int32 := ((e_pq 0 0 xs).1 <<< ((8 : Int32) &&& 31)) + (e_pq 0 0 xs).2
theorem l_drop {α : Type} {xs : List α} {i : Nat} (h : i < xs.length) : ∃ x, xs[i]? = some x ∧ xs.drop i = x :: xs.drop (i + 1) := ⟨xs[i], List.getElem?_eq_getElem h, List.drop_eq_getElem_cons h⟩
theorem v_at_some {xs : List Int32} {i : Nat} {x : Int32} (hl : xs.length < 2 ^ 31) (h : xs[i]? = some x) : v_at xs (nI i) = x := by
  have hi : i < xs.length := (List.getElem?_eq_some_iff.mp h).1
  have := v_at_get hl hi
  rw [h] at this
  exact (Option.some.inj this).symm
theorem x_T_sum {l : Launch} {h : g_H} {a cap : Nat} {xs : List Int32} (hI : g_I h a cap xs) : ∀ (d i : Nat) (p q : Int32), xs.length - i = d → i ≤ xs.length →
    g_X l J_T_sumOf 7 [some (.ref a), some (.int (nI xs.length)), some (.int p), some (.int q), some (.int (nI i))] [] h (fun oc hE => oc = .inl (some (.int (((e_pq p q (xs.drop i)).1 <<< ((8 : Int32) &&& 31)) + (e_pq p q (xs.drop i)).2))) ∧ hE = h) := by
  have hl := g_I_len hI
  intro d
  induction d with
  | zero =>
    intro i p q hd hi
    refine g_go ok_T_sumOf [7] 60 ?_
    refine g_br_t (show nI xs.length ≤ nI i from nI_le (by omega) (by omega)) ?_
    rw [List.drop_eq_nil_of_le (by omega)]
    exact ⟨rfl, rfl⟩
  | succ d ih =>
    intro i p q hd hi
    obtain ⟨x, hx, hdr⟩ := l_drop (xs := xs) (i := i) (by omega)
    refine g_go ok_T_sumOf [7] 60 ?_
    refine g_br_f (show ¬ nI xs.length ≤ nI i from nI_ge (by omega) (by omega)) ?_
    refine g_cv_i (g_I_ty hI) (c_I_at hI) (fun oc h1 hp => ?_)
    obtain ⟨rfl, rfl⟩ := hp
    rw [v_at_some (by omega) hx]
    refine ⟨_, rfl, ?_⟩
    refine And.intro (by decide) ?_
    refine And.intro (by decide) ?_
    have := ih (i + 1) (e_md (p + x)) (e_md (q + e_md (p + x))) (by omega) (by omega)
    rw [← nI_1] at this
    rw [hdr]
    exact this
theorem c_T_sumOf {l : Launch} {h : g_H} {a cap : Nat} {xs : List Int32} {n : Int32} (hI : g_I h a cap xs) (hn : n = nI xs.length) : g_Run l J_T_sumOf [.ref a, .int n] h (fun oc hE => oc = .inl (some (.int (e_sum xs))) ∧ hE = h) := by
  subst hn
  refine go_T_sumOf [7] 20 ?_
  exact x_T_sum hI xs.length 0 0 0 rfl (Nat.zero_le _)
def e_pre (c k : Int32) : List Int32 × Int32 := if ¬ k = 0 ∨ ¬ c < 16 then (e_fl c, 1) else ([], c)
def e_rows : List o_Rw → o_Mm → Int32 → List Int32
  | [], _, c => e_fl c
  | r :: t, m, c => (e_pre c r.1).1 ++ ((e_row m (e_pre c r.1).2 r).1 ++ e_rows t (e_row m (e_pre c r.1).2 r).2.1 (e_row m (e_pre c r.1).2 r).2.2)
def e_fin (x : List Int32) : List Int32 := o_ap x [e_sum x >>> ((8 : Int32) &&& 31), e_sum x &&& 255]
def e_in (o t : Int32) (rs : List o_Rw) : List Int32 := e_fin (o_ap [] (o :: (e_word t ++ (nI rs.length :: e_rows rs ((0, 0), (0, 0), [], 0, t) 1))))
theorem o_at {rs : List o_Rw} {i : Nat} {r : o_Rw} (f : o_Rw → Int32) (hl : rs.length < 2 ^ 31) (h : rs[i]? = some r) : v_at (rs.map f) (nI i) = f r := v_at_some (by simpa using hl) (by simp [h])
theorem x_Q_fill {l : Launch} {a b : Nat} {rs : List o_Rw} {o t : Int32} {hh : g_H} (hB : o_B hh b rs o t) (hab : a + 9 ≤ b ∨ b + 7 ≤ a) : ∀ (d i : Nat) (ins : List Int32) (m : o_Mm) (c : Int32) (h : g_H), rs.length - i = d → i ≤ rs.length → o_Q h a ins m c → g_Fr a (a + 9) hh h →
    g_X l J_Q_fill 53 [some (.ref a), some (.ref b), some (.int (nI i))] [] h (fun oc hE => oc = .inl none ∧ (∃ m', o_Q hE a (e_fin (o_ap ins (e_rows (rs.drop i) m c))) m' 1) ∧ g_Fr a (a + 9) hh hE) := by
  have hl := o_B_len hB
  intro d
  induction d with
  | zero =>
    intro i ins m c h hd hi hQ hF
    have hB1 := o_B_Fr hB hF (by omega)
    refine g_go ok_Q_fill [53] 80 ?_
    refine g_cv_i (o_B_ty hB1) (c_B_size hB1) (fun oc h1 hp => ?_)
    obtain ⟨rfl, rfl⟩ := hp
    refine ⟨_, rfl, ?_⟩
    refine g_br_t (show nI rs.length ≤ nI i from nI_le (by omega) (by omega)) ?_
    refine g_cv_i hQ.1 (c_Q_addBranches hQ) (fun oc h2 hp => ?_)
    obtain ⟨rfl, q2, f2⟩ := hp
    refine ⟨_, rfl, ?_⟩
    refine g_gt_i q2.1 rfl ?_
    refine g_gt_i q2.1 rfl ?_
    refine g_cv_i (g_I_ty q2.2.1) (c_I_size q2.2.1) (fun oc h3 hp => ?_)
    obtain ⟨rfl, rfl⟩ := hp
    refine ⟨_, rfl, ?_⟩
    refine g_cs_i (c_T_sumOf q2.2.1 rfl) (fun oc h3 hp => ?_)
    obtain ⟨rfl, rfl⟩ := hp
    refine ⟨_, rfl, ?_⟩
    refine g_gt_i q2.1 rfl ?_
    refine g_cv_i (g_I_ty q2.2.1) (q_add q2) (fun oc h4 hp => ?_)
    obtain ⟨⟨b4, rfl⟩, q4, f4⟩ := hp
    refine ⟨_, rfl, ?_⟩
    refine g_gt_i q4.1 rfl ?_
    refine g_cv_i (g_I_ty q4.2.1) (q_add q4) (fun oc h5 hp => ?_)
    obtain ⟨⟨b5, rfl⟩, q5, f5⟩ := hp
    refine ⟨_, rfl, ?_⟩
    refine ⟨rfl, ⟨m, ?_⟩, g_Fr_tr hF (g_Fr_tr f2 (g_Fr_tr f4 f5))⟩
    rw [List.drop_eq_nil_of_le (by omega)]
    rw [o_ap_ap] at q5
    exact q5
  | succ d ih =>
    intro i ins m c h hd hi hQ hF
    obtain ⟨r, hr, hdr⟩ := l_drop (xs := rs) (i := i) (by omega)
    have hins := (g_I_len hQ.2.1).1
    have hB1 := o_B_Fr hB hF (by omega)
    -- from 82 on, with what is flushed
    have t1 : ∀ (ins1 : List Int32) (c1 : Int32) (h1 : g_H), o_Q h1 a ins1 m c1 → g_Fr a (a + 9) hh h1 → ins1 = o_ap ins (e_pre c r.1).1 → c1 = (e_pre c r.1).2 →
        g_X l J_Q_fill 82 [some (.ref a), some (.ref b), some (.int (nI i))] [] h1 (fun oc hE => oc = .inl none ∧ (∃ m', o_Q hE a (e_fin (o_ap ins (e_rows (rs.drop i) m c))) m' 1) ∧ g_Fr a (a + 9) hh hE) := by
      intro ins1 c1 h1 q1 f1 e1 e2
      have hB2 := o_B_Fr hB f1 (by omega)
      refine g_go ok_Q_fill [53] 80 ?_
      refine g_cv_i (o_B_ty hB2) (c_B_kind hB2) (fun oc h3 hp => ?_)
      obtain ⟨rfl, rfl⟩ := hp
      rw [o_at _ (by omega) hr]
      refine ⟨_, rfl, ?_⟩
      refine g_cv_i (o_B_ty hB2) (c_B_a hB2) (fun oc h3 hp => ?_)
      obtain ⟨rfl, rfl⟩ := hp
      rw [o_at _ (by omega) hr]
      refine ⟨_, rfl, ?_⟩
      refine g_cv_i (o_B_ty hB2) (c_B_b hB2) (fun oc h3 hp => ?_)
      obtain ⟨rfl, rfl⟩ := hp
      rw [o_at _ (by omega) hr]
      refine ⟨_, rfl, ?_⟩
      refine g_cv_i q1.1 (c_Q_addRow q1) (fun oc h4 hp => ?_)
      obtain ⟨rfl, q4, f4⟩ := hp
      refine ⟨_, rfl, ?_⟩
      have := ih (i + 1) _ _ _ h4 (by omega) (by omega) q4 (g_Fr_tr f1 f4)
      rw [← nI_1, e1, e2, o_ap_ap, o_ap_ap] at this
      rw [hdr]
      exact this
    refine g_go ok_Q_fill [82] 80 ?_
    refine g_cv_i (o_B_ty hB1) (c_B_size hB1) (fun oc h1 hp => ?_)
    obtain ⟨rfl, rfl⟩ := hp
    refine ⟨_, rfl, ?_⟩
    refine g_br_f (show ¬ nI rs.length ≤ nI i from nI_ge (by omega) (by omega)) ?_
    refine g_cv_i (o_B_ty hB1) (c_B_kind hB1) (fun oc h1 hp => ?_)
    obtain ⟨rfl, rfl⟩ := hp
    rw [o_at _ (by omega) hr]
    refine ⟨_, rfl, ?_⟩
    refine g_br_i (fun q => ?_) (fun q => ?_)
    · refine g_cv_i hQ.1 (c_Q_addBranches hQ) (fun oc h2 hp => ?_)
      obtain ⟨rfl, q2, f2⟩ := hp
      refine ⟨_, rfl, ?_⟩
      exact t1 _ _ h2 q2 (g_Fr_tr hF f2) (by unfold e_pre; rw [if_pos (Or.inl q)]) (by unfold e_pre; rw [if_pos (Or.inl q)])
    · refine g_gt_i hQ.1 rfl ?_
      refine g_br_i (fun q2 => ?_) (fun q2 => ?_)
      · have e : e_pre c r.1 = ([], c) := by
          unfold e_pre
          rw [if_neg]
          rintro (z | z)
          · exact q z
          · exact z q2
        exact t1 _ _ _ hQ hF (by rw [e, o_ap_nil hins]) (by rw [e])
      · refine g_cv_i hQ.1 (c_Q_addBranches hQ) (fun oc h2 hp => ?_)
        obtain ⟨rfl, q3, f3⟩ := hp
        refine ⟨_, rfl, ?_⟩
        exact t1 _ _ h2 q3 (g_Fr_tr hF f3) (by unfold e_pre; rw [if_pos (Or.inr q2)]) (by unfold e_pre; rw [if_pos (Or.inr q2)])
theorem c_Q_fill {l : Launch} {h : g_H} {a b : Nat} {ins : List Int32} {m : o_Mm} {rs : List o_Rw} {o t : Int32} (hQ : o_Q h a ins m 1) (hB : o_B h b rs o t) (hab : a + 9 ≤ b ∨ b + 7 ≤ a) : g_Run l J_Q_fill [.ref a, .ref b] h (fun oc hE => oc = .inl none ∧ (∃ m', o_Q hE a (e_in o t rs) m' 1) ∧ g_Fr a (a + 9) h hE) := by
  have hins := g_I_len hQ.2.1
  refine go_Q_fill [53] 80 ?_
  refine g_gt_i hQ.1 rfl ?_
  refine g_cv_i (g_I_ty hQ.2.1) (c_I_shorten hQ.2.1) (fun oc h1 hp => ?_)
  obtain ⟨rfl, i1, f1⟩ := hp
  rw [v_cut_0 (by omega)] at i1
  refine ⟨_, rfl, ?_⟩
  have b1 := (f1.2 a (by omega)).trans hQ.1
  have m1 := o_M_Fr hQ.2.2 f1 (by omega)
  have B1 := o_B_Fr hB f1 (by omega)
  refine g_gt_i b1 rfl ?_
  refine g_cv_i (o_B_ty B1) (c_B_time B1) (fun oc h2 hp => ?_)
  obtain ⟨rfl, rfl⟩ := hp
  refine ⟨_, rfl, ?_⟩
  refine g_cv_i m1.1 (c_M_begin m1) (fun oc h3 hp => ?_)
  obtain ⟨rfl, m3, f3⟩ := hp
  refine ⟨_, rfl, ?_⟩
  have q3 : o_Q h3 a [] ((0, 0), (0, 0), [], 0, t) 1 := ⟨(f3.2 a (by omega)).trans b1, g_I_Fr i1 f3 (by omega), m3⟩
  have F3 : g_Fr a (a + 9) h h3 := g_Fr_tr (g_Fr_wd f1 (by omega) (by omega)) (g_Fr_wd f3 (by omega) (by omega))
  have B3 := o_B_Fr hB F3 (by omega)
  refine g_gt_i q3.1 rfl ?_
  refine g_cv_i (o_B_ty B3) (c_B_owner B3) (fun oc h4 hp => ?_)
  obtain ⟨rfl, rfl⟩ := hp
  refine ⟨_, rfl, ?_⟩
  refine g_cv_i (g_I_ty q3.2.1) (q_add q3) (fun oc h4 hp => ?_)
  obtain ⟨⟨b4, rfl⟩, q4, f4⟩ := hp
  refine ⟨_, rfl, ?_⟩
  have B4 := o_B_Fr B3 f4 (by omega)
  refine g_cv_i (o_B_ty B4) (c_B_time B4) (fun oc h5 hp => ?_)
  obtain ⟨rfl, rfl⟩ := hp
  refine ⟨_, rfl, ?_⟩
  refine g_cv_i q4.1 (c_Q_addWord q4) (fun oc h5 hp => ?_)
  obtain ⟨rfl, q5, f5⟩ := hp
  refine ⟨_, rfl, ?_⟩
  have B5 := o_B_Fr B4 f5 (by omega)
  refine g_gt_i q5.1 rfl ?_
  refine g_cv_i (o_B_ty B5) (c_B_size B5) (fun oc h6 hp => ?_)
  obtain ⟨rfl, rfl⟩ := hp
  refine ⟨_, rfl, ?_⟩
  refine g_cv_i (g_I_ty q5.2.1) (q_add q5) (fun oc h6 hp => ?_)
  obtain ⟨⟨b6, rfl⟩, q6, f6⟩ := hp
  refine ⟨_, rfl, ?_⟩
  have := x_Q_fill (l := l) hB hab rs.length 0 _ _ _ h6 rfl (Nat.zero_le _) q6 (g_Fr_tr F3 (g_Fr_tr f4 (g_Fr_tr f5 f6)))
  rw [o_ap_ap, o_ap_ap, o_ap_ap] at this
  exact this
