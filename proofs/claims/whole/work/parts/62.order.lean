/-! Kept: the order by time -/
theorem c_K_goesBefore {l : Launch} {h : g_H} {a p q i j : Nat} {ks : List o_Kr} {z : Int32} {os ss : List Int32} (hK : o_K h a ks p q z os ss) (hi : i < ks.length) (hj : j < ks.length) : g_Run l J_K_goesBefore [.ref a, .int (nI i), .int (nI j)] h (fun oc hE => oc = .inl (some (.int (if k_gb ks i j = true then 1 else 0))) ∧ hE = h) := by
  have hl := o_K_len hK
  have e : ∀ (f : o_Kr → Int32) (k : Nat), k < ks.length → v_at (ks.map f) (nI k) = (ks.map f).getD k 0 := fun f k hk => v_at_nI (by simp; omega) (by simpa using hk)
  have b0 := hK.1
  have c4 := hK.2.1 4 (by omega)
  have c3 := hK.2.1 3 (by omega)
  unfold k_gb
  refine go_K_goesBefore [] 60 ?_
  refine g_gt_i b0 rfl ?_
  refine g_cv_i (g_I_ty c4) (c_I_at c4) (fun oc h1 hp => ?_)
  obtain ⟨rfl, rfl⟩ := hp
  refine ⟨_, rfl, ?_⟩
  refine g_gt_i b0 rfl ?_
  refine g_cv_i (g_I_ty c4) (c_I_at c4) (fun oc h1 hp => ?_)
  obtain ⟨rfl, rfl⟩ := hp
  refine ⟨_, rfl, ?_⟩
  rw [e _ i hi, e _ j hj]
  refine g_br_i (fun q1 => ?_) (fun q1 => ?_)
  · have q1 : k_tm ks i = k_tm ks j := q1
    rw [if_pos q1]
    refine g_gt_i b0 rfl ?_
    refine g_cv_i (g_I_ty c3) (c_I_at c3) (fun oc h1 hp => ?_)
    obtain ⟨rfl, rfl⟩ := hp
    refine ⟨_, rfl, ?_⟩
    refine g_gt_i b0 rfl ?_
    refine g_cv_i (g_I_ty c3) (c_I_at c3) (fun oc h1 hp => ?_)
    obtain ⟨rfl, rfl⟩ := hp
    refine ⟨_, rfl, ?_⟩
    rw [e _ i hi, e _ j hj]
    refine g_br_i (fun q2 => ?_) (fun q2 => ?_)
    · have q2 : k_ow ks j ≤ k_ow ks i := q2
      rw [if_neg (fun z => absurd (of_decide_eq_true z) (Int32.not_lt.mpr q2))]
      exact ⟨by decide, rfl, rfl⟩
    · have q2 : k_ow ks i < k_ow ks j := Int32.not_le.mp q2
      rw [if_pos (decide_eq_true q2)]
      exact ⟨by decide, rfl, rfl⟩
  · have q1 : ¬ k_tm ks i = k_tm ks j := q1
    rw [if_neg q1]
    refine g_gt_i b0 rfl ?_
    refine g_cv_i (g_I_ty c4) (c_I_at c4) (fun oc h1 hp => ?_)
    obtain ⟨rfl, rfl⟩ := hp
    refine ⟨_, rfl, ?_⟩
    refine g_gt_i b0 rfl ?_
    refine g_cv_i (g_I_ty c4) (c_I_at c4) (fun oc h1 hp => ?_)
    obtain ⟨rfl, rfl⟩ := hp
    refine ⟨_, rfl, ?_⟩
    rw [e _ i hi, e _ j hj]
    refine g_br_i (fun q2 => ?_) (fun q2 => ?_)
    · have q2 : k_tm ks j ≤ k_tm ks i := q2
      rw [if_neg (fun z => absurd (of_decide_eq_true z) (Int32.not_lt.mpr q2))]
      exact ⟨by decide, rfl, rfl⟩
    · have q2 : k_tm ks i < k_tm ks j := Int32.not_le.mp q2
      rw [if_pos (decide_eq_true q2)]
      exact ⟨by decide, rfl, rfl⟩
theorem o_K_ss {h h1 : g_H} {a p q : Nat} {ks : List o_Kr} {z : Int32} {os ss ss' : List Int32} (hK : o_K h a ks p q z os ss) (i1 : g_I h1 q 2000 ss') (f1 : g_Fr q (q + 2) h h1) : o_K h1 a ks p q z os ss' ∧ g_Fr a (a + 17) h h1 := by
  have hpq := hK.2.2.1
  unfold k_pq at hpq
  exact ⟨⟨(f1.2 a (by omega)).trans hK.1, k_cs_Fr hK.2.1 f1 (by omega), hK.2.2.1, g_I_Fr hK.2.2.2.1 f1 (by omega), i1⟩, g_Fr_wd f1 (by omega) (by omega)⟩
theorem o_K_os {h h1 : g_H} {a p q : Nat} {ks : List o_Kr} {z : Int32} {os os' ss : List Int32} (hK : o_K h a ks p q z os ss) (i1 : g_I h1 p 2000 os') (f1 : g_Fr p (p + 2) h h1) : o_K h1 a ks p q z os' ss ∧ g_Fr a (a + 17) h h1 := by
  have hpq := hK.2.2.1
  unfold k_pq at hpq
  exact ⟨⟨(f1.2 a (by omega)).trans hK.1, k_cs_Fr hK.2.1 f1 (by omega), hK.2.2.1, i1, g_I_Fr hK.2.2.2.2 f1 (by omega)⟩, g_Fr_wd f1 (by omega) (by omega)⟩
theorem k_sg_cons {is : List Nat} {s e : Nat} (h : s < e) (he : e ≤ is.length) : ∃ x, is[s]? = some x ∧ k_sg is s e = x :: k_sg is (s + 1) e := by
  obtain ⟨x, hx, hd⟩ := l_drop (xs := is.take e) (i := s) (by rw [List.length_take]; omega)
  refine ⟨x, ?_, hd⟩
  rw [List.getElem?_take, if_pos (by omega)] at hx
  exact hx
theorem k_sg_nil {is : List Nat} {s e : Nat} (h : e ≤ s) : k_sg is s e = [] := by
  apply List.length_eq_zero_iff.mp
  rw [k_sg_len]
  omega
theorem k_at {is : List Nat} {s x : Nat} (hl : is.length ≤ 2000) (hx : is[s]? = some x) : v_at (is.map nI) (nI s) = nI x := v_at_some (by simp; omega) (by rw [List.getElem?_map, hx]; rfl)
theorem x_K_join {l : Launch} {a p q s m e : Nat} {ks : List o_Kr} {z : Int32} {is : List Nat} {hh : g_H} (hlt : ∀ i ∈ is, i < ks.length) (hil : is.length = ks.length) (hsm : s ≤ m) (hme : m ≤ e) (he : e ≤ ks.length) : ∀ (d lf rt i : Nat) (js : List Nat) (c7 : Option Value) (h : g_H), e - i = d → i ≤ e → lf ≤ m → rt ≤ e → (m - lf) + (e - rt) = d → m ≤ rt → js.length + d ≤ 2000 → o_K h a ks p q z (is.map nI) (js.map nI) → g_Fr a (a + 17) hh h →
    g_X l J_K_joinRuns 9 [some (.ref a), some (.int (nI s)), some (.int (nI m)), some (.int (nI e)), some (.int (nI lf)), some (.int (nI rt)), some (.int (nI i)), c7] [] h (fun oc hE => oc = .inl none ∧ o_K hE a ks p q z (is.map nI) ((js ++ k_mg (k_gb ks) d (k_sg is lf m) (k_sg is rt e)).map nI) ∧ g_Fr a (a + 17) hh hE) := by
  intro d
  induction d with
  | zero =>
    intro lf rt i js c7 h hd hi hlf hrt hsum hmr hjs hK hF
    have hl := o_K_len hK
    refine g_go ok_K_joinRuns [9] 60 ?_
    refine g_br_t (show nI e ≤ nI i from nI_le (by omega) (by omega)) ?_
    refine ⟨rfl, ?_, hF⟩
    rw [show k_mg (k_gb ks) 0 (k_sg is lf m) (k_sg is rt e) = [] from by unfold k_mg; rfl, List.append_nil]
    exact hK
  | succ d ih =>
    intro lf rt i js c7 h hd hi hlf hrt hsum hmr hjs hK hF
    have hl := o_K_len hK
    -- behind the choice of a side
    have tA : ∀ (lft : Bool) (x : Nat), is[(if lft = true then lf else rt)]? = some x → (∀ h1 : g_H, o_K h1 a ks p q z (is.map nI) ((js ++ [x]).map nI) → g_Fr a (a + 17) hh h1 → g_X l J_K_joinRuns 9 [some (.ref a), some (.int (nI s)), some (.int (nI m)), some (.int (nI e)), some (.int (nI (if lft = true then lf + 1 else lf))), some (.int (nI (if lft = true then rt else rt + 1))), some (.int (nI (i + 1))), some (.int (if lft = true then 1 else 0))] [] h1 (fun oc hE => oc = .inl none ∧ o_K hE a ks p q z (is.map nI) ((js ++ k_mg (k_gb ks) (d + 1) (k_sg is lf m) (k_sg is rt e)).map nI) ∧ g_Fr a (a + 17) hh hE)) →
        g_X l J_K_joinRuns 59 [some (.ref a), some (.int (nI s)), some (.int (nI m)), some (.int (nI e)), some (.int (nI lf)), some (.int (nI rt)), some (.int (nI i)), some (.int (if lft = true then 1 else 0))] [] h (fun oc hE => oc = .inl none ∧ o_K hE a ks p q z (is.map nI) ((js ++ k_mg (k_gb ks) (d + 1) (k_sg is lf m) (k_sg is rt e)).map nI) ∧ g_Fr a (a + 17) hh hE) := by
      intro lft x hx hk
      have ea : v_add 2000 (js.map nI) (nI x) = (js ++ [x]).map nI := by
        rw [v_add_lt (by simp; omega)]
        simp
      have go1 : ∀ (h1 : g_H), g_I h1 q 2000 (v_add 2000 (js.map nI) (nI x)) → g_Fr q (q + 2) h h1 → o_K h1 a ks p q z (is.map nI) ((js ++ [x]).map nI) ∧ g_Fr a (a + 17) hh h1 := fun h1 i1 f1 => by
        rw [ea] at i1
        obtain ⟨k1, F1⟩ := o_K_ss hK i1 f1
        exact ⟨k1, g_Fr_tr hF F1⟩
      refine g_go ok_K_joinRuns [9] 60 ?_
      refine g_gt_i hK.1 rfl ?_
      refine g_gt_i hK.1 rfl ?_
      cases lft with
      | true =>
        refine g_br_f (by decide) ?_
        refine g_cv_i (g_I_ty hK.2.2.2.1) (c_I_at hK.2.2.2.1) (fun oc h1 hp => ?_)
        obtain ⟨rfl, rfl⟩ := hp
        refine ⟨_, rfl, ?_⟩
        rw [k_at (s := lf) (by omega) hx]
        refine g_cv_i (g_I_ty hK.2.2.2.2) (c_I_add hK.2.2.2.2) (fun oc h2 hp => ?_)
        obtain ⟨rfl, i2, f2⟩ := hp
        refine ⟨_, rfl, ?_⟩
        refine g_br_f (by decide) ?_
        obtain ⟨k2, F2⟩ := go1 h2 i2 f2
        have := hk h2 k2 F2
        rw [← nI_1 i] at this
        simp only [if_true] at this
        rw [← nI_1 lf] at this
        exact this
      | false =>
        refine g_br_t (by decide) ?_
        refine g_cv_i (g_I_ty hK.2.2.2.1) (c_I_at hK.2.2.2.1) (fun oc h1 hp => ?_)
        obtain ⟨rfl, rfl⟩ := hp
        refine ⟨_, rfl, ?_⟩
        rw [k_at (s := rt) (by omega) hx]
        refine g_cv_i (g_I_ty hK.2.2.2.2) (c_I_add hK.2.2.2.2) (fun oc h2 hp => ?_)
        obtain ⟨rfl, i2, f2⟩ := hp
        refine ⟨_, rfl, ?_⟩
        refine g_br_t (by decide) ?_
        obtain ⟨k2, F2⟩ := go1 h2 i2 f2
        have := hk h2 k2 F2
        rw [← nI_1 i] at this
        simp only [Bool.false_eq_true, if_false] at this
        rw [← nI_1 rt] at this
        exact this
    -- the left one is taken
    have tL : ∀ (x : Nat), is[lf]? = some x → lf < m → k_mg (k_gb ks) (d + 1) (k_sg is lf m) (k_sg is rt e) = x :: k_mg (k_gb ks) d (k_sg is (lf + 1) m) (k_sg is rt e) → g_X l J_K_joinRuns 59 [some (.ref a), some (.int (nI s)), some (.int (nI m)), some (.int (nI e)), some (.int (nI lf)), some (.int (nI rt)), some (.int (nI i)), some (.int 1)] [] h (fun oc hE => oc = .inl none ∧ o_K hE a ks p q z (is.map nI) ((js ++ k_mg (k_gb ks) (d + 1) (k_sg is lf m) (k_sg is rt e)).map nI) ∧ g_Fr a (a + 17) hh hE) := by
      intro x hx hlm hmg
      refine tA true x hx (fun h1 k1 F1 => ?_)
      have := ih (lf + 1) rt (i + 1) (js ++ [x]) (some (.int 1)) h1 (by omega) (by omega) (by omega) hrt (by omega) hmr (by simp; omega) k1 F1
      rw [hmg, show js ++ x :: k_mg (k_gb ks) d (k_sg is (lf + 1) m) (k_sg is rt e) = js ++ [x] ++ k_mg (k_gb ks) d (k_sg is (lf + 1) m) (k_sg is rt e) by simp]
      exact this
    have tR : ∀ (x : Nat), is[rt]? = some x → rt < e → k_mg (k_gb ks) (d + 1) (k_sg is lf m) (k_sg is rt e) = x :: k_mg (k_gb ks) d (k_sg is lf m) (k_sg is (rt + 1) e) → g_X l J_K_joinRuns 59 [some (.ref a), some (.int (nI s)), some (.int (nI m)), some (.int (nI e)), some (.int (nI lf)), some (.int (nI rt)), some (.int (nI i)), some (.int 0)] [] h (fun oc hE => oc = .inl none ∧ o_K hE a ks p q z (is.map nI) ((js ++ k_mg (k_gb ks) (d + 1) (k_sg is lf m) (k_sg is rt e)).map nI) ∧ g_Fr a (a + 17) hh hE) := by
      intro x hx hlm hmg
      refine tA false x hx (fun h1 k1 F1 => ?_)
      have := ih lf (rt + 1) (i + 1) (js ++ [x]) (some (.int 0)) h1 (by omega) (by omega) hlf (by omega) (by omega) (by omega) (by simp; omega) k1 F1
      rw [hmg, show js ++ x :: k_mg (k_gb ks) d (k_sg is lf m) (k_sg is (rt + 1) e) = js ++ [x] ++ k_mg (k_gb ks) d (k_sg is lf m) (k_sg is (rt + 1) e) by simp]
      exact this
    refine g_go ok_K_joinRuns [9, 59] 60 ?_
    refine g_br_f (show ¬ nI e ≤ nI i from nI_ge (by omega) (by omega)) ?_
    by_cases q1 : lf < m
    · obtain ⟨x, hx, hsx⟩ := k_sg_cons (is := is) q1 (by omega)
      refine g_br_f (show ¬ nI m ≤ nI lf from nI_ge (by omega) (by omega)) ?_
      by_cases q2 : rt < e
      · obtain ⟨y, hy, hsy⟩ := k_sg_cons (is := is) q2 (by omega)
        refine g_br_f (show ¬ nI e ≤ nI rt from nI_ge (by omega) (by omega)) ?_
        refine g_gt_i hK.1 rfl ?_
        refine g_cv_i (g_I_ty hK.2.2.2.1) (c_I_at hK.2.2.2.1) (fun oc h1 hp => ?_)
        obtain ⟨rfl, rfl⟩ := hp
        refine ⟨_, rfl, ?_⟩
        rw [k_at (by omega) hy]
        refine g_gt_i hK.1 rfl ?_
        refine g_cv_i (g_I_ty hK.2.2.2.1) (c_I_at hK.2.2.2.1) (fun oc h1 hp => ?_)
        obtain ⟨rfl, rfl⟩ := hp
        refine ⟨_, rfl, ?_⟩
        rw [k_at (by omega) hx]
        refine g_cv_i hK.1 (c_K_goesBefore hK (hlt y (List.mem_of_getElem? hy)) (hlt x (List.mem_of_getElem? hx))) (fun oc h1 hp => ?_)
        obtain ⟨rfl, rfl⟩ := hp
        refine ⟨_, rfl, ?_⟩
        by_cases q3 : k_gb ks y x = true
        · rw [if_pos q3]
          refine g_br_t (by decide) ?_
          refine tR y hy q2 ?_
          rw [hsx, hsy]
          simp only [k_mg]
          rw [if_pos q3]
        · rw [if_neg q3]
          refine g_br_f (by decide) ?_
          refine tL x hx q1 ?_
          rw [hsx, hsy]
          simp only [k_mg]
          rw [if_neg q3]
      · refine g_br_t (show nI e ≤ nI rt from nI_le (by omega) (by omega)) ?_
        refine tL x hx q1 ?_
        rw [hsx, k_sg_nil (s := rt) (by omega)]
        simp only [k_mg]
    · refine g_br_t (show nI m ≤ nI lf from nI_le (by omega) (by omega)) ?_
      obtain ⟨y, hy, hsy⟩ := k_sg_cons (is := is) (s := rt) (e := e) (by omega) (by omega)
      refine tR y hy (by omega) ?_
      rw [hsy, k_sg_nil (s := lf) (by omega)]
      simp only [k_mg]
theorem c_K_joinRuns {l : Launch} {h : g_H} {a p q s m e : Nat} {ks : List o_Kr} {z : Int32} {is js : List Nat} (hlt : ∀ i ∈ is, i < ks.length) (hil : is.length = ks.length) (hsm : s ≤ m) (hme : m ≤ e) (he : e ≤ ks.length) (hjs : js.length + (e - s) ≤ 2000) (hK : o_K h a ks p q z (is.map nI) (js.map nI)) : g_Run l J_K_joinRuns [.ref a, .int (nI s), .int (nI m), .int (nI e)] h (fun oc hE => oc = .inl none ∧ o_K hE a ks p q z (is.map nI) ((js ++ k_mg (k_gb ks) (e - s) (k_sg is s m) (k_sg is m e)).map nI) ∧ g_Fr a (a + 17) h hE) := by
  refine go_K_joinRuns [9] 20 ?_
  exact x_K_join hlt hil hsm hme he (e - s) s m s js none h rfl (by omega) hsm hme (by omega) (Nat.le_refl _) hjs hK (g_Fr_rf _ _ _)
