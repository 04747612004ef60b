/-! TracePacksModel.getRows: branches, stores, times -/
theorem n_nb : ∀ f, f < 32 → (if 15 < f then 4 else if 7 < f then 3 else if 3 < f then 2 else if 1 < f then 1 else 0) ≤ 4 ∧ d_bt 4 f = d_bt (if 15 < f then 4 else if 7 < f then 3 else if 3 < f then 2 else if 1 < f then 1 else 0) f ∧ ∀ j, j < (if 15 < f then 4 else if 7 < f then 3 else if 3 < f then 2 else if 1 < f then 1 else 0) → 2 ^ (j + 1) ≤ f := by decide
theorem n_bit : ∀ f, f < 32 → ∀ j, j < 4 → (nI f >>> (nI j &&& 31)) &&& 1 = nI (f / 2 ^ j % 2) := by decide
theorem n_15 : ∀ f, f < 32 → nI f &&& 15 = nI (f % 16) := by decide
theorem n_31 : ∀ β, β < 256 → nI β &&& 31 = nI (β % 32) := by decide +kernel
theorem n_sr5 : ∀ β, β < 256 → nI β >>> ((5 : Int32) &&& 31) = nI (β / 32) := by decide +kernel
section
variable {l : Launch} {a : Nat} {b0 : Int32} {hh : g_H} {F0 : Nat → Int32} {A0 : Nat → List Int32} {bs : List Int32} {P : g_P} {gs : List (o_Rw × Int32)}
set_option maxRecDepth 100000 in
set_option maxHeartbeats 4000000 in
theorem x_g_bad {c11 : Int32} {v12 : Int32} {fv : Nat} {m : o_Mm} {c8 c10 : Option Value} {F : Nat → Int32} {A : Nat → List Int32} {h : g_H} {k : Nat} {vs : List Int32} {gs2 : List (o_Rw × Int32)} (kb : z_kB l a hh F0 A0 bs P) (hI : z_gI a hh F0 A0 h F A bs k vs gs2) (hg : F 39 = 0) : g_X l J_Z_getRows 133 (z_K a b0 m c8 (some (.int (nI fv))) c10 (some (.int c11)) (some (.int v12))) [] h P := by
  refine g_go ok_Z_getRows [473] 60 ?_
  refine g_br_i (fun q => ?_) (fun q => ?_)
  · exact kb _ _ _ _ _ _ _ hI hg
  · refine g_gt_i hI.1.1 rfl ?_
    refine g_br_t hg ?_
    exact kb _ _ _ _ _ _ _ hI hg
set_option maxRecDepth 100000 in
set_option maxHeartbeats 4000000 in
theorem x_g_bits {m : o_Mm} {fv n k : Nat} {c8 c10 : Option Value} {c11 : Int32} (hfv : fv < 32) (hn4 : n ≤ 4) (hn : d_bt 4 fv = d_bt n fv) (hj : ∀ j, j < n → 2 ^ (j + 1) ≤ fv) (kk : z_kk l a b0 hh F0 A0 bs P gs (some (m, d_bt 4 fv, bs.drop k))) : ∀ (j : Nat) (pre : List o_Rw) (F : Nat → Int32) (A : Nat → List Int32) (h : g_H), j ≤ n → d_bt 4 fv = pre ++ d_bt j fv → z_gI a hh F0 A0 h F A bs k m.2.2.1 (gs ++ pre.map (fun w => (w, m.2.2.2.2))) → F 39 = 1 →
    g_X l J_Z_getRows 133 (z_K a b0 m c8 (some (.int (nI fv))) c10 (some (.int c11)) (some (.int (nI j - 1)))) [] h P := by
  intro j
  induction j with
  | zero =>
    intro pre F A h hjn hpre hI hg
    refine g_go ok_Z_getRows [473] 60 ?_
    refine g_br_t (by decide) ?_
    have e : d_bt 4 fv = pre := by rw [hpre]; exact List.append_nil _
    have hl := hI.2.2.2.1.2.1
    rw [List.length_append, List.length_map] at hl
    unfold z_kk at kk
    simp only at kk
    rw [e, if_pos hl] at kk
    exact kk _ _ _ _ _ _ _ _ _ rfl hI hg
  | succ j ih =>
    intro pre F A h hjn hpre hI hg
    refine g_go ok_Z_getRows [133] 60 ?_
    refine g_br_f (show ¬ nI (j + 1) - 1 < 0 by rw [nI_pred]; exact nI_nlt (b := 0) (by omega) (by omega)) ?_
    refine g_gt_i hI.1.1 rfl ?_
    refine g_br_f (show ¬ F 39 = 0 by rw [hg]; decide) ?_
    refine g_cv_i hI.1.1 (c_g_get (0, (nI fv >>> ((nI (j + 1) - 1) &&& 31)) &&& 1, 0) m.2.2.2.2 hI) (fun oc h2 hp => ?_)
    obtain ⟨rfl, F2, A2, hp⟩ := hp
    refine ⟨_, rfl, ?_⟩
    have eb : d_bt (j + 1) fv = (0, nI (fv / 2 ^ j % 2), 0) :: d_bt j fv := by
      simp only [d_bt]
      rw [if_pos (hj j (by omega))]
      rfl
    rcases hp with ⟨q2, i3, g3⟩ | ⟨q2, i3, g3⟩
    · have ev : (nI fv >>> ((nI (j + 1) - 1) &&& 31)) &&& 1 = nI (fv / 2 ^ j % 2) := by
        rw [nI_pred]
        exact n_bit fv hfv j (by omega)
      rw [ev] at i3
      have key := ih (pre ++ [(0, nI (fv / 2 ^ j % 2), 0)]) F2 A2 h2 (by omega) (by rw [hpre, eb]; simp) (by rw [List.map_append, ← List.append_assoc]; exact i3) (g3.trans hg)
      rw [show nI j - 1 = nI (j + 1) - 1 + (-1) by rw [nI_pred, Int32.sub_eq_add_neg]] at key
      exact key
    · refine x_g_bad (z_kk_f kk ?_) i3 g3
      rw [List.length_append, List.length_map] at q2
      rw [hpre, eb]
      simp
      omega
set_option maxRecDepth 100000 in
set_option maxHeartbeats 4000000 in
theorem x_g_branch {m : o_Mm} {fv k : Nat} {F : Nat → Int32} {A : Nat → List Int32} {h : g_H} {c8 c12 : Option Value} {c10 : Int32} {c11 : Option Value} (hfv : fv < 32) (hI : z_gI a hh F0 A0 h F A bs k m.2.2.1 gs) (kk : z_kk l a b0 hh F0 A0 bs P gs (if 1 < fv then some (m, d_bt 4 fv, bs.drop k) else none)) : g_X l J_Z_getRows 68 (z_K a b0 m c8 (some (.int (nI fv))) (some (.int c10)) c11 c12) [] h P := by
  obtain ⟨h1, h2, h3⟩ := n_nb fv hfv
  have t111 : ∀ n : Nat, n = (if 15 < fv then 4 else if 7 < fv then 3 else if 3 < fv then 2 else if 1 < fv then 1 else 0) → g_X l J_Z_getRows 111 (z_K a b0 m c8 (some (.int (nI fv))) (some (.int c10)) c11 c12) [.int (nI n)] h P := by
    intro n hn
    rw [← hn] at h1 h2 h3
    refine g_go ok_Z_getRows [133] 60 ?_
    by_cases q : 1 < fv
    · have hn0 : 0 < n := by
        rw [hn]
        split <;> (try split) <;> (try split) <;> (try split) <;> omega
      rw [if_pos q] at kk
      refine g_br_f (show ¬ nI n ≤ 0 from nI_ge (a := 0) (by omega) (by omega)) ?_
      refine g_pt_j (z_fs a (z_u F 39 1)) hI.1.1 (Nat.le_of_ble_eq_true rfl) rfl rfl rfl ?_
      have i1 := z_gI_39 1 hI
      exact x_g_bits hfv h1 h2 h3 kk n [] _ _ _ (Nat.le_refl _) h2 (by rw [List.map_nil, List.append_nil]; exact i1) rfl
    · have hn0 : n = 0 := by
        rw [hn, if_neg (by omega), if_neg (by omega), if_neg (by omega), if_neg (by omega)]
      rw [if_neg q] at kk
      refine g_br_t (show nI n ≤ 0 by rw [hn0]; decide) ?_
      refine g_pt_j (z_fs a (z_u F 39 0)) hI.1.1 (Nat.le_of_ble_eq_true rfl) rfl rfl rfl ?_
      exact x_g_bad kk (z_gI_39 0 hI) rfl
  refine g_go ok_Z_getRows [111] 60 ?_
  by_cases q1 : 15 < fv
  · refine g_br_f (show ¬ nI fv ≤ 15 from nI_ge (a := 15) q1 (by omega)) ?_
    exact t111 4 (by rw [if_pos q1])
  refine g_br_t (show nI fv ≤ 15 from nI_le (b := 15) (by omega) (by omega)) ?_
  by_cases q2 : 7 < fv
  · refine g_br_f (show ¬ nI fv ≤ 7 from nI_ge (a := 7) q2 (by omega)) ?_
    exact t111 3 (by rw [if_neg q1, if_pos q2])
  refine g_br_t (show nI fv ≤ 7 from nI_le (b := 7) (by omega) (by omega)) ?_
  by_cases q3 : 3 < fv
  · refine g_br_f (show ¬ nI fv ≤ 3 from nI_ge (a := 3) q3 (by omega)) ?_
    exact t111 2 (by rw [if_neg q1, if_neg q2, if_pos q3])
  refine g_br_t (show nI fv ≤ 3 from nI_le (b := 3) (by omega) (by omega)) ?_
  by_cases q4 : 1 < fv
  · refine g_br_f (show ¬ nI fv ≤ 1 from nI_ge (a := 1) q4 (by omega)) ?_
    exact t111 1 (by rw [if_neg q1, if_neg q2, if_neg q3, if_pos q4])
  refine g_br_t (show nI fv ≤ 1 from nI_le (b := 1) (by omega) (by omega)) ?_
  exact t111 0 (by rw [if_neg q1, if_neg q2, if_neg q3, if_neg q4])
set_option maxRecDepth 100000 in
set_option maxHeartbeats 4000000 in
theorem x_g_store {m : o_Mm} {fv k : Nat} {F : Nat → Int32} {A : Nat → List Int32} {h : g_H} {c8 c11 c12 : Option Value} {c10 : Int32} (hfv : fv < 32) (hI : z_gI a hh F0 A0 h F A bs k m.2.2.1 gs) (kk : z_kk l a b0 hh F0 A0 bs P gs (match (if 16 ≤ fv then d_num 5 0 0 (bs.drop k) else some (0, bs.drop k)) with
    | none => none
    | some (x, r) => d_store m fv x r)) : g_X l J_Z_getRows 269 (z_K a b0 m c8 (some (.int (nI fv))) (some (.int c10)) c11 c12) [] h P := by
  have hv8 := hI.2.2.1.2.2
  have e15 := n_15 fv hfv
  -- the value is at hand
  have tB3 : ∀ (p s y : Int32) (vb : Int32) (F1 : Nat → Int32) (A1 : Nat → List Int32) (h1 : g_H) (k1 : Nat), z_kB l a hh F0 A0 bs P → z_gI a hh F0 A0 h1 F1 A1 bs k1 m.2.2.1 gs → F1 39 = 0 → g_X l J_Z_getRows 373 (z_K a b0 (m.1, (p, s), m.2.2) c8 (some (.int (nI fv))) (some (.int c10)) (some (.int vb)) c12) [.int y] h1 P := by
    intro p s y vb F1 A1 h1 k1 kb i1 g1
    refine g_go ok_Z_getRows [473] 60 ?_
    refine g_gt_i i1.1.1 rfl ?_
    refine g_br_t g1 ?_
    refine g_cv_i i1.1.1 (c_g_get (3, p, y) m.2.2.2.2 i1) (fun oc h2 hp => ?_)
    obtain ⟨rfl, F2, A2, hp⟩ := hp
    refine ⟨_, rfl, ?_⟩
    rcases hp with ⟨_, i3, g3⟩ | ⟨_, i3, g3⟩
    · exact kb _ _ _ _ _ _ _ i3 (g3.trans g1)
    · exact kb _ _ _ _ _ _ _ i3 g3
  have tG3 : ∀ (p s y : Int32) (vb : Int32) (F1 : Nat → Int32) (h1 : g_H) (k1 : Nat), z_kk l a b0 hh F0 A0 bs P gs (some ((m.1, (p, s), o_use 8 m.2.2.1 y, m.2.2.2), [(3, p, y)], bs.drop k1)) → z_gI a hh F0 A0 h1 F1 A bs k1 m.2.2.1 gs → F1 39 = 1 → g_X l J_Z_getRows 373 (z_K a b0 (m.1, (p, s), m.2.2) c8 (some (.int (nI fv))) (some (.int c10)) (some (.int vb)) c12) [.int y] h1 P := by
    intro p s y vb F1 h1 k1 kk i1 g1
    refine g_go ok_Z_getRows [473] 60 ?_
    refine g_gt_i i1.1.1 rfl ?_
    refine g_br_f (show ¬ F1 39 = 0 by rw [g1]; decide) ?_
    refine g_cv_i i1.1.1 (c_g_put y i1) (fun oc h2 hp => ?_)
    obtain ⟨rfl, F2, A2, i2, g2⟩ := hp
    refine ⟨_, rfl, ?_⟩
    refine g_cv_i i2.1.1 (c_g_get (3, p, y) m.2.2.2.2 i2) (fun oc h3 hp => ?_)
    obtain ⟨rfl, F3, A3, hp⟩ := hp
    refine ⟨_, rfl, ?_⟩
    rcases hp with ⟨q2, i3, g3⟩ | ⟨q2, i3, g3⟩
    · exact z_kk_g kk q2 _ _ _ _ _ _ _ _ _ rfl i3 (g3.trans (g2.trans g1))
    · exact z_kk_f kk (by simp; omega) _ _ _ _ _ _ _ i3 g3
  -- the value is asked for
  have tB1 : ∀ (p s : Int32) (F1 : Nat → Int32) (h1 : g_H) (k1 : Nat), z_kB l a hh F0 A0 bs P → z_gI a hh F0 A0 h1 F1 A bs k1 m.2.2.1 gs → F1 39 = 0 → g_X l J_Z_getRows 341 (z_K a b0 (m.1, (p, s), m.2.2) c8 (some (.int (nI fv))) (some (.int c10)) (some (.int (nI (fv % 16)))) c12) [] h1 P := by
    intro p s F1 h1 k1 kb i1 g1
    refine g_go ok_Z_getRows [373] 60 ?_
    refine g_br_i (fun q => ?_) (fun q => ?_)
    · refine g_gt_i i1.1.1 rfl ?_
      refine g_br_t g1 ?_
      exact tB3 p s _ _ _ _ _ k1 kb i1 g1
    · refine g_cv_i i1.1.1 (c_g_four i1) (fun oc h2 hp => ?_)
      obtain ⟨F2, k2, i2, hp⟩ := hp
      cases hres : d_word (bs.drop k1) with
      | none =>
        rw [hres] at hp
        obtain ⟨⟨y, rfl⟩, g2⟩ := hp
        exact ⟨_, rfl, tB3 p s _ _ _ _ _ k2 kb i2 g2⟩
      | some w =>
        obtain ⟨x, r⟩ := w
        rw [hres] at hp
        obtain ⟨rfl, g2, _⟩ := hp
        exact ⟨_, rfl, tB3 p s _ _ _ _ _ k2 kb i2 (g2.trans g1)⟩
  have tB0 : ∀ (y : Int32) (F1 : Nat → Int32) (h1 : g_H) (k1 : Nat), z_kB l a hh F0 A0 bs P → z_gI a hh F0 A0 h1 F1 A bs k1 m.2.2.1 gs → F1 39 = 0 → g_X l J_Z_getRows 304 (z_K a b0 m c8 (some (.int (nI fv))) (some (.int c10)) c11 c12) [.int y] h1 P := by
    intro y F1 h1 k1 kb i1 g1
    have t320 : ∀ vb : Int32, vb = nI (fv % 16) → g_X l J_Z_getRows 320 (z_K a b0 (m.1, (m.2.1.1 + y, y), m.2.2) c8 (some (.int (nI fv))) (some (.int c10)) (some (.int vb)) c12) [] h1 P := by
      intro vb hvb
      subst hvb
      refine g_go ok_Z_getRows [341] 60 ?_
      refine g_br_i (fun q => ?_) (fun q => ?_)
      · exact tB1 _ _ F1 h1 k1 kb i1 g1
      · refine g_gt_i i1.1.1 rfl ?_
        refine g_br_i (fun q => ?_) (fun q => ?_)
        · exact tB1 _ _ F1 h1 k1 kb i1 g1
        · refine g_pt_j (z_fs a (z_u F1 39 0)) i1.1.1 (Nat.le_of_ble_eq_true rfl) rfl rfl rfl ?_
          exact tB1 _ _ _ _ k1 kb (z_gI_39 0 i1) rfl
    refine g_go ok_Z_getRows [320] 60 ?_
    exact t320 _ e15
  have tG0 : ∀ (y : Int32) (F1 : Nat → Int32) (h1 : g_H) (k1 x : Nat), fv % 16 < 9 → z_kk l a b0 hh F0 A0 bs P gs (d_store m fv x (bs.drop k1)) → d_place m.2.1.1 m.2.1.2 (Nat.ble 16 fv) x = m.2.1.1 + y → z_gI a hh F0 A0 h1 F1 A bs k1 m.2.2.1 gs → F1 39 = 1 → g_X l J_Z_getRows 304 (z_K a b0 m c8 (some (.int (nI fv))) (some (.int c10)) c11 c12) [.int y] h1 P := by
    intro y F1 h1 k1 x h9 kk hy i1 g1
    unfold d_store at kk
    rw [hy, n_add] at kk
    have t341 : (fv % 16 = 8 ∨ fv % 16 < m.2.2.1.length) → g_X l J_Z_getRows 341 (z_K a b0 (m.1, (m.2.1.1 + y, y), m.2.2) c8 (some (.int (nI fv))) (some (.int c10)) (some (.int (nI (fv % 16)))) c12) [] h1 P := by
      intro hq
      refine g_go ok_Z_getRows [373] 60 ?_
      by_cases q : fv % 16 = 8
      · refine g_br_f (show ¬ ¬ nI (fv % 16) = 8 from fun z => z (by rw [q]; rfl)) ?_
        refine g_cv_i i1.1.1 (c_g_four i1) (fun oc h2 hp => ?_)
        obtain ⟨F2, k2, i2, hp⟩ := hp
        unfold d_val at kk
        rw [if_pos q] at kk
        cases hres : d_word (bs.drop k1) with
        | none =>
          rw [hres] at hp kk
          obtain ⟨⟨y, rfl⟩, g2⟩ := hp
          exact ⟨_, rfl, tB3 _ _ _ _ _ _ _ k2 kk i2 g2⟩
        | some w =>
          obtain ⟨v, r⟩ := w
          rw [hres] at hp kk
          obtain ⟨rfl, g2, rfl⟩ := hp
          exact ⟨_, rfl, tG3 _ _ _ _ _ _ k2 kk i2 (g2.trans g1)⟩
      · have hlt := hq.resolve_left q
        refine g_br_t (show ¬ nI (fv % 16) = 8 from fun z => q ((nI_eq (b := 8) (by omega) (by omega)).mp z)) ?_
        refine g_gt_i i1.1.1 rfl ?_
        refine g_br_f (show ¬ F1 39 = 0 by rw [g1]; decide) ?_
        have l7 : (A 7).length = 9 := i1.1.2.2.2 7 (by omega) (by omega)
        refine g_gt_i i1.1.1 rfl ?_
        refine g_al_i (i1.1.2.2.1 7 (by omega) (by omega)) (by rw [l7]; exact vp_in_nI (by omega) (by omega)) ?_
        rw [nI_clamp (by omega)]
        unfold d_val at kk
        rw [if_neg q, if_pos hlt] at kk
        have ev : (A 7).getD (fv % 16) 0 = m.2.2.1.getD (fv % 16) 0 := by
          obtain ⟨w, hx, -⟩ := l_drop (xs := m.2.2.1) (i := fv % 16) hlt
          have hx2 := hx
          rw [← i1.2.2.1.2.1, List.getElem?_take, if_pos hlt] at hx2
          rw [l_getD hx, l_getD hx2]
        rw [ev]
        exact tG3 _ _ _ _ _ _ k1 kk i1 g1
    have t320 : ∀ vb : Int32, vb = nI (fv % 16) → g_X l J_Z_getRows 320 (z_K a b0 (m.1, (m.2.1.1 + y, y), m.2.2) c8 (some (.int (nI fv))) (some (.int c10)) (some (.int vb)) c12) [] h1 P := by
      intro vb hvb
      subst hvb
      refine g_go ok_Z_getRows [341] 60 ?_
      by_cases q : fv % 16 = 8
      · refine g_br_t (show (8 : Int32) ≤ nI (fv % 16) from nI_le (a := 8) (by omega) (by omega)) ?_
        exact t341 (Or.inl q)
      · refine g_br_f (show ¬ (8 : Int32) ≤ nI (fv % 16) from nI_ge (b := 8) (by omega) (by omega)) ?_
        refine g_gt_i i1.1.1 rfl ?_
        by_cases q2 : fv % 16 < m.2.2.1.length
        · refine g_br_t (show nI (fv % 16) < F1 19 by rw [i1.2.2.1.1]; exact nI_lt q2 (by omega)) ?_
          exact t341 (Or.inr q2)
        · refine g_br_f (show ¬ nI (fv % 16) < F1 19 by rw [i1.2.2.1.1]; exact nI_nlt (by omega) (by omega)) ?_
          refine g_pt_j (z_fs a (z_u F1 39 0)) i1.1.1 (Nat.le_of_ble_eq_true rfl) rfl rfl rfl ?_
          unfold d_val at kk
          rw [if_neg q, if_neg q2] at kk
          exact tB1 _ _ _ _ k1 kk (z_gI_39 0 i1) rfl
    refine g_go ok_Z_getRows [320] 60 ?_
    exact t320 _ e15
  refine g_go ok_Z_getRows [304] 60 ?_
  by_cases q9 : fv % 16 < 9
  · refine g_br_f (show ¬ (9 : Int32) ≤ nI fv &&& 15 by rw [e15]; exact nI_ge (b := 9) (by omega) (by omega)) ?_
    refine g_pt_j (z_fs a (z_u F 39 1)) hI.1.1 (Nat.le_of_ble_eq_true rfl) rfl rfl rfl ?_
    have i1 := z_gI_39 1 hI
    by_cases q1 : 16 ≤ fv
    · refine g_br_f (show ¬ nI fv ≤ 15 from nI_ge (a := 15) (by omega) (by omega)) ?_
      refine g_cv_i i1.1.1 (c_g_dif i1 rfl) (fun oc h1 hp => ?_)
      obtain ⟨F1, k1, i2, hp⟩ := hp
      rw [if_pos q1] at kk
      cases hres : d_num 5 0 0 (bs.drop k) with
      | none =>
        rw [hres] at hp kk
        obtain ⟨⟨y, rfl⟩, g1⟩ := hp
        exact ⟨_, rfl, tB0 y F1 h1 k1 kk i2 g1⟩
      | some w =>
        obtain ⟨x, r⟩ := w
        rw [hres] at hp kk
        obtain ⟨rfl, g1, rfl⟩ := hp
        refine ⟨_, rfl, tG0 _ F1 h1 k1 x q9 kk ?_ i2 g1⟩
        unfold d_place
        rw [if_pos (Nat.ble_eq_true_of_le q1)]
    · refine g_br_t (show nI fv ≤ 15 from nI_le (b := 15) (by omega) (by omega)) ?_
      rw [if_neg q1] at kk
      refine tG0 _ _ _ k 0 q9 kk ?_ i1 rfl
      unfold d_place
      rw [if_neg (fun z => q1 (Nat.le_of_ble_eq_true z))]
  · refine g_br_t (show (9 : Int32) ≤ nI fv &&& 15 by rw [e15]; exact nI_le (a := 9) (by omega) (by omega)) ?_
    refine g_pt_j (z_fs a (z_u F 39 0)) hI.1.1 (Nat.le_of_ble_eq_true rfl) rfl rfl rfl ?_
    have i1 := z_gI_39 0 hI
    have dn : ∀ (x : Nat) (r : List Int32), d_store m fv x r = none := fun x r => by
      unfold d_store d_val
      rw [if_neg (by omega), if_neg (by omega)]
    have kb : z_kB l a hh F0 A0 bs P := by
      cases hres : (if 16 ≤ fv then d_num 5 0 0 (bs.drop k) else some (0, bs.drop k)) with
      | none =>
        rw [hres] at kk
        exact kk
      | some w =>
        obtain ⟨x, r⟩ := w
        rw [hres] at kk
        simp only at kk
        rw [dn] at kk
        exact kk
    by_cases q1 : 16 ≤ fv
    · refine g_br_f (show ¬ nI fv ≤ 15 from nI_ge (a := 15) (by omega) (by omega)) ?_
      refine g_cv_i i1.1.1 (c_Z_nextDifference0 i1.1 rfl) (fun oc h1 hp => ?_)
      obtain ⟨rfl, rfl⟩ := hp
      exact ⟨_, rfl, tB0 _ _ _ k kb i1 rfl⟩
    · refine g_br_t (show nI fv ≤ 15 from nI_le (b := 15) (by omega) (by omega)) ?_
      exact tB0 _ _ _ k kb i1 rfl
end
