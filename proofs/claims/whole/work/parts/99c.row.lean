/-! TracePacksModel.row -/
theorem w_end_app : ∀ (rs : List o_Rw) (t : Int32) (r : o_Rw), w_end t (rs ++ [r]) = if r.1 = 4 then r.2.1 else w_end t rs
  | [], t, r => rfl
  | x :: rs, t, r => by
    rw [List.cons_append]
    simp only [w_end]
    exact w_end_app rs _ r
theorem w_ok_app : ∀ (rs : List o_Rw) (t : Int32) (r : o_Rw), w_ok t rs → (0 ≤ r.1 ∧ r.1 ≤ 4) → (r.1 = 0 → r.2.1 = 0 ∨ r.2.1 = 1) → (r.1 = 4 → w_end t rs ≤ r.2.1) → w_ok t (rs ++ [r])
  | [], t, r, _, h1, h2, h3 => ⟨h1, h2, h3, trivial⟩
  | x :: rs, t, r, h, h1, h2, h3 => ⟨h.1, h.2.1, h.2.2.1, w_ok_app rs _ r h.2.2.2 h1 h2 h3⟩
def q_row (S : q_S) (k x y : Int32) : q_A := if q_isRow S k x y = true then (if 0 < S.2.2.1.1.length ∧ (S.2.2.2.1.1 ≠ S.2.2.1.2.1 ∨ S.2.2.1.1.length = 100) then (if S.1.length + (1 + (e_sh (e_in S.2.2.1.2.1 S.2.2.1.2.2 S.2.2.1.1)).length) ≤ 16384 then (.inl (nI (q_put1 (q_closed S) k x y).2.2.1.1.length), q_put1 (q_closed S) k x y) else (.inr z_X3, S)) else (.inl (nI (q_put1 S k x y).2.2.1.1.length), q_put1 S k x y)) else (.inr z_X2, S)
section
variable {l : Launch} {h : g_H} {a : Nat} {F : Nat → Int32} {A : Nat → List Int32} {S : q_S}
theorem c_T_rows {k x y : Int32} (hl : l.stackTraces = false) (hT : o_T h a S) : g_Run l J_T_row [.ref a, .int k, .int x, .int y] h (q_P a h (q_row S k x y)) := by
  refine g_Run_mono (c_T_row hl hT) (fun oc hE hp => ?_)
  unfold q_row
  rcases hp with ⟨q, hp⟩ | ⟨q, q1, q2, hp⟩ | ⟨q, q1, q2, hp⟩ | ⟨q, q1, hp⟩
  · rw [if_neg (by rw [q]; decide)]
    exact hp
  · unfold q_fit at q2
    unfold q_cls at q1
    rw [if_pos q, if_pos q1, if_neg q2]
    exact hp
  · unfold q_fit at q2
    unfold q_cls at q1
    rw [if_pos q, if_pos q1, if_pos q2]
    exact hp
  · unfold q_cls at q1
    rw [if_pos q, if_neg q1]
    exact hp
theorem q_isRow_iff {k x y : Int32} : q_isRow S k x y = true ↔ (0 ≤ k ∧ k ≤ 4) ∧ (¬ k = 0 ∨ (x = 0 ∨ x = 1)) ∧ (¬ k = 4 ∨ v_at S.2.1 S.2.2.2.1.1 ≤ x) ∧ (k = 3 ∨ y = 0) := by
  unfold q_isRow
  simp only [Bool.and_eq_true, Bool.or_eq_true, decide_eq_true_eq, and_assoc]
/-- the row is put behind the others -/
theorem x_r_128 {k x y : Int32} {c : String → Int32} {hh : g_H} {c4 c5 : Option Value} (hZ : o_Z h a F A) (hR : z_R F A S) (h0 : F 0 = 0) (hf : g_Fr a (a + 18) hh h) (hr : q_isRow S k x y = true) (hlt : S.2.2.1.1.length < 100) (hco : S.2.2.1.1.length = 0 ∨ S.2.2.2.1.1 = S.2.2.1.2.1) : g_X l J_Z_row 128 [some (.ref a), some (.int k), some (.int x), some (.int y), c4, c5] [] h (z_P a hh c (.inl (nI (q_put1 S k x y).2.2.1.1.length), q_put1 S k x y)) := by
  obtain ⟨⟨p, b⟩, ⟨c1, cc, hcc, c2⟩, ⟨t1, t2, t3⟩, ⟨r, rr⟩, ⟨n1, n2⟩, ⟨kd, th, k1, k2, k3, k4, k5⟩, ⟨⟨ks, s1, s2, s3⟩, s4⟩⟩ := hR
  obtain ⟨i1, i2, i3, i4⟩ := q_isRow_iff.mp hr
  have hrl := r.2.1
  obtain ⟨tc, htc, -⟩ := l_drop (xs := S.2.1) (i := cc) (by omega)
  have hva : v_at S.2.1 S.2.2.2.1.1 = tc := by rw [c2]; exact v_at_some (by omega) htc
  have hgc : S.2.1.getD cc 0 = tc := l_getD htc
  obtain ⟨nc, hnc, htn⟩ := t3 tc (List.mem_of_getElem? htc)
  rw [hva] at i3
  have l2 : (A 2).length = 4 := by rw [t1]; exact t2
  have l3 : (A 3).length = 100 := hZ.2.2.2 3 (by omega) (by omega)
  have l4 : (A 4).length = 100 := hZ.2.2.2 4 (by omega) (by omega)
  have l5 : (A 5).length = 100 := hZ.2.2.2 5 (by omega) (by omega)
  have hF3 : F 3 = nI cc := c1.trans c2
  -- owner and time stand
  have t156 : ∀ (o' t' : Int32) (h1 : g_H) (F1 : Nat → Int32), o' = (if S.2.2.1.1.length = 0 then S.2.2.2.1.1 else S.2.2.1.2.1) → t' = (if S.2.2.1.1.length = 0 then v_at S.2.1 S.2.2.2.1.1 else S.2.2.1.2.2) → F1 6 = o' → F1 7 = t' → (∀ j, j ≠ 6 → j ≠ 7 → F1 j = F j) → o' = nI cc → (∃ n : Nat, n < 2 ^ 31 ∧ t' = nI n) → w_end t' S.2.2.1.1 = tc → w_ok t' S.2.2.1.1 → o_Z h1 a F1 A → g_Fr a (a + 18) hh h1 → g_X l J_Z_row 156 [some (.ref a), some (.int k), some (.int x), some (.int y), c4, c5] [] h1 (z_P a hh c (.inl (nI (q_put1 S k x y).2.2.1.1.length), q_put1 S k x y)) := by
    intro o' t' h1 F1 ho' ht' e6 e7 e hoc htn' hwe hwo z1 f1
    have e5 : F1 5 = nI S.2.2.1.1.length := (e 5 (by omega) (by omega)).trans r.1
    have rc : (F1 5).toNatClampNeg = S.2.2.1.1.length := by rw [e5]; exact nI_clamp (by omega)
    have vr : ∀ n : Nat, n = 100 → vp_in (F1 5) n := fun n hn => by rw [e5]; exact vp_in_nI (by omega) (by omega)
    refine g_go ok_Z_row [221] 80 ?_
    refine g_gt_i z1.1 rfl ?_
    refine g_gt_i z1.1 rfl ?_
    refine g_as_i (xs := A 3) (z1.2.2.1 3 (by omega) (by omega)) (vr _ l3) ?_
    obtain ⟨z2, f2⟩ := z_arr z1 3 (F1 5).toNatClampNeg k (by omega) (by omega)
    refine g_gt_i z2.1 rfl ?_
    refine g_gt_i z2.1 rfl ?_
    refine g_as_i (xs := A 4) (z2.2.2.1 4 (by omega) (by omega)) (vr _ l4) ?_
    obtain ⟨z3, f3⟩ := z_arr z2 4 (F1 5).toNatClampNeg x (by omega) (by omega)
    refine g_gt_i z3.1 rfl ?_
    refine g_gt_i z3.1 rfl ?_
    refine g_as_i (xs := A 5) (z3.2.2.1 5 (by omega) (by omega)) (vr _ l5) ?_
    obtain ⟨z4, f4⟩ := z_arr z3 5 (F1 5).toNatClampNeg y (by omega) (by omega)
    refine g_gt_i z4.1 rfl ?_
    refine g_pt_j (z_fs a (z_u F1 5 (F1 5 + 1))) z4.1 (Nat.le_of_ble_eq_true rfl) rfl rfl rfl ?_
    obtain ⟨z5, f5⟩ := z_fld z4 (z_u F1 5 (F1 5 + 1))
    refine g_gt_i z5.1 rfl ?_
    refine g_pt_j (z_fs a (z_u (z_u F1 5 (F1 5 + 1)) 11 (F1 11 + 1))) z5.1 (Nat.le_of_ble_eq_true rfl) rfl rfl rfl ?_
    obtain ⟨z6, f6⟩ := z_fld z5 (z_u (z_u F1 5 (F1 5 + 1)) 11 (F1 11 + 1))
    have F6 := g_Fr_tr f1 (g_Fr_tr f2 (g_Fr_tr f3 (g_Fr_tr f4 (g_Fr_tr f5 f6))))
    -- the state behind it
    have fin : ∀ (ts' : List Int32) (A7 : Nat → List Int32) (h7 : g_H), ts' = (if k = 4 then v_set S.2.1 S.2.2.2.1.1 x else S.2.1) → A7 2 = ts' → ts'.length = 4 → (∀ x ∈ ts', ∃ n : Nat, n < 2 ^ 31 ∧ x = nI n) → ts'.getD cc 0 = (if k = 4 then x else tc) → (∀ i, i ≠ 2 → A7 i = (z_u (z_u (z_u A 3 ((A 3).set (F1 5).toNatClampNeg k)) 4 ((A 4).set (F1 5).toNatClampNeg x)) 5 ((A 5).set (F1 5).toNatClampNeg y)) i) → o_Z h7 a (z_u (z_u F1 5 (F1 5 + 1)) 11 (F1 11 + 1)) A7 → g_Fr a (a + 18) hh h7 → g_X l J_Z_row 221 [some (.ref a), some (.int k), some (.int x), some (.int y), c4, c5] [] h7 (z_P a hh c (.inl (nI (q_put1 S k x y).2.2.1.1.length), q_put1 S k x y)) := by
      intro ts' A7 h7 hts eA2 hl4 hnn hgd eA7 z7 f7
      have eq1 : q_put1 S k x y = (S.1, ts', (S.2.2.1.1 ++ [(k, x, y)], o', t'), (S.2.2.2.1.1, S.2.2.2.1.2.1, S.2.2.2.1.2.2.1 + 1, S.2.2.2.1.2.2.2), S.2.2.2.2) := by
        unfold q_put1
        rw [← hts, if_pos hlt, ← ho', ← ht']
      refine g_go ok_Z_row [] 40 ?_
      refine g_gt_i z7.1 rfl ?_
      rw [eq1]
      refine z_P_i (c := c) (show F1 5 + 1 = nI (S.2.2.1.1 ++ [(k, x, y)]).length by rw [e5, nI_1]; simp) z7 ?_ ((e 0 (by omega) (by omega)).trans h0) f7
      have ee : ∀ j, j ≠ 5 → j ≠ 6 → j ≠ 7 → j ≠ 11 → (z_u (z_u F1 5 (F1 5 + 1)) 11 (F1 11 + 1)) j = F j := fun j j1 j2 j3 j4 => by
        rw [z_u_ne j4, z_u_ne j1]
        exact e j j2 j3
      have dd : ∀ i, i ≠ 2 → i ≠ 3 → i ≠ 4 → i ≠ 5 → A7 i = A i := fun i i1 i2 i3 i4 => by
        rw [eA7 i i1, z_u_ne i4, z_u_ne i3, z_u_ne i2]
      refine ⟨⟨⟨(ee 1 (by omega) (by omega) (by omega) (by omega)).trans p.1, p.2.1, by rw [dd 1 (by omega) (by omega) (by omega) (by omega)]; exact p.2.2⟩, b⟩, ⟨(ee 3 (by omega) (by omega) (by omega) (by omega)).trans c1, cc, hcc, c2⟩, ⟨eA2, hl4, hnn⟩, ⟨⟨?_, ?_, ?_, ?_, ?_⟩, Or.inr ⟨?_, ?_, ⟨cc, hcc, hoc, ?_⟩, htn', ?_⟩⟩, ⟨?_, (ee 12 (by omega) (by omega) (by omega) (by omega)).trans n2⟩, ⟨kd, th, k1, k2, (ee 13 (by omega) (by omega) (by omega) (by omega)).trans k3, (ee 14 (by omega) (by omega) (by omega) (by omega)).trans k4, k5⟩, ⟨⟨⟨(ee 24 (by omega) (by omega) (by omega) (by omega)).trans ks.1, ks.2.1, fun j hj => by rw [dd (8 + j) (by omega) (by omega) (by omega) (by omega)]; exact ks.2.2 j hj⟩, (ee 22 (by omega) (by omega) (by omega) (by omega)).trans s1, (ee 23 (by omega) (by omega) (by omega) (by omega)).trans s2, (ee 25 (by omega) (by omega) (by omega) (by omega)).trans s3⟩, (ee 21 (by omega) (by omega) (by omega) (by omega)).trans s4⟩⟩
      · show F1 5 + 1 = nI (S.2.2.1.1 ++ [(k, x, y)]).length
        rw [e5, nI_1]
        simp
      · show (S.2.2.1.1 ++ [(k, x, y)]).length ≤ 100
        simp
        omega
      · show (A7 3).take (S.2.2.1.1 ++ [(k, x, y)]).length = _
        rw [eA7 3 (by omega)]
        show ((A 3).set (F1 5).toNatClampNeg k).take _ = _
        rw [rc]
        exact l_putm r.2.2.1 (by omega) rfl
      · show (A7 4).take (S.2.2.1.1 ++ [(k, x, y)]).length = _
        rw [eA7 4 (by omega)]
        show ((A 4).set (F1 5).toNatClampNeg x).take _ = _
        rw [rc]
        exact l_putm r.2.2.2.1 (by omega) rfl
      · show (A7 5).take (S.2.2.1.1 ++ [(k, x, y)]).length = _
        rw [eA7 5 (by omega)]
        show ((A 5).set (F1 5).toNatClampNeg y).take _ = _
        rw [rc]
        exact l_putm r.2.2.2.2 (by omega) rfl
      · show F1 6 = o'
        exact e6
      · show F1 7 = t'
        exact e7
      · show w_end t' (S.2.2.1.1 ++ [(k, x, y)]) = ts'.getD cc 0
        rw [w_end_app, hgd, hwe]
      · show w_ok t' (S.2.2.1.1 ++ [(k, x, y)])
        refine w_ok_app _ _ _ hwo i1 (fun z => i2.resolve_left (fun w => w z)) (fun z => ?_)
        rw [hwe]
        exact i3.resolve_left (fun w => w z)
      · show F1 11 + 1 = S.2.2.2.1.2.2.1 + 1
        rw [e 11 (by omega) (by omega), n1]
    by_cases q4 : k = 4
    · refine g_br_f (show ¬ ¬ k = 4 from fun z => z q4) ?_
      refine g_gt_i z6.1 rfl ?_
      refine g_gt_i z6.1 rfl ?_
      have e3 : F1 3 = nI cc := (e 3 (by omega) (by omega)).trans hF3
      refine g_as_i (xs := A 2) (z6.2.2.1 2 (by omega) (by omega)) (show vp_in (F1 3) _ by rw [e3, l2]; exact vp_in_nI (by omega) (by omega)) ?_
      obtain ⟨z7, f7⟩ := z_arr z6 2 (F1 3).toNatClampNeg x (by omega) (by omega)
      have c3 : (F1 3).toNatClampNeg = cc := by rw [e3]; exact nI_clamp (by omega)
      have hset : v_set S.2.1 S.2.2.2.1.1 x = S.2.1.set cc x := by
        unfold v_set
        rw [c2, if_pos ⟨nI_pos' (by omega), nI_lt (by omega) (by omega)⟩, nI_clamp (by omega)]
      have hx : tc ≤ x := i3.resolve_left (fun w => w q4)
      obtain ⟨nx, hnx, hxn⟩ := nI_of (x := x) (by
        rw [htn] at hx
        intro z
        have := nI_pos' (n := nc) hnc
        rw [Int32.le_iff_toInt_le] at hx this
        rw [Int32.lt_iff_toInt_lt] at z
        omega)
      refine fin (S.2.1.set cc x) _ _ (by rw [if_pos q4, hset]) (show (A 2).set (F1 3).toNatClampNeg x = _ by rw [t1, c3]) (by rw [List.length_set]; exact t2) (fun w hw => ?_) (by rw [if_pos q4]; exact l_getD (List.getElem?_set_self (by omega))) (fun i hi => z_u_ne hi) z7 (g_Fr_tr F6 f7)
      rcases List.mem_or_eq_of_mem_set hw with z | z
      · exact t3 w z
      · exact ⟨nx, hnx, z.trans hxn⟩
    · refine g_br_t q4 ?_
      exact fin S.2.1 (z_u (z_u (z_u A 3 ((A 3).set (F1 5).toNatClampNeg k)) 4 ((A 4).set (F1 5).toNatClampNeg x)) 5 ((A 5).set (F1 5).toNatClampNeg y)) _ (by rw [if_neg q4]) t1 t2 t3 (by rw [if_neg q4]; exact hgc) (fun i _ => rfl) z6 F6
  refine g_go ok_Z_row [156] 60 ?_
  refine g_gt_i hZ.1 rfl ?_
  by_cases q : S.2.2.1.1.length = 0
  · refine g_br_f (show ¬ ¬ F 5 = 0 from fun z => z (by rw [r.1, q]; rfl)) ?_
    refine g_gt_i hZ.1 rfl ?_
    refine g_pt_j (z_fs a (z_u F 6 (F 3))) hZ.1 (Nat.le_of_ble_eq_true rfl) rfl rfl rfl ?_
    obtain ⟨z1, f1⟩ := z_fld hZ (z_u F 6 (F 3))
    refine g_gt_i z1.1 rfl ?_
    refine g_gt_i z1.1 rfl ?_
    refine g_al_i (xs := A 2) (z1.2.2.1 2 (by omega) (by omega)) (show vp_in (F 3) _ by rw [hF3, l2]; exact vp_in_nI (by omega) (by omega)) ?_
    have eg : (A 2).getD (F 3).toNatClampNeg 0 = tc := by rw [hF3, nI_clamp (by omega), t1]; exact hgc
    refine g_pt_j (z_fs a (z_u (z_u F 6 (F 3)) 7 ((A 2).getD (F 3).toNatClampNeg 0))) z1.1 (Nat.le_of_ble_eq_true rfl) rfl rfl rfl ?_
    obtain ⟨z2, f2⟩ := z_fld z1 (z_u (z_u F 6 (F 3)) 7 ((A 2).getD (F 3).toNatClampNeg 0))
    have hnil : S.2.2.1.1 = [] := List.eq_nil_of_length_eq_zero q
    refine t156 (nI cc) tc _ _ (by rw [if_pos q, c2]) (by rw [if_pos q, hva]) ?_ ?_ (fun j j1 j2 => by rw [z_u_ne j2, z_u_ne j1]) rfl ⟨nc, hnc, htn⟩ (by rw [hnil]; rfl) (by rw [hnil]; trivial) z2 (g_Fr_tr hf (g_Fr_tr f1 f2))
    · show F 3 = nI cc
      exact hF3
    · show (A 2).getD (F 3).toNatClampNeg 0 = tc
      exact eg
  · refine g_br_t (show ¬ F 5 = 0 by rw [r.1]; exact nI_ne0 (by omega) (by omega)) ?_
    rcases rr with q' | ⟨q6, q7, ⟨co, hco', ho, hwe⟩, ht, hw⟩
    · exact absurd q' q
    · have hcur := hco.resolve_left q
      have hcc' : co = cc := by
        rw [c2, ho] at hcur
        exact ((nI_eq (by omega) (by omega)).mp hcur).symm
      subst hcc'
      exact t156 S.2.2.1.2.1 S.2.2.1.2.2 _ F (by rw [if_neg q]) (by rw [if_neg q]) q6 q7 (fun _ _ _ => rfl) ho ht (hwe.trans hgc) hw hZ hf
theorem c_Z_row {k x y : Int32} {c : String → Int32} (hc : c z_X2 = 1) (hc2 : c z_X3 = 2) (hZ : o_Z h a F A) (hR : z_R F A S) : g_Run l J_Z_row [.ref a, .int k, .int x, .int y] h (z_P a h c (q_row S k x y)) := by
  unfold q_row
  have R1 : z_R (z_u F 0 0) A S := z_R_0 0 hR
  obtain ⟨z1, f1⟩ := z_fld hZ (z_u F 0 0)
  obtain ⟨-, ⟨c1, cc, hcc, c2⟩, ⟨t1, t2, t3⟩, ⟨r, rr⟩, -⟩ := hR
  have hrl := r.2.1
  obtain ⟨tc, htc, -⟩ := l_drop (xs := S.2.1) (i := cc) (by omega)
  have hva : v_at S.2.1 S.2.2.2.1.1 = tc := by rw [c2]; exact v_at_some (by omega) htc
  have l2 : (A 2).length = 4 := by rw [t1]; exact t2
  have hF3 : F 3 = nI cc := c1.trans c2
  have hri := q_isRow_iff (S := S) (k := k) (x := x) (y := y)
  rw [hva] at hri
  -- right is known
  have t63 : ∀ v : Int32, (v = 1 ∧ q_isRow S k x y = true) ∨ (v = 0 ∧ ¬ q_isRow S k x y = true) → g_X l J_Z_row 63 [some (.ref a), some (.int k), some (.int x), some (.int y), none, none] [.int v] (g_up h a (.inr (10, z_fs a (z_u F 0 0)))) (z_P a h c (if q_isRow S k x y = true then (if 0 < S.2.2.1.1.length ∧ (S.2.2.2.1.1 ≠ S.2.2.1.2.1 ∨ S.2.2.1.1.length = 100) then (if S.1.length + (1 + (e_sh (e_in S.2.2.1.2.1 S.2.2.1.2.2 S.2.2.1.1)).length) ≤ 16384 then (.inl (nI (q_put1 (q_closed S) k x y).2.2.1.1.length), q_put1 (q_closed S) k x y) else (.inr z_X3, S)) else (.inl (nI (q_put1 S k x y).2.2.1.1.length), q_put1 S k x y)) else (.inr z_X2, S))) := by
    intro v hv
    rcases hv with ⟨rfl, hr⟩ | ⟨rfl, hr⟩
    · rw [if_pos hr]
      have t108 : ∀ v : Int32, (v = 1 ∧ (0 < S.2.2.1.1.length ∧ (S.2.2.2.1.1 ≠ S.2.2.1.2.1 ∨ S.2.2.1.1.length = 100))) ∨ (v = 0 ∧ ¬ (0 < S.2.2.1.1.length ∧ (S.2.2.2.1.1 ≠ S.2.2.1.2.1 ∨ S.2.2.1.1.length = 100))) → g_X l J_Z_row 108 [some (.ref a), some (.int k), some (.int x), some (.int y), some (.int 1), none] [.int v] (g_up h a (.inr (10, z_fs a (z_u F 0 0)))) (z_P a h c (if 0 < S.2.2.1.1.length ∧ (S.2.2.2.1.1 ≠ S.2.2.1.2.1 ∨ S.2.2.1.1.length = 100) then (if S.1.length + (1 + (e_sh (e_in S.2.2.1.2.1 S.2.2.1.2.2 S.2.2.1.1)).length) ≤ 16384 then (.inl (nI (q_put1 (q_closed S) k x y).2.2.1.1.length), q_put1 (q_closed S) k x y) else (.inr z_X3, S)) else (.inl (nI (q_put1 S k x y).2.2.1.1.length), q_put1 S k x y))) := by
        intro v hv
        refine g_go ok_Z_row [128] 60 ?_
        rcases hv with ⟨rfl, hq⟩ | ⟨rfl, hq⟩
        · rw [if_pos hq]
          refine g_br_f (by decide) ?_
          refine g_cv_i z1.1 (c_Z_closes z1 R1 (by omega)) (fun oc h1 hp => ?_)
          obtain ⟨⟨F2, A2, z2, e0, hp⟩, f2⟩ := hp
          rcases hp with ⟨q2, rfl, R2⟩ | ⟨q2, rfl, R2⟩
          · unfold q_fit at q2
            rw [if_pos q2]
            refine ⟨_, rfl, ?_⟩
            refine g_br_t (by decide) ?_
            exact x_r_128 z2 R2 e0 (g_Fr_tr f1 f2) hr (by simp [q_closed]) (Or.inl rfl)
          · unfold q_fit at q2
            rw [if_neg q2]
            refine ⟨_, rfl, ?_⟩
            refine g_br_f (by decide) ?_
            refine g_cv_i z2.1 (c_Z_fail z2) (fun oc h3 hq => ?_)
            obtain ⟨rfl, z3, f3⟩ := hq
            refine ⟨_, rfl, ?_⟩
            exact z_P_t (c := c) z3 (z_R_0 2 R2) hc2.symm (g_Fr_tr f1 (g_Fr_tr f2 f3))
        · rw [if_neg hq]
          refine g_br_t (by decide) ?_
          refine x_r_128 z1 R1 rfl f1 hr ?_ ?_
          · by_cases w : S.2.2.1.1.length < 100
            · exact w
            · exact absurd ⟨by omega, Or.inr (by omega)⟩ hq
          · by_cases w : S.2.2.1.1.length = 0
            · exact Or.inl w
            · by_cases w2 : S.2.2.2.1.1 = S.2.2.1.2.1
              · exact Or.inr w2
              · exact absurd ⟨by omega, Or.inl w2⟩ hq
      refine g_go ok_Z_row [108] 60 ?_
      refine g_br_t (by decide) ?_
      refine g_gt_i z1.1 rfl ?_
      by_cases q0 : S.2.2.1.1.length = 0
      · refine g_br_t (show F 5 ≤ 0 by rw [r.1, q0]; decide) ?_
        exact t108 0 (Or.inr ⟨rfl, fun z => absurd z.1 (by omega)⟩)
      · refine g_br_f (show ¬ F 5 ≤ 0 by rw [r.1]; exact nI_nle (by omega) (by omega)) ?_
        rcases rr with q' | ⟨q6, -⟩
        · exact absurd q' q0
        refine g_gt_i z1.1 rfl ?_
        refine g_gt_i z1.1 rfl ?_
        by_cases q1 : S.2.2.2.1.1 = S.2.2.1.2.1
        · refine g_br_f (show ¬ ¬ F 6 = F 3 from fun z => z (by rw [q6, c1, q1])) ?_
          refine g_gt_i z1.1 rfl ?_
          by_cases q2 : S.2.2.1.1.length = 100
          · refine g_br_f (show ¬ ¬ F 5 = 100 from fun z => z (by rw [r.1, q2]; rfl)) ?_
            exact t108 1 (Or.inl ⟨rfl, by omega, Or.inr q2⟩)
          · refine g_br_t (show ¬ F 5 = 100 by rw [r.1]; exact fun z => q2 ((nI_eq (b := 100) (by omega) (by omega)).mp z)) ?_
            exact t108 0 (Or.inr ⟨rfl, fun z => z.2.elim (fun w => w q1) (fun w => q2 w)⟩)
        · refine g_br_t (show ¬ F 6 = F 3 by rw [q6, c1]; exact fun z => q1 z.symm) ?_
          exact t108 1 (Or.inl ⟨rfl, by omega, Or.inl q1⟩)
    · rw [if_neg hr]
      refine g_go ok_Z_row [] 60 ?_
      refine g_br_f (by decide) ?_
      refine g_cv_i z1.1 (c_Z_fail z1) (fun oc h3 hq => ?_)
      obtain ⟨rfl, z3, f3⟩ := hq
      refine ⟨_, rfl, ?_⟩
      exact z_P_t (c := c) z3 (z_R_0 1 R1) hc.symm (g_Fr_tr f1 f3)
  have ew : ((0 : Int64) ≤ k.toInt64 ∧ k.toInt64 ≤ 4) ↔ (0 ≤ k ∧ k ≤ 4) := z_wi (lo := 0) (hi := 4) rfl rfl
  have ew2 : ((0 : Int64) ≤ x.toInt64 ∧ x.toInt64 ≤ 1) ↔ (x = 0 ∨ x = 1) := (z_wi (lo := 0) (hi := 1) rfl rfl).trans (by
    rw [Int32.le_iff_toInt_le, Int32.le_iff_toInt_le, ← Int32.toInt_inj, ← Int32.toInt_inj]
    have e0 : (0 : Int32).toInt = 0 := by decide
    have e1 : (1 : Int32).toInt = 1 := by decide
    rw [e0, e1]
    omega)
  -- the last condition
  have t49 : (0 ≤ k ∧ k ≤ 4) → (¬ k = 0 ∨ (x = 0 ∨ x = 1)) → (¬ k = 4 ∨ tc ≤ x) → g_X l J_Z_row 49 [some (.ref a), some (.int k), some (.int x), some (.int y), none, none] [] (g_up h a (.inr (10, z_fs a (z_u F 0 0)))) (z_P a h c (if q_isRow S k x y = true then (if 0 < S.2.2.1.1.length ∧ (S.2.2.2.1.1 ≠ S.2.2.1.2.1 ∨ S.2.2.1.1.length = 100) then (if S.1.length + (1 + (e_sh (e_in S.2.2.1.2.1 S.2.2.1.2.2 S.2.2.1.1)).length) ≤ 16384 then (.inl (nI (q_put1 (q_closed S) k x y).2.2.1.1.length), q_put1 (q_closed S) k x y) else (.inr z_X3, S)) else (.inl (nI (q_put1 S k x y).2.2.1.1.length), q_put1 S k x y)) else (.inr z_X2, S))) := by
    intro a1 a2 a3
    refine g_go ok_Z_row [63] 60 ?_
    refine g_br_i (fun q => ?_) (fun q => ?_)
    · exact t63 1 (Or.inl ⟨rfl, hri.mpr ⟨a1, a2, a3, Or.inl q⟩⟩)
    · refine g_br_i (fun q2 => ?_) (fun q2 => ?_)
      · exact t63 0 (Or.inr ⟨rfl, fun z => (hri.mp z).2.2.2.elim q q2⟩)
      · exact t63 1 (Or.inl ⟨rfl, hri.mpr ⟨a1, a2, a3, Or.inr (Classical.not_not.mp q2)⟩⟩)
  have t31 : (0 ≤ k ∧ k ≤ 4) → (¬ k = 0 ∨ (x = 0 ∨ x = 1)) → g_X l J_Z_row 31 [some (.ref a), some (.int k), some (.int x), some (.int y), none, none] [] (g_up h a (.inr (10, z_fs a (z_u F 0 0)))) (z_P a h c (if q_isRow S k x y = true then (if 0 < S.2.2.1.1.length ∧ (S.2.2.2.1.1 ≠ S.2.2.1.2.1 ∨ S.2.2.1.1.length = 100) then (if S.1.length + (1 + (e_sh (e_in S.2.2.1.2.1 S.2.2.1.2.2 S.2.2.1.1)).length) ≤ 16384 then (.inl (nI (q_put1 (q_closed S) k x y).2.2.1.1.length), q_put1 (q_closed S) k x y) else (.inr z_X3, S)) else (.inl (nI (q_put1 S k x y).2.2.1.1.length), q_put1 S k x y)) else (.inr z_X2, S))) := by
    intro a1 a2
    refine g_go ok_Z_row [49, 63] 60 ?_
    refine g_br_i (fun q => ?_) (fun q => ?_)
    · exact t49 a1 a2 (Or.inl q)
    · refine g_gt_i z1.1 rfl ?_
      refine g_gt_i z1.1 rfl ?_
      refine g_al_i (xs := A 2) (z1.2.2.1 2 (by omega) (by omega)) (show vp_in (F 3) _ by rw [hF3, l2]; exact vp_in_nI (by omega) (by omega)) ?_
      have eg : (A 2).getD (F 3).toNatClampNeg 0 = tc := by rw [hF3, nI_clamp (by omega), t1]; exact l_getD htc
      by_cases q2 : tc ≤ x
      · refine g_br_f (show ¬ x < (A 2).getD (F 3).toNatClampNeg 0 by rw [eg]; exact Int32.not_lt.mpr q2) ?_
        exact t49 a1 a2 (Or.inr q2)
      · refine g_br_t (show x < (A 2).getD (F 3).toNatClampNeg 0 by rw [eg]; exact Int32.not_le.mp q2) ?_
        exact t63 0 (Or.inr ⟨rfl, fun z => (hri.mp z).2.2.1.elim q q2⟩)
  refine go_Z_row [31, 63] 60 ?_
  refine g_pt_j (z_fs a (z_u F 0 0)) hZ.1 (Nat.le_of_ble_eq_true rfl) rfl rfl rfl ?_
  refine g_cs_i c_Z_within (fun oc h1 hq => ?_)
  obtain ⟨rfl, rfl⟩ := hq
  refine ⟨_, rfl, ?_⟩
  by_cases q : 0 ≤ k ∧ k ≤ 4
  · refine g_br_f (show ¬ (if (0 : Int64) ≤ k.toInt64 ∧ k.toInt64 ≤ 4 then (1 : Int32) else 0) = 0 by rw [if_pos (ew.mpr q)]; decide) ?_
    refine g_br_i (fun q2 => ?_) (fun q2 => ?_)
    · exact t31 q (Or.inl q2)
    · refine g_cs_i c_Z_within (fun oc h1 hq => ?_)
      obtain ⟨rfl, rfl⟩ := hq
      refine ⟨_, rfl, ?_⟩
      by_cases q3 : x = 0 ∨ x = 1
      · refine g_br_f (show ¬ (if (0 : Int64) ≤ x.toInt64 ∧ x.toInt64 ≤ 1 then (1 : Int32) else 0) = 0 by rw [if_pos (ew2.mpr q3)]; decide) ?_
        exact t31 q (Or.inr q3)
      · refine g_br_t (show (if (0 : Int64) ≤ x.toInt64 ∧ x.toInt64 ≤ 1 then (1 : Int32) else 0) = 0 by rw [if_neg (fun z => q3 (ew2.mp z))]) ?_
        exact t63 0 (Or.inr ⟨rfl, fun z => (hri.mp z).2.1.elim q2 q3⟩)
  · refine g_br_t (show (if (0 : Int64) ≤ k.toInt64 ∧ k.toInt64 ≤ 4 then (1 : Int32) else 0) = 0 by rw [if_neg (fun z => q (ew.mp z))]) ?_
    exact t63 0 (Or.inr ⟨rfl, fun z => q (hri.mp z).1⟩)
end
