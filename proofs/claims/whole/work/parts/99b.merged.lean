/-! TracePacksModel: merged, mark -/
section
variable {l : Launch} {h : g_H} {a : Nat} {F : Nat → Int32} {A : Nat → List Int32} {ks : List o_Kr}
theorem c_Z_isBefore {i j : Nat} (hi : i < ks.length) (hj : j < ks.length) (hZ : o_Z h a F A) (hk : z_ks F A ks) : g_Run l J_Z_isBefore [.ref a, .int (nI i), .int (nI j)] h (fun oc hE => oc = .inl (some (.int (if k_lb ks i j = true then 1 else 0))) ∧ hE = h) := by
  have hkl := hk.2.1
  have l11 : (A 11).length = 2000 := hZ.2.2.2 11 (by omega) (by omega)
  have l12 : (A 12).length = 2000 := hZ.2.2.2 12 (by omega) (by omega)
  have vi : ∀ (n N : Nat), n < ks.length → N = 2000 → vp_in (nI n) N := fun n N hn hN => vp_in_nI (by omega) (by omega)
  have gt : ∀ n, n < ks.length → (A 12).getD (nI n).toNatClampNeg 0 = k_tm ks n := fun n hn => by
    obtain ⟨x, hx, -⟩ := l_drop (xs := ks) (i := n) hn
    rw [nI_clamp (by omega)]
    unfold k_tm
    have e : (ks.map (k_col 4))[n]? = some (k_col 4 x) := by rw [List.getElem?_map, hx]; rfl
    rw [l_getD e]
    exact l_tkm (hk.2.2 4 (by omega)) n x hx
  have go : ∀ n, n < ks.length → (A 11).getD (nI n).toNatClampNeg 0 = k_ow ks n := fun n hn => by
    obtain ⟨x, hx, -⟩ := l_drop (xs := ks) (i := n) hn
    rw [nI_clamp (by omega)]
    unfold k_ow
    have e : (ks.map (k_col 3))[n]? = some (k_col 3 x) := by rw [List.getElem?_map, hx]; rfl
    rw [l_getD e]
    exact l_tkm (hk.2.2 3 (by omega)) n x hx
  unfold k_lb
  refine go_Z_isBefore [] 80 ?_
  refine g_gt_i hZ.1 rfl ?_
  refine g_al_i (hZ.2.2.1 12 (by omega) (by omega)) (vi i _ hi l12) ?_
  refine g_gt_i hZ.1 rfl ?_
  refine g_al_i (hZ.2.2.1 12 (by omega) (by omega)) (vi j _ hj l12) ?_
  rw [gt i hi, gt j hj]
  by_cases q : k_tm ks i = k_tm ks j
  · refine g_br_t q ?_
    rw [if_pos q]
    refine g_gt_i hZ.1 rfl ?_
    refine g_al_i (hZ.2.2.1 11 (by omega) (by omega)) (vi i _ hi l11) ?_
    refine g_gt_i hZ.1 rfl ?_
    refine g_al_i (hZ.2.2.1 11 (by omega) (by omega)) (vi j _ hj l11) ?_
    rw [go i hi, go j hj]
    by_cases q2 : k_ow ks i = k_ow ks j
    · refine g_br_t q2 ?_
      rw [if_pos q2]
      by_cases q3 : i < j
      · refine g_br_f (show ¬ nI j ≤ nI i from nI_ge q3 (by omega)) ?_
        exact ⟨by decide, by simp [q3], rfl⟩
      · refine g_br_t (show nI j ≤ nI i from nI_le (by omega) (by omega)) ?_
        exact ⟨by decide, by simp [q3], rfl⟩
    · refine g_br_f q2 ?_
      rw [if_neg q2]
      refine g_gt_i hZ.1 rfl ?_
      refine g_al_i (hZ.2.2.1 11 (by omega) (by omega)) (vi i _ hi l11) ?_
      refine g_gt_i hZ.1 rfl ?_
      refine g_al_i (hZ.2.2.1 11 (by omega) (by omega)) (vi j _ hj l11) ?_
      rw [go i hi, go j hj]
      by_cases q3 : k_ow ks i < k_ow ks j
      · refine g_br_f (show ¬ k_ow ks j ≤ k_ow ks i from Int32.not_le.mpr q3) ?_
        exact ⟨by decide, by simp [q3], rfl⟩
      · refine g_br_t (show k_ow ks j ≤ k_ow ks i from Int32.not_lt.mp q3) ?_
        exact ⟨by decide, by simp [q3], rfl⟩
  · refine g_br_f q ?_
    rw [if_neg q]
    refine g_gt_i hZ.1 rfl ?_
    refine g_al_i (hZ.2.2.1 12 (by omega) (by omega)) (vi i _ hi l12) ?_
    refine g_gt_i hZ.1 rfl ?_
    refine g_al_i (hZ.2.2.1 12 (by omega) (by omega)) (vi j _ hj l12) ?_
    rw [gt i hi, gt j hj]
    by_cases q3 : k_tm ks i < k_tm ks j
    · refine g_br_f (show ¬ k_tm ks j ≤ k_tm ks i from Int32.not_le.mpr q3) ?_
      exact ⟨by decide, by simp [q3], rfl⟩
    · refine g_br_t (show k_tm ks j ≤ k_tm ks i from Int32.not_lt.mp q3) ?_
      exact ⟨by decide, by simp [q3], rfl⟩
theorem x_m_in {k : Int32} {at' j : Nat} {P : g_P} (hj : j < ks.length) (hZ : o_Z h a F A) (hk : z_ks F A ks) (kk : ∀ c5 : Option Value, g_X l J_Z_merged 80 [some (.ref a), some (.int k), some (.int (nI at')), some (.int (nI j)), some (.int (nI (k_rk ks j))), c5] [] h P) : ∀ (d i n : Nat), ks.length - i = d → i ≤ ks.length → n = ((List.range i).filter (fun x => k_lb ks x j)).length →
    g_X l J_Z_merged 45 [some (.ref a), some (.int k), some (.int (nI at')), some (.int (nI j)), some (.int (nI n)), some (.int (nI i))] [] h P := by
  have hkl := hk.2.1
  intro d
  induction d with
  | zero =>
    intro i n hd hi hn
    have e : i = ks.length := by omega
    subst e
    refine g_go ok_Z_merged [80] 60 ?_
    refine g_gt_i hZ.1 rfl ?_
    refine g_br_t (show F 24 ≤ nI ks.length by rw [hk.1]; exact nI_le (by omega) (by omega)) ?_
    rw [hn]
    exact kk _
  | succ d ih =>
    intro i n hd hi hn
    have t72 : ∀ v : Int32, v = nI ((List.range (i + 1)).filter (fun x => k_lb ks x j)).length → g_X l J_Z_merged 72 [some (.ref a), some (.int k), some (.int (nI at')), some (.int (nI j)), some (.int (nI n)), some (.int (nI i))] [.int v] h P := by
      intro v hv
      subst hv
      refine g_go ok_Z_merged [45] 60 ?_
      have key := ih (i + 1) _ (by omega) (by omega) rfl
      rw [← nI_1 i] at key
      exact key
    have hsucc : ((List.range (i + 1)).filter (fun x => k_lb ks x j)).length = n + (if k_lb ks i j = true then 1 else 0) := by
      rw [List.range_succ, List.filter_append, List.length_append, ← hn]
      congr 1
      by_cases q : k_lb ks i j = true
      · simp [q]
      · simp [q]
    refine g_go ok_Z_merged [72] 60 ?_
    refine g_gt_i hZ.1 rfl ?_
    refine g_br_f (show ¬ F 24 ≤ nI i by rw [hk.1]; exact nI_ge (by omega) (by omega)) ?_
    refine g_cv_i hZ.1 (c_Z_isBefore (show i < ks.length by omega) hj hZ hk) (fun oc h1 hp => ?_)
    obtain ⟨rfl, rfl⟩ := hp
    refine ⟨_, rfl, ?_⟩
    by_cases q : k_lb ks i j = true
    · rw [if_pos q] at hsucc ⊢
      refine g_br_f (by decide) ?_
      exact t72 _ (show nI n + 1 = _ by rw [hsucc, nI_1])
    · rw [if_neg q] at hsucc ⊢
      refine g_br_t (by decide) ?_
      exact t72 _ (show nI n + 0 = _ by rw [hsucc, Nat.add_zero, Int32.add_zero])
theorem x_m_out {k : Nat} {P : g_P} (hkk : k < ks.length) (hZ : o_Z h a F A) (hk : z_ks F A ks) (kk : P (.inl (some (.int (nI (k_mr ks k))))) h) : ∀ (d j at' : Nat) (c4 c5 : Option Value), ks.length - j = d → j ≤ ks.length → at' = (List.range j).foldl (fun a j => if k_rk ks j = k then j else a) 0 →
    g_X l J_Z_merged 31 [some (.ref a), some (.int (nI k)), some (.int (nI at')), some (.int (nI j)), c4, c5] [] h P := by
  have hkl := hk.2.1
  intro d
  induction d with
  | zero =>
    intro j at' c4 c5 hd hj hat
    have e : j = ks.length := by omega
    subst e
    refine g_go ok_Z_merged [] 60 ?_
    refine g_gt_i hZ.1 rfl ?_
    refine g_br_t (show F 24 ≤ nI ks.length by rw [hk.1]; exact nI_le (by omega) (by omega)) ?_
    rw [hat]
    exact kk
  | succ d ih =>
    intro j at' c4 c5 hd hj hat
    have hrk : k_rk ks j ≤ ks.length := by
      unfold k_rk
      have := List.length_filter_le (fun i => k_lb ks i j) (List.range ks.length)
      rw [List.length_range] at this
      exact this
    have hsucc : (List.range (j + 1)).foldl (fun a j => if k_rk ks j = k then j else a) 0 = if k_rk ks j = k then j else at' := by
      rw [List.range_succ, List.foldl_append, ← hat]
      rfl
    refine g_go ok_Z_merged [45] 60 ?_
    refine g_gt_i hZ.1 rfl ?_
    refine g_br_f (show ¬ F 24 ≤ nI j by rw [hk.1]; exact nI_ge (by omega) (by omega)) ?_
    refine x_m_in (show j < ks.length by omega) hZ hk (fun c5 => ?_) ks.length 0 0 rfl (Nat.zero_le _) rfl
    have t91 : ∀ w : Nat, w = (if k_rk ks j = k then j else at') → g_X l J_Z_merged 91 [some (.ref a), some (.int (nI k)), some (.int (nI at')), some (.int (nI j)), some (.int (nI (k_rk ks j))), c5] [.int (nI w)] h P := by
      intro w hw
      refine g_go ok_Z_merged [31] 60 ?_
      have key := ih (j + 1) w (some (.int (nI (k_rk ks j)))) c5 (by omega) (by omega) (by rw [hsucc, hw])
      rw [← nI_1 j] at key
      exact key
    refine g_go ok_Z_merged [91] 60 ?_
    by_cases q : k_rk ks j = k
    · refine g_br_f (show ¬ ¬ nI (k_rk ks j) = nI k from fun z => z (by rw [q])) ?_
      exact t91 j (by rw [if_pos q])
    · refine g_br_t (show ¬ nI (k_rk ks j) = nI k from fun z => q ((nI_eq (by omega) (by omega)).mp z)) ?_
      exact t91 at' (by rw [if_neg q])
end
section
variable {l : Launch} {h : g_H} {a : Nat} {F : Nat → Int32} {A : Nat → List Int32} {S : q_S}
theorem c_Z_merged {k : Int32} {c : String → Int32} (hc : c z_X1 = 1) (hZ : o_Z h a F A) (hR : z_R F A S) : g_Run l J_Z_merged [.ref a, .int k] h (z_P a h c (q_merged S k)) := by
  unfold q_merged
  have ks : z_ks F A S.2.2.2.2.1 := hR.2.2.2.2.2.2.1.1
  have hkl := ks.2.1
  refine go_Z_merged [31] 60 ?_
  refine g_pt_j (z_fs a (z_u F 0 0)) hZ.1 (Nat.le_of_ble_eq_true rfl) rfl rfl rfl ?_
  obtain ⟨z1, f1⟩ := z_fld hZ (z_u F 0 0)
  have R1 : z_R (z_u F 0 0) A S := z_R_0 0 hR
  refine g_gt_i z1.1 rfl ?_
  refine g_cs_i c_Z_within (fun oc h1 hq => ?_)
  obtain ⟨rfl, rfl⟩ := hq
  refine ⟨_, rfl, ?_⟩
  have ew : ((0 : Int64) ≤ k.toInt64 ∧ k.toInt64 ≤ (F 24 - 1).toInt64) ↔ (0 ≤ k ∧ k < nI S.2.2.2.2.1.length) := (z_wi (lo := 0) (hi := F 24 - 1) rfl rfl).trans (by
    rw [ks.1, i_wl (by omega)])
  by_cases q : 0 ≤ k ∧ k < nI S.2.2.2.2.1.length
  · refine g_br_t (show ¬ (if (0 : Int64) ≤ k.toInt64 ∧ k.toInt64 ≤ (F 24 - 1).toInt64 then (1 : Int32) else 0) = 0 by rw [if_pos (ew.mpr q)]; decide) ?_
    rw [if_pos q]
    obtain ⟨n, hn, rfl⟩ := nI_of (Int32.not_lt.mpr q.1)
    have hnl := (nI_ltI hn (by omega)).mp q.2
    rw [nI_clamp hn]
    have k1 : z_ks (z_u F 0 0) A S.2.2.2.2.1 := ks
    exact x_m_out hnl z1 k1 (z_P_i (c := c) rfl z1 R1 rfl f1) S.2.2.2.2.1.length 0 0 none none rfl (Nat.zero_le _) rfl
  · refine g_br_f (show ¬ ¬ (if (0 : Int64) ≤ k.toInt64 ∧ k.toInt64 ≤ (F 24 - 1).toInt64 then (1 : Int32) else 0) = 0 from fun z => z (by rw [if_neg (fun z => q (ew.mp z))])) ?_
    rw [if_neg q]
    refine g_cv_i z1.1 (c_Z_fail z1) (fun oc h2 hq => ?_)
    obtain ⟨rfl, z2, f2⟩ := hq
    refine ⟨_, rfl, ?_⟩
    exact z_P_t (c := c) z2 (z_R_0 1 R1) hc.symm (g_Fr_tr f1 f2)
theorem e_sh_by {ins : List Int32} (hb : o_by ins) : o_by (e_sh ins) := by
  intro x hx
  unfold e_sh at hx
  rw [List.mem_flatMap] at hx
  obtain ⟨v, hv, hx⟩ := hx
  unfold e_sh1 at hx
  split at hx
  · simp only [List.mem_cons, List.not_mem_nil, or_false] at hx
    rcases hx with rfl | rfl
    · exact ⟨125, by omega, rfl⟩
    · exact ⟨94, by omega, rfl⟩
  · split at hx
    · simp only [List.mem_cons, List.not_mem_nil, or_false] at hx
      rcases hx with rfl | rfl
      · exact ⟨125, by omega, rfl⟩
      · exact ⟨93, by omega, rfl⟩
    · rw [List.mem_singleton.mp hx]
      exact hb v hv
/-- a block is closed, or there is no room -/
theorem c_Z_closes (hZ : o_Z h a F A) (hR : z_R F A S) (hrs : ¬ S.2.2.1.1.length = 0) : g_Run l J_Z_close [.ref a] h (fun oc hE => (∃ F' A', o_Z hE a F' A' ∧ F' 0 = F 0 ∧ ((q_fit S ∧ oc = .inl (some (.int 1)) ∧ z_R F' A' (q_closed S)) ∨ (¬ q_fit S ∧ oc = .inl (some (.int 0)) ∧ z_R F' A' S))) ∧ g_Fr a (a + 18) h hE) := by
  have R1 := hR
  obtain ⟨⟨p, b⟩, ⟨c1, c2⟩, ⟨t1, t2⟩, ⟨r, rr⟩, ⟨n1, n2⟩, ⟨kd, th, k1, k2, k3, k4, k5⟩, ⟨⟨ks, s1, s2, s3⟩, s4⟩⟩ := hR
  rcases rr with q | ⟨q6, q7, ⟨co, hco, ho, -⟩, ht, hw⟩
  · exact absurd q hrs
  refine g_Run_mono (c_Z_close hZ r q6 q7 hw ⟨co, hco, ho⟩ ht p hrs) (fun oc hE hp => ?_)
  obtain ⟨⟨F2, A2, z2, hby, hp⟩, f2⟩ := hp
  refine ⟨⟨F2, A2, z2, ?_⟩, f2⟩
  rcases hp with ⟨q, rfl, pp, e5, e12, e2, d2⟩ | ⟨q, rfl, e2, d2⟩
  · have e : ∀ j, j ≠ 1 → j ≠ 5 → j ≠ 12 → j < 15 ∨ 20 ≤ j → F2 j = F j := fun j j1 j2 j3 j4 => e2 j j1 j2 j3 (by omega) (by omega) (by omega) (by omega)
    have d : ∀ i, i ≠ 1 → i ≠ 6 → i ≠ 7 → A2 i = A i := d2
    refine ⟨e 0 (by omega) (by omega) (by omega) (by omega), Or.inl ⟨q, rfl, ⟨⟨pp, ?_⟩, ⟨(e 3 (by omega) (by omega) (by omega) (by omega)).trans c1, c2⟩, ⟨(d 2 (by omega) (by omega) (by omega)).trans t1, t2⟩, ⟨⟨e5, by simp [q_closed], rfl, rfl, rfl⟩, Or.inl rfl⟩, ⟨(e 11 (by omega) (by omega) (by omega) (by omega)).trans n1, ?_⟩, ⟨kd, th, k1, k2, (e 13 (by omega) (by omega) (by omega) (by omega)).trans k3, (e 14 (by omega) (by omega) (by omega) (by omega)).trans k4, k5⟩, ⟨⟨⟨(e 24 (by omega) (by omega) (by omega) (by omega)).trans ks.1, ks.2.1, fun j hj => ?_⟩, (e 22 (by omega) (by omega) (by omega) (by omega)).trans s1, (e 23 (by omega) (by omega) (by omega) (by omega)).trans s2, (e 25 (by omega) (by omega) (by omega) (by omega)).trans s3⟩, (e 21 (by omega) (by omega) (by omega) (by omega)).trans s4⟩⟩⟩⟩
    · intro x hx
      rcases List.mem_append.mp hx with z | z
      · exact b x z
      · rcases List.mem_cons.mp z with z | z
        · exact ⟨126, by omega, z⟩
        · exact e_sh_by hby x z
    · rw [e12, n2]
      rfl
    · rw [d (8 + j) (by omega) (by omega) (by omega)]
      exact ks.2.2 j hj
  · exact ⟨e2 0 (by omega) (by omega) (by omega) (by omega), Or.inr ⟨q, rfl, z_R_mv R1 (fun j _ j2 j3 j4 j5 => e2 j j2 j3 j4 j5) (fun i j1 j2 _ => d2 i j1 j2)⟩⟩
theorem c_Z_close0 (hZ : o_Z h a F A) (h5 : F 5 = 0) : g_Run l J_Z_close [.ref a] h (fun oc hE => oc = .inl (some (.int 1)) ∧ hE = h) := by
  refine go_Z_close [] 20 ?_
  refine g_gt_i hZ.1 rfl ?_
  refine g_br_f (show ¬ ¬ F 5 = 0 from fun z => z h5) ?_
  exact ⟨by decide, rfl, rfl⟩
def q_mark (S : q_S) : q_A := if S.2.2.1.1.length = 0 then (.inl (nI S.1.length), S) else if S.1.length + (1 + (e_sh (e_in S.2.2.1.2.1 S.2.2.1.2.2 S.2.2.1.1)).length) ≤ 16384 then (.inl (nI (q_closed S).1.length), q_closed S) else (.inr z_X3, S)
theorem c_T_marks (hl : l.stackTraces = false) (hT : o_T h a S) : g_Run l J_T_mark [.ref a] h (q_P a h (q_mark S)) := by
  refine g_Run_mono (c_T_mark hl hT) (fun oc hE hp => ?_)
  unfold q_mark
  rcases hp with ⟨q, hp⟩ | ⟨q, q2, hp⟩ | ⟨q, q2, hp⟩
  · rw [if_pos q]
    exact hp
  · unfold q_fit at q2
    rw [if_neg q, if_pos q2]
    exact hp
  · unfold q_fit at q2
    rw [if_neg q, if_neg q2]
    exact hp
theorem c_Z_mark {c : String → Int32} (hc : c z_X3 = 1) (hZ : o_Z h a F A) (hR : z_R F A S) : g_Run l J_Z_mark [.ref a] h (z_P a h c (q_mark S)) := by
  unfold q_mark
  refine go_Z_mark [] 60 ?_
  refine g_pt_j (z_fs a (z_u F 0 0)) hZ.1 (Nat.le_of_ble_eq_true rfl) rfl rfl rfl ?_
  obtain ⟨z1, f1⟩ := z_fld hZ (z_u F 0 0)
  have R1 : z_R (z_u F 0 0) A S := z_R_0 0 hR
  by_cases q : S.2.2.1.1.length = 0
  · rw [if_pos q]
    have h5 : z_u F 0 0 5 = 0 := by
      rw [R1.2.2.2.1.1.1, q]
      rfl
    refine g_cv_i z1.1 (c_Z_close0 z1 h5) (fun oc h1 hq => ?_)
    obtain ⟨rfl, rfl⟩ := hq
    refine ⟨_, rfl, ?_⟩
    refine g_br_f (by decide) ?_
    refine g_gt_i z1.1 rfl ?_
    exact z_P_i (c := c) R1.1.1.1 z1 R1 rfl f1
  · rw [if_neg q]
    refine g_cv_i z1.1 (c_Z_closes z1 R1 q) (fun oc h1 hq => ?_)
    obtain ⟨⟨F2, A2, z2, e0, hq⟩, f2⟩ := hq
    rcases hq with ⟨q2, rfl, R2⟩ | ⟨q2, rfl, R2⟩
    · unfold q_fit at q2
      rw [if_pos q2]
      refine ⟨_, rfl, ?_⟩
      refine g_br_f (by decide) ?_
      refine g_gt_i z2.1 rfl ?_
      exact z_P_i (c := c) R2.1.1.1 z2 R2 e0 (g_Fr_tr f1 f2)
    · unfold q_fit at q2
      rw [if_neg q2]
      refine ⟨_, rfl, ?_⟩
      refine g_br_t (by decide) ?_
      refine g_cv_i z2.1 (c_Z_fail z2) (fun oc h3 hq => ?_)
      obtain ⟨rfl, z3, f3⟩ := hq
      refine ⟨_, rfl, ?_⟩
      exact z_P_t (c := c) z3 (z_R_0 1 R2) hc.symm (g_Fr_tr f1 (g_Fr_tr f2 f3))
end
