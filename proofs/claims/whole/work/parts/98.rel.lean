/-! TracePacks and the reference: one state -/
/-- the time behind the last of the rows -/
def w_end : Int32 → List o_Rw → Int32
  | t, [] => t
  | t, r :: rs => w_end (if r.1 = 4 then r.2.1 else t) rs
def z_R (F : Nat → Int32) (A : Nat → List Int32) (S : q_S) : Prop :=
  (z_pk F A S.1 ∧ o_by S.1) ∧ (F 3 = S.2.2.2.1.1 ∧ ∃ c : Nat, c < 4 ∧ S.2.2.2.1.1 = nI c) ∧ (A 2 = S.2.1 ∧ S.2.1.length = 4 ∧ ∀ x ∈ S.2.1, ∃ n : Nat, n < 2 ^ 31 ∧ x = nI n) ∧
  (z_rw F A S.2.2.1.1 ∧ (S.2.2.1.1.length = 0 ∨ (F 6 = S.2.2.1.2.1 ∧ F 7 = S.2.2.1.2.2 ∧ (∃ c : Nat, c < 4 ∧ S.2.2.1.2.1 = nI c ∧ w_end S.2.2.1.2.2 S.2.2.1.1 = S.2.1.getD c 0) ∧ (∃ n : Nat, n < 2 ^ 31 ∧ S.2.2.1.2.2 = nI n) ∧ w_ok S.2.2.1.2.2 S.2.2.1.1))) ∧
  (F 11 = S.2.2.2.1.2.2.1 ∧ F 12 = S.2.2.2.1.2.2.2) ∧ (∃ kd th : Nat, kd < 32 ∧ th < 16 ∧ F 13 = nI kd ∧ F 14 = nI th ∧ S.2.2.2.1.2.1 = nI (kd + 32 * th)) ∧
  (z_sd F A (S.2.2.2.2.1, S.2.2.2.2.2.2.1, S.2.2.2.2.2.2.2.1, S.2.2.2.2.2.2.2.2) ∧ F 21 = S.2.2.2.2.2.1)
theorem z_R_mv {F F' : Nat → Int32} {A A' : Nat → List Int32} {S : q_S} (h : z_R F A S) (eF : ∀ j, j ≠ 0 → j ≠ 15 → j ≠ 17 → j ≠ 18 → j ≠ 19 → F' j = F j) (eA : ∀ i, i ≠ 6 → i ≠ 7 → i < 14 → A' i = A i) : z_R F' A' S := by
  obtain ⟨⟨p, b⟩, ⟨c1, c2⟩, ⟨t1, t2⟩, ⟨r, rr⟩, ⟨n1, n2⟩, ⟨kd, th, k1, k2, k3, k4, k5⟩, ⟨⟨ks, s1, s2, s3⟩, s4⟩⟩ := h
  have e : ∀ j, (1 ≤ j ∧ j < 15) ∨ (20 ≤ j) → F' j = F j := fun j hj => eF j (by omega) (by omega) (by omega) (by omega) (by omega)
  have d : ∀ i, (i ≤ 5 ∨ (8 ≤ i ∧ i < 14)) → A' i = A i := fun i hi => eA i (by omega) (by omega) (by omega)
  refine ⟨⟨⟨(e 1 (by omega)).trans p.1, p.2.1, by rw [d 1 (by omega)]; exact p.2.2⟩, b⟩, ⟨(e 3 (by omega)).trans c1, c2⟩, ⟨(d 2 (by omega)).trans t1, t2⟩, ⟨⟨(e 5 (by omega)).trans r.1, r.2.1, by rw [d 3 (by omega)]; exact r.2.2.1, by rw [d 4 (by omega)]; exact r.2.2.2.1, by rw [d 5 (by omega)]; exact r.2.2.2.2⟩, ?_⟩, ⟨(e 11 (by omega)).trans n1, (e 12 (by omega)).trans n2⟩, ⟨kd, th, k1, k2, (e 13 (by omega)).trans k3, (e 14 (by omega)).trans k4, k5⟩, ⟨⟨⟨(e 24 (by omega)).trans ks.1, ks.2.1, fun j hj => by rw [d (8 + j) (by omega)]; exact ks.2.2 j hj⟩, (e 22 (by omega)).trans s1, (e 23 (by omega)).trans s2, (e 25 (by omega)).trans s3⟩, (e 21 (by omega)).trans s4⟩⟩
  rcases rr with q | ⟨q1, q2, q3⟩
  · exact Or.inl q
  · exact Or.inr ⟨(e 6 (by omega)).trans q1, (e 7 (by omega)).trans q2, q3⟩
theorem z_R_0 {F : Nat → Int32} {A : Nat → List Int32} {S : q_S} (v : Int32) (h : z_R F A S) : z_R (z_u F 0 v) A S := z_R_mv h (fun j hj _ _ _ _ => z_u_ne hj) (fun _ _ _ _ => rfl)
/-- what a call of the reference comes to, when TracePacks comes to r -/
def z_P (a : Nat) (h : g_H) (c : String → Int32) (r : q_A) : g_P := fun oc hE => (∃ y, oc = .inl (some (.int y)) ∧ ∀ v, r.1 = .inl v → y = v) ∧ ∃ F' A', o_Z hE a F' A' ∧ z_R F' A' r.2 ∧ F' 0 = (match r.1 with
    | .inl _ => 0
    | .inr X => c X) ∧ g_Fr a (a + 18) h hE
theorem z_P_i {a : Nat} {h hE : g_H} {c : String → Int32} {v w : Int32} {S : q_S} {F : Nat → Int32} {A : Nat → List Int32} (e : w = v) (hZ : o_Z hE a F A) (hR : z_R F A S) (h0 : F 0 = 0) (hf : g_Fr a (a + 18) h hE) : z_P a h c (.inl v, S) (.inl (some (.int w))) hE := ⟨⟨w, rfl, fun x hx => by cases hx; exact e⟩, F, A, hZ, hR, h0, hf⟩
theorem z_P_t {a : Nat} {h hE : g_H} {c : String → Int32} {X : String} {w : Int32} {S : q_S} {F : Nat → Int32} {A : Nat → List Int32} (hZ : o_Z hE a F A) (hR : z_R F A S) (h0 : F 0 = c X) (hf : g_Fr a (a + 18) h hE) : z_P a h c (.inr X, S) (.inl (some (.int w))) hE := ⟨⟨w, rfl, fun x hx => by cases hx⟩, F, A, hZ, hR, h0, hf⟩
/-- a code: which exception is the first that is told -/
def z_c (X : String) : String → Int32 := fun Y => if Y = X then 1 else 2
theorem i_lt4 {x : Int32} {M N : Int32} (h : M.toInt + 1 = N.toInt) : x ≤ M ↔ x < N := by
  rw [Int32.le_iff_toInt_le, Int32.lt_iff_toInt_lt]
  omega
theorem i_wl {i : Int32} {n : Nat} (hn : n < 2 ^ 31) : (0 ≤ i ∧ i ≤ nI n - 1) ↔ (0 ≤ i ∧ i < nI n) := by
  cases n with
  | zero =>
    have e1 : nI 0 - 1 = -1 := by decide
    rw [e1]
    constructor
    · intro z
      rw [Int32.le_iff_toInt_le, Int32.le_iff_toInt_le] at z
      have : (-1 : Int32).toInt = -1 := by decide
      have : (0 : Int32).toInt = 0 := by decide
      omega
    · intro z
      exact absurd z.2 (Int32.not_lt.mpr z.1)
  | succ k =>
    rw [nI_pred]
    have e := i_lt4 (x := i) (M := nI k) (N := nI (k + 1)) (by rw [nI_toInt (by omega), nI_toInt hn]; omega)
    rw [e]
section
variable {l : Launch} {h : g_H} {a : Nat} {F : Nat → Int32} {A : Nat → List Int32} {S : q_S}
theorem c_Z_thread {t : Int32} {c : String → Int32} (hc : c z_X1 = 1) (hZ : o_Z h a F A) (hR : z_R F A S) : g_Run l J_Z_thread [.ref a, .int t] h (z_P a h c (q_thread S t)) := by
  unfold q_thread
  refine go_Z_thread [] 60 ?_
  refine g_pt_j (z_fs a (z_u F 0 0)) hZ.1 (Nat.le_of_ble_eq_true rfl) rfl rfl rfl ?_
  obtain ⟨z1, f1⟩ := z_fld hZ (z_u F 0 0)
  have R1 := z_R_0 0 hR
  refine g_cs_i c_Z_within (fun oc h1 hq => ?_)
  obtain ⟨rfl, rfl⟩ := hq
  refine ⟨_, rfl, ?_⟩
  have ew : ((0 : Int64) ≤ t.toInt64 ∧ t.toInt64 ≤ 3) ↔ (0 ≤ t ∧ t < 4) := (z_wi (lo := 0) (hi := 3) rfl rfl).trans (by
    rw [i_lt4 (x := t) (M := 3) (N := 4) (by decide)])
  by_cases q : 0 ≤ t ∧ t < 4
  · refine g_br_t (show ¬ (if (0 : Int64) ≤ t.toInt64 ∧ t.toInt64 ≤ 3 then (1 : Int32) else 0) = 0 by rw [if_pos (ew.mpr q)]; decide) ?_
    rw [if_pos q]
    refine g_gt_i z1.1 rfl ?_
    refine g_pt_j (z_fs a (z_u (z_u F 0 0) 3 t)) z1.1 (Nat.le_of_ble_eq_true rfl) rfl rfl rfl ?_
    obtain ⟨z2, f2⟩ := z_fld z1 (z_u (z_u F 0 0) 3 t)
    obtain ⟨⟨p, b⟩, ⟨c1, c2⟩, rest⟩ := R1
    obtain ⟨n, hn, hn2⟩ := nI_of (Int32.not_lt.mpr q.1)
    refine z_P_i (c := c) (show F 3 = _ from c1) z2 ⟨⟨p, b⟩, ⟨rfl, n, ?_, hn2⟩, rest⟩ rfl (g_Fr_tr f1 f2)
    have z := q.2
    rw [hn2] at z
    exact (nI_ltI (b := 4) hn (by omega)).mp z
  · refine g_br_f (show ¬ ¬ (if (0 : Int64) ≤ t.toInt64 ∧ t.toInt64 ≤ 3 then (1 : Int32) else 0) = 0 from fun z => z (by rw [if_neg (fun z => q (ew.mp z))])) ?_
    rw [if_neg q]
    refine g_cv_i z1.1 (c_Z_fail z1) (fun oc h2 hq => ?_)
    obtain ⟨rfl, z2, f2⟩ := hq
    refine ⟨_, rfl, ?_⟩
    exact z_P_t (c := c) z2 (z_R_0 1 R1) hc.symm (g_Fr_tr f1 f2)
theorem c_Z_byteAt {i : Int32} {c : String → Int32} (hc : c z_X1 = 1) (hZ : o_Z h a F A) (hR : z_R F A S) : g_Run l J_Z_byteAt [.ref a, .int i] h (z_P a h c (q_byteAt S i)) := by
  unfold q_byteAt
  obtain ⟨⟨p, b⟩, rest⟩ := hR
  have hpl := p.2.1
  have l1 : (A 1).length = 16384 := hZ.2.2.2 1 (by omega) (by omega)
  refine go_Z_byteAt [] 60 ?_
  refine g_pt_j (z_fs a (z_u F 0 0)) hZ.1 (Nat.le_of_ble_eq_true rfl) rfl rfl rfl ?_
  obtain ⟨z1, f1⟩ := z_fld hZ (z_u F 0 0)
  have R1 : z_R (z_u F 0 0) A S := z_R_0 0 ⟨⟨p, b⟩, rest⟩
  refine g_gt_i z1.1 rfl ?_
  refine g_cs_i c_Z_within (fun oc h1 hq => ?_)
  obtain ⟨rfl, rfl⟩ := hq
  refine ⟨_, rfl, ?_⟩
  have ew : ((0 : Int64) ≤ i.toInt64 ∧ i.toInt64 ≤ (F 1 - 1).toInt64) ↔ (0 ≤ i ∧ i < nI S.1.length) := (z_wi (lo := 0) (hi := F 1 - 1) rfl rfl).trans (by
    rw [p.1, i_wl (by omega)])
  by_cases q : 0 ≤ i ∧ i < nI S.1.length
  · refine g_br_f (show ¬ (if (0 : Int64) ≤ i.toInt64 ∧ i.toInt64 ≤ (F 1 - 1).toInt64 then (1 : Int32) else 0) = 0 by rw [if_pos (ew.mpr q)]; decide) ?_
    rw [if_pos q]
    obtain ⟨n, hn, rfl⟩ := nI_of (Int32.not_lt.mpr q.1)
    have hnl := (nI_ltI hn (by omega)).mp q.2
    obtain ⟨x, hx, -⟩ := l_drop (xs := S.1) (i := n) hnl
    refine g_gt_i z1.1 rfl ?_
    refine g_alB_i z1.2.1 (by rw [l1]; exact vp_in_nI (by omega) (by omega)) ?_
    rw [nI_clamp (by omega), v_at_some (by omega) hx]
    exact z_P_i (c := c) (show (A 1).getD n 0 &&& 255 = x from (z_pk_at p b hx).1) z1 R1 rfl f1
  · refine g_br_t (show (if (0 : Int64) ≤ i.toInt64 ∧ i.toInt64 ≤ (F 1 - 1).toInt64 then (1 : Int32) else 0) = 0 by rw [if_neg (fun z => q (ew.mp z))]) ?_
    rw [if_neg q]
    refine g_cv_i z1.1 (c_Z_fail z1) (fun oc h2 hq => ?_)
    obtain ⟨rfl, z2, f2⟩ := hq
    refine ⟨_, rfl, ?_⟩
    exact z_P_t (c := c) z2 (z_R_0 1 R1) hc.symm (g_Fr_tr f1 f2)
theorem c_Z_put {v : Int32} {c : String → Int32} (hc : c z_X2 = 1) (hc2 : c z_X3 = 2) (hZ : o_Z h a F A) (hR : z_R F A S) : g_Run l J_Z_put [.ref a, .int v] h (z_P a h c (q_put S v)) := by
  unfold q_put
  obtain ⟨⟨p, b⟩, rest⟩ := hR
  have hpl := p.2.1
  refine go_Z_put [] 60 ?_
  refine g_pt_j (z_fs a (z_u F 0 0)) hZ.1 (Nat.le_of_ble_eq_true rfl) rfl rfl rfl ?_
  obtain ⟨z1, f1⟩ := z_fld hZ (z_u F 0 0)
  have R1 : z_R (z_u F 0 0) A S := z_R_0 0 ⟨⟨p, b⟩, rest⟩
  refine g_cs_i c_Z_within (fun oc h1 hq => ?_)
  obtain ⟨rfl, rfl⟩ := hq
  refine ⟨_, rfl, ?_⟩
  have ew : ((0 : Int64) ≤ v.toInt64 ∧ v.toInt64 ≤ 255) ↔ (0 ≤ v ∧ v ≤ 255) := z_wi (lo := 0) (hi := 255) rfl rfl
  by_cases q : 0 ≤ v ∧ v ≤ 255
  · refine g_br_t (show ¬ (if (0 : Int64) ≤ v.toInt64 ∧ v.toInt64 ≤ 255 then (1 : Int32) else 0) = 0 by rw [if_pos (ew.mpr q)]; decide) ?_
    rw [if_pos q]
    refine g_gt_i z1.1 rfl ?_
    by_cases q2 : S.1.length < 16384
    · refine g_br_t (show ¬ F 1 = 16384 by rw [p.1]; exact fun z => absurd ((nI_eq (b := 16384) (by omega) (by omega)).mp z) (by omega)) ?_
      rw [if_pos q2]
      have p1 : z_pk (z_u F 0 0) A S.1 := p
      refine g_cv_i z1.1 (c_Z_putByte z1 p1 q2) (fun oc h2 hq => ?_)
      obtain ⟨rfl, F2, A2, z2, p2, e2, d2, f2⟩ := hq
      refine ⟨_, rfl, ?_⟩
      refine g_gt_i z2.1 rfl ?_
      refine z_P_i (c := c) (show F2 1 = _ by rw [p2.1]; simp) z2 ?_ ((e2 0 (by omega)).trans rfl) (g_Fr_tr f1 f2)
      obtain ⟨n, hn, hv⟩ : ∃ n : Nat, n ≤ 255 ∧ v = nI n := nI_of2 (nI_toInt (n := 255) (by omega)) (Int32.not_lt.mpr q.1) q.2
      have hb2 : o_by (S.1 ++ [v]) := fun x hx => by
        rcases List.mem_append.mp hx with z | z
        · exact b x z
        · rw [List.mem_singleton.mp z]
          exact ⟨n, by omega, hv⟩
      obtain ⟨⟨c1, c2⟩, ⟨t1, t2⟩, ⟨r, rr⟩, ⟨n1, n2⟩, ⟨kd, th, k1, k2, k3, k4, k5⟩, ⟨⟨ks, s1, s2, s3⟩, s4⟩⟩ := rest
      have e : ∀ j, j ≠ 0 → j ≠ 1 → F2 j = F j := fun j h0 h1 => (e2 j h1).trans (z_u_ne h0)
      refine ⟨⟨p2, hb2⟩, ⟨(e 3 (by omega) (by omega)).trans c1, c2⟩, ⟨(d2 2 (by omega)).trans t1, t2⟩, ⟨⟨(e 5 (by omega) (by omega)).trans r.1, r.2.1, by rw [d2 3 (by omega)]; exact r.2.2.1, by rw [d2 4 (by omega)]; exact r.2.2.2.1, by rw [d2 5 (by omega)]; exact r.2.2.2.2⟩, ?_⟩, ⟨(e 11 (by omega) (by omega)).trans n1, (e 12 (by omega) (by omega)).trans n2⟩, ⟨kd, th, k1, k2, (e 13 (by omega) (by omega)).trans k3, (e 14 (by omega) (by omega)).trans k4, k5⟩, ⟨⟨⟨(e 24 (by omega) (by omega)).trans ks.1, ks.2.1, fun j hj => by rw [d2 (8 + j) (by omega)]; exact ks.2.2 j hj⟩, (e 22 (by omega) (by omega)).trans s1, (e 23 (by omega) (by omega)).trans s2, (e 25 (by omega) (by omega)).trans s3⟩, (e 21 (by omega) (by omega)).trans s4⟩⟩
      rcases rr with q | ⟨q1, q2, q3⟩
      · exact Or.inl q
      · exact Or.inr ⟨(e 6 (by omega) (by omega)).trans q1, (e 7 (by omega) (by omega)).trans q2, q3⟩
    · refine g_br_f (show ¬ ¬ F 1 = 16384 from fun z => z (by rw [p.1, show S.1.length = 16384 by omega]; rfl)) ?_
      rw [if_neg q2]
      refine g_cv_i z1.1 (c_Z_fail z1) (fun oc h2 hq => ?_)
      obtain ⟨rfl, z2, f2⟩ := hq
      refine ⟨_, rfl, ?_⟩
      exact z_P_t (c := c) z2 (z_R_0 2 R1) hc2.symm (g_Fr_tr f1 f2)
  · refine g_br_f (show ¬ ¬ (if (0 : Int64) ≤ v.toInt64 ∧ v.toInt64 ≤ 255 then (1 : Int32) else 0) = 0 from fun z => z (by rw [if_neg (fun z => q (ew.mp z))])) ?_
    rw [if_neg q]
    refine g_cv_i z1.1 (c_Z_fail z1) (fun oc h2 hq => ?_)
    obtain ⟨rfl, z2, f2⟩ := hq
    refine ⟨_, rfl, ?_⟩
    exact z_P_t (c := c) z2 (z_R_0 1 R1) hc.symm (g_Fr_tr f1 f2)
theorem c_Z_cut {n : Int32} {c : String → Int32} (hc : c z_X2 = 1) (hZ : o_Z h a F A) (hR : z_R F A S) : g_Run l J_Z_cut [.ref a, .int n] h (z_P a h c (q_cut S n)) := by
  unfold q_cut
  obtain ⟨⟨p, b⟩, rest⟩ := hR
  have hpl := p.2.1
  refine go_Z_cut [] 60 ?_
  refine g_pt_j (z_fs a (z_u F 0 0)) hZ.1 (Nat.le_of_ble_eq_true rfl) rfl rfl rfl ?_
  obtain ⟨z1, f1⟩ := z_fld hZ (z_u F 0 0)
  have R1 : z_R (z_u F 0 0) A S := z_R_0 0 ⟨⟨p, b⟩, rest⟩
  refine g_gt_i z1.1 rfl ?_
  refine g_cs_i c_Z_within (fun oc h1 hq => ?_)
  obtain ⟨rfl, rfl⟩ := hq
  refine ⟨_, rfl, ?_⟩
  have ew : ((0 : Int64) ≤ n.toInt64 ∧ n.toInt64 ≤ (F 1).toInt64) ↔ (0 ≤ n ∧ n ≤ nI S.1.length) := (z_wi (lo := 0) (hi := F 1) rfl rfl).trans (by
    rw [p.1])
  by_cases q : 0 ≤ n ∧ n ≤ nI S.1.length
  · refine g_br_t (show ¬ (if (0 : Int64) ≤ n.toInt64 ∧ n.toInt64 ≤ (F 1).toInt64 then (1 : Int32) else 0) = 0 by rw [if_pos (ew.mpr q)]; decide) ?_
    rw [if_pos q]
    obtain ⟨k, hk, rfl⟩ : ∃ k : Nat, k ≤ S.1.length ∧ n = nI k := nI_of2 (nI_toInt (by omega)) (Int32.not_lt.mpr q.1) q.2
    refine g_gt_i z1.1 rfl ?_
    refine g_pt_j (z_fs a (z_u (z_u F 0 0) 1 (nI k))) z1.1 (Nat.le_of_ble_eq_true rfl) rfl rfl rfl ?_
    obtain ⟨z2, f2⟩ := z_fld z1 (z_u (z_u F 0 0) 1 (nI k))
    have ev : v_cut S.1 (nI k) = S.1.take k := by
      unfold v_cut
      rw [nI_clamp (by omega)]
      by_cases q3 : k < S.1.length
      · rw [if_pos ⟨q.1, nI_lt q3 (by omega)⟩]
      · rw [if_neg (fun z => absurd z.2 (nI_nlt (by omega) (by omega))), List.take_of_length_le (by omega)]
    refine z_P_i (c := c) (show F 1 - nI k = _ by rw [p.1]) z2 ?_ rfl (g_Fr_tr f1 f2)
    rw [ev]
    have hl2 : (S.1.take k).length = k := by rw [List.length_take]; omega
    refine ⟨⟨⟨?_, (show (S.1.take k).length ≤ 16384 by omega), ?_⟩, fun x hx => b x (List.mem_of_mem_take hx)⟩, rest⟩
    · show nI k = _
      rw [hl2]
    · rw [hl2, List.map_take, ← p.2.2, List.take_take, Nat.min_eq_left hk]
  · refine g_br_f (show ¬ ¬ (if (0 : Int64) ≤ n.toInt64 ∧ n.toInt64 ≤ (F 1).toInt64 then (1 : Int32) else 0) = 0 from fun z => z (by rw [if_neg (fun z => q (ew.mp z))])) ?_
    rw [if_neg q]
    refine g_cv_i z1.1 (c_Z_fail z1) (fun oc h2 hq => ?_)
    obtain ⟨rfl, z2, f2⟩ := hq
    refine ⟨_, rfl, ?_⟩
    exact z_P_t (c := c) z2 (z_R_0 1 R1) hc.symm (g_Fr_tr f1 f2)
theorem c_Z_choose {k t : Int32} {c : String → Int32} (hc : c z_X2 = 1) (hZ : o_Z h a F A) (hR : z_R F A S) : g_Run l J_Z_choose [.ref a, .int k, .int t] h (z_P a h c (q_choose S k t)) := by
  unfold q_choose
  have t29 : ∀ (L : g_L) (h1 : g_H) (F1 : Nat → Int32), ¬ ((0 ≤ k ∧ k ≤ 31) ∧ 0 ≤ t ∧ t ≤ 15) → o_Z h1 a F1 A → z_R F1 A S → g_Fr a (a + 18) h h1 → g_X l J_Z_choose 29 (some (.ref a) :: L) [] h1 (z_P a h c (if (0 ≤ k ∧ k ≤ 31) ∧ 0 ≤ t ∧ t ≤ 15 then (.inl S.2.2.2.1.2.1, q_cu S (S.2.2.2.1.1, k + 32 * t, S.2.2.2.1.2.2)) else (.inr z_X2, S))) := by
    intro L h1 F1 q z1 R1 f1
    rw [if_neg q]
    refine g_go ok_Z_choose [] 60 ?_
    refine g_cv_i z1.1 (c_Z_fail z1) (fun oc h2 hq => ?_)
    obtain ⟨rfl, z2, f2⟩ := hq
    refine ⟨_, rfl, ?_⟩
    exact z_P_t (c := c) z2 (z_R_0 1 R1) hc.symm (g_Fr_tr f1 f2)
  refine go_Z_choose [29] 60 ?_
  refine g_pt_j (z_fs a (z_u F 0 0)) hZ.1 (Nat.le_of_ble_eq_true rfl) rfl rfl rfl ?_
  obtain ⟨z1, f1⟩ := z_fld hZ (z_u F 0 0)
  have R1 : z_R (z_u F 0 0) A S := z_R_0 0 hR
  refine g_cs_i c_Z_within (fun oc h1 hq => ?_)
  obtain ⟨rfl, rfl⟩ := hq
  refine ⟨_, rfl, ?_⟩
  have ew : ((0 : Int64) ≤ k.toInt64 ∧ k.toInt64 ≤ 31) ↔ (0 ≤ k ∧ k ≤ 31) := z_wi (lo := 0) (hi := 31) rfl rfl
  have ew2 : ((0 : Int64) ≤ t.toInt64 ∧ t.toInt64 ≤ 15) ↔ (0 ≤ t ∧ t ≤ 15) := z_wi (lo := 0) (hi := 15) rfl rfl
  by_cases q : 0 ≤ k ∧ k ≤ 31
  · refine g_br_f (show ¬ (if (0 : Int64) ≤ k.toInt64 ∧ k.toInt64 ≤ 31 then (1 : Int32) else 0) = 0 by rw [if_pos (ew.mpr q)]; decide) ?_
    refine g_cs_i c_Z_within (fun oc h1 hq => ?_)
    obtain ⟨rfl, rfl⟩ := hq
    refine ⟨_, rfl, ?_⟩
    by_cases q2 : 0 ≤ t ∧ t ≤ 15
    · refine g_br_t (show ¬ (if (0 : Int64) ≤ t.toInt64 ∧ t.toInt64 ≤ 15 then (1 : Int32) else 0) = 0 by rw [if_pos (ew2.mpr q2)]; decide) ?_
      rw [if_pos ⟨q, q2⟩]
      obtain ⟨kd', hkd', hk⟩ : ∃ n : Nat, n ≤ 31 ∧ k = nI n := nI_of2 (nI_toInt (n := 31) (by omega)) (Int32.not_lt.mpr q.1) q.2
      obtain ⟨th', hth', ht⟩ : ∃ n : Nat, n ≤ 15 ∧ t = nI n := nI_of2 (nI_toInt (n := 15) (by omega)) (Int32.not_lt.mpr q2.1) q2.2
      obtain ⟨r1, r2, r3, r4, r5, ⟨kd, th, k1, k2, k3, k4, k5⟩, r7⟩ := R1
      refine g_gt_i z1.1 rfl ?_
      refine g_gt_i z1.1 rfl ?_
      refine g_pt_j (z_fs a (z_u (z_u F 0 0) 13 k)) z1.1 (Nat.le_of_ble_eq_true rfl) rfl rfl rfl ?_
      obtain ⟨z2, f2⟩ := z_fld z1 (z_u (z_u F 0 0) 13 k)
      refine g_pt_j (z_fs a (z_u (z_u (z_u F 0 0) 13 k) 14 t)) z2.1 (Nat.le_of_ble_eq_true rfl) rfl rfl rfl ?_
      obtain ⟨z3, f3⟩ := z_fld z2 (z_u (z_u (z_u F 0 0) 13 k) 14 t)
      have em : ∀ n : Nat, (32 : Int32) * nI n = nI (32 * n) := fun n => pk_mul (a := 32) (b := n)
      refine z_P_i (c := c) (show F 13 + 32 * F 14 = S.2.2.2.1.2.1 by rw [show F 13 = nI kd from k3, show F 14 = nI th from k4, em, nI_add, k5]) z3 ⟨r1, r2, r3, r4, r5, ⟨kd', th', by omega, by omega, hk, ht, ?_⟩, r7⟩ rfl (g_Fr_tr f1 (g_Fr_tr f2 f3))
      show k + 32 * t = _
      rw [hk, ht, em, nI_add]
    · refine g_br_f (show ¬ ¬ (if (0 : Int64) ≤ t.toInt64 ∧ t.toInt64 ≤ 15 then (1 : Int32) else 0) = 0 from fun z => z (by rw [if_neg (fun z => q2 (ew2.mp z))])) ?_
      exact t29 _ _ _ (fun z => q2 z.2) z1 R1 f1
  · refine g_br_t (show (if (0 : Int64) ≤ k.toInt64 ∧ k.toInt64 ≤ 31 then (1 : Int32) else 0) = 0 by rw [if_neg (fun z => q (ew.mp z))]) ?_
    exact t29 _ _ _ (fun z => q z.1) z1 R1 f1
end
