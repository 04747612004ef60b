/-! TracePacksLaw: one call of the script (by program: wip/whole/gen/mk99.py) -/
/-- TracePacks at x, the reference at z, the long at w: one state -/
def w_I (x z w : Nat) (h : g_H) (S : q_S) : Prop := o_T h x S ∧ (∃ F A, o_Z h z F A ∧ z_R F A S) ∧ ∃ v0, h.1 w = some (.inl (.inr (.inl [v0])))
def w_gr (h h' : g_H) : Prop := h'.2.1 ≤ h.2.1 + 1 ∧ h'.2.2 ≤ h.2.2 + 6
theorem w_gr_of {h h1 h2 : g_H} (a : h1.2 = h.2 ∨ h1.2 = (h.2.1 + 1, h.2.2 + 6)) (b : h2.2 = h1.2) : w_gr h h2 := by
  unfold w_gr
  rw [b]
  rcases a with a | a
  · rw [a]
    exact ⟨Nat.le_succ _, Nat.le_add_right _ _⟩
  · rw [a]
    exact ⟨Nat.le_refl _, Nat.le_refl _⟩
abbrev w_L (b x z w : Nat) (i : Int32) (c5 c6 : Option Value) : g_L := [some (.ref b), some (.ref x), some (.ref z), some (.ref w), some (.int i), c5, c6]
section
variable {l : Launch} {b x z w i : Nat} {xs : List Int32} {S : q_S} {h : g_H} {P : g_P} {c5 c6 : Option Value}
set_option maxRecDepth 100000 in
set_option maxHeartbeats 4000000 in
theorem x_l_thread (hl : l.stackTraces = false) (hxz : x + 55 ≤ z) (hzw : z + 18 ≤ w) (hi : i + 4 ≤ xs.length) (hxs : xs.length ≤ 2048) (hI : w_I x z w h S) (kk : ∀ (S' : q_S) (h' : g_H) (c5 c6 : Option Value), w_I x z w h' S' → w_gr h h' → g_X l (J_W_law b xs) 789 (w_L b x z w (nI i) c5 c6) [] h' P) : g_X l (J_W_law b xs) 100 (w_L b x z w (nI i) c5 c6) [] h P := by
  obtain ⟨T, ⟨F, A, Z, R⟩, v0, hw⟩ := hI
  have v1 : vp_in (nI i + 1) xs.length := by rw [nI_1]; exact vp_in_nI (by omega) (by omega)
  have v2 : vp_in (nI i + 2) xs.length := by rw [show nI i + 2 = nI (i + 2) from nI_add i 2]; exact vp_in_nI (by omega) (by omega)
  have v3 : vp_in (nI i + 3) xs.length := by rw [show nI i + 3 = nI (i + 3) from nI_add i 3]; exact vp_in_nI (by omega) (by omega)
  refine g_go (ok_W_law b xs) [789] 80 ?_
  refine ⟨rfl, v1, ?_⟩
  refine g_cs_i (c_W_thread (c := (fun _ => 1)) hl rfl T hw (by omega)) (fun oc h1 hp => ?_)
  obtain ⟨u, rfl, hv, T1, w1, g1, f1⟩ := hp
  refine ⟨_, rfl, ?_⟩
  refine ⟨rfl, v1, ?_⟩
  have Z1 : o_Z h1 z F A := o_Z_rg Z (fun q q1 q2 => f1 q (by omega) (by omega))
  refine g_cv_i Z1.1 (c_Z_thread (c := (fun _ => 1)) rfl Z1 R) (fun oc h2 hp => ?_)
  obtain ⟨⟨y, rfl, hy⟩, F2, A2, z2, R2, e0, f2⟩ := hp
  refine ⟨_, rfl, ?_⟩
  refine g_cv_i z2.1 (c_Z_thrown z2) (fun oc h3 hp => ?_)
  obtain ⟨rfl, rfl⟩ := hp
  refine ⟨_, rfl, ?_⟩
  refine g_br_t e0 ?_
  have T2 := o_T_rg T1 (fun q q1 q2 => f2.2 q (by omega))
  have w2 := (f2.2 w (by omega)).trans w1
  have fin : ∀ c5 c6 : Option Value, g_X l (J_W_law b xs) 789 (w_L b x z w (nI i) c5 c6) [] h3 P := fun c5 c6 => kk _ h3 c5 c6 ⟨T2, ⟨F2, A2, z2, R2⟩, u, w2⟩ (w_gr_of g1 f2.1)
  cases hq : (q_thread S (xs.getD (nI i + 1).toNatClampNeg 0)).1 with
  | inl v =>
    refine g_br_f (fun z => z rfl) ?_
    refine g_alL_i w2 (vp_in_nI (n := 0) (by simp) (by simp)) ?_
    refine g_br_t ((lg_cmp_eq _ _).mpr (show u = y.toInt64 by rw [hv v hq, hy v hq])) ?_
    exact fin _ _
  | inr X =>
    refine g_br_t (show ¬ (1 : Int32) = 0 by decide) ?_
    exact fin _ _
set_option maxRecDepth 100000 in
set_option maxHeartbeats 4000000 in
theorem x_l_row (hl : l.stackTraces = false) (hxz : x + 55 ≤ z) (hzw : z + 18 ≤ w) (hi : i + 4 ≤ xs.length) (hxs : xs.length ≤ 2048) (hI : w_I x z w h S) (kk : ∀ (S' : q_S) (h' : g_H) (c5 c6 : Option Value), w_I x z w h' S' → w_gr h h' → g_X l (J_W_law b xs) 789 (w_L b x z w (nI i) c5 c6) [] h' P) : g_X l (J_W_law b xs) 156 (w_L b x z w (nI i) c5 c6) [] h P := by
  obtain ⟨T, ⟨F, A, Z, R⟩, v0, hw⟩ := hI
  have v1 : vp_in (nI i + 1) xs.length := by rw [nI_1]; exact vp_in_nI (by omega) (by omega)
  have v2 : vp_in (nI i + 2) xs.length := by rw [show nI i + 2 = nI (i + 2) from nI_add i 2]; exact vp_in_nI (by omega) (by omega)
  have v3 : vp_in (nI i + 3) xs.length := by rw [show nI i + 3 = nI (i + 3) from nI_add i 3]; exact vp_in_nI (by omega) (by omega)
  refine g_go (ok_W_law b xs) [789] 80 ?_
  refine ⟨rfl, v1, ?_⟩
  refine ⟨rfl, v2, ?_⟩
  refine ⟨rfl, v3, ?_⟩
  refine g_cs_i (c_W_row (c := (z_c z_X2)) hl (if_pos rfl) (if_neg (by decide)) T hw (by omega)) (fun oc h1 hp => ?_)
  obtain ⟨u, rfl, hv, T1, w1, g1, f1⟩ := hp
  refine ⟨_, rfl, ?_⟩
  refine ⟨rfl, v1, ?_⟩
  refine ⟨rfl, v2, ?_⟩
  refine ⟨rfl, v3, ?_⟩
  have Z1 : o_Z h1 z F A := o_Z_rg Z (fun q q1 q2 => f1 q (by omega) (by omega))
  refine g_cv_i Z1.1 (c_Z_row (c := (z_c z_X2)) (if_pos rfl) (if_neg (by decide)) Z1 R) (fun oc h2 hp => ?_)
  obtain ⟨⟨y, rfl, hy⟩, F2, A2, z2, R2, e0, f2⟩ := hp
  refine ⟨_, rfl, ?_⟩
  refine g_cv_i z2.1 (c_Z_thrown z2) (fun oc h3 hp => ?_)
  obtain ⟨rfl, rfl⟩ := hp
  refine ⟨_, rfl, ?_⟩
  refine g_br_t e0 ?_
  have T2 := o_T_rg T1 (fun q q1 q2 => f2.2 q (by omega))
  have w2 := (f2.2 w (by omega)).trans w1
  have fin : ∀ c5 c6 : Option Value, g_X l (J_W_law b xs) 789 (w_L b x z w (nI i) c5 c6) [] h3 P := fun c5 c6 => kk _ h3 c5 c6 ⟨T2, ⟨F2, A2, z2, R2⟩, u, w2⟩ (w_gr_of g1 f2.1)
  cases hq : (q_row S (xs.getD (nI i + 1).toNatClampNeg 0) (xs.getD (nI i + 2).toNatClampNeg 0) (xs.getD (nI i + 3).toNatClampNeg 0)).1 with
  | inl v =>
    refine g_br_f (fun z => z rfl) ?_
    refine g_alL_i w2 (vp_in_nI (n := 0) (by simp) (by simp)) ?_
    refine g_br_t ((lg_cmp_eq _ _).mpr (show u = y.toInt64 by rw [hv v hq, hy v hq])) ?_
    exact fin _ _
  | inr X =>
    refine g_br_t (show ¬ (z_c z_X2) X = 0 by unfold z_c; split <;> decide) ?_
    exact fin _ _
set_option maxRecDepth 100000 in
set_option maxHeartbeats 4000000 in
theorem x_l_mark (hl : l.stackTraces = false) (hxz : x + 55 ≤ z) (hzw : z + 18 ≤ w) (hi : i + 4 ≤ xs.length) (hxs : xs.length ≤ 2048) (hI : w_I x z w h S) (kk : ∀ (S' : q_S) (h' : g_H) (c5 c6 : Option Value), w_I x z w h' S' → w_gr h h' → g_X l (J_W_law b xs) 789 (w_L b x z w (nI i) c5 c6) [] h' P) : g_X l (J_W_law b xs) 236 (w_L b x z w (nI i) c5 c6) [] h P := by
  obtain ⟨T, ⟨F, A, Z, R⟩, v0, hw⟩ := hI
  have v1 : vp_in (nI i + 1) xs.length := by rw [nI_1]; exact vp_in_nI (by omega) (by omega)
  have v2 : vp_in (nI i + 2) xs.length := by rw [show nI i + 2 = nI (i + 2) from nI_add i 2]; exact vp_in_nI (by omega) (by omega)
  have v3 : vp_in (nI i + 3) xs.length := by rw [show nI i + 3 = nI (i + 3) from nI_add i 3]; exact vp_in_nI (by omega) (by omega)
  refine g_go (ok_W_law b xs) [789] 80 ?_
  refine g_cs_i (c_W_mark (c := (fun _ => 1)) hl rfl T hw (by omega)) (fun oc h1 hp => ?_)
  obtain ⟨u, rfl, hv, T1, w1, g1, f1⟩ := hp
  refine ⟨_, rfl, ?_⟩
  have Z1 : o_Z h1 z F A := o_Z_rg Z (fun q q1 q2 => f1 q (by omega) (by omega))
  refine g_cv_i Z1.1 (c_Z_mark (c := (fun _ => 1)) rfl Z1 R) (fun oc h2 hp => ?_)
  obtain ⟨⟨y, rfl, hy⟩, F2, A2, z2, R2, e0, f2⟩ := hp
  refine ⟨_, rfl, ?_⟩
  refine g_cv_i z2.1 (c_Z_thrown z2) (fun oc h3 hp => ?_)
  obtain ⟨rfl, rfl⟩ := hp
  refine ⟨_, rfl, ?_⟩
  refine g_br_t e0 ?_
  have T2 := o_T_rg T1 (fun q q1 q2 => f2.2 q (by omega))
  have w2 := (f2.2 w (by omega)).trans w1
  have fin : ∀ c5 c6 : Option Value, g_X l (J_W_law b xs) 789 (w_L b x z w (nI i) c5 c6) [] h3 P := fun c5 c6 => kk _ h3 c5 c6 ⟨T2, ⟨F2, A2, z2, R2⟩, u, w2⟩ (w_gr_of g1 f2.1)
  cases hq : (q_mark S).1 with
  | inl v =>
    refine g_br_f (fun z => z rfl) ?_
    refine g_alL_i w2 (vp_in_nI (n := 0) (by simp) (by simp)) ?_
    refine g_br_t ((lg_cmp_eq _ _).mpr (show u = y.toInt64 by rw [hv v hq, hy v hq])) ?_
    exact fin _ _
  | inr X =>
    refine g_br_t (show ¬ (1 : Int32) = 0 by decide) ?_
    exact fin _ _
set_option maxRecDepth 100000 in
set_option maxHeartbeats 4000000 in
theorem x_l_byteAt (hl : l.stackTraces = false) (hxz : x + 55 ≤ z) (hzw : z + 18 ≤ w) (hi : i + 4 ≤ xs.length) (hxs : xs.length ≤ 2048) (hI : w_I x z w h S) (kk : ∀ (S' : q_S) (h' : g_H) (c5 c6 : Option Value), w_I x z w h' S' → w_gr h h' → g_X l (J_W_law b xs) 789 (w_L b x z w (nI i) c5 c6) [] h' P) : g_X l (J_W_law b xs) 280 (w_L b x z w (nI i) c5 c6) [] h P := by
  obtain ⟨T, ⟨F, A, Z, R⟩, v0, hw⟩ := hI
  have v1 : vp_in (nI i + 1) xs.length := by rw [nI_1]; exact vp_in_nI (by omega) (by omega)
  have v2 : vp_in (nI i + 2) xs.length := by rw [show nI i + 2 = nI (i + 2) from nI_add i 2]; exact vp_in_nI (by omega) (by omega)
  have v3 : vp_in (nI i + 3) xs.length := by rw [show nI i + 3 = nI (i + 3) from nI_add i 3]; exact vp_in_nI (by omega) (by omega)
  refine g_go (ok_W_law b xs) [789] 80 ?_
  refine ⟨rfl, v1, ?_⟩
  refine g_cs_i (c_W_byteAt (c := (fun _ => 1)) hl rfl T hw (by omega)) (fun oc h1 hp => ?_)
  obtain ⟨u, rfl, hv, T1, w1, g1, f1⟩ := hp
  refine ⟨_, rfl, ?_⟩
  refine ⟨rfl, v1, ?_⟩
  have Z1 : o_Z h1 z F A := o_Z_rg Z (fun q q1 q2 => f1 q (by omega) (by omega))
  refine g_cv_i Z1.1 (c_Z_byteAt (c := (fun _ => 1)) rfl Z1 R) (fun oc h2 hp => ?_)
  obtain ⟨⟨y, rfl, hy⟩, F2, A2, z2, R2, e0, f2⟩ := hp
  refine ⟨_, rfl, ?_⟩
  refine g_cv_i z2.1 (c_Z_thrown z2) (fun oc h3 hp => ?_)
  obtain ⟨rfl, rfl⟩ := hp
  refine ⟨_, rfl, ?_⟩
  refine g_br_t e0 ?_
  have T2 := o_T_rg T1 (fun q q1 q2 => f2.2 q (by omega))
  have w2 := (f2.2 w (by omega)).trans w1
  have fin : ∀ c5 c6 : Option Value, g_X l (J_W_law b xs) 789 (w_L b x z w (nI i) c5 c6) [] h3 P := fun c5 c6 => kk _ h3 c5 c6 ⟨T2, ⟨F2, A2, z2, R2⟩, u, w2⟩ (w_gr_of g1 f2.1)
  cases hq : (q_byteAt S (xs.getD (nI i + 1).toNatClampNeg 0)).1 with
  | inl v =>
    refine g_br_f (fun z => z rfl) ?_
    refine g_alL_i w2 (vp_in_nI (n := 0) (by simp) (by simp)) ?_
    refine g_br_t ((lg_cmp_eq _ _).mpr (show u = y.toInt64 by rw [hv v hq, hy v hq])) ?_
    exact fin _ _
  | inr X =>
    refine g_br_t (show ¬ (1 : Int32) = 0 by decide) ?_
    exact fin _ _
set_option maxRecDepth 100000 in
set_option maxHeartbeats 4000000 in
theorem x_l_flip (hl : l.stackTraces = false) (hxz : x + 55 ≤ z) (hzw : z + 18 ≤ w) (hi : i + 4 ≤ xs.length) (hxs : xs.length ≤ 2048) (hI : w_I x z w h S) (kk : ∀ (S' : q_S) (h' : g_H) (c5 c6 : Option Value), w_I x z w h' S' → w_gr h h' → g_X l (J_W_law b xs) 789 (w_L b x z w (nI i) c5 c6) [] h' P) : g_X l (J_W_law b xs) 336 (w_L b x z w (nI i) c5 c6) [] h P := by
  obtain ⟨T, ⟨F, A, Z, R⟩, v0, hw⟩ := hI
  have v1 : vp_in (nI i + 1) xs.length := by rw [nI_1]; exact vp_in_nI (by omega) (by omega)
  have v2 : vp_in (nI i + 2) xs.length := by rw [show nI i + 2 = nI (i + 2) from nI_add i 2]; exact vp_in_nI (by omega) (by omega)
  have v3 : vp_in (nI i + 3) xs.length := by rw [show nI i + 3 = nI (i + 3) from nI_add i 3]; exact vp_in_nI (by omega) (by omega)
  refine g_go (ok_W_law b xs) [789] 80 ?_
  refine ⟨rfl, v1, ?_⟩
  refine ⟨rfl, v2, ?_⟩
  refine g_cs_i (c_W_flip (c := (z_c z_X1)) hl (if_pos rfl) (if_neg (by decide)) T hw (by omega)) (fun oc h1 hp => ?_)
  obtain ⟨u, rfl, hv, T1, w1, g1, f1⟩ := hp
  refine ⟨_, rfl, ?_⟩
  refine ⟨rfl, v1, ?_⟩
  refine ⟨rfl, v2, ?_⟩
  have Z1 : o_Z h1 z F A := o_Z_rg Z (fun q q1 q2 => f1 q (by omega) (by omega))
  refine g_cv_i Z1.1 (c_Z_flip (c := (z_c z_X1)) (if_pos rfl) (if_neg (by decide)) Z1 R) (fun oc h2 hp => ?_)
  obtain ⟨⟨y, rfl, hy⟩, F2, A2, z2, R2, e0, f2⟩ := hp
  refine ⟨_, rfl, ?_⟩
  refine g_cv_i z2.1 (c_Z_thrown z2) (fun oc h3 hp => ?_)
  obtain ⟨rfl, rfl⟩ := hp
  refine ⟨_, rfl, ?_⟩
  refine g_br_t e0 ?_
  have T2 := o_T_rg T1 (fun q q1 q2 => f2.2 q (by omega))
  have w2 := (f2.2 w (by omega)).trans w1
  have fin : ∀ c5 c6 : Option Value, g_X l (J_W_law b xs) 789 (w_L b x z w (nI i) c5 c6) [] h3 P := fun c5 c6 => kk _ h3 c5 c6 ⟨T2, ⟨F2, A2, z2, R2⟩, u, w2⟩ (w_gr_of g1 f2.1)
  cases hq : (q_flip S (xs.getD (nI i + 1).toNatClampNeg 0) (xs.getD (nI i + 2).toNatClampNeg 0)).1 with
  | inl v =>
    refine g_br_f (fun z => z rfl) ?_
    refine g_alL_i w2 (vp_in_nI (n := 0) (by simp) (by simp)) ?_
    refine g_br_t ((lg_cmp_eq _ _).mpr (show u = y.toInt64 by rw [hv v hq, hy v hq])) ?_
    exact fin _ _
  | inr X =>
    refine g_br_t (show ¬ (z_c z_X1) X = 0 by unfold z_c; split <;> decide) ?_
    exact fin _ _
set_option maxRecDepth 100000 in
set_option maxHeartbeats 4000000 in
theorem x_l_put (hl : l.stackTraces = false) (hxz : x + 55 ≤ z) (hzw : z + 18 ≤ w) (hi : i + 4 ≤ xs.length) (hxs : xs.length ≤ 2048) (hI : w_I x z w h S) (kk : ∀ (S' : q_S) (h' : g_H) (c5 c6 : Option Value), w_I x z w h' S' → w_gr h h' → g_X l (J_W_law b xs) 789 (w_L b x z w (nI i) c5 c6) [] h' P) : g_X l (J_W_law b xs) 404 (w_L b x z w (nI i) c5 c6) [] h P := by
  obtain ⟨T, ⟨F, A, Z, R⟩, v0, hw⟩ := hI
  have v1 : vp_in (nI i + 1) xs.length := by rw [nI_1]; exact vp_in_nI (by omega) (by omega)
  have v2 : vp_in (nI i + 2) xs.length := by rw [show nI i + 2 = nI (i + 2) from nI_add i 2]; exact vp_in_nI (by omega) (by omega)
  have v3 : vp_in (nI i + 3) xs.length := by rw [show nI i + 3 = nI (i + 3) from nI_add i 3]; exact vp_in_nI (by omega) (by omega)
  refine g_go (ok_W_law b xs) [789] 80 ?_
  refine ⟨rfl, v1, ?_⟩
  refine g_cs_i (c_W_put (c := (z_c z_X2)) hl (if_pos rfl) (if_neg (by decide)) T hw (by omega)) (fun oc h1 hp => ?_)
  obtain ⟨u, rfl, hv, T1, w1, g1, f1⟩ := hp
  refine ⟨_, rfl, ?_⟩
  refine ⟨rfl, v1, ?_⟩
  have Z1 : o_Z h1 z F A := o_Z_rg Z (fun q q1 q2 => f1 q (by omega) (by omega))
  refine g_cv_i Z1.1 (c_Z_put (c := (z_c z_X2)) (if_pos rfl) (if_neg (by decide)) Z1 R) (fun oc h2 hp => ?_)
  obtain ⟨⟨y, rfl, hy⟩, F2, A2, z2, R2, e0, f2⟩ := hp
  refine ⟨_, rfl, ?_⟩
  refine g_cv_i z2.1 (c_Z_thrown z2) (fun oc h3 hp => ?_)
  obtain ⟨rfl, rfl⟩ := hp
  refine ⟨_, rfl, ?_⟩
  refine g_br_t e0 ?_
  have T2 := o_T_rg T1 (fun q q1 q2 => f2.2 q (by omega))
  have w2 := (f2.2 w (by omega)).trans w1
  have fin : ∀ c5 c6 : Option Value, g_X l (J_W_law b xs) 789 (w_L b x z w (nI i) c5 c6) [] h3 P := fun c5 c6 => kk _ h3 c5 c6 ⟨T2, ⟨F2, A2, z2, R2⟩, u, w2⟩ (w_gr_of g1 f2.1)
  cases hq : (q_put S (xs.getD (nI i + 1).toNatClampNeg 0)).1 with
  | inl v =>
    refine g_br_f (fun z => z rfl) ?_
    refine g_alL_i w2 (vp_in_nI (n := 0) (by simp) (by simp)) ?_
    refine g_br_t ((lg_cmp_eq _ _).mpr (show u = y.toInt64 by rw [hv v hq, hy v hq])) ?_
    exact fin _ _
  | inr X =>
    refine g_br_t (show ¬ (z_c z_X2) X = 0 by unfold z_c; split <;> decide) ?_
    exact fin _ _
set_option maxRecDepth 100000 in
set_option maxHeartbeats 4000000 in
theorem x_l_cut (hl : l.stackTraces = false) (hxz : x + 55 ≤ z) (hzw : z + 18 ≤ w) (hi : i + 4 ≤ xs.length) (hxs : xs.length ≤ 2048) (hI : w_I x z w h S) (kk : ∀ (S' : q_S) (h' : g_H) (c5 c6 : Option Value), w_I x z w h' S' → w_gr h h' → g_X l (J_W_law b xs) 789 (w_L b x z w (nI i) c5 c6) [] h' P) : g_X l (J_W_law b xs) 460 (w_L b x z w (nI i) c5 c6) [] h P := by
  obtain ⟨T, ⟨F, A, Z, R⟩, v0, hw⟩ := hI
  have v1 : vp_in (nI i + 1) xs.length := by rw [nI_1]; exact vp_in_nI (by omega) (by omega)
  have v2 : vp_in (nI i + 2) xs.length := by rw [show nI i + 2 = nI (i + 2) from nI_add i 2]; exact vp_in_nI (by omega) (by omega)
  have v3 : vp_in (nI i + 3) xs.length := by rw [show nI i + 3 = nI (i + 3) from nI_add i 3]; exact vp_in_nI (by omega) (by omega)
  refine g_go (ok_W_law b xs) [789] 80 ?_
  refine ⟨rfl, v1, ?_⟩
  refine g_cs_i (c_W_cut (c := (fun _ => 1)) hl rfl T hw (by omega)) (fun oc h1 hp => ?_)
  obtain ⟨u, rfl, hv, T1, w1, g1, f1⟩ := hp
  refine ⟨_, rfl, ?_⟩
  refine ⟨rfl, v1, ?_⟩
  have Z1 : o_Z h1 z F A := o_Z_rg Z (fun q q1 q2 => f1 q (by omega) (by omega))
  refine g_cv_i Z1.1 (c_Z_cut (c := (fun _ => 1)) rfl Z1 R) (fun oc h2 hp => ?_)
  obtain ⟨⟨y, rfl, hy⟩, F2, A2, z2, R2, e0, f2⟩ := hp
  refine ⟨_, rfl, ?_⟩
  refine g_cv_i z2.1 (c_Z_thrown z2) (fun oc h3 hp => ?_)
  obtain ⟨rfl, rfl⟩ := hp
  refine ⟨_, rfl, ?_⟩
  refine g_br_t e0 ?_
  have T2 := o_T_rg T1 (fun q q1 q2 => f2.2 q (by omega))
  have w2 := (f2.2 w (by omega)).trans w1
  have fin : ∀ c5 c6 : Option Value, g_X l (J_W_law b xs) 789 (w_L b x z w (nI i) c5 c6) [] h3 P := fun c5 c6 => kk _ h3 c5 c6 ⟨T2, ⟨F2, A2, z2, R2⟩, u, w2⟩ (w_gr_of g1 f2.1)
  cases hq : (q_cut S (xs.getD (nI i + 1).toNatClampNeg 0)).1 with
  | inl v =>
    refine g_br_f (fun z => z rfl) ?_
    refine g_alL_i w2 (vp_in_nI (n := 0) (by simp) (by simp)) ?_
    refine g_br_t ((lg_cmp_eq _ _).mpr (show u = y.toInt64 by rw [hv v hq, hy v hq])) ?_
    exact fin _ _
  | inr X =>
    refine g_br_t (show ¬ (1 : Int32) = 0 by decide) ?_
    exact fin _ _
set_option maxRecDepth 100000 in
set_option maxHeartbeats 4000000 in
theorem x_l_choose (hl : l.stackTraces = false) (hxz : x + 55 ≤ z) (hzw : z + 18 ≤ w) (hi : i + 4 ≤ xs.length) (hxs : xs.length ≤ 2048) (hI : w_I x z w h S) (kk : ∀ (S' : q_S) (h' : g_H) (c5 c6 : Option Value), w_I x z w h' S' → w_gr h h' → g_X l (J_W_law b xs) 789 (w_L b x z w (nI i) c5 c6) [] h' P) : g_X l (J_W_law b xs) 516 (w_L b x z w (nI i) c5 c6) [] h P := by
  obtain ⟨T, ⟨F, A, Z, R⟩, v0, hw⟩ := hI
  have v1 : vp_in (nI i + 1) xs.length := by rw [nI_1]; exact vp_in_nI (by omega) (by omega)
  have v2 : vp_in (nI i + 2) xs.length := by rw [show nI i + 2 = nI (i + 2) from nI_add i 2]; exact vp_in_nI (by omega) (by omega)
  have v3 : vp_in (nI i + 3) xs.length := by rw [show nI i + 3 = nI (i + 3) from nI_add i 3]; exact vp_in_nI (by omega) (by omega)
  refine g_go (ok_W_law b xs) [789] 80 ?_
  refine ⟨rfl, v1, ?_⟩
  refine ⟨rfl, v2, ?_⟩
  refine g_cs_i (c_W_choose (c := (fun _ => 1)) hl rfl T hw (by omega)) (fun oc h1 hp => ?_)
  obtain ⟨u, rfl, hv, T1, w1, g1, f1⟩ := hp
  refine ⟨_, rfl, ?_⟩
  refine ⟨rfl, v1, ?_⟩
  refine ⟨rfl, v2, ?_⟩
  have Z1 : o_Z h1 z F A := o_Z_rg Z (fun q q1 q2 => f1 q (by omega) (by omega))
  refine g_cv_i Z1.1 (c_Z_choose (c := (fun _ => 1)) rfl Z1 R) (fun oc h2 hp => ?_)
  obtain ⟨⟨y, rfl, hy⟩, F2, A2, z2, R2, e0, f2⟩ := hp
  refine ⟨_, rfl, ?_⟩
  refine g_cv_i z2.1 (c_Z_thrown z2) (fun oc h3 hp => ?_)
  obtain ⟨rfl, rfl⟩ := hp
  refine ⟨_, rfl, ?_⟩
  refine g_br_t e0 ?_
  have T2 := o_T_rg T1 (fun q q1 q2 => f2.2 q (by omega))
  have w2 := (f2.2 w (by omega)).trans w1
  have fin : ∀ c5 c6 : Option Value, g_X l (J_W_law b xs) 789 (w_L b x z w (nI i) c5 c6) [] h3 P := fun c5 c6 => kk _ h3 c5 c6 ⟨T2, ⟨F2, A2, z2, R2⟩, u, w2⟩ (w_gr_of g1 f2.1)
  cases hq : (q_choose S (xs.getD (nI i + 1).toNatClampNeg 0) (xs.getD (nI i + 2).toNatClampNeg 0)).1 with
  | inl v =>
    refine g_br_f (fun z => z rfl) ?_
    refine g_alL_i w2 (vp_in_nI (n := 0) (by simp) (by simp)) ?_
    refine g_br_t ((lg_cmp_eq _ _).mpr (show u = y.toInt64 by rw [hv v hq, hy v hq])) ?_
    exact fin _ _
  | inr X =>
    refine g_br_t (show ¬ (1 : Int32) = 0 by decide) ?_
    exact fin _ _
set_option maxRecDepth 100000 in
set_option maxHeartbeats 4000000 in
theorem x_l_read (hl : l.stackTraces = false) (hxz : x + 55 ≤ z) (hzw : z + 18 ≤ w) (hi : i + 4 ≤ xs.length) (hxs : xs.length ≤ 2048) (hI : w_I x z w h S) (kk : ∀ (S' : q_S) (h' : g_H) (c5 c6 : Option Value), w_I x z w h' S' → w_gr h h' → g_X l (J_W_law b xs) 789 (w_L b x z w (nI i) c5 c6) [] h' P) : g_X l (J_W_law b xs) 584 (w_L b x z w (nI i) c5 c6) [] h P := by
  obtain ⟨T, ⟨F, A, Z, R⟩, v0, hw⟩ := hI
  have v1 : vp_in (nI i + 1) xs.length := by rw [nI_1]; exact vp_in_nI (by omega) (by omega)
  have v2 : vp_in (nI i + 2) xs.length := by rw [show nI i + 2 = nI (i + 2) from nI_add i 2]; exact vp_in_nI (by omega) (by omega)
  have v3 : vp_in (nI i + 3) xs.length := by rw [show nI i + 3 = nI (i + 3) from nI_add i 3]; exact vp_in_nI (by omega) (by omega)
  refine g_go (ok_W_law b xs) [789] 80 ?_
  refine ⟨rfl, v1, ?_⟩
  refine g_cs_i (c_W_read (c := (fun _ => 1)) hl R.1.2 rfl T hw (by omega)) (fun oc h1 hp => ?_)
  obtain ⟨u, rfl, hv, T1, w1, g1, f1⟩ := hp
  refine ⟨_, rfl, ?_⟩
  refine ⟨rfl, v1, ?_⟩
  have Z1 : o_Z h1 z F A := o_Z_rg Z (fun q q1 q2 => f1 q (by omega) (by omega))
  refine g_cv_i Z1.1 (c_Z_reads (c := (fun _ => 1)) rfl Z1 R) (fun oc h2 hp => ?_)
  obtain ⟨⟨y, rfl, hy⟩, F2, A2, z2, R2, e0, f2⟩ := hp
  refine ⟨_, rfl, ?_⟩
  refine g_cv_i z2.1 (c_Z_thrown z2) (fun oc h3 hp => ?_)
  obtain ⟨rfl, rfl⟩ := hp
  refine ⟨_, rfl, ?_⟩
  refine g_br_t e0 ?_
  have T2 := o_T_rg T1 (fun q q1 q2 => f2.2 q (by omega))
  have w2 := (f2.2 w (by omega)).trans w1
  have fin : ∀ c5 c6 : Option Value, g_X l (J_W_law b xs) 789 (w_L b x z w (nI i) c5 c6) [] h3 P := fun c5 c6 => kk _ h3 c5 c6 ⟨T2, ⟨F2, A2, z2, R2⟩, u, w2⟩ (w_gr_of g1 f2.1)
  cases hq : (q_read S (xs.getD (nI i + 1).toNatClampNeg 0)).1 with
  | inl v =>
    refine g_br_f (fun z => z rfl) ?_
    refine g_alL_i w2 (vp_in_nI (n := 0) (by simp) (by simp)) ?_
    refine g_br_t ((lg_cmp_eq _ _).mpr (show u = y.toInt64 by rw [hv v hq, hy v hq])) ?_
    exact fin _ _
  | inr X =>
    refine g_br_t (show ¬ (1 : Int32) = 0 by decide) ?_
    exact fin _ _
set_option maxRecDepth 100000 in
set_option maxHeartbeats 4000000 in
theorem x_l_kept (hl : l.stackTraces = false) (hxz : x + 55 ≤ z) (hzw : z + 18 ≤ w) (hi : i + 4 ≤ xs.length) (hxs : xs.length ≤ 2048) (hI : w_I x z w h S) (kk : ∀ (S' : q_S) (h' : g_H) (c5 c6 : Option Value), w_I x z w h' S' → w_gr h h' → g_X l (J_W_law b xs) 789 (w_L b x z w (nI i) c5 c6) [] h' P) : g_X l (J_W_law b xs) 640 (w_L b x z w (nI i) c5 c6) [] h P := by
  obtain ⟨T, ⟨F, A, Z, R⟩, v0, hw⟩ := hI
  have v1 : vp_in (nI i + 1) xs.length := by rw [nI_1]; exact vp_in_nI (by omega) (by omega)
  have v2 : vp_in (nI i + 2) xs.length := by rw [show nI i + 2 = nI (i + 2) from nI_add i 2]; exact vp_in_nI (by omega) (by omega)
  have v3 : vp_in (nI i + 3) xs.length := by rw [show nI i + 3 = nI (i + 3) from nI_add i 3]; exact vp_in_nI (by omega) (by omega)
  refine g_go (ok_W_law b xs) [789] 80 ?_
  refine ⟨rfl, v1, ?_⟩
  refine ⟨rfl, v2, ?_⟩
  refine g_cs_i (c_W_kept (c := (fun _ => 1)) hl rfl T hw (by omega)) (fun oc h1 hp => ?_)
  obtain ⟨u, rfl, hv, T1, w1, g1, f1⟩ := hp
  refine ⟨_, rfl, ?_⟩
  refine ⟨rfl, v1, ?_⟩
  refine ⟨rfl, v2, ?_⟩
  have Z1 : o_Z h1 z F A := o_Z_rg Z (fun q q1 q2 => f1 q (by omega) (by omega))
  refine g_cv_i Z1.1 (c_Z_kept (c := (fun _ => 1)) rfl Z1 R) (fun oc h2 hp => ?_)
  obtain ⟨⟨y, rfl, hy⟩, F2, A2, z2, R2, e0, f2⟩ := hp
  refine ⟨_, rfl, ?_⟩
  refine g_cv_i z2.1 (c_Z_thrown z2) (fun oc h3 hp => ?_)
  obtain ⟨rfl, rfl⟩ := hp
  refine ⟨_, rfl, ?_⟩
  refine g_br_t e0 ?_
  have T2 := o_T_rg T1 (fun q q1 q2 => f2.2 q (by omega))
  have w2 := (f2.2 w (by omega)).trans w1
  have fin : ∀ c5 c6 : Option Value, g_X l (J_W_law b xs) 789 (w_L b x z w (nI i) c5 c6) [] h3 P := fun c5 c6 => kk _ h3 c5 c6 ⟨T2, ⟨F2, A2, z2, R2⟩, u, w2⟩ (w_gr_of g1 f2.1)
  cases hq : (q_kept S (xs.getD (nI i + 1).toNatClampNeg 0) (xs.getD (nI i + 2).toNatClampNeg 0)).1 with
  | inl v =>
    refine g_br_f (fun z => z rfl) ?_
    refine g_alL_i w2 (vp_in_nI (n := 0) (by simp) (by simp)) ?_
    refine g_br_t ((lg_cmp_eq _ _).mpr (show u = y.toInt64 by rw [hv v hq, hy v hq])) ?_
    exact fin _ _
  | inr X =>
    refine g_br_t (show ¬ (1 : Int32) = 0 by decide) ?_
    exact fin _ _
set_option maxRecDepth 100000 in
set_option maxHeartbeats 4000000 in
theorem x_l_merged (hl : l.stackTraces = false) (hxz : x + 55 ≤ z) (hzw : z + 18 ≤ w) (hi : i + 4 ≤ xs.length) (hxs : xs.length ≤ 2048) (hI : w_I x z w h S) (kk : ∀ (S' : q_S) (h' : g_H) (c5 c6 : Option Value), w_I x z w h' S' → w_gr h h' → g_X l (J_W_law b xs) 789 (w_L b x z w (nI i) c5 c6) [] h' P) : g_X l (J_W_law b xs) 708 (w_L b x z w (nI i) c5 c6) [] h P := by
  obtain ⟨T, ⟨F, A, Z, R⟩, v0, hw⟩ := hI
  have v1 : vp_in (nI i + 1) xs.length := by rw [nI_1]; exact vp_in_nI (by omega) (by omega)
  have v2 : vp_in (nI i + 2) xs.length := by rw [show nI i + 2 = nI (i + 2) from nI_add i 2]; exact vp_in_nI (by omega) (by omega)
  have v3 : vp_in (nI i + 3) xs.length := by rw [show nI i + 3 = nI (i + 3) from nI_add i 3]; exact vp_in_nI (by omega) (by omega)
  refine g_go (ok_W_law b xs) [789] 80 ?_
  refine ⟨rfl, v1, ?_⟩
  refine g_cs_i (c_W_merged (c := (fun _ => 1)) hl rfl T hw (by omega)) (fun oc h1 hp => ?_)
  obtain ⟨u, rfl, hv, T1, w1, g1, f1⟩ := hp
  refine ⟨_, rfl, ?_⟩
  refine ⟨rfl, v1, ?_⟩
  have Z1 : o_Z h1 z F A := o_Z_rg Z (fun q q1 q2 => f1 q (by omega) (by omega))
  refine g_cv_i Z1.1 (c_Z_merged (c := (fun _ => 1)) rfl Z1 R) (fun oc h2 hp => ?_)
  obtain ⟨⟨y, rfl, hy⟩, F2, A2, z2, R2, e0, f2⟩ := hp
  refine ⟨_, rfl, ?_⟩
  refine g_cv_i z2.1 (c_Z_thrown z2) (fun oc h3 hp => ?_)
  obtain ⟨rfl, rfl⟩ := hp
  refine ⟨_, rfl, ?_⟩
  refine g_br_t e0 ?_
  have T2 := o_T_rg T1 (fun q q1 q2 => f2.2 q (by omega))
  have w2 := (f2.2 w (by omega)).trans w1
  have fin : ∀ c5 c6 : Option Value, g_X l (J_W_law b xs) 789 (w_L b x z w (nI i) c5 c6) [] h3 P := fun c5 c6 => kk _ h3 c5 c6 ⟨T2, ⟨F2, A2, z2, R2⟩, u, w2⟩ (w_gr_of g1 f2.1)
  cases hq : (q_merged S (xs.getD (nI i + 1).toNatClampNeg 0)).1 with
  | inl v =>
    refine g_br_f (fun z => z rfl) ?_
    refine g_alL_i w2 (vp_in_nI (n := 0) (by simp) (by simp)) ?_
    refine g_br_t ((lg_cmp_eq _ _).mpr (show u = y.toInt64 by rw [hv v hq, hy v hq])) ?_
    exact fin _ _
  | inr X =>
    refine g_br_t (show ¬ (1 : Int32) = 0 by decide) ?_
    exact fin _ _
set_option maxRecDepth 100000 in
set_option maxHeartbeats 4000000 in
theorem x_l_count (hxz : x + 55 ≤ z) (hzw : z + 18 ≤ w) (hi : i + 4 ≤ xs.length) (hxs : xs.length ≤ 2048) (hI : w_I x z w h S) (kk : ∀ (S' : q_S) (h' : g_H) (c5 c6 : Option Value), w_I x z w h' S' → w_gr h h' → g_X l (J_W_law b xs) 789 (w_L b x z w (nI i) c5 c6) [] h' P) : g_X l (J_W_law b xs) 764 (w_L b x z w (nI i) c5 c6) [] h P := by
  obtain ⟨T, ⟨F, A, Z, R⟩, v0, hw⟩ := hI
  have v1 : vp_in (nI i + 1) xs.length := by rw [nI_1]; exact vp_in_nI (by omega) (by omega)
  refine g_go (ok_W_law b xs) [789] 80 ?_
  refine ⟨rfl, v1, ?_⟩
  refine g_cv_i T.1 (c_T_count T) (fun oc h1 hp => ?_)
  obtain ⟨rfl, rfl⟩ := hp
  refine ⟨_, rfl, ?_⟩
  refine ⟨rfl, v1, ?_⟩
  refine g_cv_i Z.1 (c_Z_count (c := fun _ => 1) Z R) (fun oc h2 hp => ?_)
  obtain ⟨⟨y, rfl, hy⟩, F2, A2, z2, R2, e0, f2⟩ := hp
  refine ⟨_, rfl, ?_⟩
  refine g_br_t (hy _ rfl).symm ?_
  exact kk S h2 _ _ ⟨o_T_rg T (fun q q1 q2 => f2.2 q (by omega)), ⟨F2, A2, z2, R2⟩, v0, (f2.2 w (by omega)).trans hw⟩ (w_gr_of (Or.inl rfl) f2.1)
end
