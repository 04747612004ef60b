/-! TracePacksModel.block from its start, and read -/
section
variable {l : Launch} {a : Nat} {hh : g_H} {F0 : Nat → Int32} {A0 : Nat → List Int32} {S : o_Sd}
set_option maxRecDepth 100000 in
set_option maxHeartbeats 4000000 in
theorem x_b_97 {kd th : Nat} {seg ins : List Int32} {c1 c2 : Int32} {h : g_H} {F : Nat → Int32} {A : Nat → List Int32} (h13 : F0 13 = nI kd) (h14 : F0 14 = nI th) (hkd : kd < 32) (hth : th < 16) (hu : r_us [] seg = some ins) (hi : z_in F A ins) (h9 : 9 ≤ ins.length) (hI : z_bI a hh F0 A0 S h F A) (hg : (F 39 = 1 ∧ ins.getD (ins.length - 2) 0 = (e_pq 0 0 (d_bs ins)).1 ∧ ins.getD (ins.length - 1) 0 = (e_pq 0 0 (d_bs ins)).2) ∨ (F 39 = 0 ∧ ¬ (ins.getD (ins.length - 2) 0 = (e_pq 0 0 (d_bs ins)).1 ∧ ins.getD (ins.length - 1) 0 = (e_pq 0 0 (d_bs ins)).2))) : g_X l J_Z_block 97 [some (.ref a), some (.int c1), some (.int c2), some (.int 0), some (.int 0), some (.int 0), none] [] h (z_bP a hh F0 A0 (d_one (nI (kd + 32 * th)) S seg)) := by
  obtain ⟨i1, i2, i3, i4⟩ := hi
  have hbl : (d_bs ins).length = ins.length - 2 := by rw [List.length_take]; omega
  refine g_go ok_Z_block [129] 60 ?_
  refine g_pt_j (z_fs a (z_u F 37 0)) hI.1.1 (Nat.le_of_ble_eq_true rfl) rfl rfl rfl ?_
  have I1 := z_bI_f 37 0 (by omega) hI
  refine g_gt_i I1.1.1 rfl ?_
  refine g_pt_j (z_fs a (z_u (z_u F 37 0) 38 (F 15 - 2))) I1.1.1 (Nat.le_of_ble_eq_true rfl) rfl rfl rfl ?_
  have I2 := z_bI_f 38 (F 15 - 2) (by omega) I1
  have e38 : F 15 - 2 = nI (ins.length - 2) := by rw [i1]; exact pk_sub (b := 2) (by omega)
  have s0 : z_ps (z_u (z_u F 37 0) 38 (F 15 - 2)) A (d_bs ins) 0 := by
    refine ⟨Nat.zero_le _, rfl, ?_, ?_, by omega, fun x hx => i4 x (List.mem_of_mem_take hx)⟩
    · show F 15 - 2 = _
      rw [hbl]
      exact e38
    · rw [hbl]
      show (A 6).take (ins.length - 2) = ins.take (ins.length - 2)
      have e := congrArg (List.take (ins.length - 2)) i2
      rw [List.take_take, Nat.min_eq_left (by omega)] at e
      exact e
  refine g_cv_i I2.1.1 (c_Z_next I2.1 s0) (fun oc h1 hp => ?_)
  obtain ⟨F1, z1, e1, f1, hc⟩ := hp
  rcases hc with ⟨x0, hx0, rfl, g37, g39⟩ | ⟨hkl, _⟩
  · refine ⟨_, rfl, ?_⟩
    have s1 : z_ps F1 A (d_bs ins) 1 := z_ps_mv s0 (by omega) g37 (e1 38 (by omega) (by omega))
    have I3 := z_bI_mv I2 z1 (fun j hj => e1 j (by omega) (by omega)) (fun _ _ => rfl) f1
    refine g_cv_i I3.1.1 (c_Z_nextFour I3.1 s1) (fun oc h2 hp => ?_)
    obtain ⟨F2, z2, e2, f2, hc⟩ := hp
    rcases hc with ⟨_, rfl, g2, s2⟩ | ⟨hlt, _⟩
    · refine ⟨_, rfl, ?_⟩
      have I4 := z_bI_mv I3 z2 (fun j hj => e2 j (by omega) (by omega)) (fun _ _ => rfl) f2
      refine g_cv_i I4.1.1 (c_Z_next I4.1 s2) (fun oc h3 hp => ?_)
      obtain ⟨F3, z3, e3, f3, hc⟩ := hp
      rcases hc with ⟨x5, hx5, rfl, g37', g39'⟩ | ⟨hkl, _⟩
      · refine ⟨_, rfl, ?_⟩
        have s3 : z_ps F3 A (d_bs ins) 6 := z_ps_mv s2 (by omega) g37' (e3 38 (by omega) (by omega))
        have I5 := z_bI_mv I4 z3 (fun j hj => e3 j (by omega) (by omega)) (fun _ _ => rfl) f3
        have eg : F3 39 = F 39 := by
          rw [g39', g2, g39]
          rfl
        have key := x_b_129 (l := l) (c1 := c1) (c2 := c2) h13 h14 hkd hth hu i4 h9 I5 s3 (by rw [eg]; exact hg)
        rw [l_getD hx0, l_getD hx5] at key
        exact key
      · omega
    · omega
  · omega
set_option maxRecDepth 100000 in
set_option maxHeartbeats 4000000 in
theorem c_Z_block {kd th s e : Nat} {pk : List Int32} {h : g_H} {F : Nat → Int32} {A : Nat → List Int32} (h13 : F0 13 = nI kd) (h14 : F0 14 = nI th) (hkd : kd < 32) (hth : th < 16) (hp : z_pk F0 A0 pk) (hb : o_by pk) (hse : s ≤ e) (he : e ≤ pk.length) (hI : z_bI a hh F0 A0 S h F A) : g_Run l J_Z_block [.ref a, .int (nI s), .int (nI e)] h (z_bP a hh F0 A0 (d_one (nI (kd + 32 * th)) S ((pk.take e).drop s))) := by
  have hpk : z_pk F A pk := ⟨(hI.2.2.1 1 (by omega)).trans hp.1, hp.2.1, by rw [hI.2.2.2.2.1 1 (by omega)]; exact hp.2.2⟩
  refine go_Z_block [27] 60 ?_
  refine g_cv_i hI.1.1 (c_Z_unshield hI.1 hpk hb hse he) (fun oc h1 hq => ?_)
  obtain ⟨F1, A1, z1, e1, d1, f1, hq⟩ := hq
  have I1 := z_bI_mv hI z1 (fun j hj => e1 j (by omega)) (fun i hi => d1 i (by omega)) f1
  have bad : ∀ (c3 c4 c5 : Option Value), d_blk ((pk.take e).drop s) = none → g_X l J_Z_block 27 [some (.ref a), some (.int (nI s)), some (.int (nI e)), c3, c4, c5, none] [] (g_up h1 a (.inr (10, z_fs a (z_u F1 39 0)))) (z_bP a hh F0 A0 (d_one (nI (kd + 32 * th)) S ((pk.take e).drop s))) := by
    intro c3 c4 c5 hno
    unfold d_one
    rw [hno]
    have I2 := z_bI_f 39 0 (by omega) I1
    refine g_go ok_Z_block [168] 60 ?_
    refine g_gt_i I2.1.1 rfl ?_
    refine g_br_t (show (0 : Int32) = 0 from rfl) ?_
    exact x_b_168 I2 rfl
  cases hr : r_us [] ((pk.take e).drop s) with
  | none =>
    rw [hr] at hq
    obtain ⟨rfl, ins, hin⟩ := hq
    refine ⟨_, rfl, ?_⟩
    refine g_br_t (by decide) ?_
    refine g_pt_j (z_fs a (z_u F1 39 0)) I1.1.1 (Nat.le_of_ble_eq_true rfl) rfl rfl rfl ?_
    exact bad _ _ _ (d_blk_u hr)
  | some ins =>
    rw [hr] at hq
    obtain ⟨rfl, hin⟩ := hq
    refine ⟨_, rfl, ?_⟩
    refine g_br_f (by decide) ?_
    refine g_gt_i I1.1.1 rfl ?_
    have hil := hin.2.2.1
    by_cases h9 : 9 ≤ ins.length
    · refine g_br_f (show ¬ F1 15 < 9 by rw [hin.1]; exact nI_nlt (b := 9) (by omega) (by omega)) ?_
      refine g_pt_j (z_fs a (z_u F1 39 1)) I1.1.1 (Nat.le_of_ble_eq_true rfl) rfl rfl rfl ?_
      have I2 := z_bI_f 39 1 (by omega) I1
      have hin2 : z_in (z_u F1 39 1) A1 ins := hin
      refine g_go ok_Z_block [97] 60 ?_
      refine g_gt_i I2.1.1 rfl ?_
      refine g_br_f (show ¬ (1 : Int32) = 0 by decide) ?_
      refine g_gt_i I2.1.1 rfl ?_
      have ea : F1 15 - 2 = nI (ins.length - 2) := by rw [hin.1]; exact pk_sub (b := 2) (by omega)
      have eb : F1 15 - 1 = nI (ins.length - 1) := by rw [hin.1]; exact pk_sub (b := 1) (by omega)
      have su : ∀ y, y = nI (ins.length - 2) → g_Run l J_Z_sumUp [.ref a, .int y] _ _ := fun y hy => by rw [hy]; exact c_Z_sumUp (n := ins.length - 2) (by omega) I2.1 hin2
      refine g_cv_i I2.1.1 (su (F1 15 - 2) ea) (fun oc h2 hp2 => ?_)
      obtain ⟨rfl, F2, z2, p1, p2, e2, f2⟩ := hp2
      refine ⟨_, rfl, ?_⟩
      have I3 := z_bI_mv I2 z2 (fun j hj => e2 j (by omega) (by omega)) (fun _ _ => rfl) f2
      have e15 : F2 15 = F1 15 := e2 15 (by omega) (by omega)
      have hin3 : z_in F2 A1 ins := ⟨e15.trans hin.1, hin.2⟩
      have l6 : (A1 6).length = 16400 := z1.2.2.2 6 (by omega) (by omega)
      obtain ⟨x, hx, -⟩ := l_drop (xs := ins) (i := ins.length - 2) (by omega)
      obtain ⟨y, hy, -⟩ := l_drop (xs := ins) (i := ins.length - 1) (by omega)
      have gx : (A1 6).getD (F2 15 - 2).toNatClampNeg 0 = ins.getD (ins.length - 2) 0 := by
        rw [e15, ea, nI_clamp (by omega), l_getD hx]
        rw [← hin.2.1, List.getElem?_take, hin.2.1, if_pos (by omega)] at hx
        exact l_getD hx
      have gy : (A1 6).getD (F2 15 - 1).toNatClampNeg 0 = ins.getD (ins.length - 1) 0 := by
        rw [e15, eb, nI_clamp (by omega), l_getD hy]
        rw [← hin.2.1, List.getElem?_take, hin.2.1, if_pos (by omega)] at hy
        exact l_getD hy
      have t97 : ∀ v : Int32, (v = 1 ∧ ins.getD (ins.length - 2) 0 = (e_pq 0 0 (d_bs ins)).1 ∧ ins.getD (ins.length - 1) 0 = (e_pq 0 0 (d_bs ins)).2) ∨ (v = 0 ∧ ¬ (ins.getD (ins.length - 2) 0 = (e_pq 0 0 (d_bs ins)).1 ∧ ins.getD (ins.length - 1) 0 = (e_pq 0 0 (d_bs ins)).2)) → g_X l J_Z_block 97 [some (.ref a), some (.int (nI s)), some (.int (nI e)), some (.int 0), some (.int 0), some (.int 0), none] [] (g_up h2 a (.inr (10, z_fs a (z_u F2 39 v)))) (z_bP a hh F0 A0 (d_one (nI (kd + 32 * th)) S ((pk.take e).drop s))) := fun v hv => x_b_97 h13 h14 hkd hth hr (F := z_u F2 39 v) hin3 h9 (z_bI_f 39 v (by omega) I3) hv
      refine g_gt_i I3.1.1 rfl ?_
      refine g_gt_i I3.1.1 rfl ?_
      refine g_al_i (z2.2.2.1 6 (by omega) (by omega)) (show vp_in (F2 15 - 2) _ by rw [e15, ea, l6]; exact vp_in_nI (by omega) (by omega)) ?_
      refine g_gt_i I3.1.1 rfl ?_
      by_cases q1 : ins.getD (ins.length - 2) 0 = (e_pq 0 0 (d_bs ins)).1
      · refine g_br_f (show ¬ ¬ (A1 6).getD (F2 15 - 2).toNatClampNeg 0 = F2 17 from fun z => z (by rw [gx, p1]; exact q1)) ?_
        refine g_gt_i I3.1.1 rfl ?_
        refine g_gt_i I3.1.1 rfl ?_
        refine g_al_i (z2.2.2.1 6 (by omega) (by omega)) (show vp_in (F2 15 - 1) _ by rw [e15, eb, l6]; exact vp_in_nI (by omega) (by omega)) ?_
        refine g_gt_i I3.1.1 rfl ?_
        by_cases q2 : ins.getD (ins.length - 1) 0 = (e_pq 0 0 (d_bs ins)).2
        · refine g_br_f (show ¬ ¬ (A1 6).getD (F2 15 - 1).toNatClampNeg 0 = F2 18 from fun z => z (by rw [gy, p2]; exact q2)) ?_
          refine g_pt_j (z_fs a (z_u F2 39 1)) I3.1.1 (Nat.le_of_ble_eq_true rfl) rfl rfl rfl ?_
          exact t97 1 (Or.inl ⟨rfl, q1, q2⟩)
        · refine g_br_t (show ¬ (A1 6).getD (F2 15 - 1).toNatClampNeg 0 = F2 18 by rw [gy, p2]; exact q2) ?_
          refine g_pt_j (z_fs a (z_u F2 39 0)) I3.1.1 (Nat.le_of_ble_eq_true rfl) rfl rfl rfl ?_
          exact t97 0 (Or.inr ⟨rfl, fun z => q2 z.2⟩)
      · refine g_br_t (show ¬ (A1 6).getD (F2 15 - 2).toNatClampNeg 0 = F2 17 by rw [gx, p1]; exact q1) ?_
        refine g_pt_j (z_fs a (z_u F2 39 0)) I3.1.1 (Nat.le_of_ble_eq_true rfl) rfl rfl rfl ?_
        exact t97 0 (Or.inr ⟨rfl, fun z => q1 z.1⟩)
    · refine g_br_t (show F1 15 < 9 by rw [hin.1]; exact nI_lt (b := 9) (by omega) (by omega)) ?_
      refine g_pt_j (z_fs a (z_u F1 39 0)) I1.1.1 (Nat.le_of_ble_eq_true rfl) rfl rfl rfl ?_
      exact bad _ _ _ (d_blk_s hr hin.2.2.2 (fun z => h9 z.1))
end
