/-! TracePacksModel.block as a whole -/
section
variable {l : Launch} {a : Nat} {hh : g_H} {F0 : Nat → Int32} {A0 : Nat → List Int32} {S : o_Sd}
/-- the block is broken -/
def d_bk (S : o_Sd) : o_Sd := (S.1, S.2.1, S.2.2.1 + 1, S.2.2.2)
set_option maxRecDepth 100000 in
set_option maxHeartbeats 4000000 in
theorem x_b_196 {L : g_L} {h : g_H} {F : Nat → Int32} {A : Nat → List Int32} (hI : z_bI a hh F0 A0 S h F A) : g_X l J_Z_block 196 (some (.ref a) :: L) [] h (z_bP a hh F0 A0 (d_bk S)) := by
  refine g_go ok_Z_block [] 60 ?_
  refine g_gt_i hI.1.1 rfl ?_
  refine g_pt_j (z_fs a (z_u F 23 (F 23 + 1))) hI.1.1 (Nat.le_of_ble_eq_true rfl) rfl rfl rfl ?_
  obtain ⟨z1, f1⟩ := z_fld hI.1 (z_u F 23 (F 23 + 1))
  obtain ⟨z, ⟨k, s1, s2, s3⟩, e, e21, dd, f⟩ := hI
  refine ⟨rfl, _, _, z1, ⟨k, s1, ?_, s3⟩, fun j hj => ?_, e21, dd, g_Fr_tr f f1⟩
  · show F 23 + 1 = _
    rw [s2]
    rfl
  · rw [z_u_ne (by omega)]
    exact e j hj
set_option maxRecDepth 100000 in
set_option maxHeartbeats 4000000 in
theorem x_b_168 {L : g_L} {h : g_H} {F : Nat → Int32} {A : Nat → List Int32} (hI : z_bI a hh F0 A0 S h F A) (hg : F 39 = 0) : g_X l J_Z_block 168 (some (.ref a) :: L) [] h (z_bP a hh F0 A0 (d_bk S)) := by
  refine g_go ok_Z_block [196] 60 ?_
  refine g_gt_i hI.1.1 rfl ?_
  refine g_br_t hg ?_
  refine g_gt_i hI.1.1 rfl ?_
  refine g_br_t hg ?_
  exact x_b_196 hI
set_option maxRecDepth 100000 in
set_option maxHeartbeats 4000000 in
/-- the head is read and rows follow -/
theorem x_b_129 {kd th : Nat} {seg ins : List Int32} {c1 c2 : Int32} {h : g_H} {F : Nat → Int32} {A : Nat → List Int32} (h13 : F0 13 = nI kd) (h14 : F0 14 = nI th) (hkd : kd < 32) (hth : th < 16) (hu : r_us [] seg = some ins) (hb : o_by ins) (h9 : 9 ≤ ins.length) (hI : z_bI a hh F0 A0 S h F A) (hs : z_ps F A (d_bs ins) 6) (hg : (F 39 = 1 ∧ ins.getD (ins.length - 2) 0 = (e_pq 0 0 (d_bs ins)).1 ∧ ins.getD (ins.length - 1) 0 = (e_pq 0 0 (d_bs ins)).2) ∨ (F 39 = 0 ∧ ¬ (ins.getD (ins.length - 2) 0 = (e_pq 0 0 (d_bs ins)).1 ∧ ins.getD (ins.length - 1) 0 = (e_pq 0 0 (d_bs ins)).2))) : g_X l J_Z_block 129 [some (.ref a), some (.int c1), some (.int c2), some (.int (nI (d_wf 4 0 ((d_bs ins).drop 1)))), some (.int ((d_bs ins).getD 5 0)), some (.int ((d_bs ins).getD 0 0)), none] [] h (z_bP a hh F0 A0 (d_one (nI (kd + 32 * th)) S seg)) := by
  have hbl : (d_bs ins).length = ins.length - 2 := by rw [List.length_take]; omega
  have hbb : o_by (d_bs ins) := hs.2.2.2.2.2
  obtain ⟨x0, hx0, -⟩ := l_drop (xs := d_bs ins) (i := 0) (by omega)
  obtain ⟨x5, hx5, -⟩ := l_drop (xs := d_bs ins) (i := 5) (by omega)
  obtain ⟨β, hβ, rfl⟩ := o_by_at hbb hx0
  obtain ⟨N, hN, rfl⟩ := o_by_at hbb hx5
  have hW : d_wf 4 0 ((d_bs ins).drop 1) < 2 ^ 32 := by
    have := d_wf_lt 4 0 ((d_bs ins).drop 1) (fun x hx => hbb x (List.mem_of_mem_drop hx)) (by omega) (by omega) (by rw [List.length_drop]; omega)
    omega
  have hhd : d_head (d_bs ins) = if β < 4 ∧ d_wf 4 0 ((d_bs ins).drop 1) ≤ 2147483647 ∧ 1 ≤ N ∧ N ≤ 100 then some (nI β, nI (d_wf 4 0 ((d_bs ins).drop 1)), N) else none := by
    unfold d_head
    rw [l_getD hx0, l_getD hx5, nI_tn hβ, nI_tn hN]
  rw [l_getD hx0, l_getD hx5]
  generalize hWe : d_wf 4 0 ((d_bs ins).drop 1) = W at *
  -- a head that is wrong
  have tB : d_blk seg = none → g_X l J_Z_block 164 [some (.ref a), some (.int c1), some (.int c2), some (.int (nI W)), some (.int (nI N)), some (.int (nI β)), none] [.ref a] h (z_bP a hh F0 A0 (d_one (nI (kd + 32 * th)) S seg)) := by
    intro hno
    unfold d_one
    rw [hno]
    refine g_go ok_Z_block [168] 60 ?_
    refine g_pt_j (z_fs a (z_u F 39 0)) hI.1.1 (Nat.le_of_ble_eq_true rfl) rfl rfl rfl ?_
    exact x_b_168 (z_bI_f 39 0 (by omega) hI) rfl
  refine g_go ok_Z_block [164, 168] 60 ?_
  refine g_gt_i hI.1.1 rfl ?_
  rcases hg with ⟨g1, hp, hq⟩ | ⟨g0, hpq⟩
  · refine g_br_f (show ¬ F 39 = 0 by rw [g1]; decide) ?_
    by_cases q1 : β < 4
    · refine g_br_f (show ¬ (4 : Int32) ≤ nI β from nI_ge (b := 4) q1 (by omega)) ?_
      by_cases q2 : W ≤ 2147483647
      · refine g_br_f (show ¬ nI W < 0 from fun z => absurd ((n_neg hW).mp z) (by omega)) ?_
        refine g_cs_i c_Z_within (fun oc h1 hp1 => ?_)
        obtain ⟨rfl, rfl⟩ := hp1
        refine ⟨_, rfl, ?_⟩
        have ew : ((1 : Int64) ≤ (nI N).toInt64 ∧ (nI N).toInt64 ≤ 100) ↔ (1 ≤ N ∧ N ≤ 100) := by
          rw [nI_l (by omega), show (1 : Int64) = lN 1 from rfl, show (100 : Int64) = lN 100 from rfl, lQ_le (by omega) (by omega), lQ_le (by omega) (by omega)]
        by_cases q3 : 1 ≤ N ∧ N ≤ 100
        · refine g_br_f (show ¬ (if (1 : Int64) ≤ (nI N).toInt64 ∧ (nI N).toInt64 ≤ 100 then (1 : Int32) else 0) = 0 by rw [if_pos (ew.mpr q3)]; decide) ?_
          refine g_pt_j (z_fs a (z_u F 39 1)) hI.1.1 (Nat.le_of_ble_eq_true rfl) rfl rfl rfl ?_
          have i1 := z_bI_f 39 1 (by omega) hI
          have s1 : z_ps (z_u F 39 1) A (d_bs ins) 6 := z_ps_mv hs hs.1 hs.2.1 rfl
          rw [if_pos ⟨q1, q2, q3⟩] at hhd
          refine g_go ok_Z_block [196, 210] 60 ?_
          refine g_gt_i i1.1.1 rfl ?_
          refine g_br_f (show ¬ (1 : Int32) = 0 by decide) ?_
          refine g_cv_i i1.1.1 (c_Z_getRows i1.1 s1 rfl ⟨W, by omega, rfl⟩) (fun oc h2 hp2 => ?_)
          obtain ⟨rfl, F2, A2, z2, e2, d2, f2, hc⟩ := hp2
          refine ⟨_, rfl, ?_⟩
          have i2 := z_bI_mv i1 z2 (fun j hj => e2 j (by omega) (by omega) (by omega) (by omega)) (fun i hi => d2 i (by omega) (by omega)) f2
          have hf : ((d_bs ins).drop 6).length ≤ (d_bs ins).length - 6 := by rw [List.length_drop]; omega
          cases ha : d_all ((d_bs ins).length - 6) ((0, 0), (0, 0), [], 0, nI W) [] ((d_bs ins).drop 6) with
          | none =>
            rw [ha] at hc
            have hno := d_blk_n hu hb ⟨h9, hp, hq⟩ hhd q3.2 hf (fun gs hgs => by rw [ha] at hgs; cases hgs)
            unfold d_one
            rw [hno]
            refine g_gt_i i2.1.1 rfl ?_
            refine g_br_t hc ?_
            exact x_b_196 i2
          | some gs =>
            rw [ha] at hc
            obtain ⟨g2, gg⟩ := hc
            have ggl := gg.2.1
            refine g_gt_i i2.1.1 rfl ?_
            refine g_br_f (show ¬ F2 39 = 0 by rw [g2]; decide) ?_
            refine g_gt_i i2.1.1 rfl ?_
            by_cases q4 : gs.length = N
            · refine g_br_t (show F2 36 = nI N by rw [gg.1, q4]) ?_
              obtain ⟨rn, r1, r2, r3⟩ := d_blk_y hu hb ⟨h9, hp, hq⟩ hhd q3.2 ha q4
              unfold d_one
              rw [r3]
              simp only
              rw [d_k2_kp, ← r1]
              have hks : ∀ g ∈ gs, ∃ j : Nat, j < 5 ∧ g.1.1 = nI j := by
                rw [r1]
                have : ∀ (rn : List o_Rw) (t : Int32), (∀ w ∈ rn, ∃ j : Nat, j < 5 ∧ w.1 = nI j) → ∀ g ∈ w_tms t rn, ∃ j : Nat, j < 5 ∧ g.1.1 = nI j := by
                  intro rn
                  induction rn with
                  | nil => intro t _ g hg; simp [w_tms] at hg
                  | cons r rn ih =>
                    intro t hr g hg
                    simp only [w_tms, List.mem_cons] at hg
                    rcases hg with hg | hg
                    · rw [hg]
                      exact hr r List.mem_cons_self
                    · exact ih _ (fun w hw => hr w (List.mem_cons_of_mem _ hw)) g hg
                exact this rn _ r2
              exact x_b_keeps h13 h14 hkd hth q1 hks gs.length 0 S.1 S.2.2.2 _ _ _ rfl (Nat.zero_le _) gg i2
            · refine g_br_f (show ¬ F2 36 = nI N by rw [gg.1]; exact fun z => q4 ((nI_eq (by omega) (by omega)).mp z)) ?_
              have hno := d_blk_n hu hb ⟨h9, hp, hq⟩ hhd q3.2 hf (fun gs' hgs => by rw [ha] at hgs; cases hgs; exact q4)
              unfold d_one
              rw [hno]
              exact x_b_196 i2
        · refine g_br_t (show (if (1 : Int64) ≤ (nI N).toInt64 ∧ (nI N).toInt64 ≤ 100 then (1 : Int32) else 0) = 0 by rw [if_neg (fun z => q3 (ew.mp z))]) ?_
          exact tB (d_blk_h hu hb ⟨h9, hp, hq⟩ (by rw [hhd, if_neg (fun z => q3 z.2.2)]))
      · refine g_br_t (show nI W < 0 from (n_neg hW).mpr (by omega)) ?_
        exact tB (d_blk_h hu hb ⟨h9, hp, hq⟩ (by rw [hhd, if_neg (fun z => q2 z.2.1)]))
    · refine g_br_t (show (4 : Int32) ≤ nI β from nI_le (a := 4) (by omega) (by omega)) ?_
      exact tB (d_blk_h hu hb ⟨h9, hp, hq⟩ (by rw [hhd, if_neg (fun z => q1 z.1)]))
  · refine g_br_t g0 ?_
    exact tB (d_blk_s hu hb (fun z => hpq z.2))
end
