/-! TracePacksModel: flip, count, read, kept, merged -/
theorem z_sb_x (x m : Int32) : (z_sb x ^^^ m).toInt8.toInt32 = z_sb (x ^^^ m) := by
  unfold z_sb
  rw [Int32.toInt8_xor, Int32.toInt8_xor]
  congr 1
  congr 1
  exact Int8.toInt8_toInt32 _
theorem n_xor {β μ : Nat} (hβ : β < 256) (hμ : μ < 256) : ∃ k : Nat, k < 256 ∧ nI β ^^^ nI μ = nI k := by
  refine ⟨β ^^^ μ, Nat.xor_lt_two_pow (n := 8) hβ hμ, ?_⟩
  apply Int32.toBitVec_inj.mp
  rw [Int32.toBitVec_xor]
  show BitVec.ofNat 32 β ^^^ BitVec.ofNat 32 μ = BitVec.ofNat 32 (β ^^^ μ)
  apply BitVec.eq_of_toNat_eq
  have h3 := Nat.xor_lt_two_pow (n := 8) hβ hμ
  rw [BitVec.toNat_xor, BitVec.toNat_ofNat, BitVec.toNat_ofNat, BitVec.toNat_ofNat, Nat.mod_eq_of_lt (by omega), Nat.mod_eq_of_lt (by omega), Nat.mod_eq_of_lt (by omega)]
section
variable {l : Launch} {h : g_H} {a : Nat} {F : Nat → Int32} {A : Nat → List Int32} {S : q_S}
theorem c_Z_flip {i k : Int32} {c : String → Int32} (hc : c z_X1 = 1) (hc2 : c z_X2 = 2) (hZ : o_Z h a F A) (hR : z_R F A S) : g_Run l J_Z_flip [.ref a, .int i, .int k] h (z_P a h c (q_flip S i k)) := by
  unfold q_flip
  obtain ⟨⟨p, b⟩, rest⟩ := hR
  have hpl := p.2.1
  have l1 : (A 1).length = 16384 := hZ.2.2.2 1 (by omega) (by omega)
  refine go_Z_flip [] 60 ?_
  refine g_pt_j (z_fs a (z_u F 0 0)) hZ.1 (Nat.le_of_ble_eq_true rfl) rfl rfl rfl ?_
  obtain ⟨z1, f1⟩ := z_fld hZ (z_u F 0 0)
  have R1 : z_R (z_u F 0 0) A S := z_R_0 0 ⟨⟨p, b⟩, rest⟩
  refine g_gt_i z1.1 rfl ?_
  refine g_cs_i c_Z_within (fun oc h1 hq => ?_)
  obtain ⟨rfl, rfl⟩ := hq
  refine ⟨_, rfl, ?_⟩
  have ew : ((0 : Int64) ≤ i.toInt64 ∧ i.toInt64 ≤ (F 1 - 1).toInt64) ↔ (0 ≤ i ∧ i < nI S.1.length) := (z_wi (lo := 0) (hi := F 1 - 1) rfl rfl).trans (by
    rw [p.1, i_wl (by omega)])
  have ew2 : ((0 : Int64) ≤ k.toInt64 ∧ k.toInt64 ≤ 255) ↔ (0 ≤ k ∧ k ≤ 255) := z_wi (lo := 0) (hi := 255) rfl rfl
  by_cases q : 0 ≤ i ∧ i < nI S.1.length
  · refine g_br_t (show ¬ (if (0 : Int64) ≤ i.toInt64 ∧ i.toInt64 ≤ (F 1 - 1).toInt64 then (1 : Int32) else 0) = 0 by rw [if_pos (ew.mpr q)]; decide) ?_
    rw [if_pos q]
    refine g_cs_i c_Z_within (fun oc h1 hq => ?_)
    obtain ⟨rfl, rfl⟩ := hq
    refine ⟨_, rfl, ?_⟩
    by_cases q2 : 0 ≤ k ∧ k ≤ 255
    · refine g_br_t (show ¬ (if (0 : Int64) ≤ k.toInt64 ∧ k.toInt64 ≤ 255 then (1 : Int32) else 0) = 0 by rw [if_pos (ew2.mpr q2)]; decide) ?_
      rw [if_pos q2]
      have qi := q
      obtain ⟨n, hn, rfl⟩ := nI_of (Int32.not_lt.mpr q.1)
      have hnl := (nI_ltI hn (by omega)).mp q.2
      obtain ⟨x, hx, -⟩ := l_drop (xs := S.1) (i := n) hnl
      obtain ⟨β, hβ, rfl⟩ := o_by_at b hx
      obtain ⟨μ, hμ, rfl⟩ : ∃ n : Nat, n ≤ 255 ∧ k = nI n := nI_of2 (nI_toInt (n := 255) (by omega)) (Int32.not_lt.mpr q2.1) q2.2
      obtain ⟨κ, hκ, hx2⟩ := n_xor hβ (show μ < 256 by omega)
      have gx : (A 1).getD n 0 = z_sb (nI β) := by
        have : (S.1.map z_sb)[n]? = some (z_sb (nI β)) := by rw [List.getElem?_map, hx]; rfl
        rw [← p.2.2, List.getElem?_take, if_pos hnl] at this
        exact l_getD this
      have hv : v_at S.1 (nI n) = nI β := v_at_some (by omega) hx
      rw [hv, hx2]
      have hset : v_set S.1 (nI n) (nI κ) = S.1.set n (nI κ) := by
        unfold v_set
        rw [if_pos qi, nI_clamp (by omega)]
      rw [hset]
      have hx3 : (S.1.set n (nI κ))[n]? = some (nI κ) := by rw [List.getElem?_set_self hnl]
      have hsl : (S.1.set n (nI κ)).length = S.1.length := List.length_set ..
      rw [v_at_some (by omega) hx3]
      refine g_gt_i z1.1 rfl ?_
      refine g_gt_i z1.1 rfl ?_
      refine g_alB_i z1.2.1 (by rw [l1]; exact vp_in_nI (by omega) (by omega)) ?_
      refine g_asB_i z1.2.1 (by rw [l1]; exact vp_in_nI (by omega) (by omega)) (congrArg Value.int (z_sb_id _)) ?_
      rw [nI_clamp (show n < 2 ^ 31 by omega), gx]
      have e1 : (z_sb (nI β) ^^^ nI μ).toInt8.toInt32 = z_sb (nI κ) := by rw [z_sb_x, hx2]
      obtain ⟨z2, f2⟩ := z_byt z1 n ((z_sb (nI β) ^^^ nI μ).toInt8.toInt32)
      refine g_gt_i z2.1 rfl ?_
      refine g_alB_i z2.2.1 (show vp_in (nI n) (((A 1).set n ((z_sb (nI β) ^^^ nI μ).toInt8.toInt32)).length) by rw [List.length_set, l1]; exact vp_in_nI (by omega) (by omega)) ?_
      refine z_P_i (c := c) (show ((A 1).set n ((z_sb (nI β) ^^^ nI μ).toInt8.toInt32)).getD (nI n).toNatClampNeg 0 &&& 255 = nI κ by
        rw [nI_clamp (by omega), l_getD (List.getElem?_set_self (by omega)), e1]
        exact z_sb_at κ hκ) z2 ?_ rfl (g_Fr_tr f1 f2)
      obtain ⟨rc, rt, rr, rn, rk, ⟨⟨ks, s1, s2, s3⟩, s4⟩⟩ := rest
      refine ⟨⟨⟨?_, (show (S.1.set n (nI κ)).length ≤ 16384 by omega), ?_⟩, fun y hy => ?_⟩, rc, rt, rr, rn, rk, ⟨⟨ks.1, ks.2.1, fun j hj => ?_⟩, s1, s2, s3⟩, s4⟩
      · show F 1 = nI (S.1.set n (nI κ)).length
        rw [hsl]
        exact p.1
      · show (((A 1).set n ((z_sb (nI β) ^^^ nI μ).toInt8.toInt32)).take (S.1.set n (nI κ)).length) = (S.1.set n (nI κ)).map z_sb
        rw [hsl, e1, List.take_set, p.2.2, List.map_set]
      · rcases List.mem_or_eq_of_mem_set hy with z | z
        · exact b y z
        · exact ⟨κ, hκ, z⟩
      · rw [z_u_ne (by omega)]
        exact ks.2.2 j hj
    · refine g_br_f (show ¬ ¬ (if (0 : Int64) ≤ k.toInt64 ∧ k.toInt64 ≤ 255 then (1 : Int32) else 0) = 0 from fun z => z (by rw [if_neg (fun z => q2 (ew2.mp z))])) ?_
      rw [if_neg q2]
      refine g_cv_i z1.1 (c_Z_fail z1) (fun oc h2 hq => ?_)
      obtain ⟨rfl, z2, f2⟩ := hq
      refine ⟨_, rfl, ?_⟩
      exact z_P_t (c := c) z2 (z_R_0 2 R1) hc2.symm (g_Fr_tr f1 f2)
  · refine g_br_f (show ¬ ¬ (if (0 : Int64) ≤ i.toInt64 ∧ i.toInt64 ≤ (F 1 - 1).toInt64 then (1 : Int32) else 0) = 0 from fun z => z (by rw [if_neg (fun z => q (ew.mp z))])) ?_
    rw [if_neg q]
    refine g_cv_i z1.1 (c_Z_fail z1) (fun oc h2 hq => ?_)
    obtain ⟨rfl, z2, f2⟩ := hq
    refine ⟨_, rfl, ?_⟩
    exact z_P_t (c := c) z2 (z_R_0 1 R1) hc.symm (g_Fr_tr f1 f2)
theorem c_Z_count {w : Int32} {c : String → Int32} (hZ : o_Z h a F A) (hR : z_R F A S) : g_Run l J_Z_count [.ref a, .int w] h (z_P a h c (.inl (q_count S w), S)) := by
  unfold q_count
  refine go_Z_count [] 60 ?_
  refine g_pt_j (z_fs a (z_u F 0 0)) hZ.1 (Nat.le_of_ble_eq_true rfl) rfl rfl rfl ?_
  obtain ⟨z1, f1⟩ := z_fld hZ (z_u F 0 0)
  have R1 : z_R (z_u F 0 0) A S := z_R_0 0 hR
  have R2 := R1
  obtain ⟨⟨p, b⟩, ⟨c1, c2⟩, ⟨t1, t2⟩, ⟨r, rr⟩, ⟨n1, n2⟩, -, ⟨⟨ks, s1, s2, s3⟩, s4⟩⟩ := R2
  refine g_br_i (fun q => ?_) (fun q => ?_)
  · rw [if_pos q]
    refine g_gt_i z1.1 rfl ?_
    exact z_P_i (c := c) p.1 z1 R1 rfl f1
  rw [if_neg q]
  refine g_br_i (fun q => ?_) (fun q => ?_)
  · rw [if_pos q]
    refine g_gt_i z1.1 rfl ?_
    exact z_P_i (c := c) r.1 z1 R1 rfl f1
  rw [if_neg q]
  refine g_br_i (fun q => ?_) (fun q => ?_)
  · rw [if_pos q]
    refine g_gt_i z1.1 rfl ?_
    exact z_P_i (c := c) n1 z1 R1 rfl f1
  rw [if_neg q]
  refine g_br_i (fun q => ?_) (fun q => ?_)
  · rw [if_pos q]
    refine g_gt_i z1.1 rfl ?_
    exact z_P_i (c := c) n2 z1 R1 rfl f1
  rw [if_neg q]
  refine g_br_i (fun q => ?_) (fun q => ?_)
  · rw [if_pos q]
    refine g_gt_i z1.1 rfl ?_
    exact z_P_i (c := c) s4 z1 R1 rfl f1
  rw [if_neg q]
  refine g_br_i (fun q => ?_) (fun q => ?_)
  · rw [if_pos q]
    refine g_gt_i z1.1 rfl ?_
    exact z_P_i (c := c) s1 z1 R1 rfl f1
  rw [if_neg q]
  refine g_br_i (fun q => ?_) (fun q => ?_)
  · rw [if_pos q]
    refine g_gt_i z1.1 rfl ?_
    exact z_P_i (c := c) s2 z1 R1 rfl f1
  rw [if_neg q]
  refine g_br_i (fun q => ?_) (fun q => ?_)
  · rw [if_pos q]
    refine g_gt_i z1.1 rfl ?_
    exact z_P_i (c := c) ks.1 z1 R1 rfl f1
  rw [if_neg q]
  refine g_br_i (fun q => ?_) (fun q => ?_)
  · rw [if_pos q]
    refine g_gt_i z1.1 rfl ?_
    exact z_P_i (c := c) s3 z1 R1 rfl f1
  rw [if_neg q]
  exact z_P_i (c := c) rfl z1 R1 rfl f1
theorem c_Z_reads {v : Int32} {c : String → Int32} (hc : c z_X1 = 1) (hZ : o_Z h a F A) (hR : z_R F A S) : g_Run l J_Z_read [.ref a, .int v] h (z_P a h c (q_read S v)) := by
  unfold q_read
  have R1 := hR
  obtain ⟨⟨p, b⟩, ⟨c1, c2⟩, ⟨t1, t2⟩, ⟨r, rr⟩, ⟨n1, n2⟩, ⟨kd, th, k1, k2, k3, k4, k5⟩, ⟨⟨ks, s1, s2, s3⟩, s4⟩⟩ := hR
  refine g_Run_mono (c_Z_read hZ p b k3 k4 k1 k2) (fun oc hE hq => ?_)
  rcases hq with ⟨q1, q2, rfl, F2, A2, z2, sd, e21, e0, e2, d2, f2⟩ | ⟨q, rfl, F2, z2, e0, e2, f2⟩
  · rw [if_pos ⟨q1, q2⟩]
    refine z_P_i (c := c) (by rw [k5]) z2 ?_ e0 f2
    rw [k5]
    refine ⟨⟨⟨(e2 1 (by omega) (by omega)).trans p.1, p.2.1, by rw [d2 1 (by omega)]; exact p.2.2⟩, b⟩, ⟨(e2 3 (by omega) (by omega)).trans c1, c2⟩, ⟨(d2 2 (by omega)).trans t1, t2⟩, ⟨⟨(e2 5 (by omega) (by omega)).trans r.1, r.2.1, by rw [d2 3 (by omega)]; exact r.2.2.1, by rw [d2 4 (by omega)]; exact r.2.2.2.1, by rw [d2 5 (by omega)]; exact r.2.2.2.2⟩, ?_⟩, ⟨(e2 11 (by omega) (by omega)).trans n1, (e2 12 (by omega) (by omega)).trans n2⟩, ⟨kd, th, k1, k2, (e2 13 (by omega) (by omega)).trans k3, (e2 14 (by omega) (by omega)).trans k4, k5⟩, sd, e21⟩
    rcases rr with q | ⟨q1, q2, q3⟩
    · exact Or.inl q
    · exact Or.inr ⟨(e2 6 (by omega) (by omega)).trans q1, (e2 7 (by omega) (by omega)).trans q2, q3⟩
  · rw [if_neg q]
    exact z_P_t (c := c) z2 (z_R_mv R1 (fun j hj _ _ _ _ => e2 j (by omega)) (fun _ _ _ _ => rfl)) (e0.trans hc.symm) f2
theorem c_Z_kept {k w : Int32} {c : String → Int32} (hc : c z_X1 = 1) (hZ : o_Z h a F A) (hR : z_R F A S) : g_Run l J_Z_kept [.ref a, .int k, .int w] h (z_P a h c (q_kept S k w)) := by
  unfold q_kept
  have ks : z_ks F A S.2.2.2.2.1 := hR.2.2.2.2.2.2.1.1
  have hkl := ks.2.1
  have ll : ∀ n, 8 ≤ n → n ≤ 13 → (A n).length = 2000 := fun n n1 n2 => by
    rw [hZ.2.2.2 n (by omega) (by omega)]
    unfold z_cap
    rw [if_neg (by omega), if_neg (by omega), if_neg (by omega), if_neg (by omega), if_neg (by omega), if_pos (by omega)]
  have t33 : ∀ (L : g_L) (h1 : g_H) (F1 : Nat → Int32), ¬ ((0 ≤ k ∧ k < nI S.2.2.2.2.1.length) ∧ 0 ≤ w ∧ w < 6) → o_Z h1 a F1 A → z_R F1 A S → g_Fr a (a + 18) h h1 → g_X l J_Z_kept 33 (some (.ref a) :: L) [] h1 (z_P a h c (if (0 ≤ k ∧ k < nI S.2.2.2.2.1.length) ∧ 0 ≤ w ∧ w < 6 then (.inl (v_at (S.2.2.2.2.1.map (k_col w.toNatClampNeg)) k), S) else (.inr z_X1, S))) := by
    intro L h1 F1 q z1 R1 f1
    rw [if_neg q]
    refine g_go ok_Z_kept [] 60 ?_
    refine g_cv_i z1.1 (c_Z_fail z1) (fun oc h2 hq => ?_)
    obtain ⟨rfl, z2, f2⟩ := hq
    refine ⟨_, rfl, ?_⟩
    exact z_P_t (c := c) z2 (z_R_0 1 R1) hc.symm (g_Fr_tr f1 f2)
  refine go_Z_kept [33] 80 ?_
  refine g_pt_j (z_fs a (z_u F 0 0)) hZ.1 (Nat.le_of_ble_eq_true rfl) rfl rfl rfl ?_
  obtain ⟨z1, f1⟩ := z_fld hZ (z_u F 0 0)
  have R1 : z_R (z_u F 0 0) A S := z_R_0 0 hR
  refine g_gt_i z1.1 rfl ?_
  refine g_cs_i c_Z_within (fun oc h1 hq => ?_)
  obtain ⟨rfl, rfl⟩ := hq
  refine ⟨_, rfl, ?_⟩
  have ew : ((0 : Int64) ≤ k.toInt64 ∧ k.toInt64 ≤ (F 24 - 1).toInt64) ↔ (0 ≤ k ∧ k < nI S.2.2.2.2.1.length) := (z_wi (lo := 0) (hi := F 24 - 1) rfl rfl).trans (by
    rw [ks.1, i_wl (by omega)])
  have ew2 : ((0 : Int64) ≤ w.toInt64 ∧ w.toInt64 ≤ 5) ↔ (0 ≤ w ∧ w < 6) := (z_wi (lo := 0) (hi := 5) rfl rfl).trans (by
    rw [i_lt4 (x := w) (M := 5) (N := 6) (by decide)])
  by_cases q : 0 ≤ k ∧ k < nI S.2.2.2.2.1.length
  · refine g_br_f (show ¬ (if (0 : Int64) ≤ k.toInt64 ∧ k.toInt64 ≤ (F 24 - 1).toInt64 then (1 : Int32) else 0) = 0 by rw [if_pos (ew.mpr q)]; decide) ?_
    refine g_cs_i c_Z_within (fun oc h1 hq => ?_)
    obtain ⟨rfl, rfl⟩ := hq
    refine ⟨_, rfl, ?_⟩
    by_cases q2 : 0 ≤ w ∧ w < 6
    · refine g_br_t (show ¬ (if (0 : Int64) ≤ w.toInt64 ∧ w.toInt64 ≤ 5 then (1 : Int32) else 0) = 0 by rw [if_pos (ew2.mpr q2)]; decide) ?_
      rw [if_pos ⟨q, q2⟩]
      obtain ⟨n, hn, rfl⟩ := nI_of (Int32.not_lt.mpr q.1)
      have hnl := (nI_ltI hn (by omega)).mp q.2
      obtain ⟨m, hm, rfl⟩ := nI_of (Int32.not_lt.mpr q2.1)
      have hm6 := (nI_ltI (b := 6) hm (by omega)).mp q2.2
      rw [nI_clamp (show m < 2 ^ 31 by omega)]
      obtain ⟨x, hx, -⟩ := l_drop (xs := S.2.2.2.2.1) (i := n) hnl
      have hval : v_at (S.2.2.2.2.1.map (k_col m)) (nI n) = k_col m x := v_at_some (by rw [List.length_map]; omega) (by rw [List.getElem?_map, hx]; rfl)
      have hget : ∀ j, j < 6 → (A (8 + j)).getD (nI n).toNatClampNeg 0 = k_col j x := fun j hj => by
        rw [nI_clamp (by omega)]
        exact l_tkm (ks.2.2 j hj) n x hx
      have vi : ∀ N : Nat, N = 2000 → vp_in (nI n) N := fun N hN => vp_in_nI (by omega) (by omega)
      rw [hval]
      by_cases m0 : m = 0
      · subst m0
        refine g_br_f (by decide) ?_
        refine g_gt_i z1.1 rfl ?_
        refine g_al_i (xs := A 8) (z1.2.2.1 8 (by omega) (by omega)) (vi _ (ll 8 (by omega) (by omega))) ?_
        exact z_P_i (c := c) (hget 0 (by omega)) z1 R1 rfl f1
      refine g_br_t (show ¬ nI m = 0 from nI_ne0 (by omega) (by omega)) ?_
      by_cases m1 : m = 1
      · subst m1
        refine g_br_f (by decide) ?_
        refine g_gt_i z1.1 rfl ?_
        refine g_al_i (xs := A 9) (z1.2.2.1 9 (by omega) (by omega)) (vi _ (ll 9 (by omega) (by omega))) ?_
        exact z_P_i (c := c) (hget 1 (by omega)) z1 R1 rfl f1
      refine g_br_t (show ¬ nI m = 1 from fun z => m1 ((nI_eq (b := 1) (by omega) (by omega)).mp z)) ?_
      by_cases m2 : m = 2
      · subst m2
        refine g_br_f (by decide) ?_
        refine g_gt_i z1.1 rfl ?_
        refine g_al_i (xs := A 10) (z1.2.2.1 10 (by omega) (by omega)) (vi _ (ll 10 (by omega) (by omega))) ?_
        exact z_P_i (c := c) (hget 2 (by omega)) z1 R1 rfl f1
      refine g_br_t (show ¬ nI m = 2 from fun z => m2 ((nI_eq (b := 2) (by omega) (by omega)).mp z)) ?_
      by_cases m3 : m = 3
      · subst m3
        refine g_br_f (by decide) ?_
        refine g_gt_i z1.1 rfl ?_
        refine g_al_i (xs := A 11) (z1.2.2.1 11 (by omega) (by omega)) (vi _ (ll 11 (by omega) (by omega))) ?_
        exact z_P_i (c := c) (hget 3 (by omega)) z1 R1 rfl f1
      refine g_br_t (show ¬ nI m = 3 from fun z => m3 ((nI_eq (b := 3) (by omega) (by omega)).mp z)) ?_
      by_cases m4 : m = 4
      · subst m4
        refine g_br_f (by decide) ?_
        refine g_gt_i z1.1 rfl ?_
        refine g_al_i (xs := A 12) (z1.2.2.1 12 (by omega) (by omega)) (vi _ (ll 12 (by omega) (by omega))) ?_
        exact z_P_i (c := c) (hget 4 (by omega)) z1 R1 rfl f1
      refine g_br_t (show ¬ nI m = 4 from fun z => m4 ((nI_eq (b := 4) (by omega) (by omega)).mp z)) ?_
      have m5 : m = 5 := by omega
      subst m5
      refine g_gt_i z1.1 rfl ?_
      refine g_al_i (xs := A 13) (z1.2.2.1 13 (by omega) (by omega)) (vi _ (ll 13 (by omega) (by omega))) ?_
      exact z_P_i (c := c) (hget 5 (by omega)) z1 R1 rfl f1
    · refine g_br_f (show ¬ ¬ (if (0 : Int64) ≤ w.toInt64 ∧ w.toInt64 ≤ 5 then (1 : Int32) else 0) = 0 from fun z => z (by rw [if_neg (fun z => q2 (ew2.mp z))])) ?_
      exact t33 _ _ _ (fun z => q2 z.2) z1 R1 f1
  · refine g_br_t (show (if (0 : Int64) ≤ k.toInt64 ∧ k.toInt64 ≤ (F 24 - 1).toInt64 then (1 : Int32) else 0) = 0 by rw [if_neg (fun z => q (ew.mp z))]) ?_
    exact t33 _ _ _ (fun z => q z.1) z1 R1 f1
end
