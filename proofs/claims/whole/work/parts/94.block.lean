/-! TracePacksModel.block -/
theorem n_neg {W : Nat} (hW : W < 2 ^ 32) : nI W < 0 ↔ 2 ^ 31 ≤ W := by
  rw [Int32.lt_iff_toInt_lt]
  show (BitVec.ofNat 32 W).toInt < (0 : Int32).toInt ↔ _
  rw [BitVec.toInt_eq_toNat_cond, BitVec.toNat_ofNat, Nat.mod_eq_of_lt hW, show (0 : Int32).toInt = 0 by decide]
  split <;> omega
def d_k2 (ch o bl : Int32) : List (o_Rw × Int32) → List o_Kr → Int32 → List o_Kr × Int32
  | [], ks, nk => (ks, nk)
  | g :: t, ks, nk => if d_ch ch g.1.1 o = true ∧ ks.length < 2000 then d_k2 ch o bl t (ks ++ [(g.1.1, g.1.2.1, g.1.2.2, o, g.2, bl)]) nk else d_k2 ch o bl t ks (nk + 1)
theorem d_k2_kp {ch o bl : Int32} : ∀ (rs : List o_Rw) (tm : Int32) (ks : List o_Kr) (nk : Int32), d_kp ch o bl rs tm ks nk = d_k2 ch o bl (w_tms tm rs) ks nk
  | [], _, _, _ => rfl
  | r :: t, tm, ks, nk => by
    unfold d_kp w_tms d_k2
    simp only
    split
    · exact d_k2_kp t _ _ _
    · exact d_k2_kp t _ _ _
section
variable {seg ins : List Int32}
abbrev d_bs (ins : List Int32) : List Int32 := ins.take (ins.length - 2)
theorem d_blk_u (hu : r_us [] seg = none) : d_blk seg = none := by
  unfold d_blk
  rw [d_us_r _ seg [] (Nat.le_refl _) (by simp), hu]
  rfl
theorem d_blk_s (hu : r_us [] seg = some ins) (hb : o_by ins) (hs : ¬ (9 ≤ ins.length ∧ ins.getD (ins.length - 2) 0 = (e_pq 0 0 (d_bs ins)).1 ∧ ins.getD (ins.length - 1) 0 = (e_pq 0 0 (d_bs ins)).2)) : d_blk seg = none := by
  unfold d_blk
  rw [d_us_r _ seg [] (Nat.le_refl _) (by simp), hu]
  unfold d_cp
  simp only
  split
  · rfl
  · rename_i x hx
    split at hx
    · cases hx
      rw [d_sum_r hb, if_neg hs]
    · cases hx
theorem d_blk_i (hu : r_us [] seg = some ins) (hb : o_by ins) (hs : 9 ≤ ins.length ∧ ins.getD (ins.length - 2) 0 = (e_pq 0 0 (d_bs ins)).1 ∧ ins.getD (ins.length - 1) 0 = (e_pq 0 0 (d_bs ins)).2) : d_blk seg = if ins.length ≤ 1008 then d_in (d_bs ins) else none := by
  unfold d_blk
  rw [d_us_r _ seg [] (Nat.le_refl _) (by simp), hu]
  unfold d_cp
  simp only
  by_cases q : ins.length ≤ 1008
  · rw [if_pos q, if_pos q]
    simp only
    rw [d_sum_r hb, if_pos hs]
  · rw [if_neg q, if_neg q]
theorem d_blk_h (hu : r_us [] seg = some ins) (hb : o_by ins) (hs : 9 ≤ ins.length ∧ ins.getD (ins.length - 2) 0 = (e_pq 0 0 (d_bs ins)).1 ∧ ins.getD (ins.length - 1) 0 = (e_pq 0 0 (d_bs ins)).2) (hh : d_head (d_bs ins) = none) : d_blk seg = none := by
  rw [d_blk_i hu hb hs]
  split
  · unfold d_in
    rw [hh]
  · rfl
theorem d_blk_y {o t : Int32} {N f : Nat} {gs : List (o_Rw × Int32)} (hu : r_us [] seg = some ins) (hb : o_by ins) (hs : 9 ≤ ins.length ∧ ins.getD (ins.length - 2) 0 = (e_pq 0 0 (d_bs ins)).1 ∧ ins.getD (ins.length - 1) 0 = (e_pq 0 0 (d_bs ins)).2) (hh : d_head (d_bs ins) = some (o, t, N)) (hN : N ≤ 100) (ha : d_all f ((0, 0), (0, 0), [], 0, t) [] ((d_bs ins).drop 6) = some gs) (hl : gs.length = N) : ∃ rn, gs = w_tms t rn ∧ (∀ w ∈ rn, ∃ j : Nat, j < 5 ∧ w.1 = nI j) ∧ d_blk seg = some (o, t, rn) := by
  obtain ⟨rn, e1, e2, e3, e4⟩ := d_all_rows _ _ _ _ _ ha (by omega)
  rw [List.nil_append] at e1
  have hrl : rn.length = N := by rw [← hl, e1, w_tms_ln]
  refine ⟨rn, e1, e3, ?_⟩
  rw [List.length_drop, List.length_take] at e2
  have e5 := e4 N [] rfl (by omega)
  rw [d_blk_i hu hb hs, if_pos (by omega)]
  unfold d_in
  rw [hh]
  simp only
  rw [e5]
  simp only [List.nil_append]
  rw [if_pos ⟨hrl, trivial⟩]
theorem d_blk_n {o t : Int32} {N f : Nat} (hu : r_us [] seg = some ins) (hb : o_by ins) (hs : 9 ≤ ins.length ∧ ins.getD (ins.length - 2) 0 = (e_pq 0 0 (d_bs ins)).1 ∧ ins.getD (ins.length - 1) 0 = (e_pq 0 0 (d_bs ins)).2) (hh : d_head (d_bs ins) = some (o, t, N)) (hN : N ≤ 100) (hf : ((d_bs ins).drop 6).length ≤ f) (hn : ∀ gs, d_all f ((0, 0), (0, 0), [], 0, t) [] ((d_bs ins).drop 6) = some gs → ¬ gs.length = N) : d_blk seg = none := by
  rw [d_blk_i hu hb hs]
  split
  · unfold d_in
    rw [hh]
    simp only
    split
    · rfl
    · rename_i rs r hr
      split
      · rename_i q
        obtain ⟨q1, rfl⟩ := q
        obtain ⟨gs', h1, h2⟩ := d_rows_all _ _ _ _ _ hr f [] hf rfl (by omega)
        exact absurd (h2.trans q1) (hn gs' h1)
      · rfl
  · rfl
end
/-- what a reading found so far -/
def z_sd (F : Nat → Int32) (A : Nat → List Int32) (S : o_Sd) : Prop := z_ks F A S.1 ∧ F 22 = S.2.1 ∧ F 23 = S.2.2.1 ∧ F 25 = S.2.2.2
def z_bI (a : Nat) (hh : g_H) (F0 : Nat → Int32) (A0 : Nat → List Int32) (S : o_Sd) (h : g_H) (F : Nat → Int32) (A : Nat → List Int32) : Prop := o_Z h a F A ∧ z_sd F A S ∧ (∀ j, j < 15 → F j = F0 j) ∧ F 21 = F0 21 ∧ (∀ i, i ≤ 5 → A i = A0 i) ∧ g_Fr a (a + 18) hh h
def z_bP (a : Nat) (hh : g_H) (F0 : Nat → Int32) (A0 : Nat → List Int32) (S : o_Sd) : g_P := fun oc hE => oc = .inl none ∧ ∃ F' A', z_bI a hh F0 A0 S hE F' A'
section
variable {l : Launch} {a : Nat} {hh : g_H} {F0 : Nat → Int32} {A0 : Nat → List Int32} {S : o_Sd}
/-- the reading's other fields and arrays change -/
theorem z_bI_mv {h h1 : g_H} {F F1 : Nat → Int32} {A A1 : Nat → List Int32} (hI : z_bI a hh F0 A0 S h F A) (z1 : o_Z h1 a F1 A1) (e1 : ∀ j, (j < 15 ∨ j = 21 ∨ j = 22 ∨ j = 23 ∨ j = 24 ∨ j = 25) → F1 j = F j) (d1 : ∀ i, (i ≤ 5 ∨ (8 ≤ i ∧ i < 14)) → A1 i = A i) (f1 : g_Fr a (a + 18) h h1) : z_bI a hh F0 A0 S h1 F1 A1 := by
  obtain ⟨z, ⟨k, s1, s2, s3⟩, e, e21, d, f⟩ := hI
  exact ⟨z1, ⟨⟨(e1 24 (by omega)).trans k.1, k.2.1, fun j hj => by rw [d1 (8 + j) (by omega)]; exact k.2.2 j hj⟩, (e1 22 (by omega)).trans s1, (e1 23 (by omega)).trans s2, (e1 25 (by omega)).trans s3⟩, fun j hj => (e1 j (by omega)).trans (e j hj), (e1 21 (by omega)).trans e21, fun i hi => (d1 i (by omega)).trans (d i hi), g_Fr_tr f f1⟩
theorem z_bI_f {h : g_H} {F : Nat → Int32} {A : Nat → List Int32} (k : Nat) (v : Int32) (hk : k = 37 ∨ k = 38 ∨ k = 39) (hI : z_bI a hh F0 A0 S h F A) : z_bI a hh F0 A0 S (g_up h a (.inr (10, z_fs a (z_u F k v)))) (z_u F k v) A := by
  obtain ⟨z1, f1⟩ := z_fld hI.1 (z_u F k v)
  exact z_bI_mv hI z1 (fun j hj => z_u_ne (by omega)) (fun _ _ => rfl) f1
set_option maxRecDepth 100000 in
set_option maxHeartbeats 4000000 in
theorem x_b_keeps {kd th its : Nat} {gs : List (o_Rw × Int32)} {c1 c2 c3 c4 : Int32} {bl br : Int32} (h13 : F0 13 = nI kd) (h14 : F0 14 = nI th) (hkd : kd < 32) (hth : th < 16) (hits : its < 4) (hks : ∀ g ∈ gs, ∃ j : Nat, j < 5 ∧ g.1.1 = nI j) : ∀ (d i : Nat) (ks : List o_Kr) (nk : Int32) (h : g_H) (F : Nat → Int32) (A : Nat → List Int32), gs.length - i = d → i ≤ gs.length → z_gt F A gs → z_bI a hh F0 A0 (ks, bl, br, nk) h F A →
    g_X l J_Z_block 210 [some (.ref a), some (.int c1), some (.int c2), some (.int c3), some (.int c4), some (.int (nI its)), some (.int (nI i))] [] h (z_bP a hh F0 A0 ((d_k2 (nI (kd + 32 * th)) (nI its) bl (gs.drop i) ks nk).1, bl + 1, br, (d_k2 (nI (kd + 32 * th)) (nI its) bl (gs.drop i) ks nk).2)) := by
  intro d
  induction d with
  | zero =>
    intro i ks nk h F A hd hi hg hI
    have hgl := hg.2.1
    refine g_go ok_Z_block [] 60 ?_
    refine g_gt_i hI.1.1 rfl ?_
    refine g_br_t (show F 36 ≤ nI i by rw [hg.1]; exact nI_le (by omega) (by omega)) ?_
    refine g_gt_i hI.1.1 rfl ?_
    refine g_pt_j (z_fs a (z_u F 22 (F 22 + 1))) hI.1.1 (Nat.le_of_ble_eq_true rfl) rfl rfl rfl ?_
    obtain ⟨z1, f1⟩ := z_fld hI.1 (z_u F 22 (F 22 + 1))
    rw [List.drop_eq_nil_of_le (by omega)]
    obtain ⟨z, ⟨k, s1, s2, s3⟩, e, e21, dd, f⟩ := hI
    refine ⟨rfl, _, _, z1, ⟨k, ?_, s2, s3⟩, fun j hj => ?_, e21, dd, g_Fr_tr f f1⟩
    · show F 22 + 1 = bl + 1
      rw [s1]
    · rw [z_u_ne (by omega)]
      exact e j hj
  | succ d ih =>
    intro i ks nk h F A hd hi hg hI
    have hgl := hg.2.1
    obtain ⟨g, hx, hdr⟩ := l_drop (xs := gs) (i := i) (by omega)
    obtain ⟨r, t⟩ := g
    obtain ⟨j, hj, hrj⟩ := hks _ (List.mem_of_getElem? hx)
    refine g_go ok_Z_block [210] 60 ?_
    refine g_gt_i hI.1.1 rfl ?_
    refine g_br_f (show ¬ F 36 ≤ nI i by rw [hg.1]; exact nI_ge (by omega) (by omega)) ?_
    refine g_cv_i hI.1.1 (c_Z_keep hI.1 hg hI.2.1.1 hx ((hI.2.2.1 13 (by omega)).trans h13) ((hI.2.2.1 14 (by omega)).trans h14) hkd hth hj hrj hits) (fun oc h1 hp => ?_)
    obtain ⟨rfl, F1, A1, z1, e1, d1, f1, hc⟩ := hp
    refine ⟨_, rfl, ?_⟩
    obtain ⟨z, ⟨k, s1, s2, s3⟩, e, e21, dd, f⟩ := hI
    have g1 : z_gt F1 A1 gs := ⟨(e1 36 (by omega) (by omega)).trans hg.1, hg.2.1, by rw [d1 14 (by omega)]; exact hg.2.2.1, by rw [d1 15 (by omega)]; exact hg.2.2.2.1, by rw [d1 16 (by omega)]; exact hg.2.2.2.2.1, by rw [d1 17 (by omega)]; exact hg.2.2.2.2.2⟩
    have hd2 : d_k2 (nI (kd + 32 * th)) (nI its) bl (gs.drop i) ks nk = if d_ch (nI (kd + 32 * th)) r.1 (nI its) = true ∧ ks.length < 2000 then d_k2 (nI (kd + 32 * th)) (nI its) bl (gs.drop (i + 1)) (ks ++ [(r.1, r.2.1, r.2.2, nI its, t, bl)]) nk else d_k2 (nI (kd + 32 * th)) (nI its) bl (gs.drop (i + 1)) ks (nk + 1) := by
      rw [hdr]
      simp only [d_k2]
    rw [hd2]
    have er : ∀ j, j < 15 → F1 j = F0 j := fun j hj => (e1 j (by omega) (by omega)).trans (e j hj)
    have dr : ∀ i, i ≤ 5 → A1 i = A0 i := fun i hi => (d1 i (by omega)).trans (dd i hi)
    have b1 : F1 22 = bl := (e1 22 (by omega) (by omega)).trans s1
    have b2 : F1 23 = br := (e1 23 (by omega) (by omega)).trans s2
    have b3 : F1 21 = F0 21 := (e1 21 (by omega) (by omega)).trans e21
    split at hc
    · rename_i q
      have q' : d_ch (nI (kd + 32 * th)) r.1 (nI its) = true ∧ ks.length < 2000 := q
      rw [if_pos q']
      have s1' : F 22 = bl := s1
      rw [s1'] at hc
      have key := ih (i + 1) (ks ++ [(r.1, r.2.1, r.2.2, nI its, t, bl)]) nk h1 F1 A1 (by omega) (by omega) g1 ⟨z1, ⟨hc.1, b1, b2, hc.2.trans s3⟩, er, b3, dr, g_Fr_tr f f1⟩
      rw [← nI_1 i] at key
      exact key
    · rename_i q
      have q' : ¬ (d_ch (nI (kd + 32 * th)) r.1 (nI its) = true ∧ ks.length < 2000) := q
      rw [if_neg q']
      have s3' : F 25 = nk := s3
      rw [s3'] at hc
      have key := ih (i + 1) ks (nk + 1) h1 F1 A1 (by omega) (by omega) g1 ⟨z1, ⟨hc.1, b1, b2, hc.2⟩, er, b3, dr, g_Fr_tr f f1⟩
      rw [← nI_1 i] at key
      exact key
end
