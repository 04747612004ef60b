/-! TracePacksModel.getRows: each kind of row -/
def z_gI (a : Nat) (hh : g_H) (F0 : Nat → Int32) (A0 : Nat → List Int32) (h : g_H) (F : Nat → Int32) (A : Nat → List Int32) (bs : List Int32) (k : Nat) (vs : List Int32) (gs : List (o_Rw × Int32)) : Prop := o_Z h a F A ∧ z_ps F A bs k ∧ z_vs F A vs ∧ z_gt F A gs ∧ (∀ j, j ≠ 19 → j ≠ 36 → j ≠ 37 → j ≠ 39 → F j = F0 j) ∧ (∀ i, i < 14 → i ≠ 7 → A i = A0 i) ∧ g_Fr a (a + 18) hh h
section
variable {l : Launch} {a : Nat} {hh : g_H} {F0 : Nat → Int32} {A0 : Nat → List Int32} {h : g_H} {F : Nat → Int32} {A : Nat → List Int32} {bs : List Int32} {k : Nat} {vs : List Int32} {gs : List (o_Rw × Int32)}
theorem z_gI_39 (v : Int32) (hI : z_gI a hh F0 A0 h F A bs k vs gs) : z_gI a hh F0 A0 (g_up h a (.inr (10, z_fs a (z_u F 39 v)))) (z_u F 39 v) A bs k vs gs := by
  obtain ⟨z, s, v1, g, e1, e2, f⟩ := hI
  obtain ⟨z1, f1⟩ := z_fld z (z_u F 39 v)
  exact ⟨z1, z_ps_mv s s.1 s.2.1 rfl, v1, g, fun j j1 j2 j3 j4 => by rw [z_u_ne j4]; exact e1 j j1 j2 j3 j4, e2, g_Fr_tr f f1⟩
theorem z_gI_nx {F1 : Nat → Int32} {h1 : g_H} {k1 : Nat} (hI : z_gI a hh F0 A0 h F A bs k vs gs) (z1 : o_Z h1 a F1 A) (e1 : ∀ j, j ≠ 37 → j ≠ 39 → F1 j = F j) (f1 : g_Fr a (a + 18) h h1) (s1 : z_ps F1 A bs k1) : z_gI a hh F0 A0 h1 F1 A bs k1 vs gs := by
  obtain ⟨z, s, v1, g, e2, e3, f⟩ := hI
  exact ⟨z1, s1, ⟨(e1 19 (by omega) (by omega)).trans v1.1, v1.2⟩, ⟨(e1 36 (by omega) (by omega)).trans g.1, g.2⟩, fun j j1 j2 j3 j4 => (e1 j j3 j4).trans (e2 j j1 j2 j3 j4), e3, g_Fr_tr f f1⟩
theorem c_g_get (r : o_Rw) (t : Int32) (hI : z_gI a hh F0 A0 h F A bs k vs gs) : g_Run l J_Z_get [.ref a, .int r.1, .int r.2.1, .int r.2.2, .int t] h (fun oc hE => oc = .inl none ∧ ∃ F' A', (gs.length < 110 ∧ z_gI a hh F0 A0 hE F' A' bs k vs (gs ++ [(r, t)]) ∧ F' 39 = F 39) ∨ (gs.length = 110 ∧ z_gI a hh F0 A0 hE F' A' bs k vs gs ∧ F' 39 = 0)) := by
  obtain ⟨z, s, v1, g, e2, e3, f⟩ := hI
  refine g_Run_mono (c_Z_get r t z g) (fun oc hE hp => ?_)
  obtain ⟨rfl, F1, A1, z1, e1, d1, f1, hc⟩ := hp
  have s1 : z_ps F1 A1 bs k := ⟨s.1, (e1 37 (by omega) (by omega)).trans s.2.1, (e1 38 (by omega) (by omega)).trans s.2.2.1, by rw [d1 6 (by omega)]; exact s.2.2.2.1, s.2.2.2.2⟩
  have v2 : z_vs F1 A1 vs := ⟨(e1 19 (by omega) (by omega)).trans v1.1, by rw [d1 7 (by omega)]; exact v1.2.1, v1.2.2⟩
  have e4 : ∀ j, j ≠ 19 → j ≠ 36 → j ≠ 37 → j ≠ 39 → F1 j = F0 j := fun j j1 j2 j3 j4 => (e1 j j2 j4).trans (e2 j j1 j2 j3 j4)
  have d4 : ∀ i, i < 14 → i ≠ 7 → A1 i = A0 i := fun i i1 i2 => (d1 i i1).trans (e3 i i1 i2)
  refine ⟨rfl, F1, A1, ?_⟩
  rcases hc with ⟨q, g1, g2⟩ | ⟨q, g1, g2⟩
  · exact Or.inl ⟨q, ⟨z1, s1, v2, g1, e4, d4, g_Fr_tr f f1⟩, g2⟩
  · exact Or.inr ⟨q, ⟨z1, s1, v2, g1, e4, d4, g_Fr_tr f f1⟩, g2⟩
theorem c_g_num (hI : z_gI a hh F0 A0 h F A bs k vs gs) (hg : F 39 = 1) : g_Run l J_Z_nextNumber [.ref a] h (fun oc hE => ∃ F' k', z_gI a hh F0 A0 hE F' A bs k' vs gs ∧ match d_num 5 0 0 (bs.drop k) with
    | some (x, r) => oc = .inl (some (.long (lN x))) ∧ F' 39 = 1 ∧ r = bs.drop k'
    | none => (∃ y, oc = .inl (some (.long y))) ∧ F' 39 = 0) := by
  refine g_Run_mono (c_Z_nextNumber hI.1 hI.2.1 hg) (fun oc hE hp => ?_)
  obtain ⟨F1, z1, e1, f1, k1, s1, hc⟩ := hp
  refine ⟨F1, k1, z_gI_nx hI z1 e1 f1 s1, ?_⟩
  cases hres : d_num 5 0 0 (bs.drop k) with
  | none =>
    rw [hres] at hc
    obtain ⟨⟨y, hy, x, rfl⟩, g1⟩ := hc
    exact ⟨⟨x, hy⟩, g1⟩
  | some w =>
    rw [hres] at hc
    exact hc
theorem c_g_dif (hI : z_gI a hh F0 A0 h F A bs k vs gs) (hg : F 39 = 1) : g_Run l J_Z_nextDifference [.ref a] h (fun oc hE => ∃ F' k', z_gI a hh F0 A0 hE F' A bs k' vs gs ∧ match d_num 5 0 0 (bs.drop k) with
    | some (x, r) => oc = .inl (some (.int (d_dif x))) ∧ F' 39 = 1 ∧ r = bs.drop k'
    | none => (∃ y, oc = .inl (some (.int y))) ∧ F' 39 = 0) := by
  refine g_Run_mono (c_Z_nextDifference hI.1 hI.2.1 hg) (fun oc hE hp => ?_)
  obtain ⟨F1, z1, e1, f1, k1, s1, hc⟩ := hp
  refine ⟨F1, k1, z_gI_nx hI z1 e1 f1 s1, ?_⟩
  cases hres : d_num 5 0 0 (bs.drop k) with
  | none =>
    rw [hres] at hc
    obtain ⟨⟨y, hy, x, rfl⟩, g1⟩ := hc
    exact ⟨⟨x, hy⟩, g1⟩
  | some w =>
    rw [hres] at hc
    exact hc
theorem c_g_four (hI : z_gI a hh F0 A0 h F A bs k vs gs) : g_Run l J_Z_nextFour [.ref a] h (fun oc hE => ∃ F' k', z_gI a hh F0 A0 hE F' A bs k' vs gs ∧ match d_word (bs.drop k) with
    | some (x, r) => oc = .inl (some (.int (nI x))) ∧ F' 39 = F 39 ∧ r = bs.drop k'
    | none => (∃ y, oc = .inl (some (.int y))) ∧ F' 39 = 0) := by
  refine g_Run_mono (c_Z_nextFour hI.1 hI.2.1) (fun oc hE hp => ?_)
  obtain ⟨F1, z1, e1, f1, hc⟩ := hp
  have hl : (bs.drop k).length = bs.length - k := List.length_drop ..
  have hk := hI.2.1.1
  unfold d_word
  rcases hc with ⟨q, rfl, g1, s1⟩ | ⟨q, hy, g1, k1, s1⟩
  · refine ⟨F1, k + 4, z_gI_nx hI z1 e1 f1 s1, ?_⟩
    rw [if_pos (by omega)]
    exact ⟨rfl, g1, by rw [List.drop_drop]⟩
  · refine ⟨F1, k1, z_gI_nx hI z1 e1 f1 s1, ?_⟩
    rw [if_neg (by omega)]
    exact ⟨hy, g1⟩
theorem c_g_put (v : Int32) (hI : z_gI a hh F0 A0 h F A bs k vs gs) : g_Run l J_Z_putValue [.ref a, .int v] h (fun oc hE => oc = .inl (some (.int (nI (z_at vs v)))) ∧ ∃ F' A', z_gI a hh F0 A0 hE F' A' bs k (o_use 8 vs v) gs ∧ F' 39 = F 39) := by
  obtain ⟨z, s, v1, g, e2, e3, f⟩ := hI
  refine g_Run_mono (c_Z_putValue z v1) (fun oc hE hp => ?_)
  obtain ⟨rfl, F1, A1, z1, v2, e1, d1, f1⟩ := hp
  have s1 : z_ps F1 A1 bs k := ⟨s.1, (e1 37 (by omega)).trans s.2.1, (e1 38 (by omega)).trans s.2.2.1, by rw [d1 6 (by omega)]; exact s.2.2.2.1, s.2.2.2.2⟩
  have g1 : z_gt F1 A1 gs := ⟨(e1 36 (by omega)).trans g.1, g.2.1, by rw [d1 14 (by omega)]; exact g.2.2.1, by rw [d1 15 (by omega)]; exact g.2.2.2.1, by rw [d1 16 (by omega)]; exact g.2.2.2.2.1, by rw [d1 17 (by omega)]; exact g.2.2.2.2.2⟩
  exact ⟨rfl, F1, A1, ⟨z1, s1, v2, g1, fun j j1 j2 j3 j4 => (e1 j j1).trans (e2 j j1 j2 j3 j4), fun i i1 i2 => (d1 i i2).trans (e3 i i1 i2), g_Fr_tr f f1⟩, e1 39 (by omega)⟩
end
abbrev z_K (a : Nat) (b0 : Int32) (m : o_Mm) (c8 c9 c10 c11 c12 : Option Value) : g_L := [some (.ref a), some (.int b0), some (.int m.2.2.2.1), some (.int m.1.1), some (.int m.1.2), some (.int m.2.1.1), some (.int m.2.1.2), some (.int m.2.2.2.2), c8, c9, c10, c11, c12]
/-- what stands behind a row that is broken -/
def z_kB (l : Launch) (a : Nat) (hh : g_H) (F0 : Nat → Int32) (A0 : Nat → List Int32) (bs : List Int32) (P : g_P) : Prop := ∀ (L : g_L) (h : g_H) (F : Nat → Int32) (A : Nat → List Int32) (k : Nat) (vs : List Int32) (gs : List (o_Rw × Int32)), z_gI a hh F0 A0 h F A bs k vs gs → F 39 = 0 → g_X l J_Z_getRows 473 (some (.ref a) :: L) [] h P
def z_kG (l : Launch) (a : Nat) (b0 : Int32) (hh : g_H) (F0 : Nat → Int32) (A0 : Nat → List Int32) (bs : List Int32) (P : g_P) (m : o_Mm) (gs : List (o_Rw × Int32)) (r : List Int32) : Prop := ∀ (c8 c9 c10 c11 c12 : Option Value) (h : g_H) (F : Nat → Int32) (A : Nat → List Int32) (k : Nat), r = bs.drop k → z_gI a hh F0 A0 h F A bs k m.2.2.1 gs → F 39 = 1 → g_X l J_Z_getRows 473 (z_K a b0 m c8 c9 c10 c11 c12) [] h P
def z_kk (l : Launch) (a : Nat) (b0 : Int32) (hh : g_H) (F0 : Nat → Int32) (A0 : Nat → List Int32) (bs : List Int32) (P : g_P) (gs : List (o_Rw × Int32)) (RR : Option (o_Mm × List o_Rw × List Int32)) : Prop := match RR with
  | none => z_kB l a hh F0 A0 bs P
  | some (m, add, r) => if gs.length + add.length ≤ 110 then z_kG l a b0 hh F0 A0 bs P m (gs ++ add.map (fun w => (w, m.2.2.2.2))) r else z_kB l a hh F0 A0 bs P
section
variable {l : Launch} {a : Nat} {b0 : Int32} {hh : g_H} {F0 : Nat → Int32} {A0 : Nat → List Int32} {bs : List Int32} {P : g_P} {gs : List (o_Rw × Int32)}
theorem z_kk_g {m : o_Mm} {w : o_Rw} {r : List Int32} (kk : z_kk l a b0 hh F0 A0 bs P gs (some (m, [w], r))) (q : gs.length < 110) : z_kG l a b0 hh F0 A0 bs P m (gs ++ [(w, m.2.2.2.2)]) r := by
  have e : gs.length + ([w] : List o_Rw).length ≤ 110 := by simp; omega
  unfold z_kk at kk
  simp only at kk
  rw [if_pos e] at kk
  exact kk
theorem z_kk_f {m : o_Mm} {add : List o_Rw} {r : List Int32} (kk : z_kk l a b0 hh F0 A0 bs P gs (some (m, add, r))) (q : 110 < gs.length + add.length) : z_kB l a hh F0 A0 bs P := by
  unfold z_kk at kk
  simp only at kk
  rw [if_neg (by omega)] at kk
  exact kk
set_option maxRecDepth 100000 in
set_option maxHeartbeats 4000000 in
theorem x_g_jump {m : o_Mm} {fv k : Nat} {F : Nat → Int32} {A : Nat → List Int32} {h : g_H} {c8 c10 c11 c12 : Option Value} (hfv : fv < 32) (hI : z_gI a hh F0 A0 h F A bs k m.2.2.1 gs) (kk : z_kk l a b0 hh F0 A0 bs P gs (match d_num 5 0 0 (bs.drop k) with
    | none => none
    | some (x, r) => if fv = 0 then d_jump m x r else none)) : g_X l J_Z_getRows 175 (z_K a b0 m c8 (some (.int (nI fv))) c10 c11 c12) [] h P := by
  refine g_go ok_Z_getRows [473] 60 ?_
  by_cases q : fv = 0
  · refine g_br_f (show ¬ ¬ nI fv = 0 from fun z => z (by rw [q]; rfl)) ?_
    refine g_pt_j (z_fs a (z_u F 39 1)) hI.1.1 (Nat.le_of_ble_eq_true rfl) rfl rfl rfl ?_
    have i1 := z_gI_39 1 hI
    refine g_cv_i i1.1.1 (c_g_dif i1 rfl) (fun oc h1 hp => ?_)
    obtain ⟨F1, k1, i2, hp⟩ := hp
    cases hres : d_num 5 0 0 (bs.drop k) with
    | none =>
      rw [hres] at hp kk
      obtain ⟨⟨y, rfl⟩, g1⟩ := hp
      refine ⟨_, rfl, ?_⟩
      refine g_cv_i i2.1.1 (c_g_get (1, m.2.2.2.1 + y, 0) m.2.2.2.2 i2) (fun oc h2 hp => ?_)
      obtain ⟨rfl, F2, A2, hp⟩ := hp
      refine ⟨_, rfl, ?_⟩
      rcases hp with ⟨_, i3, g3⟩ | ⟨_, i3, g3⟩
      · exact kk _ _ _ _ _ _ _ i3 (g3.trans g1)
      · exact kk _ _ _ _ _ _ _ i3 g3
    | some w =>
      obtain ⟨x, r⟩ := w
      rw [hres] at hp kk
      obtain ⟨rfl, g1, rfl⟩ := hp
      simp only at kk
      rw [if_pos q] at kk
      refine ⟨_, rfl, ?_⟩
      refine g_cv_i i2.1.1 (c_g_get (1, m.2.2.2.1 + d_dif x, 0) m.2.2.2.2 i2) (fun oc h2 hp => ?_)
      obtain ⟨rfl, F2, A2, hp⟩ := hp
      refine ⟨_, rfl, ?_⟩
      rcases hp with ⟨q2, i3, g3⟩ | ⟨q2, i3, g3⟩
      · exact z_kk_g kk q2 _ _ _ _ _ _ _ _ _ rfl i3 (g3.trans g1)
      · exact z_kk_f kk (by simp; omega) _ _ _ _ _ _ _ i3 g3
  · refine g_br_t (show ¬ nI fv = 0 from nI_ne0 (by omega) (by omega)) ?_
    refine g_pt_j (z_fs a (z_u F 39 0)) hI.1.1 (Nat.le_of_ble_eq_true rfl) rfl rfl rfl ?_
    have i1 := z_gI_39 0 hI
    have kb : z_kB l a hh F0 A0 bs P := by
      cases hres : d_num 5 0 0 (bs.drop k) with
      | none =>
        rw [hres] at kk
        exact kk
      | some w =>
        obtain ⟨x, r⟩ := w
        rw [hres] at kk
        simp only at kk
        rw [if_neg q] at kk
        exact kk
    refine g_cv_i i1.1.1 (c_Z_nextDifference0 i1.1 rfl) (fun oc h1 hp => ?_)
    obtain ⟨rfl, rfl⟩ := hp
    refine ⟨_, rfl, ?_⟩
    refine g_cv_i i1.1.1 (c_g_get (1, m.2.2.2.1 + 0, 0) m.2.2.2.2 i1) (fun oc h2 hp => ?_)
    obtain ⟨rfl, F2, A2, hp⟩ := hp
    refine ⟨_, rfl, ?_⟩
    rcases hp with ⟨_, i3, g3⟩ | ⟨_, i3, g3⟩
    · exact kb _ _ _ _ _ _ _ i3 g3
    · exact kb _ _ _ _ _ _ _ i3 g3
set_option maxRecDepth 100000 in
set_option maxHeartbeats 4000000 in
theorem x_g_load {m : o_Mm} {fv k : Nat} {F : Nat → Int32} {A : Nat → List Int32} {h : g_H} {c8 c10 c11 c12 : Option Value} (hfv : fv < 32) (hI : z_gI a hh F0 A0 h F A bs k m.2.2.1 gs) (kk : z_kk l a b0 hh F0 A0 bs P gs (match (if fv = 1 then d_num 5 0 0 (bs.drop k) else some (0, bs.drop k)) with
    | none => none
    | some (x, r) => if fv ≤ 1 then d_load m fv x r else none)) : g_X l J_Z_getRows 214 (z_K a b0 m c8 (some (.int (nI fv))) c10 c11 c12) [] h P := by
  -- with the step at hand
  have tB : ∀ (y : Int32) (F1 : Nat → Int32) (h1 : g_H) (k1 : Nat), z_kB l a hh F0 A0 bs P → z_gI a hh F0 A0 h1 F1 A bs k1 m.2.2.1 gs → F1 39 = 0 → g_X l J_Z_getRows 244 (z_K a b0 m c8 (some (.int (nI fv))) c10 c11 c12) [.int y] h1 P := by
    intro y F1 h1 k1 kb i1 g1
    refine g_go ok_Z_getRows [473] 60 ?_
    refine g_cv_i i1.1.1 (c_g_get (2, m.1.1 + y, 0) m.2.2.2.2 i1) (fun oc h2 hp => ?_)
    obtain ⟨rfl, F2, A2, hp⟩ := hp
    refine ⟨_, rfl, ?_⟩
    rcases hp with ⟨_, i3, g3⟩ | ⟨_, i3, g3⟩
    · exact kb _ _ _ _ _ _ _ i3 (g3.trans g1)
    · exact kb _ _ _ _ _ _ _ i3 g3
  have tG : ∀ (y : Int32) (F1 : Nat → Int32) (h1 : g_H) (k1 x : Nat), z_kk l a b0 hh F0 A0 bs P gs (d_load m fv x (bs.drop k1)) → d_place m.1.1 m.1.2 (fv == 1) x = m.1.1 + y → z_gI a hh F0 A0 h1 F1 A bs k1 m.2.2.1 gs → F1 39 = 1 → g_X l J_Z_getRows 244 (z_K a b0 m c8 (some (.int (nI fv))) c10 c11 c12) [.int y] h1 P := by
    intro y F1 h1 k1 x kk hy i1 g1
    unfold d_load at kk
    rw [hy, n_add] at kk
    refine g_go ok_Z_getRows [473] 60 ?_
    refine g_cv_i i1.1.1 (c_g_get (2, m.1.1 + y, 0) m.2.2.2.2 i1) (fun oc h2 hp => ?_)
    obtain ⟨rfl, F2, A2, hp⟩ := hp
    refine ⟨_, rfl, ?_⟩
    rcases hp with ⟨q2, i3, g3⟩ | ⟨q2, i3, g3⟩
    · exact z_kk_g kk q2 _ _ _ _ _ _ _ _ _ rfl i3 (g3.trans g1)
    · exact z_kk_f kk (by simp; omega) _ _ _ _ _ _ _ i3 g3
  refine g_go ok_Z_getRows [244] 60 ?_
  by_cases q : fv ≤ 1
  · refine g_br_f (show ¬ (2 : Int32) ≤ nI fv from nI_ge (b := 2) (by omega) (by omega)) ?_
    refine g_pt_j (z_fs a (z_u F 39 1)) hI.1.1 (Nat.le_of_ble_eq_true rfl) rfl rfl rfl ?_
    have i1 := z_gI_39 1 hI
    by_cases q1 : fv = 1
    · refine g_br_f (show ¬ ¬ nI fv = 1 from fun z => z (by rw [q1]; rfl)) ?_
      refine g_cv_i i1.1.1 (c_g_dif i1 rfl) (fun oc h1 hp => ?_)
      obtain ⟨F1, k1, i2, hp⟩ := hp
      rw [if_pos q1] at kk
      cases hres : d_num 5 0 0 (bs.drop k) with
      | none =>
        rw [hres] at hp kk
        obtain ⟨⟨y, rfl⟩, g1⟩ := hp
        exact ⟨_, rfl, tB y F1 h1 k1 kk i2 g1⟩
      | some w =>
        obtain ⟨x, r⟩ := w
        rw [hres] at hp kk
        obtain ⟨rfl, g1, rfl⟩ := hp
        simp only at kk
        rw [if_pos q] at kk
        refine ⟨_, rfl, tG _ F1 h1 k1 x kk ?_ i2 g1⟩
        unfold d_place
        rw [if_pos (by simpa using q1)]
    · refine g_br_t (show ¬ nI fv = 1 from fun z => q1 ((nI_eq (b := 1) (by omega) (by omega)).mp z)) ?_
      rw [if_neg q1] at kk
      simp only at kk
      rw [if_pos q] at kk
      refine tG _ _ _ k 0 kk ?_ i1 rfl
      unfold d_place
      rw [if_neg (by simpa using q1)]
  · refine g_br_t (show (2 : Int32) ≤ nI fv from nI_le (a := 2) (by omega) (by omega)) ?_
    refine g_pt_j (z_fs a (z_u F 39 0)) hI.1.1 (Nat.le_of_ble_eq_true rfl) rfl rfl rfl ?_
    have i1 := z_gI_39 0 hI
    refine g_br_t (show ¬ nI fv = 1 from fun z => absurd ((nI_eq (b := 1) (by omega) (by omega)).mp z) (by omega)) ?_
    rw [if_neg (by omega)] at kk
    simp only at kk
    rw [if_neg q] at kk
    exact tB _ _ _ k kk i1 rfl
end
