/-! TracePacksModel.keep -/
theorem n_ch1 : ∀ kd, kd < 32 → ∀ th, th < 16 → ∀ j, j < 5 → (nI (kd + 32 * th) >>> (nI j &&& 31)) &&& 1 = (nI kd >>> (nI j &&& 31)) &&& 1 := by decide +kernel
theorem n_ch2 : ∀ kd, kd < 32 → ∀ th, th < 16 → ∀ j, j < 4 → (nI (kd + 32 * th) >>> ((5 + nI j) &&& 31)) &&& 1 = (nI th >>> (nI j &&& 31)) &&& 1 := by decide +kernel
def z_ks (F : Nat → Int32) (A : Nat → List Int32) (ks : List o_Kr) : Prop := F 24 = nI ks.length ∧ ks.length ≤ 2000 ∧ ∀ j, j < 6 → (A (8 + j)).take ks.length = ks.map (k_col j)
theorem l_tkm {α : Type} {ys : List Int32} {rs : List α} {f : α → Int32} (h : ys.take rs.length = rs.map f) (j : Nat) (r : α) (hr : rs[j]? = some r) : ys.getD j 0 = f r := by
  have hj : j < rs.length := (List.getElem?_eq_some_iff.mp hr).1
  have : (rs.map f)[j]? = some (f r) := by rw [List.getElem?_map, hr]; rfl
  rw [← h, List.getElem?_take, if_pos hj] at this
  exact l_getD this
set_option maxRecDepth 100000 in
set_option maxHeartbeats 4000000 in
theorem c_Z_keep {l : Launch} {h : g_H} {a i kd th j its : Nat} {F : Nat → Int32} {A : Nat → List Int32} {gs : List (o_Rw × Int32)} {ks : List o_Kr} {r : o_Rw} {t : Int32} (hZ : o_Z h a F A) (hg : z_gt F A gs) (hk : z_ks F A ks) (hr : gs[i]? = some (r, t)) (h13 : F 13 = nI kd) (h14 : F 14 = nI th) (hkd : kd < 32) (hth : th < 16) (hj : j < 5) (hrj : r.1 = nI j) (hits : its < 4) : g_Run l J_Z_keep [.ref a, .int (nI i), .int (nI its)] h (fun oc hE => oc = .inl none ∧ ∃ F' A', o_Z hE a F' A' ∧ (∀ j, j ≠ 24 → j ≠ 25 → F' j = F j) ∧ (∀ i, i < 8 ∨ 14 ≤ i → A' i = A i) ∧ g_Fr a (a + 18) h hE ∧ (if d_ch (nI (kd + 32 * th)) r.1 (nI its) = true ∧ ks.length < 2000 then z_ks F' A' (ks ++ [(r.1, r.2.1, r.2.2, nI its, t, F 22)]) ∧ F' 25 = F 25 else z_ks F' A' ks ∧ F' 25 = F 25 + 1)) := by
  obtain ⟨g0, g1, g2, g3, g4, g5⟩ := hg
  have hil : i < gs.length := (List.getElem?_eq_some_iff.mp hr).1
  have ll : ∀ n, 8 ≤ n → n ≤ 13 → (A n).length = 2000 := fun n n1 n2 => by
    rw [hZ.2.2.2 n (by omega) (by omega)]
    unfold z_cap
    rw [if_neg (by omega), if_neg (by omega), if_neg (by omega), if_neg (by omega), if_neg (by omega), if_pos (by omega)]
  have l14 : (A 14).length = 110 := hZ.2.2.2 14 (by omega) (by omega)
  have l15 : (A 15).length = 110 := hZ.2.2.2 15 (by omega) (by omega)
  have l16 : (A 16).length = 110 := hZ.2.2.2 16 (by omega) (by omega)
  have l17 : (A 17).length = 110 := hZ.2.2.2 17 (by omega) (by omega)
  have ic : (nI i).toNatClampNeg = i := nI_clamp (by omega)
  have vg : ∀ n : Nat, n = 110 → vp_in (nI i) n := fun n hn => vp_in_nI (by omega) (by omega)
  have e14 : (A 14).getD (nI i).toNatClampNeg 0 = r.1 := by rw [ic]; exact l_tkm g2 i _ hr
  have e15 : (A 15).getD (nI i).toNatClampNeg 0 = r.2.1 := by rw [ic]; exact l_tkm g3 i _ hr
  have e16 : (A 16).getD (nI i).toNatClampNeg 0 = r.2.2 := by rw [ic]; exact l_tkm g4 i _ hr
  have e17 : (A 17).getD (nI i).toNatClampNeg 0 = t := by rw [ic]; exact l_tkm g5 i _ hr
  have hd : d_ch (nI (kd + 32 * th)) r.1 (nI its) = true ↔ ((nI kd >>> (r.1 &&& 31)) &&& 1 = 1 ∧ (nI th >>> (nI its &&& 31)) &&& 1 = 1) := by
    unfold d_ch
    rw [hrj, n_ch1 kd hkd th hth j hj, n_ch2 kd hkd th hth its hits]
    simp
  -- it is not kept
  have t49 : ∀ c3 : Option Value, ¬ (d_ch (nI (kd + 32 * th)) r.1 (nI its) = true ∧ ks.length < 2000) → g_X l J_Z_keep 49 [some (.ref a), some (.int (nI i)), some (.int (nI its)), c3] [] h (fun oc hE => oc = .inl none ∧ ∃ F' A', o_Z hE a F' A' ∧ (∀ j, j ≠ 24 → j ≠ 25 → F' j = F j) ∧ (∀ i, i < 8 ∨ 14 ≤ i → A' i = A i) ∧ g_Fr a (a + 18) h hE ∧ (if d_ch (nI (kd + 32 * th)) r.1 (nI its) = true ∧ ks.length < 2000 then z_ks F' A' (ks ++ [(r.1, r.2.1, r.2.2, nI its, t, F 22)]) ∧ F' 25 = F 25 else z_ks F' A' ks ∧ F' 25 = F 25 + 1)) := by
    intro c3 hn
    refine g_go ok_Z_keep [] 60 ?_
    refine g_gt_i hZ.1 rfl ?_
    refine g_pt_j (z_fs a (z_u F 25 (F 25 + 1))) hZ.1 (Nat.le_of_ble_eq_true rfl) rfl rfl rfl ?_
    obtain ⟨z1, f1⟩ := z_fld hZ (z_u F 25 (F 25 + 1))
    refine ⟨rfl, _, A, z1, fun j _ j2 => z_u_ne j2, fun _ _ => rfl, f1, ?_⟩
    rw [if_neg hn]
    exact ⟨hk, rfl⟩
  have t34 : ∀ v : Int32, (v = 1 ∧ d_ch (nI (kd + 32 * th)) r.1 (nI its) = true) ∨ (v = 0 ∧ ¬ d_ch (nI (kd + 32 * th)) r.1 (nI its) = true) → g_X l J_Z_keep 34 [some (.ref a), some (.int (nI i)), some (.int (nI its)), none] [.int v] h (fun oc hE => oc = .inl none ∧ ∃ F' A', o_Z hE a F' A' ∧ (∀ j, j ≠ 24 → j ≠ 25 → F' j = F j) ∧ (∀ i, i < 8 ∨ 14 ≤ i → A' i = A i) ∧ g_Fr a (a + 18) h hE ∧ (if d_ch (nI (kd + 32 * th)) r.1 (nI its) = true ∧ ks.length < 2000 then z_ks F' A' (ks ++ [(r.1, r.2.1, r.2.2, nI its, t, F 22)]) ∧ F' 25 = F 25 else z_ks F' A' ks ∧ F' 25 = F 25 + 1)) := by
    intro v hv
    refine g_go ok_Z_keep [49] 100 ?_
    rcases hv with ⟨rfl, hc⟩ | ⟨rfl, hc⟩
    · refine g_br_f (by decide) ?_
      refine g_gt_i hZ.1 rfl ?_
      have hkl := hk.2.1
      by_cases q : ks.length < 2000
      · refine g_br_t (show ¬ F 24 = 2000 by rw [hk.1]; exact fun z => absurd ((nI_eq (b := 2000) (by omega) (by omega)).mp z) (by omega)) ?_
        have kc : (F 24).toNatClampNeg = ks.length := by rw [hk.1]; exact nI_clamp (by omega)
        have vk : ∀ n : Nat, n = 2000 → vp_in (F 24) n := fun n hn => by rw [hk.1]; exact vp_in_nI (by omega) (by omega)
        refine g_gt_i hZ.1 rfl ?_
        refine g_gt_i hZ.1 rfl ?_
        refine g_gt_i hZ.1 rfl ?_
        refine g_al_i (xs := A 14) (hZ.2.2.1 14 (by omega) (by omega)) (vg _ l14) ?_
        rw [e14]
        refine g_as_i (xs := A 8) (hZ.2.2.1 8 (by omega) (by omega)) (vk _ (ll 8 (by omega) (by omega))) ?_
        obtain ⟨z1, f1⟩ := z_arr hZ 8 (F 24).toNatClampNeg r.1 (by omega) (by omega)
        refine g_gt_i z1.1 rfl ?_
        refine g_gt_i z1.1 rfl ?_
        refine g_gt_i z1.1 rfl ?_
        refine g_al_i (xs := A 15) (z1.2.2.1 15 (by omega) (by omega)) (vg _ l15) ?_
        rw [e15]
        refine g_as_i (xs := A 9) (z1.2.2.1 9 (by omega) (by omega)) (vk _ (ll 9 (by omega) (by omega))) ?_
        obtain ⟨z2, f2⟩ := z_arr z1 9 (F 24).toNatClampNeg r.2.1 (by omega) (by omega)
        refine g_gt_i z2.1 rfl ?_
        refine g_gt_i z2.1 rfl ?_
        refine g_gt_i z2.1 rfl ?_
        refine g_al_i (xs := A 16) (z2.2.2.1 16 (by omega) (by omega)) (vg _ l16) ?_
        rw [e16]
        refine g_as_i (xs := A 10) (z2.2.2.1 10 (by omega) (by omega)) (vk _ (ll 10 (by omega) (by omega))) ?_
        obtain ⟨z3, f3⟩ := z_arr z2 10 (F 24).toNatClampNeg r.2.2 (by omega) (by omega)
        refine g_gt_i z3.1 rfl ?_
        refine g_gt_i z3.1 rfl ?_
        refine g_as_i (xs := A 11) (z3.2.2.1 11 (by omega) (by omega)) (vk _ (ll 11 (by omega) (by omega))) ?_
        obtain ⟨z4, f4⟩ := z_arr z3 11 (F 24).toNatClampNeg (nI its) (by omega) (by omega)
        refine g_gt_i z4.1 rfl ?_
        refine g_gt_i z4.1 rfl ?_
        refine g_gt_i z4.1 rfl ?_
        refine g_al_i (xs := A 17) (z4.2.2.1 17 (by omega) (by omega)) (vg _ l17) ?_
        rw [e17]
        refine g_as_i (xs := A 12) (z4.2.2.1 12 (by omega) (by omega)) (vk _ (ll 12 (by omega) (by omega))) ?_
        obtain ⟨z5, f5⟩ := z_arr z4 12 (F 24).toNatClampNeg t (by omega) (by omega)
        refine g_gt_i z5.1 rfl ?_
        refine g_gt_i z5.1 rfl ?_
        refine g_gt_i z5.1 rfl ?_
        refine g_as_i (xs := A 13) (z5.2.2.1 13 (by omega) (by omega)) (vk _ (ll 13 (by omega) (by omega))) ?_
        obtain ⟨z6, f6⟩ := z_arr z5 13 (F 24).toNatClampNeg (F 22) (by omega) (by omega)
        refine g_gt_i z6.1 rfl ?_
        refine g_pt_j (z_fs a (z_u F 24 (F 24 + 1))) z6.1 (Nat.le_of_ble_eq_true rfl) rfl rfl rfl ?_
        obtain ⟨z7, f7⟩ := z_fld z6 (z_u F 24 (F 24 + 1))
        refine ⟨rfl, _, _, z7, fun j j1 _ => z_u_ne j1, fun i hi => ?_, g_Fr_tr f1 (g_Fr_tr f2 (g_Fr_tr f3 (g_Fr_tr f4 (g_Fr_tr f5 (g_Fr_tr f6 f7))))), ?_⟩
        · rw [z_u_ne (by omega), z_u_ne (by omega), z_u_ne (by omega), z_u_ne (by omega), z_u_ne (by omega), z_u_ne (by omega)]
        · rw [if_pos ⟨hc, q⟩]
          refine ⟨⟨?_, by simp; omega, fun n hn => ?_⟩, rfl⟩
          · show F 24 + 1 = _
            rw [hk.1, nI_1]
            simp
          · have hkn := hk.2.2 n hn
            rcases (show n = 0 ∨ n = 1 ∨ n = 2 ∨ n = 3 ∨ n = 4 ∨ n = 5 by omega) with rfl | rfl | rfl | rfl | rfl | rfl
            · show ((A 8).set (F 24).toNatClampNeg r.1).take _ = _
              rw [kc]
              exact l_putm hkn (by rw [ll 8 (by omega) (by omega)]; omega) rfl
            · show ((A 9).set (F 24).toNatClampNeg r.2.1).take _ = _
              rw [kc]
              exact l_putm hkn (by rw [ll 9 (by omega) (by omega)]; omega) rfl
            · show ((A 10).set (F 24).toNatClampNeg r.2.2).take _ = _
              rw [kc]
              exact l_putm hkn (by rw [ll 10 (by omega) (by omega)]; omega) rfl
            · show ((A 11).set (F 24).toNatClampNeg (nI its)).take _ = _
              rw [kc]
              exact l_putm hkn (by rw [ll 11 (by omega) (by omega)]; omega) rfl
            · show ((A 12).set (F 24).toNatClampNeg t).take _ = _
              rw [kc]
              exact l_putm hkn (by rw [ll 12 (by omega) (by omega)]; omega) rfl
            · show ((A 13).set (F 24).toNatClampNeg (F 22)).take _ = _
              rw [kc]
              exact l_putm hkn (by rw [ll 13 (by omega) (by omega)]; omega) rfl
      · refine g_br_f (show ¬ ¬ F 24 = 2000 from fun z => z (by rw [hk.1, show ks.length = 2000 by omega]; rfl)) ?_
        exact t49 _ (fun z => q z.2)
    · refine g_br_t (by decide) ?_
      exact t49 _ (fun z => hc z.1)
  refine go_Z_keep [34] 60 ?_
  refine g_gt_i hZ.1 rfl ?_
  refine g_gt_i hZ.1 rfl ?_
  refine g_al_i (xs := A 14) (hZ.2.2.1 14 (by omega) (by omega)) (vg _ l14) ?_
  rw [e14]
  by_cases c1 : (nI kd >>> (r.1 &&& 31)) &&& 1 = 1
  · refine g_br_f (show ¬ ¬ (F 13 >>> (r.1 &&& 31)) &&& 1 = 1 from fun z => z (by rw [h13]; exact c1)) ?_
    refine g_gt_i hZ.1 rfl ?_
    by_cases c2 : (nI th >>> (nI its &&& 31)) &&& 1 = 1
    · refine g_br_f (show ¬ ¬ (F 14 >>> (nI its &&& 31)) &&& 1 = 1 from fun z => z (by rw [h14]; exact c2)) ?_
      exact t34 1 (Or.inl ⟨rfl, hd.mpr ⟨c1, c2⟩⟩)
    · refine g_br_t (show ¬ (F 14 >>> (nI its &&& 31)) &&& 1 = 1 by rw [h14]; exact c2) ?_
      exact t34 0 (Or.inr ⟨rfl, fun z => c2 (hd.mp z).2⟩)
  · refine g_br_t (show ¬ (F 13 >>> (r.1 &&& 31)) &&& 1 = 1 by rw [h13]; exact c1) ?_
    exact t34 0 (Or.inr ⟨rfl, fun z => c1 (hd.mp z).1⟩)
