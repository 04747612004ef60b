/-! TracePacksModel.read -/
theorem d_go_sk {ch : Int32} : ∀ (xs seg : List Int32) (S : o_Sd), d_go ch seg xs S = if d_skip xs < xs.length then d_go ch [] (xs.drop (d_skip xs + 1)) (d_one ch S (seg ++ xs.take (d_skip xs))) else d_one ch S (seg ++ xs.take (d_skip xs))
  | [], seg, S => by simp [d_go, d_skip]
  | b :: t, seg, S => by
    by_cases q : b = 126
    · simp [d_go, d_skip, q]
    · have e : d_skip (b :: t) = d_skip t + 1 := by
        simp only [d_skip]
        rw [if_neg q]
      have g : d_go ch seg (b :: t) S = d_go ch (seg ++ [b]) t S := by
        simp only [d_go]
        rw [if_neg q]
      rw [e, g, d_go_sk t (seg ++ [b]) S]
      simp only [List.length_cons, List.drop_succ_cons, List.take_succ_cons, List.append_assoc, List.singleton_append, Nat.add_lt_add_iff_right]
section
variable {l : Launch} {a : Nat} {hh : g_H} {F0 : Nat → Int32} {A0 : Nat → List Int32}
theorem x_rd_1 {pk : List Int32} {h : g_H} {F : Nat → Int32} {A : Nat → List Int32} {v : Int32} {c3 : Option Value} {P : g_P} (hZ : o_Z h a F A) (hp : z_pk F A pk) (hb : o_by pk) : ∀ (d i : Nat), pk.length - i = d → i ≤ pk.length → g_X l J_Z_read 72 [some (.ref a), some (.int v), some (.int (nI (i + d_skip (pk.drop i)))), c3] [] h P → g_X l J_Z_read 47 [some (.ref a), some (.int v), some (.int (nI i)), c3] [] h P := by
  have hpl := hp.2.1
  have l1 : (A 1).length = 16384 := hZ.2.2.2 1 (by omega) (by omega)
  intro d
  induction d with
  | zero =>
    intro i hd hi k
    refine g_go ok_Z_read [72] 60 ?_
    refine g_gt_i hZ.1 rfl ?_
    refine g_br_t (show F 1 ≤ nI i by rw [hp.1]; exact nI_le (by omega) (by omega)) ?_
    rw [List.drop_eq_nil_of_le (by omega)] at k
    exact k
  | succ d ih =>
    intro i hd hi k
    obtain ⟨x, hx, hdr⟩ := l_drop (xs := pk) (i := i) (by omega)
    have gx := (z_pk_at hp hb hx).2
    rw [hdr] at k
    simp only [d_skip] at k
    refine g_go ok_Z_read [47, 72] 60 ?_
    refine g_gt_i hZ.1 rfl ?_
    refine g_br_f (show ¬ F 1 ≤ nI i by rw [hp.1]; exact nI_ge (by omega) (by omega)) ?_
    refine g_gt_i hZ.1 rfl ?_
    refine g_alB_i hZ.2.1 (by rw [l1]; exact vp_in_nI (by omega) (by omega)) ?_
    rw [nI_clamp (by omega)]
    by_cases q : x = 126
    · rw [if_pos q] at k
      refine g_br_t (show (A 1).getD i 0 = 126 from gx.mpr q) ?_
      exact k
    · rw [if_neg q] at k
      refine g_br_f (show ¬ (A 1).getD i 0 = 126 from fun z => q (gx.mp z)) ?_
      have key := ih (i + 1) (by omega) (by omega) (by rw [show i + 1 + d_skip (pk.drop (i + 1)) = i + (d_skip (pk.drop (i + 1)) + 1) by omega]; exact k)
      rw [← nI_1 i] at key
      exact key
theorem x_rd_2 {pk : List Int32} {h : g_H} {F : Nat → Int32} {A : Nat → List Int32} {v w : Int32} {P : g_P} (hZ : o_Z h a F A) (hp : z_pk F A pk) (hb : o_by pk) : ∀ (d i : Nat), pk.length - i = d → i ≤ pk.length → g_X l J_Z_read 116 [some (.ref a), some (.int v), some (.int w), some (.int (nI (i + d_skip (pk.drop i))))] [] h P → g_X l J_Z_read 91 [some (.ref a), some (.int v), some (.int w), some (.int (nI i))] [] h P := by
  have hpl := hp.2.1
  have l1 : (A 1).length = 16384 := hZ.2.2.2 1 (by omega) (by omega)
  intro d
  induction d with
  | zero =>
    intro i hd hi k
    refine g_go ok_Z_read [116] 60 ?_
    refine g_gt_i hZ.1 rfl ?_
    refine g_br_t (show F 1 ≤ nI i by rw [hp.1]; exact nI_le (by omega) (by omega)) ?_
    rw [List.drop_eq_nil_of_le (by omega)] at k
    exact k
  | succ d ih =>
    intro i hd hi k
    obtain ⟨x, hx, hdr⟩ := l_drop (xs := pk) (i := i) (by omega)
    have gx := (z_pk_at hp hb hx).2
    rw [hdr] at k
    simp only [d_skip] at k
    refine g_go ok_Z_read [91, 116] 60 ?_
    refine g_gt_i hZ.1 rfl ?_
    refine g_br_f (show ¬ F 1 ≤ nI i by rw [hp.1]; exact nI_ge (by omega) (by omega)) ?_
    refine g_gt_i hZ.1 rfl ?_
    refine g_alB_i hZ.2.1 (by rw [l1]; exact vp_in_nI (by omega) (by omega)) ?_
    rw [nI_clamp (by omega)]
    by_cases q : x = 126
    · rw [if_pos q] at k
      refine g_br_t (show (A 1).getD i 0 = 126 from gx.mpr q) ?_
      exact k
    · rw [if_neg q] at k
      refine g_br_f (show ¬ (A 1).getD i 0 = 126 from fun z => q (gx.mp z)) ?_
      have key := ih (i + 1) (by omega) (by omega) (by rw [show i + 1 + d_skip (pk.drop (i + 1)) = i + (d_skip (pk.drop (i + 1)) + 1) by omega]; exact k)
      rw [← nI_1 i] at key
      exact key
theorem x_rd_3 {kd th : Nat} {pk : List Int32} {v : Int32} (h13 : F0 13 = nI kd) (h14 : F0 14 = nI th) (hkd : kd < 32) (hth : th < 16) (hp : z_pk F0 A0 pk) (hb : o_by pk) {R : o_Sd} : ∀ (d i : Nat) (S : o_Sd) (h : g_H) (F : Nat → Int32) (A : Nat → List Int32) (c3 : Option Value), pk.length - i ≤ d → i ≤ pk.length → R = (if i < pk.length then d_go (nI (kd + 32 * th)) [] (pk.drop (i + 1)) S else S) → z_bI a hh F0 A0 S h F A →
    g_X l J_Z_read 79 [some (.ref a), some (.int v), some (.int (nI i)), c3] [] h (fun oc hE => oc = .inl (some (.int (nI R.1.length))) ∧ ∃ F' A', z_bI a hh F0 A0 R hE F' A') := by
  have hpl := hp.2.1
  intro d
  induction d with
  | zero =>
    intro i S h F A c3 hd hi hR hI
    have h1 : F 1 = nI pk.length := (hI.2.2.1 1 (by omega)).trans hp.1
    rw [if_neg (by omega)] at hR
    subst hR
    refine g_go ok_Z_read [] 60 ?_
    refine g_gt_i hI.1.1 rfl ?_
    refine g_br_t (show F 1 ≤ nI i by rw [h1]; exact nI_le (by omega) (by omega)) ?_
    refine g_gt_i hI.1.1 rfl ?_
    exact ⟨by rw [hI.2.1.1.1], F, A, hI⟩
  | succ d ih =>
    intro i S h F A c3 hd hi hR hI
    have h1 : F 1 = nI pk.length := (hI.2.2.1 1 (by omega)).trans hp.1
    have hpk : z_pk F A pk := ⟨h1, hpl, by rw [hI.2.2.2.2.1 1 (by omega)]; exact hp.2.2⟩
    by_cases hil : i < pk.length
    · rw [if_pos hil] at hR
      refine g_go ok_Z_read [91] 60 ?_
      refine g_gt_i hI.1.1 rfl ?_
      refine g_br_f (show ¬ F 1 ≤ nI i by rw [h1]; exact nI_ge (by omega) (by omega)) ?_
      have hsk := d_skip_le (pk.drop (i + 1))
      rw [List.length_drop] at hsk
      have key := x_rd_2 (l := l) (v := v) (w := nI i) (P := (fun oc hE => oc = .inl (some (.int (nI R.1.length))) ∧ ∃ F' A', z_bI a hh F0 A0 R hE F' A')) hI.1 hpk hb _ (i + 1) rfl (by omega) (by
        have hseg : (pk.take (i + 1 + d_skip (pk.drop (i + 1)))).drop (i + 1) = (pk.drop (i + 1)).take (d_skip (pk.drop (i + 1))) := by
          rw [List.drop_take]
          congr 1
          omega
        refine g_go ok_Z_read [79] 60 ?_
        have bk : ∀ y, y = nI (i + 1) → g_Run l J_Z_block [.ref a, .int y, .int (nI (i + 1 + d_skip (pk.drop (i + 1))))] h (z_bP a hh F0 A0 (d_one (nI (kd + 32 * th)) S ((pk.take (i + 1 + d_skip (pk.drop (i + 1)))).drop (i + 1)))) := fun y hy => by
          rw [hy]
          exact c_Z_block h13 h14 hkd hth hp hb (by omega) (by omega) hI
        refine g_cv_i hI.1.1 (bk (nI i + 1) (nI_1 i)) (fun oc h2 hp2 => ?_)
        obtain ⟨rfl, F2, A2, I2⟩ := hp2
        refine ⟨_, rfl, ?_⟩
        refine ih (i + 1 + d_skip (pk.drop (i + 1))) _ h2 F2 A2 _ (by omega) (by omega) ?_ I2
        rw [hR, d_go_sk, List.nil_append, List.length_drop, hseg]
        by_cases q : d_skip (pk.drop (i + 1)) < pk.length - (i + 1)
        · rw [if_pos q, if_pos (by omega), List.drop_drop]
          congr 1
        · rw [if_neg q, if_neg (by omega)])
      rw [← nI_1 i] at key
      exact key
    · rw [if_neg hil] at hR
      subst hR
      refine g_go ok_Z_read [] 60 ?_
      refine g_gt_i hI.1.1 rfl ?_
      refine g_br_t (show F 1 ≤ nI i by rw [h1]; exact nI_le (by omega) (by omega)) ?_
      refine g_gt_i hI.1.1 rfl ?_
      exact ⟨by rw [hI.2.1.1.1], F, A, hI⟩
end
/-- an answer of the model: a value and no code, or a code -/
theorem c_Z_read {l : Launch} {h : g_H} {a kd th : Nat} {F : Nat → Int32} {A : Nat → List Int32} {pk : List Int32} {v : Int32} (hZ : o_Z h a F A) (hp : z_pk F A pk) (hb : o_by pk) (h13 : F 13 = nI kd) (h14 : F 14 = nI th) (hkd : kd < 32) (hth : th < 16) : g_Run l J_Z_read [.ref a, .int v] h (fun oc hE => (0 ≤ v ∧ v ≤ nI pk.length ∧ oc = .inl (some (.int (nI (d_read (nI (kd + 32 * th)) (pk.drop v.toNatClampNeg)).1.length))) ∧ ∃ F' A', o_Z hE a F' A' ∧ z_sd F' A' (d_read (nI (kd + 32 * th)) (pk.drop v.toNatClampNeg)) ∧ F' 21 = nI (d_skip (pk.drop v.toNatClampNeg)) ∧ F' 0 = 0 ∧ (∀ j, 1 ≤ j → j < 15 → F' j = F j) ∧ (∀ i, i ≤ 5 → A' i = A i) ∧ g_Fr a (a + 18) h hE) ∨ (¬ (0 ≤ v ∧ v ≤ nI pk.length) ∧ oc = .inl (some (.int 0)) ∧ ∃ F', o_Z hE a F' A ∧ F' 0 = 1 ∧ (∀ j, 1 ≤ j → F' j = F j) ∧ g_Fr a (a + 18) h hE)) := by
  have hpl := hp.2.1
  refine go_Z_read [47] 60 ?_
  refine g_pt_j (z_fs a (z_u F 0 0)) hZ.1 (Nat.le_of_ble_eq_true rfl) rfl rfl rfl ?_
  obtain ⟨z1, f1⟩ := z_fld hZ (z_u F 0 0)
  refine g_gt_i z1.1 rfl ?_
  refine g_cs_i c_Z_within (fun oc h1 hq => ?_)
  obtain ⟨rfl, rfl⟩ := hq
  refine ⟨_, rfl, ?_⟩
  have ew : ((0 : Int64) ≤ v.toInt64 ∧ v.toInt64 ≤ (F 1).toInt64) ↔ (0 ≤ v ∧ v ≤ nI pk.length) := by rw [hp.1]; exact z_wi rfl rfl
  by_cases q : 0 ≤ v ∧ v ≤ nI pk.length
  · refine g_br_t (show ¬ (if (0 : Int64) ≤ v.toInt64 ∧ v.toInt64 ≤ (F 1).toInt64 then (1 : Int32) else 0) = 0 by rw [if_pos (ew.mpr q)]; decide) ?_
    obtain ⟨n, hn, rfl⟩ : ∃ n : Nat, n ≤ pk.length ∧ v = nI n := nI_of2 (nI_toInt (by omega)) (Int32.not_lt.mpr q.1) q.2
    have ec : (nI n).toNatClampNeg = n := nI_clamp (by omega)
    rw [ec]
    refine g_pt_j (z_fs a (z_u (z_u F 0 0) 22 0)) z1.1 (Nat.le_of_ble_eq_true rfl) rfl rfl rfl ?_
    obtain ⟨z2, f2⟩ := z_fld z1 (z_u (z_u F 0 0) 22 0)
    refine g_pt_j (z_fs a (z_u (z_u (z_u F 0 0) 22 0) 23 0)) z2.1 (Nat.le_of_ble_eq_true rfl) rfl rfl rfl ?_
    obtain ⟨z3, f3⟩ := z_fld z2 (z_u (z_u (z_u F 0 0) 22 0) 23 0)
    refine g_pt_j (z_fs a (z_u (z_u (z_u (z_u F 0 0) 22 0) 23 0) 24 0)) z3.1 (Nat.le_of_ble_eq_true rfl) rfl rfl rfl ?_
    obtain ⟨z4, f4⟩ := z_fld z3 (z_u (z_u (z_u (z_u F 0 0) 22 0) 23 0) 24 0)
    refine g_pt_j (z_fs a (z_u (z_u (z_u (z_u (z_u F 0 0) 22 0) 23 0) 24 0) 25 0)) z4.1 (Nat.le_of_ble_eq_true rfl) rfl rfl rfl ?_
    obtain ⟨z5, f5⟩ := z_fld z4 (z_u (z_u (z_u (z_u (z_u F 0 0) 22 0) 23 0) 24 0) 25 0)
    have F5 := g_Fr_tr f1 (g_Fr_tr f2 (g_Fr_tr f3 (g_Fr_tr f4 f5)))
    have hp5 : z_pk (z_u (z_u (z_u (z_u (z_u F 0 0) 22 0) 23 0) 24 0) 25 0) A pk := hp
    refine x_rd_1 z5 hp5 hb _ n rfl hn ?_
    refine g_go ok_Z_read [79] 60 ?_
    have hsk := d_skip_le (pk.drop n)
    rw [List.length_drop] at hsk
    have e1 : nI (n + d_skip (pk.drop n)) - nI n = nI (d_skip (pk.drop n)) := by rw [pk_sub (by omega)]; congr 1; omega
    refine g_pt_j (z_fs a (z_u (z_u (z_u (z_u (z_u (z_u F 0 0) 22 0) 23 0) 24 0) 25 0) 21 (nI (n + d_skip (pk.drop n)) - nI n))) z5.1 (Nat.le_of_ble_eq_true rfl) rfl rfl rfl ?_
    obtain ⟨z6, f6⟩ := z_fld z5 (z_u (z_u (z_u (z_u (z_u (z_u F 0 0) 22 0) 23 0) 24 0) 25 0) 21 (nI (n + d_skip (pk.drop n)) - nI n))
    have key := x_rd_3 (l := l) (a := a) (v := nI n) (hh := h) (F0 := z_u (z_u (z_u (z_u (z_u (z_u F 0 0) 22 0) 23 0) 24 0) 25 0) 21 (nI (n + d_skip (pk.drop n)) - nI n)) (A0 := A) (kd := kd) (th := th) h13 h14 hkd hth hp hb (R := d_read (nI (kd + 32 * th)) (pk.drop n)) _ (n + d_skip (pk.drop n)) ([], 0, 0, 0) _ _ _ none (Nat.le_refl _) (by omega) (by
      unfold d_read
      rw [List.length_drop, List.drop_drop]
      by_cases q2 : d_skip (pk.drop n) < pk.length - n
      · rw [if_pos q2, if_pos (by omega)]
        congr 1
      · rw [if_neg q2, if_neg (by omega)]) ⟨z6, ⟨⟨rfl, by simp, fun j hj => by simp⟩, rfl, rfl, rfl⟩, fun _ _ => rfl, rfl, fun _ _ => rfl, g_Fr_tr F5 f6⟩
    refine g_X_mono (fun oc hE hq => ?_) key
    obtain ⟨rfl, F7, A7, I7⟩ := hq
    refine Or.inl ⟨q.1, q.2, rfl, F7, A7, I7.1, I7.2.1, ?_, ?_, fun j j1 j2 => ?_, I7.2.2.2.2.1, I7.2.2.2.2.2⟩
    · rw [I7.2.2.2.1]
      exact e1
    · rw [I7.2.2.1 0 (by omega)]
      rfl
    · rw [I7.2.2.1 j j2, z_u_ne (by omega), z_u_ne (by omega), z_u_ne (by omega), z_u_ne (by omega), z_u_ne (by omega), z_u_ne (by omega)]
  · refine g_br_f (show ¬ ¬ (if (0 : Int64) ≤ v.toInt64 ∧ v.toInt64 ≤ (F 1).toInt64 then (1 : Int32) else 0) = 0 from fun z => z (by rw [if_neg (fun z => q (ew.mp z))])) ?_
    refine g_cv_i z1.1 (c_Z_fail z1) (fun oc h2 hq => ?_)
    obtain ⟨rfl, z2, f2⟩ := hq
    refine ⟨_, rfl, ?_⟩
    exact Or.inr ⟨q, rfl, _, z2, rfl, fun j hj => by rw [z_u_ne (by omega), z_u_ne (by omega)], g_Fr_tr f1 f2⟩
