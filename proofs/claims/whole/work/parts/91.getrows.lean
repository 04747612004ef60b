/-! TracePacksModel.getRows as a whole -/
section
variable {l : Launch} {a : Nat} {b0 : Int32} {hh : g_H} {F0 : Nat → Int32} {A0 : Nat → List Int32} {bs : List Int32} {P : g_P} {gs : List (o_Rw × Int32)}
set_option maxRecDepth 100000 in
set_option maxHeartbeats 4000000 in
theorem x_g_time {m : o_Mm} {fv kd k : Nat} {F : Nat → Int32} {A : Nat → List Int32} {h : g_H} {c8 c11 c12 : Option Value} (hfv : fv < 32) (hkd : kd < 8) (hm : o_tm m) (hI : z_gI a hh F0 A0 h F A bs k m.2.2.1 gs) (kk : z_kk l a b0 hh F0 A0 bs P gs (if kd = 4 then (match d_num 5 0 0 (bs.drop k) with
    | none => none
    | some (x, r) => if fv = 0 then d_time m x r else none) else none)) : g_X l J_Z_getRows 403 (z_K a b0 m c8 (some (.int (nI fv))) (some (.int (nI kd))) c11 c12) [] h P := by
  obtain ⟨n, hn, hmn⟩ := hm
  -- good is read again
  have tB : ∀ (v : Int64) (F1 : Nat → Int32) (h1 : g_H) (k1 : Nat), z_kB l a hh F0 A0 bs P → z_gI a hh F0 A0 h1 F1 A bs k1 m.2.2.1 gs → F1 39 = 0 → g_X l J_Z_getRows 447 (z_K a b0 m c8 (some (.int (nI fv))) (some (.int (nI kd))) (some (.long v)) none) [] h1 P := by
    intro v F1 h1 k1 kb i1 g1
    refine g_go ok_Z_getRows [473] 60 ?_
    refine g_gt_i i1.1.1 rfl ?_
    refine g_br_t g1 ?_
    refine g_cv_i i1.1.1 (c_g_get (4, 0, 0) 0 i1) (fun oc h2 hp => ?_)
    obtain ⟨rfl, F2, A2, hp⟩ := hp
    refine ⟨_, rfl, ?_⟩
    rcases hp with ⟨_, i3, g3⟩ | ⟨_, i3, g3⟩
    · exact kb _ _ _ _ _ _ _ i3 (g3.trans g1)
    · exact kb _ _ _ _ _ _ _ i3 g3
  have tB0 : ∀ (v : Int64) (F1 : Nat → Int32) (h1 : g_H) (k1 : Nat), z_kB l a hh F0 A0 bs P → z_gI a hh F0 A0 h1 F1 A bs k1 m.2.2.1 gs → F1 39 = 0 → g_X l J_Z_getRows 433 (z_K a b0 m c8 (some (.int (nI fv))) (some (.int (nI kd))) (some (.long v)) none) [] h1 P := by
    intro v F1 h1 k1 kb i1 g1
    refine g_go ok_Z_getRows [447] 60 ?_
    refine g_br_i (fun q => ?_) (fun q => ?_)
    · exact tB v F1 h1 k1 kb i1 g1
    · refine g_pt_j (z_fs a (z_u F1 39 0)) i1.1.1 (Nat.le_of_ble_eq_true rfl) rfl rfl rfl ?_
      exact tB v _ _ k1 kb (z_gI_39 0 i1) rfl
  have tZ : ∀ (F1 : Nat → Int32) (h1 : g_H), z_kB l a hh F0 A0 bs P → z_gI a hh F0 A0 h1 F1 A bs k m.2.2.1 gs → F1 39 = 0 → g_X l J_Z_getRows 423 (z_K a b0 m c8 (some (.int (nI fv))) (some (.int (nI kd))) c11 c12) [] h1 P := by
    intro F1 h1 kb i1 g1
    refine g_go ok_Z_getRows [433] 60 ?_
    refine g_cv_i i1.1.1 (c_Z_nextNumber0 i1.1 g1) (fun oc h2 hp => ?_)
    obtain ⟨rfl, rfl⟩ := hp
    exact ⟨_, rfl, tB0 _ _ _ k kb i1 g1⟩
  refine g_go ok_Z_getRows [423] 60 ?_
  by_cases q4 : kd = 4
  · refine g_br_f (show ¬ ¬ nI kd = 4 from fun z => z (by rw [q4]; rfl)) ?_
    rw [if_pos q4] at kk
    by_cases q0 : fv = 0
    · refine g_br_f (show ¬ ¬ nI fv = 0 from fun z => z (by rw [q0]; rfl)) ?_
      refine g_pt_j (z_fs a (z_u F 39 1)) hI.1.1 (Nat.le_of_ble_eq_true rfl) rfl rfl rfl ?_
      have i1 := z_gI_39 1 hI
      refine g_go ok_Z_getRows [433] 60 ?_
      refine g_cv_i i1.1.1 (c_g_num i1 rfl) (fun oc h1 hp => ?_)
      obtain ⟨F1, k1, i2, hp⟩ := hp
      cases hres : d_num 5 0 0 (bs.drop k) with
      | none =>
        rw [hres] at hp kk
        obtain ⟨⟨y, rfl⟩, g1⟩ := hp
        exact ⟨_, rfl, tB0 _ F1 h1 k1 kk i2 g1⟩
      | some w =>
        obtain ⟨x, r⟩ := w
        have hx := d_num_lt 5 0 0 _ x r rfl (by omega) hres
        rw [hres] at hp kk
        obtain ⟨rfl, g1, rfl⟩ := hp
        simp only at kk
        rw [if_pos q0] at kk
        refine ⟨_, rfl, ?_⟩
        have e2 : m.2.2.2.2.toNatClampNeg = n := by rw [hmn, nI_clamp hn]
        have t433 : ∀ v : Int64, v = lN (n + x) → g_X l J_Z_getRows 433 (z_K a b0 m c8 (some (.int (nI fv))) (some (.int (nI kd))) (some (.long v)) none) [] h1 P := by
          intro v hv
          subst hv
          unfold d_time at kk
          rw [e2] at kk
          refine g_go ok_Z_getRows [447] 60 ?_
          refine g_br_i (fun q => ?_) (fun q => ?_)
          · have q : n + x ≤ 2147483647 := by
              have z : lN (n + x) ≤ lN 2147483647 := (lg_cmp_le _ _).mp q
              rw [lQ_le (by omega) (by omega)] at z
              exact z
            rw [if_pos q] at kk
            refine g_go ok_Z_getRows [473] 60 ?_
            refine g_gt_i i2.1.1 rfl ?_
            refine g_br_f (show ¬ F1 39 = 0 by rw [g1]; decide) ?_
            refine g_cv_i i2.1.1 (c_g_get (4, (lN (n + x)).toInt32, 0) (lN (n + x)).toInt32 i2) (fun oc h2 hp => ?_)
            obtain ⟨rfl, F2, A2, hp⟩ := hp
            rw [lN_i] at hp
            refine ⟨_, rfl, ?_⟩
            rcases hp with ⟨q2, i3, g3⟩ | ⟨q2, i3, g3⟩
            · have key := z_kk_g kk q2 c8 (some (.int (nI fv))) (some (.int (nI kd))) (some (.long (lN (n + x)))) none _ _ _ _ rfl i3 (g3.trans g1)
              unfold z_K at key
              simp only at key
              rw [← lN_i] at key
              exact key
            · exact z_kk_f kk (by simp; omega) _ _ _ _ _ _ _ i3 g3
          · have q : ¬ n + x ≤ 2147483647 := fun z => q ((lg_cmp_le _ _).mpr (show lN (n + x) ≤ lN 2147483647 by rw [lQ_le (by omega) (by omega)]; exact z))
            rw [if_neg q] at kk
            refine g_pt_j (z_fs a (z_u F1 39 0)) i2.1.1 (Nat.le_of_ble_eq_true rfl) rfl rfl rfl ?_
            exact tB _ _ _ k1 kk (z_gI_39 0 i2) rfl
        exact t433 _ (show m.2.2.2.2.toInt64 + lN x = lN (n + x) by rw [hmn, nI_l hn, lN_add])
    · refine g_br_t (show ¬ nI fv = 0 from nI_ne0 (by omega) (by omega)) ?_
      refine g_pt_j (z_fs a (z_u F 39 0)) hI.1.1 (Nat.le_of_ble_eq_true rfl) rfl rfl rfl ?_
      refine tZ _ _ ?_ (z_gI_39 0 hI) rfl
      cases hres : d_num 5 0 0 (bs.drop k) with
      | none =>
        rw [hres] at kk
        exact kk
      | some w =>
        obtain ⟨x, r⟩ := w
        rw [hres] at kk
        simp only at kk
        rw [if_neg q0] at kk
        exact kk
  · refine g_br_t (show ¬ nI kd = 4 from fun z => q4 ((nI_eq (b := 4) (by omega) (by omega)).mp z)) ?_
    refine g_pt_j (z_fs a (z_u F 39 0)) hI.1.1 (Nat.le_of_ble_eq_true rfl) rfl rfl rfl ?_
    rw [if_neg q4] at kk
    exact tZ _ _ kk (z_gI_39 0 hI) rfl
/-- one row, from its first byte on -/
theorem d_row_eq {m : o_Mm} {β : Nat} {t : List Int32} (hβ : β < 256) : d_row m (nI β :: t) = (match d_nx (β / 32) (β % 32) t with
    | none => none
    | some (x, r) => d_kind m (β / 32) (β % 32) x r) := by
  simp only [d_row]
  rw [nI_tn hβ]
  cases d_nx (β / 32) (β % 32) t <;> rfl
set_option maxRecDepth 100000 in
set_option maxHeartbeats 4000000 in
theorem x_g_row {m : o_Mm} {β k : Nat} {F : Nat → Int32} {A : Nat → List Int32} {h : g_H} {c11 c12 : Option Value} {b : Int32} (hβ : β < 256) (hm : o_tm m) (hI : z_gI a hh F0 A0 h F A bs k m.2.2.1 gs) (kk : z_kk l a b0 hh F0 A0 bs P gs (d_row m (nI β :: bs.drop k))) : g_X l J_Z_getRows 63 (z_K a b0 m (some (.int b)) (some (.int (nI (β % 32)))) (some (.int (nI (β / 32)))) c11 c12) [] h P := by
  have hfv : β % 32 < 32 := Nat.mod_lt _ (by omega)
  have hkd : β / 32 < 8 := by omega
  rw [d_row_eq hβ] at kk
  generalize β % 32 = fv at *
  generalize β / 32 = kd at *
  refine g_go ok_Z_getRows [68, 175, 214, 269, 403] 60 ?_
  by_cases q0 : kd = 0
  · subst q0
    refine g_br_f (by decide) ?_
    exact x_g_branch hfv hI kk
  refine g_br_t (show ¬ nI kd = 0 from nI_ne0 (by omega) (by omega)) ?_
  by_cases q1 : kd = 1
  · subst q1
    refine g_br_f (by decide) ?_
    exact x_g_jump hfv hI kk
  refine g_br_t (show ¬ nI kd = 1 from fun z => q1 ((nI_eq (b := 1) (by omega) (by omega)).mp z)) ?_
  by_cases q2 : kd = 2
  · subst q2
    refine g_br_f (by decide) ?_
    refine x_g_load hfv hI ?_
    have e : d_nx 2 fv (bs.drop k) = if fv = 1 then d_num 5 0 0 (bs.drop k) else some (0, bs.drop k) := by
      unfold d_nx d_isn
      by_cases q : fv = 1
      · simp [q]
      · simp [q]
    rw [e] at kk
    exact kk
  refine g_br_t (show ¬ nI kd = 2 from fun z => q2 ((nI_eq (b := 2) (by omega) (by omega)).mp z)) ?_
  by_cases q3 : kd = 3
  · subst q3
    refine g_br_f (by decide) ?_
    refine x_g_store hfv hI ?_
    have e : d_nx 3 fv (bs.drop k) = if 16 ≤ fv then d_num 5 0 0 (bs.drop k) else some (0, bs.drop k) := by
      unfold d_nx d_isn
      by_cases q : 16 ≤ fv
      · simp [q]
      · simp [q]
    rw [e] at kk
    exact kk
  refine g_br_t (show ¬ nI kd = 3 from fun z => q3 ((nI_eq (b := 3) (by omega) (by omega)).mp z)) ?_
  refine x_g_time hfv hkd hm hI ?_
  by_cases q4 : kd = 4
  · subst q4
    exact kk
  · rw [if_neg q4]
    have e : d_nx kd fv (bs.drop k) = some (0, bs.drop k) := by
      unfold d_nx d_isn
      simp [q1, q2, q3, q4]
    rw [e] at kk
    simp only [d_kind] at kk
    rw [if_neg q0, if_neg q1, if_neg q2, if_neg q3, if_neg q4] at kk
    exact kk
/-- every row of the bytes, with its time -/
def d_all : Nat → o_Mm → List (o_Rw × Int32) → List Int32 → Option (List (o_Rw × Int32))
  | _, _, gs, [] => some gs
  | 0, _, _, _ :: _ => none
  | f + 1, m, gs, b :: t => match d_row m (b :: t) with
    | none => none
    | some (m', add, r) => if gs.length + add.length ≤ 110 then d_all f m' (gs ++ add.map (fun w => (w, m'.2.2.2.2))) r else none
theorem d_num_ln : ∀ (f i acc : Nat) (bs : List Int32) (x : Nat) (r : List Int32), d_num f i acc bs = some (x, r) → r.length < bs.length ∧ bs.length ≤ r.length + f
  | 0, _, _, _, _, _, h => by simp [d_num] at h
  | _ + 1, _, _, [], _, _, h => by simp [d_num] at h
  | f + 1, i, acc, b :: t, x, r, h => by
    unfold d_num at h
    split at h
    · split at h
      · simp only [Option.some.injEq, Prod.mk.injEq] at h
        obtain ⟨_, rfl⟩ := h
        rw [List.length_cons]
        omega
      · cases h
    · have := d_num_ln f (i + 1) _ t x r h
      simp
      omega
theorem d_bt_ln : ∀ f, f < 32 → 1 < f → 1 ≤ (d_bt 4 f).length := by decide
theorem d_kind_ln {m m' : o_Mm} {k f x : Nat} {r r' : List Int32} {add : List o_Rw} (hf : f < 32) (h : d_kind m k f x r = some (m', add, r')) : r'.length ≤ r.length ∧ r.length ≤ r'.length + 4 ∧ 1 ≤ add.length := by
  unfold d_kind at h
  split at h
  · split at h
    · simp only [Option.some.injEq, Prod.mk.injEq] at h
      obtain ⟨_, rfl, rfl⟩ := h
      have := d_bt_ln f hf (by assumption)
      omega
    · cases h
  split at h
  · split at h
    · simp only [d_jump, Option.some.injEq, Prod.mk.injEq] at h
      obtain ⟨_, rfl, rfl⟩ := h
      simp
    · cases h
  split at h
  · split at h
    · simp only [d_load, Option.some.injEq, Prod.mk.injEq] at h
      obtain ⟨_, rfl, rfl⟩ := h
      simp
    · cases h
  split at h
  · unfold d_store at h
    split at h
    · cases h
    · rename_i v r2 hv
      simp only [Option.some.injEq, Prod.mk.injEq] at h
      obtain ⟨_, rfl, rfl⟩ := h
      unfold d_val at hv
      split at hv
      · unfold d_word at hv
        split at hv
        · simp only [Option.map_some, Option.some.injEq, Prod.mk.injEq] at hv
          obtain ⟨_, rfl⟩ := hv
          simp
          omega
        · cases hv
      · split at hv
        · simp only [Option.some.injEq, Prod.mk.injEq] at hv
          obtain ⟨_, rfl⟩ := hv
          simp
        · cases hv
  split at h
  · split at h
    · unfold d_time at h
      split at h
      · simp only [Option.some.injEq, Prod.mk.injEq] at h
        obtain ⟨_, rfl, rfl⟩ := h
        simp
      · cases h
    · cases h
  · cases h
/-- a row takes a byte or more and ten at most, and gives a row or more -/
theorem d_row_ln {m m' : o_Mm} {bs r : List Int32} {add : List o_Rw} (h : d_row m bs = some (m', add, r)) : r.length < bs.length ∧ bs.length ≤ r.length + 10 ∧ 1 ≤ add.length := by
  cases bs with
  | nil => simp [d_row] at h
  | cons b t =>
    simp only [d_row] at h
    split at h
    · cases h
    · rename_i x r1 hx
      have h2 := d_kind_ln (Nat.mod_lt _ (by omega)) h
      unfold d_nx at hx
      split at hx
      · have h3 := d_num_ln _ _ _ _ _ _ hx
        simp
        omega
      · simp only [Option.some.injEq, Prod.mk.injEq] at hx
        obtain ⟨_, rfl⟩ := hx
        simp
        omega
/-- what getRows comes to -/
def z_gP (a : Nat) (hh : g_H) (F0 : Nat → Int32) (A0 : Nat → List Int32) (res : Option (List (o_Rw × Int32))) : g_P := fun oc hE => oc = .inl none ∧ ∃ F' A', o_Z hE a F' A' ∧ (∀ j, j ≠ 19 → j ≠ 36 → j ≠ 37 → j ≠ 39 → F' j = F0 j) ∧ (∀ i, i < 14 → i ≠ 7 → A' i = A0 i) ∧ g_Fr a (a + 18) hh hE ∧ match res with
  | some gs => F' 39 = 1 ∧ z_gt F' A' gs
  | none => F' 39 = 0
set_option maxRecDepth 100000 in
set_option maxHeartbeats 4000000 in
theorem x_Z_gr : ∀ (f k : Nat) (m : o_Mm) (gs : List (o_Rw × Int32)) (F : Nat → Int32) (A : Nat → List Int32) (h : g_H) (c8 c9 c10 c11 c12 : Option Value), bs.length - k ≤ f → o_tm m → z_gI a hh F0 A0 h F A bs k m.2.2.1 gs → F 39 = 1 →
    g_X l J_Z_getRows 26 (z_K a b0 m c8 c9 c10 c11 c12) [] h (z_gP a hh F0 A0 (d_all f m gs (bs.drop k))) := by
  have fin : ∀ (k : Nat) (m : o_Mm) (gs : List (o_Rw × Int32)) (F : Nat → Int32) (A : Nat → List Int32) (h : g_H) (c8 c9 c10 c11 c12 : Option Value), bs.length ≤ k → z_gI a hh F0 A0 h F A bs k m.2.2.1 gs → F 39 = 1 → g_X l J_Z_getRows 26 (z_K a b0 m c8 c9 c10 c11 c12) [] h (z_gP a hh F0 A0 (some gs)) := by
    intro k m gs F A h c8 c9 c10 c11 c12 hk hI hg
    have hbl := hI.2.1.2.2.2.2.1
    have hkl := hI.2.1.1
    refine g_go ok_Z_getRows [] 60 ?_
    refine g_gt_i hI.1.1 rfl ?_
    refine g_br_f (show ¬ F 39 = 0 by rw [hg]; decide) ?_
    refine g_gt_i hI.1.1 rfl ?_
    refine g_gt_i hI.1.1 rfl ?_
    refine g_br_t (show F 38 ≤ F 37 by rw [hI.2.1.2.1, hI.2.1.2.2.1]; exact nI_le (by omega) (by omega)) ?_
    exact ⟨rfl, F, A, hI.1, hI.2.2.2.2.1, hI.2.2.2.2.2.1, hI.2.2.2.2.2.2, hg, hI.2.2.2.1⟩
  intro f
  induction f with
  | zero =>
    intro k m gs F A h c8 c9 c10 c11 c12 hf hm hI hg
    rw [List.drop_eq_nil_of_le (by omega)]
    exact fin k m gs F A h c8 c9 c10 c11 c12 (by omega) hI hg
  | succ f ih =>
    intro k m gs F A h c8 c9 c10 c11 c12 hf hm hI hg
    by_cases hk : bs.length ≤ k
    · rw [List.drop_eq_nil_of_le hk]
      exact fin k m gs F A h c8 c9 c10 c11 c12 hk hI hg
    · have hbl := hI.2.1.2.2.2.2.1
      obtain ⟨x, hx, hdr⟩ := l_drop (xs := bs) (i := k) (by omega)
      obtain ⟨β, hβ, rfl⟩ := o_by_at hI.2.1.2.2.2.2.2 hx
      -- what stands behind the row
      have kk : z_kk l a b0 hh F0 A0 bs (z_gP a hh F0 A0 (d_all (f + 1) m gs (bs.drop k))) gs (d_row m (nI β :: bs.drop (k + 1))) := by
        have kb : d_all (f + 1) m gs (bs.drop k) = none → z_kB l a hh F0 A0 bs (z_gP a hh F0 A0 (d_all (f + 1) m gs (bs.drop k))) := by
          intro hno L h1 F1 A1 k1 vs gs1 i1 g1
          rw [hno]
          refine g_go ok_Z_getRows [] 60 ?_
          refine g_gt_i i1.1.1 rfl ?_
          refine g_br_t g1 ?_
          exact ⟨rfl, F1, A1, i1.1, i1.2.2.2.2.1, i1.2.2.2.2.2.1, i1.2.2.2.2.2.2, g1⟩
        cases hr : d_row m (nI β :: bs.drop (k + 1)) with
        | none =>
          refine kb ?_
          rw [hdr]
          simp only [d_all]
          rw [hr]
        | some w =>
          obtain ⟨m', add, r⟩ := w
          have hln := d_row_ln hr
          unfold z_kk
          simp only
          split
          · rename_i q
            intro c8 c9 c10 c11 c12 h1 F1 A1 k1 hr1 i1 g1
            have e : d_all (f + 1) m gs (bs.drop k) = d_all f m' (gs ++ add.map (fun w => (w, m'.2.2.2.2))) (bs.drop k1) := by
              rw [hdr]
              simp only [d_all]
              rw [hr]
              simp only
              rw [if_pos q, hr1]
            rw [e]
            refine g_go ok_Z_getRows [26] 60 ?_
            refine ih k1 m' _ F1 A1 h1 c8 c9 c10 c11 c12 ?_ (d_row_tm hm hr) i1 g1
            rw [hr1, ← hdr, List.length_drop, List.length_drop] at hln
            omega
          · rename_i q
            refine kb ?_
            rw [hdr]
            simp only [d_all]
            rw [hr]
            simp only
            rw [if_neg q]
      have t63 : ∀ (F1 : Nat → Int32) (h1 : g_H) (v w : Int32), v = nI (β % 32) → w = nI (β / 32) → z_gI a hh F0 A0 h1 F1 A bs (k + 1) m.2.2.1 gs → g_X l J_Z_getRows 63 (z_K a b0 m (some (.int (nI β))) (some (.int v)) (some (.int w)) c11 c12) [] h1 (z_gP a hh F0 A0 (d_all (f + 1) m gs (bs.drop k))) := by
        intro F1 h1 v w hv hw i1
        subst hv
        subst hw
        exact x_g_row hβ hm i1 kk
      refine g_go ok_Z_getRows [63] 60 ?_
      refine g_gt_i hI.1.1 rfl ?_
      refine g_br_f (show ¬ F 39 = 0 by rw [hg]; decide) ?_
      refine g_gt_i hI.1.1 rfl ?_
      refine g_gt_i hI.1.1 rfl ?_
      refine g_br_f (show ¬ F 38 ≤ F 37 by rw [hI.2.1.2.1, hI.2.1.2.2.1]; exact nI_ge (by omega) (by omega)) ?_
      refine g_cv_i hI.1.1 (c_Z_next hI.1 hI.2.1) (fun oc h1 hp => ?_)
      obtain ⟨F1, z1, e1, f1, hc⟩ := hp
      rcases hc with ⟨y, hy, rfl, g37, g39⟩ | ⟨hkl, rfl, g37, g39⟩
      · cases hx.symm.trans hy
        refine ⟨_, rfl, ?_⟩
        exact t63 F1 h1 _ _ (n_31 β hβ) (n_sr5 β hβ) (z_gI_nx hI z1 e1 f1 (z_ps_mv hI.2.1 (by omega) g37 (e1 38 (by omega) (by omega))))
      · omega
end
set_option maxRecDepth 100000 in
theorem c_Z_getRows {l : Launch} {h : g_H} {a k : Nat} {t : Int32} {F : Nat → Int32} {A : Nat → List Int32} {bs : List Int32} (hZ : o_Z h a F A) (hs : z_ps F A bs k) (hg : F 39 = 1) (ht : ∃ n : Nat, n < 2 ^ 31 ∧ t = nI n) : g_Run l J_Z_getRows [.ref a, .int t] h (z_gP a h F A (d_all (bs.length - k) ((0, 0), (0, 0), [], 0, t) [] (bs.drop k))) := by
  refine go_Z_getRows [26] 60 ?_
  refine g_pt_j (z_fs a (z_u F 19 0)) hZ.1 (Nat.le_of_ble_eq_true rfl) rfl rfl rfl ?_
  obtain ⟨z1, f1⟩ := z_fld hZ (z_u F 19 0)
  refine g_pt_j (z_fs a (z_u (z_u F 19 0) 36 0)) z1.1 (Nat.le_of_ble_eq_true rfl) rfl rfl rfl ?_
  obtain ⟨z2, f2⟩ := z_fld z1 (z_u (z_u F 19 0) 36 0)
  refine x_Z_gr (b0 := t) (bs.length - k) k ((0, 0), (0, 0), [], 0, t) [] _ A _ _ _ _ _ _ (Nat.le_refl _) ht ⟨z2, z_ps_mv hs hs.1 hs.2.1 rfl, ⟨rfl, rfl, by simp⟩, ⟨rfl, by simp, rfl, rfl, rfl, rfl⟩, fun j j1 j2 _ _ => by rw [z_u_ne j2, z_u_ne j1], fun _ _ _ => rfl, g_Fr_tr f1 f2⟩ hg
