/-! TracePacksModel: the sum, the last values -/
theorem x_Z_sum {l : Launch} {a : Nat} {ins : List Int32} {n : Nat} {A : Nat → List Int32} {F0 : Nat → Int32} {hh : g_H} (hn : n ≤ ins.length) (hins : (A 6).take ins.length = ins) (hil : ins.length ≤ 16400) : ∀ (d i : Nat) (F : Nat → Int32) (h : g_H), n - i = d → i ≤ n → o_Z h a F A → (∀ k, k ≠ 17 → k ≠ 18 → F k = F0 k) → g_Fr a (a + 18) hh h →
    g_X l J_Z_sumUp 12 [some (.ref a), some (.int (nI n)), some (.int (nI i))] [] h (fun oc hE => oc = .inl none ∧ ∃ F', o_Z hE a F' A ∧ F' 17 = (e_pq (F 17) (F 18) ((ins.take n).drop i)).1 ∧ F' 18 = (e_pq (F 17) (F 18) ((ins.take n).drop i)).2 ∧ (∀ k, k ≠ 17 → k ≠ 18 → F' k = F0 k) ∧ g_Fr a (a + 18) hh hE) := by
  have htl : (ins.take n).length = n := by rw [List.length_take]; omega
  intro d
  induction d with
  | zero =>
    intro i F h hd hi hZ hF hFr
    refine g_go ok_Z_sumUp [12] 60 ?_
    refine g_br_t (show nI n ≤ nI i from nI_le (by omega) (by omega)) ?_
    rw [List.drop_eq_nil_of_le (by omega)]
    exact ⟨rfl, F, hZ, rfl, rfl, hF, hFr⟩
  | succ d ih =>
    intro i F h hd hi hZ hF hFr
    have h6 : (A 6).length = 16400 := hZ.2.2.2 6 (by omega) (by omega)
    obtain ⟨x, hx, hdr⟩ := l_drop (xs := ins.take n) (i := i) (by omega)
    have hx2 : (A 6).getD i 0 = x := by
      rw [List.getElem?_take, if_pos (by omega)] at hx
      rw [← hins, List.getElem?_take, if_pos (by omega)] at hx
      exact l_getD hx
    rw [hdr]
    simp only [e_pq]
    refine g_go ok_Z_sumUp [12] 60 ?_
    refine g_br_f (show ¬ nI n ≤ nI i from nI_ge (by omega) (by omega)) ?_
    refine g_gt_i hZ.1 rfl ?_
    refine g_gt_i hZ.1 rfl ?_
    refine g_al_i (hZ.2.2.1 6 (by omega) (by omega)) (by exact vp_in_nI (by omega) (by omega)) ?_
    rw [nI_clamp (by omega), hx2]
    refine And.intro (by decide) ?_
    refine g_pt_j (z_fs a (z_u F 17 (e_md (F 17 + x)))) hZ.1 (Nat.le_of_ble_eq_true rfl) rfl rfl rfl ?_
    obtain ⟨z1, f1⟩ := z_fld hZ (z_u F 17 (e_md (F 17 + x)))
    refine g_gt_i z1.1 rfl ?_
    refine g_gt_i z1.1 rfl ?_
    refine And.intro (by decide) ?_
    refine g_pt_j (z_fs a (z_u (z_u F 17 (e_md (F 17 + x))) 18 (e_md (F 18 + e_md (F 17 + x))))) z1.1 (Nat.le_of_ble_eq_true rfl) rfl rfl rfl ?_
    obtain ⟨z2, f2⟩ := z_fld z1 (z_u (z_u F 17 (e_md (F 17 + x))) 18 (e_md (F 18 + e_md (F 17 + x))))
    have := ih (i + 1) _ _ (by omega) (by omega) z2 (fun k h1 h2 => by rw [z_u_ne h2, z_u_ne h1]; exact hF k h1 h2) (g_Fr_tr hFr (g_Fr_tr f1 f2))
    rw [← nI_1 i] at this
    exact this
theorem c_Z_sumUp {l : Launch} {h : g_H} {a n : Nat} {F : Nat → Int32} {A : Nat → List Int32} {ins : List Int32} (hn : n ≤ ins.length) (hZ : o_Z h a F A) (hi : z_in F A ins) : g_Run l J_Z_sumUp [.ref a, .int (nI n)] h (fun oc hE => oc = .inl none ∧ ∃ F', o_Z hE a F' A ∧ F' 17 = (e_pq 0 0 (ins.take n)).1 ∧ F' 18 = (e_pq 0 0 (ins.take n)).2 ∧ (∀ k, k ≠ 17 → k ≠ 18 → F' k = F k) ∧ g_Fr a (a + 18) h hE) := by
  refine go_Z_sumUp [12] 40 ?_
  refine g_pt_j (z_fs a (z_u F 17 0)) hZ.1 (Nat.le_of_ble_eq_true rfl) rfl rfl rfl ?_
  obtain ⟨z1, f1⟩ := z_fld hZ (z_u F 17 0)
  refine g_pt_j (z_fs a (z_u (z_u F 17 0) 18 0)) z1.1 (Nat.le_of_ble_eq_true rfl) rfl rfl rfl ?_
  obtain ⟨z2, f2⟩ := z_fld z1 (z_u (z_u F 17 0) 18 0)
  have := x_Z_sum (l := l) (a := a) (F0 := F) (hh := h) hn hi.2.1 hi.2.2.1 n 0 _ _ rfl (Nat.zero_le _) z2 (fun k h1 h2 => by rw [z_u_ne h2, z_u_ne h1]) (g_Fr_tr f1 f2)
  exact this
/-- the last values, as the model holds them -/
def z_vs (F : Nat → Int32) (A : Nat → List Int32) (vs : List Int32) : Prop := F 19 = nI vs.length ∧ (A 7).take vs.length = vs ∧ vs.length ≤ 8
def z_at (vs : List Int32) (v : Int32) : Nat := match o_fnd vs v with
  | some i => i
  | none => 8
theorem o_fnd_spec : ∀ {vs : List Int32} {v : Int32} {i : Nat}, o_fnd vs v = some i → vs[i]? = some v ∧ (∀ j, j < i → vs[j]? ≠ some v)
  | [], v, i, h => by simp [o_fnd] at h
  | x :: t, v, i, h => by
    unfold o_fnd at h
    by_cases e : x = v
    · rw [if_pos e] at h
      cases h
      exact ⟨by simp [e], fun j hj => absurd hj (by omega)⟩
    · rw [if_neg e] at h
      obtain ⟨k, hk, rfl⟩ := Option.map_eq_some_iff.mp h
      obtain ⟨h1, h2⟩ := o_fnd_spec hk
      refine ⟨by simpa using h1, fun j hj => ?_⟩
      cases j with
      | zero => simpa using e
      | succ j => simpa using h2 j (by omega)
theorem o_fnd_nspec : ∀ {vs : List Int32} {v : Int32}, o_fnd vs v = none → ∀ j : Nat, vs[j]? ≠ some v
  | [], v, _, j => by simp
  | x :: t, v, h, j => by
    unfold o_fnd at h
    by_cases e : x = v
    · rw [if_pos e] at h
      cases h
    · rw [if_neg e] at h
      have h := Option.map_eq_none_iff.mp h
      cases j with
      | zero => simpa using e
      | succ j => simpa using o_fnd_nspec h j
/-- the search, from the end -/
theorem x_Z_find {l : Launch} {h : g_H} {a : Nat} {F : Nat → Int32} {A : Nat → List Int32} {vs : List Int32} {v : Int32} (hZ : o_Z h a F A) (hv : z_vs F A vs) {Post : g_P} (hk : ∀ c3, g_X l J_Z_putValue 36 [some (.ref a), some (.int v), some (.int (nI (z_at vs v))), c3, none] [] h Post) : ∀ (i at' : Nat), i ≤ vs.length → at' ≤ 8 → (at' = 8 ∧ (∀ j, i ≤ j → vs[j]? ≠ some v) ∨ (i ≤ at' ∧ vs[at']? = some v ∧ ∀ j, i ≤ j → j < at' → vs[j]? ≠ some v)) →
    g_X l J_Z_putValue 10 [some (.ref a), some (.int v), some (.int (nI at')), some (.int (nI i - 1)), none] [] h Post := by
  have h7 : (A 7).length = 9 := hZ.2.2.2 7 (by omega) (by omega)
  have hv8 := hv.2.2
  have em : ∀ x : Int32, x - 1 = x + -1 := fun x => Int32.sub_eq_add_neg x 1
  intro i
  induction i with
  | zero =>
    intro at' hi ha hc
    refine g_go ok_Z_putValue [10, 36] 60 ?_
    refine g_br_t (by decide) ?_
    have e : z_at vs v = at' := by
      unfold z_at
      rcases hc with ⟨h1, h2⟩ | ⟨h1, h2, h3⟩
      · rw [o_fnd_none (fun j _ => h2 j (by omega))]
        exact h1.symm
      · rw [o_fnd_some h2 (fun j hj => h3 j (by omega) hj)]
    have := hk (some (.int (nI 0 - 1)))
    rw [e] at this
    exact this
  | succ i ih =>
    intro at' hi ha hc
    have e1 : nI (i + 1) - 1 = nI i := nI_pred i
    obtain ⟨x, hx, -⟩ := l_drop (xs := vs) (i := i) (by omega)
    have hx2 : (A 7).getD i 0 = x := by
      have hx' := hx
      rw [← hv.2.1, List.getElem?_take, if_pos (by omega)] at hx'
      exact l_getD hx'
    rw [e1]
    refine g_go ok_Z_putValue [10, 36] 60 ?_
    refine g_br_f (nI_pos (by omega)) ?_
    refine g_gt_i hZ.1 rfl ?_
    refine g_al_i (hZ.2.2.1 7 (by omega) (by omega)) (vp_in_nI (by omega) (by omega)) ?_
    rw [nI_clamp (by omega), hx2]
    refine g_br_i (fun q => ?_) (fun q => ?_)
    · have q : ¬ x = v := q
      have key := ih at' (by omega) ha ?_
      · rw [em] at key
        exact key
      rcases hc with ⟨h1, h2⟩ | ⟨h1, h2, h3⟩
      · refine Or.inl ⟨h1, fun j hj => ?_⟩
        rcases Nat.lt_or_ge j (i + 1) with z | z
        · rw [show j = i by omega, hx]
          exact fun e => q (Option.some.inj e)
        · exact h2 j z
      · refine Or.inr ⟨by omega, h2, fun j hj hj2 => ?_⟩
        rcases Nat.lt_or_ge j (i + 1) with z | z
        · rw [show j = i by omega, hx]
          exact fun e => q (Option.some.inj e)
        · exact h3 j z hj2
    · have q : x = v := Classical.not_not.mp q
      have key := ih i (by omega) (by omega) (Or.inr ⟨Nat.le_refl _, by rw [hx, q], fun j hj hj2 => absurd hj2 (by omega)⟩)
      rw [em] at key
      exact key
/-- what the shift of the values makes -/
theorem x_Z_shift {l : Launch} {a : Nat} {F : Nat → Int32} {v : Int32} {c2 : Option Value} {c3 : Int32} {A0 : Nat → List Int32} {hh : g_H} {Post : g_P} {n : Nat} (hn : n ≤ 8) (hk : ∀ (c4 : Option Value) (h1 : g_H) (A1 : Nat → List Int32), o_Z h1 a F A1 → (∀ i, i ≠ 7 → A1 i = A0 i) → (∀ j, j < 9 → (A1 7)[j]? = if 0 < j ∧ j ≤ n then (A0 7)[j - 1]? else (A0 7)[j]?) → g_Fr a (a + 18) hh h1 → g_X l J_Z_putValue 95 [some (.ref a), some (.int v), c2, some (.int c3), c4] [] h1 Post) : ∀ (i : Nat) (A : Nat → List Int32) (h : g_H), i ≤ n → o_Z h a F A → (∀ i, i ≠ 7 → A i = A0 i) → (∀ j, j < 9 → (A 7)[j]? = if i < j ∧ j ≤ n then (A0 7)[j - 1]? else (A0 7)[j]?) → g_Fr a (a + 18) hh h →
    g_X l J_Z_putValue 68 [some (.ref a), some (.int v), c2, some (.int c3), some (.int (nI i))] [] h Post := by
  intro i
  induction i with
  | zero =>
    intro A h hi hZ hA hj hF
    refine g_go ok_Z_putValue [68, 95] 60 ?_
    refine g_br_t (by decide) ?_
    exact hk _ h A hZ hA hj hF
  | succ i ih =>
    intro A h hi hZ hA hj hF
    have h7 : (A 7).length = 9 := hZ.2.2.2 7 (by omega) (by omega)
    refine g_go ok_Z_putValue [68, 95] 60 ?_
    refine g_br_f (nI_nle (by omega) (by omega)) ?_
    refine g_gt_i hZ.1 rfl ?_
    refine g_gt_i hZ.1 rfl ?_
    refine g_al_i (hZ.2.2.1 7 (by omega) (by omega)) (show vp_in (nI (i + 1) - 1) _ by rw [nI_pred]; exact vp_in_nI (by omega) (by omega)) ?_
    refine g_as_i (hZ.2.2.1 7 (by omega) (by omega)) (vp_in_nI (by omega) (by omega)) ?_
    have e1 : (nI (i + 1) - 1).toNatClampNeg = i := by rw [nI_pred, nI_clamp (by omega)]
    have e2 : (nI (i + 1)).toNatClampNeg = i + 1 := nI_clamp (by omega)
    obtain ⟨z1, f1⟩ := z_arr hZ 7 (i + 1) ((A 7).getD i 0) (by omega) (by omega)
    have key := ih _ _ (by omega) z1 (fun k hk => by rw [z_u_ne hk]; exact hA k hk) (fun j hj9 => by
      rw [z_u_eq, List.getElem?_set]
      by_cases e : i + 1 = j
      · subst e
        rw [if_pos rfl, if_pos (by omega), if_pos ⟨by omega, by omega⟩]
        have h1 := hj i (by omega)
        rw [if_neg (by omega)] at h1
        rw [show i + 1 - 1 = i by omega, ← h1]
        obtain ⟨x, hx, -⟩ := l_drop (xs := A 7) (i := i) (by omega)
        rw [hx, l_getD hx]
      · rw [if_neg e, hj j hj9]
        by_cases q : i + 1 < j ∧ j ≤ n
        · rw [if_pos q, if_pos ⟨by omega, q.2⟩]
        · rw [if_neg q, if_neg (by omega)]) (g_Fr_tr hF f1)
    have e1' : Int32.toNatClampNeg ((fun x y : Int32 => x - y) (nI (i + 1)) 1) = i := e1
    rw [e1', e2]
    have e3 : nI (i + 1) + -1 = nI i := by rw [← nI_pred i, Int32.sub_eq_add_neg]
    rw [← e3] at key
    exact key
theorem l_take {ys xs : List Int32} {n : Nat} (hl : n ≤ ys.length) (h : ∀ j, j < n → ys[j]? = xs[j]?) (hx : xs.length = n) : ys.take n = xs := by
  apply List.ext_getElem?
  intro j
  rw [List.getElem?_take]
  by_cases q : j < n
  · rw [if_pos q]
    exact h j q
  · rw [if_neg q, List.getElem?_eq_none (by omega)]
theorem o_use_len {vs : List Int32} {v : Int32} (h8 : vs.length ≤ 8) : (o_use 8 vs v).length = if z_at vs v = 8 ∧ vs.length < 8 then vs.length + 1 else vs.length := by
  unfold o_use z_at
  cases h : o_fnd vs v with
  | none =>
    simp only [List.length_take, List.length_cons]
    by_cases q : vs.length < 8
    · rw [if_pos ⟨trivial, q⟩]
      omega
    · rw [if_neg (fun z => q z.2)]
      omega
  | some i =>
    have hi : i < vs.length := (List.getElem?_eq_some_iff.mp (o_fnd_spec h).1).1
    simp only [List.length_cons, List.length_append, List.length_take, List.length_drop]
    rw [if_neg (fun z => by omega)]
    omega
theorem o_use_at {vs : List Int32} {v : Int32} (h8 : vs.length ≤ 8) {j n : Nat} (hn : n = if z_at vs v < 8 then z_at vs v else if vs.length < 8 then vs.length else 7) (hj : j < (o_use 8 vs v).length) : (o_use 8 vs v)[j]? = if j = 0 then some v else if j ≤ n then vs[j - 1]? else vs[j]? := by
  unfold o_use z_at at *
  cases h : o_fnd vs v with
  | none =>
    rw [h] at hn hj
    simp only at hn hj ⊢
    rw [List.length_take, List.length_cons] at hj
    rw [List.getElem?_take, if_pos (by omega)]
    cases j with
    | zero => rfl
    | succ j =>
      rw [if_neg (by omega), List.getElem?_cons_succ, if_pos]
      · rfl
      · rw [hn, if_neg (by omega)]
        split <;> omega
  | some i =>
    rw [h] at hn hj
    simp only at hn hj ⊢
    have hi : i < vs.length := (List.getElem?_eq_some_iff.mp (o_fnd_spec h).1).1
    rw [if_pos (by omega)] at hn
    subst hn
    cases j with
    | zero => rfl
    | succ j =>
      rw [if_neg (by omega), List.getElem?_cons_succ]
      by_cases q : j + 1 ≤ n
      · rw [if_pos q, List.getElem?_append_left (by rw [List.length_take]; omega), List.getElem?_take, if_pos (by omega)]
        rfl
      · rw [if_neg q, List.getElem?_append_right (by rw [List.length_take]; omega), List.getElem?_drop, List.length_take]
        congr 1
        omega
theorem c_Z_putValue {l : Launch} {h : g_H} {a : Nat} {F : Nat → Int32} {A : Nat → List Int32} {vs : List Int32} {v : Int32} (hZ : o_Z h a F A) (hv : z_vs F A vs) : g_Run l J_Z_putValue [.ref a, .int v] h (fun oc hE => oc = .inl (some (.int (nI (z_at vs v)))) ∧ ∃ F' A', o_Z hE a F' A' ∧ z_vs F' A' (o_use 8 vs v) ∧ (∀ k, k ≠ 19 → F' k = F k) ∧ (∀ i, i ≠ 7 → A' i = A i) ∧ g_Fr a (a + 18) h hE) := by
  have h7 : (A 7).length = 9 := hZ.2.2.2 7 (by omega) (by omega)
  have hv8 := hv.2.2
  have hul := o_use_len (v := v) hv8
  have hat : z_at vs v ≤ 8 := by
    unfold z_at
    cases h : o_fnd vs v with
    | none => exact Nat.le_refl _
    | some i =>
      have hi : i < vs.length := (List.getElem?_eq_some_iff.mp (o_fnd_spec h).1).1
      simp only
      omega
  have hal : z_at vs v < 8 → z_at vs v < vs.length := fun q => by
    unfold z_at at q ⊢
    cases h : o_fnd vs v with
    | none =>
      rw [h] at q
      simp at q
    | some i => exact (List.getElem?_eq_some_iff.mp (o_fnd_spec h).1).1
  obtain ⟨n, hn⟩ : ∃ n, n = if z_at vs v < 8 then z_at vs v else if vs.length < 8 then vs.length else 7 := ⟨_, rfl⟩
  have hn8 : n ≤ 8 := by
    rw [hn]
    split
    · omega
    · split <;> omega
  -- the end
  have tE : ∀ (c3 c4 : Option Value) (h1 : g_H) (A1 : Nat → List Int32) (F1 : Nat → Int32), F1 = z_u F 19 (nI (o_use 8 vs v).length) → o_Z h1 a F1 A1 → z_vs F1 A1 (o_use 8 vs v) → (∀ i, i ≠ 7 → A1 i = A i) → g_Fr a (a + 18) h h1 → g_X l J_Z_putValue 134 [some (.ref a), some (.int v), some (.int (nI (z_at vs v))), c3, c4] [] h1 (fun oc hE => oc = .inl (some (.int (nI (z_at vs v)))) ∧ ∃ F' A', o_Z hE a F' A' ∧ z_vs F' A' (o_use 8 vs v) ∧ (∀ k, k ≠ 19 → F' k = F k) ∧ (∀ i, i ≠ 7 → A' i = A i) ∧ g_Fr a (a + 18) h hE) := by
    intro c3 c4 h1 A1 F1 hF1 z1 v1 e1 f1
    refine g_go ok_Z_putValue [] 20 ?_
    exact ⟨rfl, F1, A1, z1, v1, fun k hk => by rw [hF1]; exact z_u_ne hk, e1, f1⟩
  have t95 : ∀ (c3 c4 : Option Value) (h1 : g_H) (A1 : Nat → List Int32), o_Z h1 a F A1 → (∀ i, i ≠ 7 → A1 i = A i) → (∀ j, j < 9 → (A1 7)[j]? = if 0 < j ∧ j ≤ n then (A 7)[j - 1]? else (A 7)[j]?) → g_Fr a (a + 18) h h1 → g_X l J_Z_putValue 95 [some (.ref a), some (.int v), some (.int (nI (z_at vs v))), c3, c4] [] h1 (fun oc hE => oc = .inl (some (.int (nI (z_at vs v)))) ∧ ∃ F' A', o_Z hE a F' A' ∧ z_vs F' A' (o_use 8 vs v) ∧ (∀ k, k ≠ 19 → F' k = F k) ∧ (∀ i, i ≠ 7 → A' i = A i) ∧ g_Fr a (a + 18) h hE) := by
    intro c3 c4 h1 A1 z1 e1 j1 f1
    have h17 : (A1 7).length = 9 := z1.2.2.2 7 (by omega) (by omega)
    refine g_go ok_Z_putValue [134] 60 ?_
    refine g_gt_i z1.1 rfl ?_
    refine g_as_i (z1.2.2.1 7 (by omega) (by omega)) (show vp_in 0 _ from vp_in_nI (n := 0) (by omega) (by omega)) ?_
    rw [show Int32.toNatClampNeg 0 = 0 by decide]
    obtain ⟨z2, f2⟩ := z_arr z1 7 0 v (by omega) (by omega)
    have hgv : ∀ j, j < vs.length → (A 7)[j]? = vs[j]? := fun j hj => by
      conv => rhs; rw [← hv.2.1]
      rw [List.getElem?_take, if_pos hj]
    have hvs2 : ∀ m, m = (o_use 8 vs v).length → z_vs (z_u F 19 (nI m)) (z_u A1 7 ((A1 7).set 0 v)) (o_use 8 vs v) := fun m hm => by
      subst hm
      have hle : (o_use 8 vs v).length ≤ 8 := by
        rw [hul]
        split <;> omega
      refine ⟨z_u_eq, ?_, hle⟩
      rw [z_u_eq]
      refine l_take (by rw [List.length_set]; omega) (fun j hj => ?_) rfl
      rw [o_use_at hv8 hn hj, List.getElem?_set]
      by_cases q0 : j = 0
      · subst q0
        rw [if_pos rfl, if_pos (by omega), if_pos rfl]
      · rw [if_neg (fun z => q0 z.symm), if_neg q0, j1 j (by omega)]
        rw [hul] at hj
        by_cases q : j ≤ n
        · rw [if_pos ⟨by omega, q⟩, if_pos q]
          refine hgv _ ?_
          split at hj <;> omega
        · rw [if_neg (fun z => q z.2), if_neg q]
          refine hgv _ ?_
          split at hj
          next hq =>
            rw [hn, if_neg (by omega), if_pos hq.2] at q
            omega
          next => omega
    refine g_br_i (fun q => ?_) (fun q => ?_)
    · have q : ¬ z_at vs v = 8 := fun z => q (by rw [z]; rfl)
      refine g_gt_i z2.1 rfl ?_
      refine g_pt_j (z_fs a (z_u F 19 (F 19))) z2.1 (Nat.le_of_ble_eq_true rfl) rfl rfl rfl ?_
      obtain ⟨z3, f3⟩ := z_fld z2 (z_u F 19 (F 19))
      have el : (o_use 8 vs v).length = vs.length := by rw [hul, if_neg (fun z => q z.1)]
      refine tE _ _ _ _ _ (by rw [hv.1, el]) z3 (by rw [hv.1]; exact hvs2 _ el.symm) (fun i hi => by rw [z_u_ne hi]; exact e1 i hi) (g_Fr_tr f1 (g_Fr_tr f2 f3))
    · have q : z_at vs v = 8 := (nI_eq (b := 8) (by omega) (by omega)).mp (Classical.not_not.mp q)
      refine g_gt_i z2.1 rfl ?_
      refine g_br_i (fun q2 => ?_) (fun q2 => ?_)
      · have q2 : ¬ vs.length < 8 := by
          have : (8 : Int32) ≤ F 19 := q2
          rw [hv.1] at this
          have := (nI_leI (a := 8) (by omega) (by omega)).mp this
          omega
        refine g_gt_i z2.1 rfl ?_
        refine g_pt_j (z_fs a (z_u F 19 (F 19))) z2.1 (Nat.le_of_ble_eq_true rfl) rfl rfl rfl ?_
        obtain ⟨z3, f3⟩ := z_fld z2 (z_u F 19 (F 19))
        have el : (o_use 8 vs v).length = vs.length := by rw [hul, if_neg (fun z => q2 z.2)]
        refine tE _ _ _ _ _ (by rw [hv.1, el]) z3 (by rw [hv.1]; exact hvs2 _ el.symm) (fun i hi => by rw [z_u_ne hi]; exact e1 i hi) (g_Fr_tr f1 (g_Fr_tr f2 f3))
      · have q2 : vs.length < 8 := by
          have : ¬ (8 : Int32) ≤ F 19 := q2
          rw [hv.1] at this
          apply Nat.lt_of_not_le
          intro z
          exact this (nI_le (a := 8) z (by omega))
        refine g_gt_i z2.1 rfl ?_
        refine g_pt_j (z_fs a (z_u F 19 (F 19 + 1))) z2.1 (Nat.le_of_ble_eq_true rfl) rfl rfl rfl ?_
        obtain ⟨z3, f3⟩ := z_fld z2 (z_u F 19 (F 19 + 1))
        have el : (o_use 8 vs v).length = vs.length + 1 := by rw [hul, if_pos ⟨q, q2⟩]
        refine tE _ _ _ _ _ (by rw [hv.1, el, nI_1]) z3 (by rw [hv.1, nI_1]; exact hvs2 _ el.symm) (fun i hi => by rw [z_u_ne hi]; exact e1 i hi) (g_Fr_tr f1 (g_Fr_tr f2 f3))
  have t64 : ∀ (c3 : Option Value) (m : Int32), m = nI n → g_X l J_Z_putValue 64 [some (.ref a), some (.int v), some (.int (nI (z_at vs v))), c3, none] [.int m] h (fun oc hE => oc = .inl (some (.int (nI (z_at vs v)))) ∧ ∃ F' A', o_Z hE a F' A' ∧ z_vs F' A' (o_use 8 vs v) ∧ (∀ k, k ≠ 19 → F' k = F k) ∧ (∀ i, i ≠ 7 → A' i = A i) ∧ g_Fr a (a + 18) h hE) := by
    intro c3 m hm
    subst hm
    refine g_go ok_Z_putValue [68] 20 ?_
    exact x_Z_shift hn8 (fun c4 h1 A1 z1 e1 j1 f1 => t95 _ c4 h1 A1 z1 e1 j1 f1) n A h (Nat.le_refl _) hZ (fun _ _ => rfl) (fun j hj => by rw [if_neg (by omega)]) (g_Fr_rf _ _ _)
  refine go_Z_putValue [10] 20 ?_
  refine g_gt_i hZ.1 rfl ?_
  have key := x_Z_find (l := l) (v := v) hZ hv (Post := (fun oc hE => oc = .inl (some (.int (nI (z_at vs v)))) ∧ ∃ F' A', o_Z hE a F' A' ∧ z_vs F' A' (o_use 8 vs v) ∧ (∀ k, k ≠ 19 → F' k = F k) ∧ (∀ i, i ≠ 7 → A' i = A i) ∧ g_Fr a (a + 18) h hE)) ?_ vs.length 8 (Nat.le_refl _) (Nat.le_refl _) (Or.inl ⟨rfl, fun j hj => by rw [List.getElem?_eq_none (by omega)]; exact fun z => by cases z⟩)
  · rw [← hv.1] at key
    exact key
  · intro c3
    refine g_go ok_Z_putValue [64] 40 ?_
    by_cases q : z_at vs v < 8
    · refine g_br_f (show ¬ (8 : Int32) ≤ nI (z_at vs v) from nI_ge (b := 8) q (by omega)) ?_
      refine t64 _ _ ?_
      rw [hn, if_pos q]
    · refine g_br_t (show (8 : Int32) ≤ nI (z_at vs v) from nI_le (a := 8) (by omega) (by omega)) ?_
      refine g_gt_i hZ.1 rfl ?_
      by_cases q2 : vs.length < 8
      · refine g_br_f (show ¬ (8 : Int32) ≤ F 19 by rw [hv.1]; exact nI_ge (b := 8) q2 (by omega)) ?_
        refine g_gt_i hZ.1 rfl ?_
        refine t64 _ _ ?_
        rw [hn, if_neg q, if_pos q2]
        exact hv.1
      · refine g_br_t (show (8 : Int32) ≤ F 19 by rw [hv.1]; exact nI_le (a := 8) (by omega) (by omega)) ?_
        refine t64 _ _ ?_
        rw [hn, if_neg q, if_neg q2]
        rfl
