/-! Kept: putInOrder, byTime -/
theorem k_min {x n : Nat} (hx : x < 2 ^ 31) (hn : n < 2 ^ 31) : (if nI n < nI x then nI n else nI x) = nI (min x n) := by
  by_cases h : n < x
  · rw [if_pos (nI_lt h hx), show min x n = n by omega]
  · rw [if_neg (nI_nlt (by omega) (by omega)), show min x n = x by omega]
theorem x_K_init {l : Launch} {a p q : Nat} {ks : List o_Kr} {z : Int32} {ss : List Int32} {hh : g_H} {Post : g_P} (hk : ∀ (h1 : g_H) (l2 : Option Value), o_K h1 a ks p q z ((List.range ks.length).map nI) ss → g_Fr a (a + 17) hh h1 → g_X l J_K_putInOrder 35 [some (.ref a), some (.int 1), l2] [] h1 Post) : ∀ (d i : Nat) (h : g_H), ks.length - i = d → i ≤ ks.length → o_K h a ks p q z ((List.range i).map nI) ss → g_Fr a (a + 17) hh h →
    g_X l J_K_putInOrder 10 [some (.ref a), some (.int (nI i)), none] [] h Post := by
  intro d
  induction d with
  | zero =>
    intro i h hd hi hK hF
    have hl := o_K_len hK
    refine g_go ok_K_putInOrder [10, 35] 60 ?_
    refine g_cv_i hK.1 (c_K_size hK) (fun oc h1 hp => ?_)
    obtain ⟨rfl, rfl⟩ := hp
    refine ⟨_, rfl, ?_⟩
    refine g_br_t (show nI ks.length ≤ nI i from nI_le (by omega) (by omega)) ?_
    have e : i = ks.length := by omega
    subst e
    exact hk _ _ hK hF
  | succ d ih =>
    intro i h hd hi hK hF
    have hl := o_K_len hK
    refine g_go ok_K_putInOrder [10, 35] 60 ?_
    refine g_cv_i hK.1 (c_K_size hK) (fun oc h1 hp => ?_)
    obtain ⟨rfl, rfl⟩ := hp
    refine ⟨_, rfl, ?_⟩
    refine g_br_f (show ¬ nI ks.length ≤ nI i from nI_ge (by omega) (by omega)) ?_
    refine g_gt_i hK.1 rfl ?_
    refine g_cv_i (g_I_ty hK.2.2.2.1) (c_I_add hK.2.2.2.1) (fun oc h2 hp => ?_)
    obtain ⟨rfl, i2, f2⟩ := hp
    refine ⟨_, rfl, ?_⟩
    have e : v_add 2000 ((List.range i).map nI) (nI i) = (List.range (i + 1)).map nI := by
      rw [v_add_lt (by simp; omega), List.range_succ, List.map_append]
      rfl
    rw [e] at i2
    obtain ⟨k2, F2⟩ := o_K_os hK i2 f2
    have := ih (i + 1) h2 (by omega) (by omega) k2 (g_Fr_tr hF F2)
    rw [← nI_1 i] at this
    exact this
theorem x_K_half {l : Launch} {a p q w : Nat} {ks : List o_Kr} {z : Int32} {is : List Nat} {hh : g_H} {Post : g_P} (hw0 : 1 ≤ w) (hw : w < ks.length) (hr : k_run ks w is) (hlt : ∀ i ∈ is, i < ks.length) (hk : ∀ (h1 : g_H) (l2 : Option Value) (js : List Nat), k_run ks (2 * w) js → o_K h1 a ks p q z (is.map nI) (js.map nI) → g_Fr a (a + 17) hh h1 → g_X l J_K_putInOrder 97 [some (.ref a), some (.int (nI w)), l2] [] h1 Post) : ∀ (d c : Nat) (js : List Nat) (h : g_H), ks.length ≤ c * (2 * w) + d → c * (2 * w) ≤ 6000 → k_half ks w c js → o_K h a ks p q z (is.map nI) (js.map nI) → g_Fr a (a + 17) hh h →
    g_X l J_K_putInOrder 53 [some (.ref a), some (.int (nI w)), some (.int (nI (c * (2 * w))))] [] h Post := by
  intro d
  induction d with
  | zero =>
    intro c js h hd hi hh2 hK hF
    have hl := o_K_len hK
    refine g_go ok_K_putInOrder [53, 97] 60 ?_
    refine g_cv_i hK.1 (c_K_size hK) (fun oc h1 hp => ?_)
    obtain ⟨rfl, rfl⟩ := hp
    refine ⟨_, rfl, ?_⟩
    refine g_br_t (show nI ks.length ≤ nI (c * (2 * w)) from nI_le (by omega) (by omega)) ?_
    exact hk _ _ js (k_half_end hh2 (by omega)) hK hF
  | succ d ih =>
    intro c js h hd hi hh2 hK hF
    have hl := o_K_len hK
    refine g_go ok_K_putInOrder [53, 97] 60 ?_
    refine g_cv_i hK.1 (c_K_size hK) (fun oc h1 hp => ?_)
    obtain ⟨rfl, rfl⟩ := hp
    refine ⟨_, rfl, ?_⟩
    by_cases hc : c * (2 * w) < ks.length
    · refine g_br_f (show ¬ nI ks.length ≤ nI (c * (2 * w)) from nI_ge (by omega) (by omega)) ?_
      refine g_cv_i hK.1 (c_K_size hK) (fun oc h1 hp => ?_)
      obtain ⟨rfl, rfl⟩ := hp
      refine ⟨_, rfl, ?_⟩
      refine g_cv_i hK.1 (c_K_size hK) (fun oc h1 hp => ?_)
      obtain ⟨rfl, rfl⟩ := hp
      refine ⟨_, rfl, ?_⟩
      have e2 : (2 : Int32) * nI w = nI (2 * w) := pk_mul 2 w
      have hkr : ∀ (x y : Int32), x = nI (min (c * (2 * w) + w) ks.length) → y = nI (min (c * (2 * w) + 2 * w) ks.length) → g_Run l J_K_joinRuns [.ref a, .int (nI (c * (2 * w))), .int x, .int y] _ (fun oc hE => oc = .inl none ∧ o_K hE a ks p q z (is.map nI) ((js ++ k_mg (k_gb ks) (min (c * (2 * w) + 2 * w) ks.length - c * (2 * w)) (k_sg is (c * (2 * w)) (min (c * (2 * w) + w) ks.length)) (k_sg is (min (c * (2 * w) + w) ks.length) (min (c * (2 * w) + 2 * w) ks.length))).map nI) ∧ g_Fr a (a + 17) h1 hE) := fun x y hx hy => by
        subst hx hy
        exact c_K_joinRuns hlt hr.1 (by omega) (by omega) (by omega) (by rw [hh2.1]; omega) hK
      refine g_cv_i hK.1 (hkr _ _ ?_ ?_) (fun oc h2 hp => ?_)
      · show (if nI ks.length < nI (c * (2 * w)) + nI w then nI ks.length else nI (c * (2 * w)) + nI w) = _
        rw [nI_add, k_min (by omega) (by omega)]
      · show (if nI ks.length < nI (c * (2 * w)) + 2 * nI w then nI ks.length else nI (c * (2 * w)) + 2 * nI w) = _
        rw [e2, nI_add, k_min (by omega) (by omega)]
      obtain ⟨rfl, k2, F2⟩ := hp
      refine ⟨_, rfl, ?_⟩
      have ec : (c + 1) * (2 * w) = c * (2 * w) + 2 * w := by rw [Nat.add_mul, Nat.one_mul]
      have := ih (c + 1) _ h2 (by rw [ec]; omega) (by rw [ec]; omega) (k_half_st hr hh2 hc rfl) k2 (g_Fr_tr hF F2)
      rw [ec, ← nI_add, ← e2] at this
      exact this
    · refine g_br_t (show nI ks.length ≤ nI (c * (2 * w)) from nI_le (by omega) (by omega)) ?_
      exact hk _ _ js (k_half_end hh2 (by omega)) hK hF
theorem k_run_lt {ks : List o_Kr} {w : Nat} {is : List Nat} (hw : 1 ≤ w) (hr : k_run ks w is) : ∀ i ∈ is, i < ks.length := by
  intro i hi
  obtain ⟨k, hk⟩ := List.mem_iff_getElem?.mp hi
  have hkl := (List.getElem?_eq_some_iff.mp hk).1
  rw [hr.1] at hkl
  have hdm := Nat.div_add_mod k w
  have hml := Nat.mod_lt k (show w > 0 by omega)
  have e : w * (k / w) = k / w * w := Nat.mul_comm _ _
  have h2 := (hr.2 (k / w) (by omega)).1
  have : i ∈ k_sg is (k / w * w) (k / w * w + w) := by
    apply List.mem_iff_getElem?.mpr
    refine ⟨k - k / w * w, ?_⟩
    unfold k_sg
    rw [List.getElem?_drop, List.getElem?_take, if_pos (by omega), show k / w * w + (k - k / w * w) = k by omega]
    exact hk
  have := List.mem_range'_1.mp (h2.mem_iff.mp this)
  omega
theorem x_K_width {l : Launch} {a : Nat} {ks : List o_Kr} {z : Int32} {hh : g_H} : ∀ (d w p q : Nat) (is : List Nat) (ss : List Int32) (l2 : Option Value) (h : g_H), ks.length ≤ w + d → 1 ≤ w → w ≤ 6000 → k_run ks w is → o_K h a ks p q z (is.map nI) ss → g_Fr a (a + 17) hh h →
    g_X l J_K_putInOrder 35 [some (.ref a), some (.int (nI w)), l2] [] h (fun oc hE => oc = .inl none ∧ (∃ p q is ss, k_is ks is ∧ o_K hE a ks p q z (is.map nI) ss) ∧ g_Fr a (a + 17) hh hE) := by
  intro d
  induction d with
  | zero =>
    intro w p q is ss l2 h hd hw hw2 hr hK hF
    have hl := o_K_len hK
    refine g_go ok_K_putInOrder [35] 60 ?_
    refine g_cv_i hK.1 (c_K_size hK) (fun oc h1 hp => ?_)
    obtain ⟨rfl, rfl⟩ := hp
    refine ⟨_, rfl, ?_⟩
    refine g_br_t (show nI ks.length ≤ nI w from nI_le (by omega) (by omega)) ?_
    exact ⟨rfl, ⟨p, q, is, ss, k_run_end hr (by omega), hK⟩, hF⟩
  | succ d ih =>
    intro w p q is ss l2 h hd hw hw2 hr hK hF
    have hl := o_K_len hK
    have hsl := g_I_len hK.2.2.2.2
    refine g_go ok_K_putInOrder [35, 53] 60 ?_
    refine g_cv_i hK.1 (c_K_size hK) (fun oc h1 hp => ?_)
    obtain ⟨rfl, rfl⟩ := hp
    refine ⟨_, rfl, ?_⟩
    by_cases hc : w < ks.length
    · refine g_br_f (show ¬ nI ks.length ≤ nI w from nI_ge (by omega) (by omega)) ?_
      refine g_gt_i hK.1 rfl ?_
      refine g_cv_i (g_I_ty hK.2.2.2.2) (c_I_shorten hK.2.2.2.2) (fun oc h2 hp => ?_)
      obtain ⟨rfl, i2, f2⟩ := hp
      rw [v_cut_0 (by omega)] at i2
      refine ⟨_, rfl, ?_⟩
      obtain ⟨k2, F2⟩ := o_K_ss hK i2 f2
      have := x_K_half (l := l) (hh := hh) hw hc hr (k_run_lt hw hr) (Post := (fun oc hE => oc = .inl none ∧ (∃ p q is ss, k_is ks is ∧ o_K hE a ks p q z (is.map nI) ss) ∧ g_Fr a (a + 17) hh hE)) ?_ ks.length 0 [] h2 (by omega) (by omega) (k_half_0 ks w) k2 (g_Fr_tr hF F2)
      · rw [Nat.zero_mul] at this
        exact this
      · intro h3 l3 js hr3 k3 F3
        refine g_go ok_K_putInOrder [35] 60 ?_
        refine g_gt_i k3.1 rfl ?_
        refine g_gt_i k3.1 rfl ?_
        refine g_pt_i k3.1 (Nat.le_of_ble_eq_true rfl) rfl rfl ?_
        refine g_pt_i g_up_eq (Nat.le_of_ble_eq_true rfl) rfl rfl ?_
        have hpq := k3.2.2.1
        unfold k_pq at hpq
        have f4 : g_Fr a (a + 1) h3 (g_up (g_up h3 a (k_cell a p p z)) a (k_cell a q p z)) := g_Fr_tr (g_Fr_up (by omega) (by omega)) (g_Fr_up (by omega) (by omega))
        have k4 : o_K (g_up (g_up h3 a (k_cell a p p z)) a (k_cell a q p z)) a ks q p z (js.map nI) (is.map nI) := ⟨g_up_eq, k_cs_Fr k3.2.1 f4 (by omega), by unfold k_pq; omega, g_I_Fr k3.2.2.2.2 f4 (by omega), g_I_Fr k3.2.2.2.1 f4 (by omega)⟩
        have := ih (2 * w) q p js (is.map nI) (some (.ref q)) _ (by omega) (by omega) (by omega) hr3 k4 (g_Fr_tr F3 (g_Fr_wd f4 (by omega) (by omega)))
        rw [Nat.mul_comm 2 w, ← pk_mul w 2] at this
        exact this
    · refine g_br_t (show nI ks.length ≤ nI w from nI_le (by omega) (by omega)) ?_
      exact ⟨rfl, ⟨p, q, is, ss, k_run_end hr (by omega), hK⟩, hF⟩
theorem c_K_putInOrder {l : Launch} {h : g_H} {a p q : Nat} {ks : List o_Kr} {z : Int32} {os ss : List Int32} (hK : o_K h a ks p q z os ss) : g_Run l J_K_putInOrder [.ref a] h (fun oc hE => oc = .inl none ∧ (∃ p q is ss, k_is ks is ∧ o_K hE a ks p q z (is.map nI) ss) ∧ g_Fr a (a + 17) h hE) := by
  have hl := o_K_len hK
  have hol := g_I_len hK.2.2.2.1
  refine go_K_putInOrder [10] 40 ?_
  refine g_gt_i hK.1 rfl ?_
  refine g_cv_i (g_I_ty hK.2.2.2.1) (c_I_shorten hK.2.2.2.1) (fun oc h2 hp => ?_)
  obtain ⟨rfl, i2, f2⟩ := hp
  rw [v_cut_0 (by omega)] at i2
  refine ⟨_, rfl, ?_⟩
  obtain ⟨k2, F2⟩ := o_K_os hK i2 f2
  exact x_K_init (l := l) (hh := h) (fun h3 l3 k3 F3 => x_K_width ks.length 1 p q _ ss l3 h3 (by omega) (by omega) (by omega) (k_run_1 ks) k3 F3) ks.length 0 h2 (by omega) (by omega) k2 F2
/-- the rows that are kept, as they are seen: put in order, or not yet -/
def o_KK (h : g_H) (a : Nat) (ks : List o_Kr) : Prop := ∃ p q z os ss, o_K h a ks p q z os ss ∧ (z = 0 ∨ (z = 1 ∧ ∃ is, k_is ks is ∧ os = is.map nI))
theorem o_KK_Fr {h h1 : g_H} {a lo hi : Nat} {ks : List o_Kr} (hK : o_KK h a ks) (hf : g_Fr lo hi h h1) (hd : a + 17 ≤ lo ∨ hi ≤ a) : o_KK h1 a ks := by
  obtain ⟨p, q, z, os, ss, h1, h2⟩ := hK
  exact ⟨p, q, z, os, ss, o_K_Fr h1 hf hd, h2⟩
theorem c_K_byTime {l : Launch} {h : g_H} {a k : Nat} {ks : List o_Kr} (hk : k < ks.length) (hK : o_KK h a ks) : g_Run l J_K_byTime [.ref a, .int (nI k)] h (fun oc hE => (∃ is x, k_is ks is ∧ is[k]? = some x ∧ oc = .inl (some (.int (nI x)))) ∧ o_KK hE a ks ∧ g_Fr a (a + 17) h hE) := by
  obtain ⟨p, q, z, os, ss, hK, hz⟩ := hK
  have tE : ∀ (p q : Nat) (is : List Nat) (ss : List Int32) (h1 : g_H), k_is ks is → o_K h1 a ks p q 1 (is.map nI) ss → g_Fr a (a + 17) h h1 → g_X l J_K_byTime 16 [some (.ref a), some (.int (nI k))] [] h1 (fun oc hE => (∃ is x, k_is ks is ∧ is[k]? = some x ∧ oc = .inl (some (.int (nI x)))) ∧ o_KK hE a ks ∧ g_Fr a (a + 17) h hE) := by
    intro p q is ss h1 his k1 F1
    have hl := o_K_len k1
    have hil := (k_is_lt his).1
    obtain ⟨x, hx, -⟩ := l_drop (xs := is) (i := k) (by omega)
    refine g_go ok_K_byTime [] 60 ?_
    refine g_gt_i k1.1 rfl ?_
    refine g_cv_i (g_I_ty k1.2.2.2.1) (c_I_at k1.2.2.2.1) (fun oc h2 hp => ?_)
    obtain ⟨rfl, rfl⟩ := hp
    refine ⟨_, rfl, ?_⟩
    rw [k_at (by omega) hx]
    exact ⟨⟨is, x, his, hx, rfl⟩, ⟨p, q, 1, _, ss, k1, Or.inr ⟨rfl, is, his, rfl⟩⟩, F1⟩
  refine go_K_byTime [16] 40 ?_
  refine g_gt_i hK.1 rfl ?_
  rcases hz with rfl | ⟨rfl, is, his, rfl⟩
  · refine g_br_f (by decide) ?_
    refine g_cv_i hK.1 (c_K_putInOrder hK) (fun oc h2 hp => ?_)
    obtain ⟨rfl, ⟨p2, q2, is, ss2, his, k2⟩, F2⟩ := hp
    refine ⟨_, rfl, ?_⟩
    refine g_pt_i k2.1 (Nat.le_of_ble_eq_true rfl) rfl rfl ?_
    obtain ⟨k3, F3⟩ := k_cell_up k2 p2 q2 1 (is.map nI) ss2 k2.2.2.1 k2.2.2.2.1 k2.2.2.2.2
    exact tE p2 q2 is ss2 _ his k3 (g_Fr_tr F2 F3)
  · refine g_br_t (by decide) ?_
    exact tE p q is ss h his hK (g_Fr_rf _ _ _)
