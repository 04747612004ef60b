/-! TracePacksModel: numbers, differences, words, rows got -/
theorem c_Z_nextNumber {l : Launch} {h : g_H} {a k : Nat} {F : Nat → Int32} {A : Nat → List Int32} {bs : List Int32} (hZ : o_Z h a F A) (hs : z_ps F A bs k) (hg : F 39 = 1) : g_Run l J_Z_nextNumber [.ref a] h (z_nn a h F A bs (d_num 5 0 0 (bs.drop k)) (fun x => .long (lN x)) (fun y => ∃ x, y = .long x)) := by
  refine go_Z_nextNumber [9] 40 ?_
  exact x_Z_nn 5 0 0 k 128 F h rfl (by omega) (by omega) (by omega) (by omega) hg hZ hs (fun _ _ _ => rfl) (g_Fr_rf _ _ _)
theorem c_Z_nextNumber0 {l : Launch} {h : g_H} {a : Nat} {F : Nat → Int32} {A : Nat → List Int32} (hZ : o_Z h a F A) (hg : F 39 = 0) : g_Run l J_Z_nextNumber [.ref a] h (fun oc hE => oc = .inl (some (.long 0)) ∧ hE = h) := by
  refine go_Z_nextNumber [] 40 ?_
  refine g_br_f (by decide) ?_
  refine g_gt_i hZ.1 rfl ?_
  refine g_br_t hg ?_
  refine g_br_t (by decide) ?_
  exact ⟨rfl, rfl⟩
theorem lQ_divn {a : Nat} (ha : a < 2 ^ 62) : -(lN a) / 2 = -(lN (a / 2)) := by
  apply Int64.toInt_inj.mp
  have hq : a / 2 ≤ a := Nat.div_le_self a 2
  have e1 : (-(lN a)).toInt = -(a : Int) := by
    rw [Int64.toInt_neg, lQ_toInt (by omega)]
    exact Int.bmod_eq_of_le (by omega) (by omega)
  rw [Int64.toInt_div, e1, show (2 : Int64).toInt = 2 by decide, Int64.toInt_neg, lQ_toInt (by omega)]
  rw [Int.neg_tdiv, Int.tdiv_eq_ediv_of_nonneg (by omega)]
  congr 1
theorem c_Z_nextDifference {l : Launch} {h : g_H} {a k : Nat} {F : Nat → Int32} {A : Nat → List Int32} {bs : List Int32} (hZ : o_Z h a F A) (hs : z_ps F A bs k) (hg : F 39 = 1) : g_Run l J_Z_nextDifference [.ref a] h (z_nn a h F A bs (d_num 5 0 0 (bs.drop k)) (fun x => .int (d_dif x)) (fun y => ∃ x, y = .int x)) := by
  refine go_Z_nextDifference [] 40 ?_
  refine g_cv_i hZ.1 (c_Z_nextNumber hZ hs hg) (fun oc h1 hp => ?_)
  cases hres : d_num 5 0 0 (bs.drop k) with
  | none =>
    rw [hres] at hp
    obtain ⟨F1, z1, e1, f1, k1, s1, ⟨y, rfl, x, rfl⟩, g1⟩ := hp
    refine ⟨_, rfl, ?_⟩
    refine g_br_i (fun q => ?_) (fun q => ?_)
    · refine And.intro (by decide) ?_
      exact ⟨F1, z1, e1, f1, k1, s1, ⟨_, rfl, _, rfl⟩, g1⟩
    · refine And.intro (by decide) ?_
      exact ⟨F1, z1, e1, f1, k1, s1, ⟨_, rfl, _, rfl⟩, g1⟩
  | some w =>
    obtain ⟨x, r⟩ := w
    have hx := d_num_lt 5 0 0 _ x r rfl (by omega) hres
    rw [hres] at hp
    obtain ⟨F1, z1, e1, f1, k1, s1, rfl, g1, rfl⟩ := hp
    refine ⟨_, rfl, ?_⟩
    have ea : lN x &&& 1 = lN (x % 2) := lN_and (x := x) (k := 1) (by omega) (by omega)
    refine g_br_i (fun q => ?_) (fun q => ?_)
    · have q : ¬ x % 2 = 0 := fun z => q ((lg_cmp_eq _ _).mpr (show lN x &&& 1 = 0 by rw [ea, z]; rfl))
      refine And.intro (by decide) ?_
      refine ⟨F1, z1, e1, f1, k1, s1, ?_, g1, rfl⟩
      show Sum.inl (some (Value.int (-(lN x + 1) / 2).toInt32)) = Sum.inl (some (Value.int (d_dif x)))
      unfold d_dif
      rw [if_neg q, show lN x + 1 = lN (x + 1) from lN_1 x, lQ_divn (by omega), Int64.toInt32_neg, lN_i]
    · have q : x % 2 = 0 := by
        have z : lN x &&& 1 = 0 := (lg_cmp_eq _ _).mp (Classical.not_not.mp q)
        rw [ea] at z
        exact (lN_eq (by omega) (by omega)).mp z
      refine And.intro (by decide) ?_
      refine ⟨F1, z1, e1, f1, k1, s1, ?_, g1, rfl⟩
      show Sum.inl (some (Value.int (lN x / 2).toInt32)) = Sum.inl (some (Value.int (d_dif x)))
      unfold d_dif
      rw [if_pos q, show lN x / 2 = lN (x / 2) from lQ_div (b := 2) (by omega) (by omega) (by omega), lN_i]
theorem c_Z_nextDifference0 {l : Launch} {h : g_H} {a : Nat} {F : Nat → Int32} {A : Nat → List Int32} (hZ : o_Z h a F A) (hg : F 39 = 0) : g_Run l J_Z_nextDifference [.ref a] h (fun oc hE => oc = .inl (some (.int 0)) ∧ hE = h) := by
  refine go_Z_nextDifference [] 40 ?_
  refine g_cv_i hZ.1 (c_Z_nextNumber0 hZ hg) (fun oc h1 hp => ?_)
  obtain ⟨rfl, rfl⟩ := hp
  refine ⟨_, rfl, ?_⟩
  refine g_br_f (by decide) ?_
  exact And.intro (by decide) ⟨rfl, rfl⟩
theorem n_sh8 {w β : Nat} (hβ : β < 256) : (nI w <<< ((8 : Int32) &&& 31)) ||| nI β = nI (w * 256 + β) := by
  apply Int32.toBitVec_inj.mp
  rw [Int32.toBitVec_or, Int32.toBitVec_shiftLeft]
  show (BitVec.ofNat 32 w <<< (((8 : Int32) &&& 31).toBitVec.smod 32)) ||| BitVec.ofNat 32 β = BitVec.ofNat 32 (w * 256 + β)
  rw [show (((8 : Int32) &&& 31).toBitVec.smod 32) = (8#32) by decide]
  apply BitVec.eq_of_toNat_eq
  rw [BitVec.toNat_or, BitVec.shiftLeft_eq', BitVec.toNat_shiftLeft, BitVec.toNat_ofNat, BitVec.toNat_ofNat, BitVec.toNat_ofNat, BitVec.toNat_ofNat, show (8 % 2 ^ 32) = 8 by decide, Nat.shiftLeft_eq, show (w % 2 ^ 32 * 2 ^ 8) % 2 ^ 32 = 2 ^ 8 * (w % 2 ^ 24) by omega, Nat.mod_eq_of_lt (show β < 2 ^ 32 by omega), ← Nat.two_pow_add_eq_or_of_lt (show β < 2 ^ 8 by omega)]
  omega
/-- what the reading of a word comes to -/
def z_nf (a : Nat) (hh : g_H) (F0 : Nat → Int32) (A : Nat → List Int32) (bs : List Int32) (k n w : Nat) : g_P := fun oc hE => ∃ F', o_Z hE a F' A ∧ (∀ j, j ≠ 37 → j ≠ 39 → F' j = F0 j) ∧ g_Fr a (a + 18) hh hE ∧ ((k + n ≤ bs.length ∧ oc = .inl (some (.int (nI (d_wf n w (bs.drop k))))) ∧ F' 39 = F0 39 ∧ z_ps F' A bs (k + n)) ∨ (bs.length < k + n ∧ (∃ y, oc = .inl (some (.int y))) ∧ F' 39 = 0 ∧ ∃ k', z_ps F' A bs k'))
theorem x_Z_fourB {l : Launch} {a k0 n0 w0 : Nat} {hh : g_H} {F0 : Nat → Int32} {A : Nat → List Int32} {bs : List Int32} (hlt : bs.length < k0 + n0) : ∀ (n i k : Nat) (v : Int32) (F : Nat → Int32) (h : g_H), n + i = 4 → F 39 = 0 → bs.length ≤ k → o_Z h a F A → z_ps F A bs k → (∀ j, j ≠ 37 → j ≠ 39 → F j = F0 j) → g_Fr a (a + 18) hh h →
    g_X l J_Z_nextFour 4 [some (.ref a), some (.int v), some (.int (nI i))] [] h (z_nf a hh F0 A bs k0 n0 w0) := by
  intro n
  induction n with
  | zero =>
    intro i k v F h hn hg hk hZ hs eF hF
    have : i = 4 := by omega
    subst this
    refine g_go ok_Z_nextFour [4] 40 ?_
    refine g_br_t (by decide) ?_
    exact ⟨F, hZ, eF, hF, Or.inr ⟨hlt, ⟨_, rfl⟩, hg, k, hs⟩⟩
  | succ n ih =>
    intro i k v F h hn hg hk hZ hs eF hF
    refine g_go ok_Z_nextFour [4] 40 ?_
    refine g_br_f (show ¬ (4 : Int32) ≤ nI i from nI_ge (b := 4) (by omega) (by omega)) ?_
    refine g_cv_i hZ.1 (c_Z_next hZ hs) (fun oc h1 hp => ?_)
    obtain ⟨F1, z1, e1, f1, hc⟩ := hp
    rcases hc with ⟨x, hx, rfl, g37, g39⟩ | ⟨hkl, rfl, g37, g39⟩
    · have := (List.getElem?_eq_some_iff.mp hx).1
      omega
    · refine ⟨_, rfl, ?_⟩
      have key := ih (i + 1) k ((v <<< ((8 : Int32) &&& 31)) ||| 0) F1 h1 (by omega) g39 hk z1 (z_ps_mv hs hs.1 g37 (e1 38 (by omega) (by omega))) (fun j j1 j2 => (e1 j j1 j2).trans (eF j j1 j2)) (g_Fr_tr hF f1)
      rw [← nI_1 i] at key
      exact key
theorem x_Z_four {l : Launch} {a k0 : Nat} {hh : g_H} {F0 : Nat → Int32} {A : Nat → List Int32} {bs : List Int32} : ∀ (n i w k : Nat) (F : Nat → Int32) (h : g_H), n + i = 4 → k = k0 + i → d_wf n w (bs.drop k) = d_wf 4 0 (bs.drop k0) → F 39 = F0 39 → o_Z h a F A → z_ps F A bs k → (∀ j, j ≠ 37 → j ≠ 39 → F j = F0 j) → g_Fr a (a + 18) hh h →
    g_X l J_Z_nextFour 4 [some (.ref a), some (.int (nI w)), some (.int (nI i))] [] h (z_nf a hh F0 A bs k0 4 0) := by
  intro n
  induction n with
  | zero =>
    intro i w k F h hn hk hw hg hZ hs eF hF
    have : i = 4 := by omega
    subst this
    refine g_go ok_Z_nextFour [4] 40 ?_
    refine g_br_t (by decide) ?_
    have hkl := hs.1
    refine ⟨F, hZ, eF, hF, Or.inl ⟨by omega, ?_, hg, by rw [← hk]; exact hs⟩⟩
    rw [← hw]
    rfl
  | succ n ih =>
    intro i w k F h hn hk hw hg hZ hs eF hF
    refine g_go ok_Z_nextFour [4] 40 ?_
    refine g_br_f (show ¬ (4 : Int32) ≤ nI i from nI_ge (b := 4) (by omega) (by omega)) ?_
    refine g_cv_i hZ.1 (c_Z_next hZ hs) (fun oc h1 hp => ?_)
    obtain ⟨F1, z1, e1, f1, hc⟩ := hp
    have eF1 : ∀ j, j ≠ 37 → j ≠ 39 → F1 j = F0 j := fun j j1 j2 => (e1 j j1 j2).trans (eF j j1 j2)
    rcases hc with ⟨x, hx, rfl, g37, g39⟩ | ⟨hkl, rfl, g37, g39⟩
    · have hkl := (List.getElem?_eq_some_iff.mp hx).1
      obtain ⟨x', hx', hdr⟩ := l_drop (xs := bs) (i := k) hkl
      cases hx.symm.trans hx'
      obtain ⟨β, hβ, rfl⟩ := o_by_at hs.2.2.2.2.2 hx
      refine ⟨_, rfl, ?_⟩
      have key := ih (i + 1) (w * 256 + β) (k + 1) F1 h1 (by omega) (by omega) (by
        rw [← hw, hdr]
        simp only [d_wf]
        rw [nI_tn hβ]) (g39.trans hg) z1 (z_ps_mv hs hkl g37 (e1 38 (by omega) (by omega))) eF1 (g_Fr_tr hF f1)
      rw [← nI_1 i, ← n_sh8 hβ] at key
      exact key
    · refine ⟨_, rfl, ?_⟩
      have key := x_Z_fourB (l := l) (k0 := k0) (n0 := 4) (w0 := 0) (hh := hh) (F0 := F0) (by omega) n (i + 1) k ((nI w <<< ((8 : Int32) &&& 31)) ||| 0) F1 h1 (by omega) g39 hkl z1 (z_ps_mv hs hs.1 g37 (e1 38 (by omega) (by omega))) eF1 (g_Fr_tr hF f1)
      rw [← nI_1 i] at key
      exact key
theorem c_Z_nextFour {l : Launch} {h : g_H} {a k : Nat} {F : Nat → Int32} {A : Nat → List Int32} {bs : List Int32} (hZ : o_Z h a F A) (hs : z_ps F A bs k) : g_Run l J_Z_nextFour [.ref a] h (z_nf a h F A bs k 4 0) := by
  refine go_Z_nextFour [4] 40 ?_
  exact x_Z_four 4 0 0 k F h rfl rfl rfl rfl hZ hs (fun _ _ _ => rfl) (g_Fr_rf _ _ _)
/-- rows that were got, with their times -/
def z_gt (F : Nat → Int32) (A : Nat → List Int32) (gs : List (o_Rw × Int32)) : Prop := F 36 = nI gs.length ∧ gs.length ≤ 110 ∧ (A 14).take gs.length = gs.map (·.1.1) ∧ (A 15).take gs.length = gs.map (·.1.2.1) ∧ (A 16).take gs.length = gs.map (·.1.2.2) ∧ (A 17).take gs.length = gs.map (·.2)
theorem l_putm {α : Type} {ys : List Int32} {xs : List α} {f : α → Int32} {x : α} {v : Int32} (h : ys.take xs.length = xs.map f) (hl : xs.length < ys.length) (hv : v = f x) : (ys.set xs.length v).take (xs ++ [x]).length = (xs ++ [x]).map f := by
  have := l_put (ys := ys) (xs := xs.map f) (v := v) (by rw [List.length_map]; exact h) (by rw [List.length_map]; exact hl)
  rw [List.length_map] at this
  rw [List.map_append, List.map_singleton, ← hv, ← this]
  simp
theorem c_Z_get {l : Launch} {h : g_H} {a : Nat} {F : Nat → Int32} {A : Nat → List Int32} {gs : List (o_Rw × Int32)} (r : o_Rw) (t : Int32) (hZ : o_Z h a F A) (hg : z_gt F A gs) : g_Run l J_Z_get [.ref a, .int r.1, .int r.2.1, .int r.2.2, .int t] h (fun oc hE => oc = .inl none ∧ ∃ F' A', o_Z hE a F' A' ∧ (∀ j, j ≠ 36 → j ≠ 39 → F' j = F j) ∧ (∀ i, i < 14 → A' i = A i) ∧ g_Fr a (a + 18) h hE ∧ ((gs.length < 110 ∧ z_gt F' A' (gs ++ [(r, t)]) ∧ F' 39 = F 39) ∨ (gs.length = 110 ∧ z_gt F' A' gs ∧ F' 39 = 0))) := by
  obtain ⟨g0, g1, g2, g3, g4, g5⟩ := hg
  have l14 : (A 14).length = 110 := hZ.2.2.2 14 (by omega) (by omega)
  have l15 : (A 15).length = 110 := hZ.2.2.2 15 (by omega) (by omega)
  have l16 : (A 16).length = 110 := hZ.2.2.2 16 (by omega) (by omega)
  have l17 : (A 17).length = 110 := hZ.2.2.2 17 (by omega) (by omega)
  refine go_Z_get [] 60 ?_
  refine g_gt_i hZ.1 rfl ?_
  by_cases q : gs.length = 110
  · refine g_br_f (show ¬ ¬ F 36 = 110 from fun z => z (by rw [g0, q]; rfl)) ?_
    refine g_pt_j (z_fs a (z_u F 39 0)) hZ.1 (Nat.le_of_ble_eq_true rfl) rfl rfl rfl ?_
    obtain ⟨z1, f1⟩ := z_fld hZ (z_u F 39 0)
    exact ⟨rfl, _, A, z1, fun j _ j2 => z_u_ne j2, fun _ _ => rfl, f1, Or.inr ⟨q, ⟨g0, g1, g2, g3, g4, g5⟩, rfl⟩⟩
  · have q : gs.length < 110 := by omega
    refine g_br_t (show ¬ F 36 = 110 by rw [g0]; exact fun z => absurd ((nI_eq (b := 110) (by omega) (by omega)).mp z) (by omega)) ?_
    have ec : (F 36).toNatClampNeg = gs.length := by rw [g0]; exact nI_clamp (by omega)
    have vi : ∀ n : Nat, n = 110 → vp_in (F 36) n := fun n hn => by rw [g0]; exact vp_in_nI (by omega) (by omega)
    refine g_gt_i hZ.1 rfl ?_
    refine g_gt_i hZ.1 rfl ?_
    refine g_as_i (hZ.2.2.1 14 (by omega) (by omega)) (vi _ l14) ?_
    obtain ⟨z1, f1⟩ := z_arr hZ 14 (F 36).toNatClampNeg r.1 (by omega) (by omega)
    refine g_gt_i z1.1 rfl ?_
    refine g_gt_i z1.1 rfl ?_
    refine g_as_i (z1.2.2.1 15 (by omega) (by omega)) (vi _ l15) ?_
    obtain ⟨z2, f2⟩ := z_arr z1 15 (F 36).toNatClampNeg r.2.1 (by omega) (by omega)
    refine g_gt_i z2.1 rfl ?_
    refine g_gt_i z2.1 rfl ?_
    refine g_as_i (z2.2.2.1 16 (by omega) (by omega)) (vi _ l16) ?_
    obtain ⟨z3, f3⟩ := z_arr z2 16 (F 36).toNatClampNeg r.2.2 (by omega) (by omega)
    refine g_gt_i z3.1 rfl ?_
    refine g_gt_i z3.1 rfl ?_
    refine g_as_i (z3.2.2.1 17 (by omega) (by omega)) (vi _ l17) ?_
    obtain ⟨z4, f4⟩ := z_arr z3 17 (F 36).toNatClampNeg t (by omega) (by omega)
    refine g_gt_i z4.1 rfl ?_
    refine g_pt_j (z_fs a (z_u F 36 (F 36 + 1))) z4.1 (Nat.le_of_ble_eq_true rfl) rfl rfl rfl ?_
    obtain ⟨z5, f5⟩ := z_fld z4 (z_u F 36 (F 36 + 1))
    refine ⟨rfl, _, _, z5, fun j j1 _ => z_u_ne j1, fun i hi => ?_, g_Fr_tr f1 (g_Fr_tr f2 (g_Fr_tr f3 (g_Fr_tr f4 f5))), Or.inl ⟨q, ⟨?_, ?_, ?_, ?_, ?_, ?_⟩, rfl⟩⟩
    · rw [z_u_ne (by omega), z_u_ne (by omega), z_u_ne (by omega), z_u_ne (by omega)]
    · show F 36 + 1 = _
      rw [g0, nI_1]
      simp
    · simp
      omega
    · show ((A 14).set (F 36).toNatClampNeg r.1).take _ = _
      rw [ec]
      exact l_putm g2 (by omega) rfl
    · show ((A 15).set (F 36).toNatClampNeg r.2.1).take _ = _
      rw [ec]
      exact l_putm g3 (by omega) rfl
    · show ((A 16).set (F 36).toNatClampNeg r.2.2).take _ = _
      rw [ec]
      exact l_putm g4 (by omega) rfl
    · show ((A 17).set (F 36).toNatClampNeg t).take _ = _
      rw [ec]
      exact l_putm g5 (by omega) rfl
