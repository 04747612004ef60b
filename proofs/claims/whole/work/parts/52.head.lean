/-! longs of numbers below 2^63; Unpacker: the head, shields, branches -/
theorem lQ_toInt {n : Nat} (h : n < 2 ^ 63) : (lN n).toInt = (n : Int) := lg_ofNat_toInt (by omega)
theorem lQ_le {a b : Nat} (ha : a < 2 ^ 63) (hb : b < 2 ^ 63) : lN a ≤ lN b ↔ a ≤ b := by rw [Int64.le_iff_toInt_le, lQ_toInt ha, lQ_toInt hb]; omega
theorem lQ_lt {a b : Nat} (ha : a < 2 ^ 63) (hb : b < 2 ^ 63) : lN a < lN b ↔ a < b := by rw [Int64.lt_iff_toInt_lt, lQ_toInt ha, lQ_toInt hb]; omega
theorem lQ_m1 {a : Nat} (ha : a < 2 ^ 63) : ¬ lN a = -1 := fun z => by
  have z2 := congrArg Int64.toInt z
  rw [lQ_toInt ha, show (-1 : Int64).toInt = -1 by decide] at z2
  omega
def d_head (ins : List Int32) : Option (Int32 × Int32 × Nat) := if (ins.getD 0 0).toNatClampNeg < 4 ∧ d_wf 4 0 (ins.drop 1) ≤ 2147483647 ∧ 1 ≤ (ins.getD 5 0).toNatClampNeg ∧ (ins.getD 5 0).toNatClampNeg ≤ 100 then some (ins.getD 0 0, nI (d_wf 4 0 (ins.drop 1)), (ins.getD 5 0).toNatClampNeg) else none
theorem l_getD {xs : List Int32} {i : Nat} {x : Int32} (h : xs[i]? = some x) : xs.getD i 0 = x := by rw [List.getD_eq_getElem?_getD, h]; rfl
theorem o_by_drop {xs : List Int32} (h : o_by xs) (n : Nat) : o_by (xs.drop n) := fun x hx => h x (List.mem_of_mem_drop hx)
theorem o_by_take {xs : List Int32} (h : o_by xs) (n : Nat) : o_by (xs.take n) := fun x hx => h x (List.mem_of_mem_take hx)
theorem c_U_takeHead {l : Launch} {h : g_H} {a : Nat} {ins : List Int32} {m : o_Mm} {rs : List o_Rw} {o t pl : Int32} (hby : o_by ins) (hlen : 7 ≤ ins.length) (hU : o_U h a ins m rs o t pl) : g_Run l J_U_takeHead [.ref a] h (fun oc hE => g_Fr a (a + 16) h hE ∧ match d_head ins with
      | some (o', t', _) => oc = .inl (some (.int 1)) ∧ o_U hE a ins ((0, 0), (0, 0), [], 0, t') [] o' t' (nI 6)
      | none => oc = .inl (some (.int 0)) ∧ ∃ pl', o_U hE a ins m rs o t pl') := by
  have hl := g_I_len hU.2.1
  obtain ⟨b0, hb0, -⟩ := l_drop (xs := ins) (i := 0) (by omega)
  obtain ⟨β, hβ, rfl⟩ := o_by_at hby hb0
  obtain ⟨b5, hb5, -⟩ := l_drop (xs := ins) (i := 5) (by omega)
  obtain ⟨γ, hγ, rfl⟩ := o_by_at hby hb5
  have hw : d_word (ins.drop 1) = some (d_wf 4 0 (ins.drop 1), (ins.drop 1).drop 4) := by
    unfold d_word
    rw [if_pos (by rw [List.length_drop]; omega)]
  have hwl : d_wf 4 0 (ins.drop 1) < 256 ^ 4 := d_wf_lt 4 0 _ (o_by_drop hby 1) (by decide) (by omega) (by rw [List.length_drop]; omega)
  unfold d_head
  rw [l_getD hb0, l_getD hb5, nI_tn hβ, nI_tn hγ]
  refine go_U_takeHead [60] 80 ?_
  refine g_gt_i hU.1 rfl ?_
  refine g_cv_i (g_I_ty hU.2.1) (c_I_at hU.2.1) (fun oc h1 hp => ?_)
  obtain ⟨rfl, rfl⟩ := hp
  rw [show (0 : Int32) = nI 0 from rfl, v_at_some (by omega) hb0]
  refine ⟨_, rfl, ?_⟩
  refine g_gt_i hU.1 rfl ?_
  refine g_cv_i (g_I_ty hU.2.1) (c_I_at hU.2.1) (fun oc h1 hp => ?_)
  obtain ⟨rfl, rfl⟩ := hp
  rw [show (5 : Int32) = nI 5 from rfl, v_at_some (by omega) hb5]
  refine ⟨_, rfl, ?_⟩
  refine g_pt_i hU.1 (Nat.le_of_ble_eq_true rfl) rfl rfl ?_
  obtain ⟨u1, f1⟩ := o_U_up (nI 1) hU
  refine g_cv_i u1.1 (c_U_takeWord (k := 1) hby (by omega) u1) (fun oc h2 hp => ?_)
  rw [hw] at hp
  obtain ⟨f2, k', hk', -, rfl, u2⟩ := hp
  refine ⟨_, rfl, ?_⟩
  generalize d_wf 4 0 (ins.drop 1) = w at hwl ⊢
  have F2 := g_Fr_tr f1 f2
  have tF : ∀ (L : g_L) (Post : g_P), Post (.inl (some (.int 0))) h2 → g_X l J_U_takeHead 60 L [] h2 Post := fun L Post hP => by
    refine g_go ok_U_takeHead [] 10 ?_
    exact ⟨by decide, hP⟩
  refine g_br_i (fun q1 => ?_) (fun q1 => ?_)
  · have q1 : 4 ≤ β := (nI_leI (a := 4) (by omega) (by omega)).mp q1
    refine tF _ _ ?_
    rw [if_neg (by omega)]
    exact ⟨F2, rfl, _, u2⟩
  have q1 : β < 4 := Nat.lt_of_not_le fun z => q1 (nI_le (a := 4) z (by omega))
  refine g_br_f (fun z => lQ_m1 (show w < 2 ^ 63 by omega) ((lg_cmp_eq _ _).mp z)) ?_
  refine g_br_i (fun q2 => ?_) (fun q2 => ?_)
  · have q2 : 2147483647 < w := (lQ_lt (a := 2147483647) (by omega) (by omega)).mp ((lg_cmp_gt _ _).mp q2)
    refine tF _ _ ?_
    rw [if_neg (by omega)]
    exact ⟨F2, rfl, _, u2⟩
  have q2 : w ≤ 2147483647 := Nat.le_of_not_lt fun z => q2 ((lg_cmp_gt _ _).mpr ((lQ_lt (a := 2147483647) (by omega) (by omega)).mpr z))
  refine g_br_i (fun q3 => ?_) (fun q3 => ?_)
  · have q3 : γ < 1 := (nI_ltI (b := 1) (by omega) (by omega)).mp q3
    refine tF _ _ ?_
    rw [if_neg (by omega)]
    exact ⟨F2, rfl, _, u2⟩
  have q3 : 1 ≤ γ := Nat.le_of_not_lt fun z => q3 (nI_lt (b := 1) z (by omega))
  refine g_br_i (fun q4 => ?_) (fun q4 => ?_)
  · have q4 : γ ≤ 100 := (nI_leI (b := 100) (by omega) (by omega)).mp q4
    rw [if_pos ⟨q1, q2, q3, q4⟩]
    refine g_gt_i u2.1 rfl ?_
    refine g_cv_i (o_B_ty u2.2.2.2) (c_B_begin u2.2.2.2) (fun oc h3 hp => ?_)
    obtain ⟨rfl, b3, f3⟩ := hp
    refine ⟨_, rfl, ?_⟩
    have a3 := (f3.2 a (by omega)).trans u2.1
    have m3 := o_M_Fr u2.2.2.1 f3 (by omega)
    have i3 := g_I_Fr u2.2.1 f3 (by omega)
    refine g_gt_i a3 rfl ?_
    refine g_cv_i m3.1 (c_M_begin m3) (fun oc h4 hp => ?_)
    obtain ⟨rfl, m4, f4⟩ := hp
    refine ⟨_, rfl, ?_⟩
    have u4 : o_U h4 a ins ((0, 0), (0, 0), [], 0, (lN w).toInt32) [] (nI β) (lN w).toInt32 (nI k') := ⟨(f4.2 a (by omega)).trans a3, g_I_Fr i3 f4 (by omega), m4, o_B_Fr b3 f4 (by omega)⟩
    refine g_pt_i u4.1 (Nat.le_of_ble_eq_true rfl) rfl rfl ?_
    obtain ⟨u5, f5⟩ := o_U_up (nI 6) u4
    rw [lN_i] at u5
    exact ⟨by decide, g_Fr_tr F2 (g_Fr_tr (g_Fr_wd f3 (by omega) (by omega)) (g_Fr_tr (g_Fr_wd f4 (by omega) (by omega)) f5)), rfl, u5⟩
  · have q4 : 100 < γ := Nat.lt_of_not_le fun z => q4 (nI_le (b := 100) z (by omega))
    refine tF _ _ ?_
    rw [if_neg (by omega)]
    exact ⟨F2, rfl, _, u2⟩
