/-! LastValues.use; Memory -/
def o_use (cap : Nat) (xs : List Int32) (v : Int32) : List Int32 := match o_fnd xs v with
  | some i => v :: (xs.take i ++ xs.drop (i + 1))
  | none => (v :: xs).take cap
theorem o_use_step {xs : List Int32} {v : Int32} {i : Nat} (hi : i < xs.length) : ((v :: xs).take i ++ xs.drop i).set i ((v :: xs).getD i 0) = (v :: xs).take (i + 1) ++ xs.drop (i + 1) := by
  have e1 : ((v :: xs).take i).length = i := by
    rw [List.length_take, List.length_cons]
    omega
  rw [List.set_append_right _ _ (by omega), e1, Nat.sub_self, List.drop_eq_getElem_cons hi, List.set_cons_zero, List.take_succ, List.append_assoc]
  congr 1
  have : (v :: xs)[i]? = some ((v :: xs).getD i 0) := by
    rw [List.getD_eq_getElem?_getD, List.getElem?_eq_getElem (by rw [List.length_cons]; omega)]
    rfl
  rw [this]
  rfl
theorem x_V_use {l : Launch} {a : Nat} {xs : List Int32} {v : Int32} {hh : g_H} : ∀ (d i : Nat) (c4 : Option Value) (h : g_H), xs.length - i = d → i ≤ xs.length → (∀ j, j < i → xs[j]? ≠ some v) → o_V h a ((v :: xs).take i ++ xs.drop i) → g_Fr a (a + 3) hh h →
    g_X l J_V_use 4 [some (.ref a), some (.int v), some (.int ((v :: xs).getD i 0)), some (.int (nI i)), c4] [] h (fun oc hE => oc = .inl none ∧ o_V hE a (o_use 8 xs v) ∧ g_Fr a (a + 3) hh hE) := by
  intro d
  induction d with
  | zero =>
    intro i c4 h hd hi hn hV hF
    have e0 : i = xs.length := by omega
    subst e0
    have hl := g_I_len hV.2
    have el : ((v :: xs).take xs.length ++ xs.drop xs.length).length = xs.length := by simp
    rw [el] at hl
    refine g_go ok_V_use [4] 60 ?_
    refine g_gt_i hV.1 rfl ?_
    refine g_cv_i (g_I_ty hV.2) (c_I_size hV.2) (fun oc h1 hp => ?_)
    obtain ⟨rfl, rfl⟩ := hp
    refine ⟨_, rfl, ?_⟩
    rw [el]
    refine g_br_t (show nI xs.length ≤ nI xs.length from nI_le (by omega) (by omega)) ?_
    refine g_gt_i hV.1 rfl ?_
    refine g_cv_i (g_I_ty hV.2) (c_I_add hV.2) (fun oc h1 hp => ?_)
    obtain ⟨rfl, i1, f1⟩ := hp
    refine ⟨_, rfl, ?_⟩
    refine ⟨rfl, ⟨(f1.2 a (by omega)).trans hV.1, ?_⟩, g_Fr_tr hF (g_Fr_wd f1 (by omega) (by omega))⟩
    have : v_add 8 ((v :: xs).take xs.length ++ xs.drop xs.length) ((v :: xs).getD xs.length 0) = o_use 8 xs v := by
      unfold o_use v_add
      rw [o_fnd_none hn, List.drop_length, List.append_nil]
      have e2 : (v :: xs).take xs.length ++ [(v :: xs).getD xs.length 0] = v :: xs := by
        have e3 : (v :: xs)[xs.length]? = some ((v :: xs).getD xs.length 0) := by
          rw [List.getD_eq_getElem?_getD, List.getElem?_eq_getElem (by rw [List.length_cons]; omega)]
          rfl
        have e4 := List.take_succ (l := v :: xs) (i := xs.length)
        rw [e3] at e4
        rw [List.take_of_length_le (by rw [List.length_cons]; omega)] at e4
        exact e4.symm
      rw [e2]
    rw [this] at i1
    exact i1
  | succ d ih =>
    intro i c4 h hd hi hn hV hF
    have hl := g_I_len hV.2
    have el : ((v :: xs).take i ++ xs.drop i).length = xs.length := by simp; omega
    rw [el] at hl
    refine g_go ok_V_use [4] 60 ?_
    refine g_gt_i hV.1 rfl ?_
    refine g_cv_i (g_I_ty hV.2) (c_I_size hV.2) (fun oc h1 hp => ?_)
    obtain ⟨rfl, rfl⟩ := hp
    refine ⟨_, rfl, ?_⟩
    rw [el]
    refine g_br_f (show ¬ nI xs.length ≤ nI i from nI_ge (by omega) (by omega)) ?_
    refine g_gt_i hV.1 rfl ?_
    refine g_cv_i (g_I_ty hV.2) (c_I_at hV.2) (fun oc h1 hp => ?_)
    obtain ⟨rfl, rfl⟩ := hp
    refine ⟨_, rfl, ?_⟩
    have eg : v_at ((v :: xs).take i ++ xs.drop i) (nI i) = xs.getD i 0 := by
      rw [v_at_nI (by omega) (by omega), List.getD_eq_getElem?_getD, List.getD_eq_getElem?_getD, List.getElem?_append_right (by simp; omega), List.getElem?_drop]
      congr 2
      simp
      omega
    rw [eg]
    refine g_gt_i hV.1 rfl ?_
    refine g_cv_i (g_I_ty hV.2) (c_I_set hV.2) (fun oc h2 hp => ?_)
    obtain ⟨rfl, i2, f2⟩ := hp
    refine ⟨_, rfl, ?_⟩
    have es : v_set ((v :: xs).take i ++ xs.drop i) (nI i) ((v :: xs).getD i 0) = (v :: xs).take (i + 1) ++ xs.drop (i + 1) := by
      unfold v_set
      rw [if_pos (v_in_nI (by omega) (by omega)), nI_clamp (by omega)]
      exact o_use_step (by omega)
    rw [es] at i2
    have hV2 : o_V h2 a ((v :: xs).take (i + 1) ++ xs.drop (i + 1)) := ⟨(f2.2 a (by omega)).trans hV.1, i2⟩
    have hF2 := g_Fr_tr hF (g_Fr_wd (lo' := a) (hi' := a + 3) f2 (by omega) (by omega))
    have hg : xs[i]? = some (xs.getD i 0) := by
      rw [List.getD_eq_getElem?_getD, List.getElem?_eq_getElem (by omega)]
      rfl
    refine g_br_i (fun q => ?_) (fun q => ?_)
    · have := ih (i + 1) (some (.int (xs.getD i 0))) h2 (by omega) (by omega) (fun j hj => by
        rcases Nat.lt_or_ge j i with z | z
        · exact hn j z
        · rw [show j = i by omega, hg]
          exact fun e => q (Option.some.inj e)) hV2 hF2
      rw [← nI_1] at this
      exact this
    · have q : xs.getD i 0 = v := Classical.not_not.mp q
      refine ⟨rfl, ?_, hF2⟩
      unfold o_use
      rw [o_fnd_some (by rw [hg, q]) hn]
      exact hV2
theorem c_V_use {l : Launch} {h : g_H} {a : Nat} {xs : List Int32} {v : Int32} (hV : o_V h a xs) : g_Run l J_V_use [.ref a, .int v] h (fun oc hE => oc = .inl none ∧ o_V hE a (o_use 8 xs v) ∧ g_Fr a (a + 3) h hE) := by
  refine go_V_use [4] 20 ?_
  exact x_V_use xs.length 0 none h rfl (Nat.zero_le _) (fun j hj => absurd hj (by omega)) hV (g_Fr_rf _ _ _)
/-- what a block's rows so far say: loads (place, stride), stores, the last values, jump, time -/
abbrev o_Mm : Type := (Int32 × Int32) × (Int32 × Int32) × List Int32 × Int32 × Int32
def o_M (h : g_H) (a : Nat) (m : o_Mm) : Prop := h.1 a = some (.inr (4, [.ref (a + 1), .ref (a + 2), .ref (a + 3), .int m.2.2.2.1, .int m.2.2.2.2])) ∧ o_L h (a + 1) m.1.1 m.1.2 ∧ o_L h (a + 2) m.2.1.1 m.2.1.2 ∧ o_V h (a + 3) m.2.2.1
theorem o_M_Fr {h h1 : g_H} {a lo hi : Nat} {m : o_Mm} (hM : o_M h a m) (hf : g_Fr lo hi h h1) (hd : a + 6 ≤ lo ∨ hi ≤ a) : o_M h1 a m := ⟨(hf.2 a (by omega)).trans hM.1, o_L_Fr hM.2.1 hf (by omega), o_L_Fr hM.2.2.1 hf (by omega), o_V_Fr hM.2.2.2 hf (by omega)⟩
theorem c_M_init {l : Launch} {f : Nat → Option g_E} {w a : Nat} (h0 : f a = some (.inr (4, [.null, .null, .null, .int 0, .int 0]))) : g_Run l J_M_init [.ref a] (f, a + 1, w) (fun oc hE => oc = .inl none ∧ o_M hE a ((0, 0), (0, 0), [], 0, 0) ∧ g_Nw a (a + 6) 15 (f, a + 1, w) hE) := by
  refine go_M_init [] 60 ?_
  refine g_cs_i c_L_init (fun oc h1 hp => ?_)
  obtain ⟨rfl, rfl⟩ := hp
  refine ⟨_, rfl, ?_⟩
  refine g_pt_i ((g_nw_ne (by show a ≠ a + 1; omega)).trans h0) (Nat.le_of_ble_eq_true rfl) rfl rfl ?_
  refine g_cs_i c_L_init (fun oc h1 hp => ?_)
  obtain ⟨rfl, rfl⟩ := hp
  refine ⟨_, rfl, ?_⟩
  refine g_pt_i ((g_nw_ne (by show a ≠ a + 2; omega)).trans g_up_eq) (Nat.le_of_ble_eq_true rfl) rfl rfl ?_
  refine g_cs_i (c_V_init (a := a + 3) (g_nw_eq (n := 1) rfl)) (fun oc h1 hp => ?_)
  obtain ⟨f1, _, w1⟩ := h1
  obtain ⟨rfl, i1, rfl, rfl, n1⟩ := hp
  refine ⟨_, rfl, ?_⟩
  refine g_pt_i (show f1 a = _ from (n1 a (by omega)).trans ((g_nw_ne (by show a ≠ a + 3; omega)).trans g_up_eq)) (Nat.le_of_ble_eq_true rfl) rfl rfl ?_
  refine ⟨rfl, ⟨g_up_eq, ?_, ?_, ?_⟩, rfl, rfl, fun q hq => ?_⟩
  · exact (g_up_ne (by omega)).trans ((n1 _ (by omega)).trans ((g_nw_ne (by show a + 1 ≠ a + 3; omega)).trans ((g_up_ne (by omega)).trans ((g_nw_ne (by show a + 1 ≠ a + 2; omega)).trans ((g_up_ne (by omega)).trans (g_nw_eq rfl))))))
  · exact (g_up_ne (by omega)).trans ((n1 _ (by omega)).trans ((g_nw_ne (by show a + 2 ≠ a + 3; omega)).trans ((g_up_ne (by omega)).trans (g_nw_eq rfl))))
  · exact ⟨(g_up_ne (by omega)).trans i1.1, g_I_fr i1.2 (g_up_ne (by omega)) (g_up_ne (by omega))⟩
  · exact (g_up_ne (by omega)).trans ((n1 _ (by omega)).trans ((g_nw_ne (by show q ≠ a + 3; omega)).trans ((g_up_ne (by omega)).trans ((g_nw_ne (by show q ≠ a + 2; omega)).trans ((g_up_ne (by omega)).trans (g_nw_ne (by show q ≠ a + 1; omega)))))))
theorem c_M_begin {l : Launch} {h : g_H} {a : Nat} {m : o_Mm} {t : Int32} (hM : o_M h a m) : g_Run l J_M_begin [.ref a, .int t] h (fun oc hE => oc = .inl none ∧ o_M hE a ((0, 0), (0, 0), [], 0, t) ∧ g_Fr a (a + 6) h hE) := by
  refine go_M_begin [] 60 ?_
  refine g_gt_i hM.1 rfl ?_
  refine g_cv_i hM.2.1 (c_L_clear hM.2.1) (fun oc h1 hp => ?_)
  obtain ⟨rfl, i1, f1⟩ := hp
  refine ⟨_, rfl, ?_⟩
  have b1 := (f1.2 a (by omega)).trans hM.1
  have s1 := o_L_Fr hM.2.2.1 f1 (by omega)
  refine g_gt_i b1 rfl ?_
  refine g_cv_i s1 (c_L_clear s1) (fun oc h2 hp => ?_)
  obtain ⟨rfl, i2, f2⟩ := hp
  refine ⟨_, rfl, ?_⟩
  have b2 := (f2.2 a (by omega)).trans b1
  have v2 := o_V_Fr (o_V_Fr hM.2.2.2 f1 (by omega)) f2 (by omega)
  refine g_gt_i b2 rfl ?_
  refine g_cv_i v2.1 (c_V_clear v2) (fun oc h3 hp => ?_)
  obtain ⟨rfl, i3, f3⟩ := hp
  refine ⟨_, rfl, ?_⟩
  have b3 := (f3.2 a (by omega)).trans b2
  refine g_pt_i b3 (Nat.le_of_ble_eq_true rfl) rfl rfl ?_
  refine g_pt_i g_up_eq (Nat.le_of_ble_eq_true rfl) rfl rfl ?_
  have f4 : g_Fr a (a + 1) h3 (g_up (g_up h3 a (.inr (4, [.ref (a + 1), .ref (a + 2), .ref (a + 3), .int 0, .int m.2.2.2.2]))) a (.inr (4, [.ref (a + 1), .ref (a + 2), .ref (a + 3), .int 0, .int t]))) := g_Fr_tr (g_Fr_up (by omega) (by omega)) (g_Fr_up (by omega) (by omega))
  exact ⟨rfl, ⟨g_up_eq, o_L_Fr (o_L_Fr (o_L_Fr i1 f2 (by omega)) f3 (by omega)) f4 (by omega), o_L_Fr (o_L_Fr i2 f3 (by omega)) f4 (by omega), o_V_Fr i3 f4 (by omega)⟩, g_Fr_tr (g_Fr_wd f1 (by omega) (by omega)) (g_Fr_tr (g_Fr_wd f2 (by omega) (by omega)) (g_Fr_tr (g_Fr_wd f3 (by omega) (by omega)) (g_Fr_wd f4 (by omega) (by omega))))⟩
