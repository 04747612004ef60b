/-! Unpacker: jumps, loads, stores, times -/
theorem o_U_mj {h : g_H} {a : Nat} {ins : List Int32} {m : o_Mm} {rs : List o_Rw} {o t pl : Int32} (j t2 : Int32) (hU : o_U h a ins m rs o t pl) : o_U (g_up h (a + 3) (.inr (4, [.ref (a + 3 + 1), .ref (a + 3 + 2), .ref (a + 3 + 3), .int j, .int t2]))) a ins (m.1, m.2.1, m.2.2.1, j, t2) rs o t pl ∧ g_Fr a (a + 16) h (g_up h (a + 3) (.inr (4, [.ref (a + 3 + 1), .ref (a + 3 + 2), .ref (a + 3 + 3), .int j, .int t2]))) := by
  have f1 : g_Fr (a + 3) (a + 4) h (g_up h (a + 3) (.inr (4, [.ref (a + 3 + 1), .ref (a + 3 + 2), .ref (a + 3 + 3), .int j, .int t2]))) := g_Fr_up (by omega) (by omega)
  exact ⟨⟨(f1.2 a (by omega)).trans hU.1, g_I_Fr hU.2.1 f1 (by omega), ⟨g_up_eq, o_L_Fr hU.2.2.1.2.1 f1 (by omega), o_L_Fr hU.2.2.1.2.2.1 f1 (by omega), o_V_Fr hU.2.2.1.2.2.2 f1 (by omega)⟩, o_B_Fr hU.2.2.2 f1 (by omega)⟩, g_Fr_wd f1 (by omega) (by omega)⟩
theorem o_U_ld {h h1 : g_H} {a : Nat} {ins : List Int32} {m : o_Mm} {rs : List o_Rw} {o t pl p s : Int32} (hU : o_U h a ins m rs o t pl) (hL : o_L h1 (a + 3 + 1) p s) (f1 : g_Fr (a + 3 + 1) (a + 3 + 1 + 1) h h1) : o_U h1 a ins ((p, s), m.2) rs o t pl :=
  ⟨(f1.2 a (by omega)).trans hU.1, g_I_Fr hU.2.1 f1 (by omega), ⟨(f1.2 (a + 3) (by omega)).trans hU.2.2.1.1, hL, o_L_Fr hU.2.2.1.2.2.1 f1 (by omega), o_V_Fr hU.2.2.1.2.2.2 f1 (by omega)⟩, o_B_Fr hU.2.2.2 f1 (by omega)⟩
theorem o_U_st {h h1 : g_H} {a : Nat} {ins : List Int32} {m : o_Mm} {rs : List o_Rw} {o t pl p s : Int32} (hU : o_U h a ins m rs o t pl) (hL : o_L h1 (a + 3 + 2) p s) (f1 : g_Fr (a + 3 + 2) (a + 3 + 2 + 1) h h1) : o_U h1 a ins (m.1, (p, s), m.2.2) rs o t pl :=
  ⟨(f1.2 a (by omega)).trans hU.1, g_I_Fr hU.2.1 f1 (by omega), ⟨(f1.2 (a + 3) (by omega)).trans hU.2.2.1.1, o_L_Fr hU.2.2.1.2.1 f1 (by omega), hL, o_V_Fr hU.2.2.1.2.2.2 f1 (by omega)⟩, o_B_Fr hU.2.2.2 f1 (by omega)⟩
theorem o_U_vs {h h1 : g_H} {a : Nat} {ins vs : List Int32} {m : o_Mm} {rs : List o_Rw} {o t pl : Int32} (hU : o_U h a ins m rs o t pl) (hV : o_V h1 (a + 3 + 3) vs) (f1 : g_Fr (a + 3 + 3) (a + 3 + 3 + 3) h h1) : o_U h1 a ins (m.1, m.2.1, vs, m.2.2.2) rs o t pl :=
  ⟨(f1.2 a (by omega)).trans hU.1, g_I_Fr hU.2.1 f1 (by omega), ⟨(f1.2 (a + 3) (by omega)).trans hU.2.2.1.1, o_L_Fr hU.2.2.1.2.1 f1 (by omega), o_L_Fr hU.2.2.1.2.2.1 f1 (by omega), hV⟩, o_B_Fr hU.2.2.2 f1 (by omega)⟩
def d_jump (m : o_Mm) (x : Nat) (r : List Int32) : Option (o_Mm × List o_Rw × List Int32) := some ((m.1, m.2.1, m.2.2.1, m.2.2.2.1 + d_dif x, m.2.2.2.2), [(1, m.2.2.2.1 + d_dif x, 0)], r)
theorem c_U_takeJump {l : Launch} {h : g_H} {a k x : Nat} {ins : List Int32} {m : o_Mm} {rs : List o_Rw} {o t : Int32} (hx : x < 2 ^ 40) (hk : k ≤ ins.length) (hU : o_U h a ins m rs o t (nI k)) : g_Run l J_U_takeJump [.ref a, .long (lN x)] h (u_P a ins o t h (d_cap rs (d_jump m x (ins.drop k)))) := by
  refine go_U_takeJump [] 40 ?_
  refine g_gt_i hU.1 rfl ?_
  refine g_gt_i hU.2.2.1.1 rfl ?_
  refine g_cs_i (c_T_differenceOf hx) (fun oc h1 hp => ?_)
  obtain ⟨rfl, rfl⟩ := hp
  refine ⟨_, rfl, ?_⟩
  refine g_pt_i hU.2.2.1.1 (Nat.le_of_ble_eq_true rfl) rfl rfl ?_
  obtain ⟨u1, f1⟩ := o_U_mj (m.2.2.2.1 + d_dif x) m.2.2.2.2 hU
  refine g_gt_i u1.1 rfl ?_
  refine g_gt_i u1.1 rfl ?_
  refine g_gt_i u1.2.2.1.1 rfl ?_
  refine g_cv_i (o_B_ty u1.2.2.2) (u_add (1, m.2.2.2.1 + d_dif x, 0) u1) (fun oc h2 hp => ?_)
  obtain ⟨rfl, u2, f2⟩ := hp
  refine ⟨_, rfl, ?_⟩
  exact u_end hk (g_Fr_tr f1 f2) u2
def d_place (p s : Int32) (told : Bool) (x : Nat) : Int32 := if told = true then p + d_dif x else p + s
def d_load (m : o_Mm) (f x : Nat) (r : List Int32) : Option (o_Mm × List o_Rw × List Int32) := some (((d_place m.1.1 m.1.2 (f == 1) x, d_place m.1.1 m.1.2 (f == 1) x - m.1.1), m.2), [(2, d_place m.1.1 m.1.2 (f == 1) x, 0)], r)
theorem c_U_takeLoad {l : Launch} {h : g_H} {a k f x : Nat} {ins : List Int32} {m : o_Mm} {rs : List o_Rw} {o t : Int32} (hf : f < 32) (hx : x < 2 ^ 40) (hk : k ≤ ins.length) (hU : o_U h a ins m rs o t (nI k)) : g_Run l J_U_takeLoad [.ref a, .int (nI f), .long (lN x)] h (u_P a ins o t h (d_cap rs (d_load m f x (ins.drop k)))) := by
  have t1 : ∀ (v : Int32), v = d_place m.1.1 m.1.2 (f == 1) x → g_X l J_U_takeLoad 33 [some (.ref a), some (.int (nI f)), some (.long (lN x)), none, some (.ref (a + 3 + 1))] [.int v, .ref (a + 3 + 1)] h (u_P a ins o t h (d_cap rs (d_load m f x (ins.drop k)))) := by
    intro v hv
    unfold d_load
    rw [← hv]
    refine g_go ok_U_takeLoad [] 40 ?_
    refine g_cv_i hU.2.2.1.2.1 (c_L_goTo hU.2.2.1.2.1) (fun oc h1 hp => ?_)
    obtain ⟨rfl, i1, f1⟩ := hp
    refine ⟨_, rfl, ?_⟩
    have u1 := o_U_ld hU i1 f1
    refine g_gt_i u1.1 rfl ?_
    refine g_cv_i u1.2.2.1.2.1 (c_L_last u1.2.2.1.2.1) (fun oc h2 hp => ?_)
    obtain ⟨rfl, rfl⟩ := hp
    refine ⟨_, rfl, ?_⟩
    refine g_cv_i (o_B_ty u1.2.2.2) (u_add (2, v, 0) u1) (fun oc h3 hp => ?_)
    obtain ⟨rfl, u3, f3⟩ := hp
    refine ⟨_, rfl, ?_⟩
    exact u_end hk (g_Fr_tr (g_Fr_wd f1 (by omega) (by omega)) f3) u3
  refine go_U_takeLoad [33] 40 ?_
  refine g_gt_i hU.1 rfl ?_
  refine g_gt_i hU.2.2.1.1 rfl ?_
  refine g_br_i (fun q => ?_) (fun q => ?_)
  · have q : ¬ f = 1 := fun z => q (by rw [z]; rfl)
    refine g_cv_i hU.2.2.1.2.1 (c_L_expected hU.2.2.1.2.1) (fun oc h1 hp => ?_)
    obtain ⟨rfl, rfl⟩ := hp
    refine ⟨_, rfl, ?_⟩
    exact t1 _ (by unfold d_place; rw [if_neg (by simpa using q)])
  · have q : f = 1 := (nI_eq (b := 1) (by omega) (by omega)).mp (Classical.not_not.mp q)
    refine g_cs_i (c_T_differenceOf hx) (fun oc h1 hp => ?_)
    obtain ⟨rfl, rfl⟩ := hp
    refine ⟨_, rfl, ?_⟩
    refine g_cv_i hU.2.2.1.2.1 (c_L_after hU.2.2.1.2.1) (fun oc h1 hp => ?_)
    obtain ⟨rfl, rfl⟩ := hp
    refine ⟨_, rfl, ?_⟩
    exact t1 _ (by unfold d_place; rw [if_pos (by simpa using q)])
def d_val (vs : List Int32) (vb : Nat) (bs : List Int32) : Option (Int32 × List Int32) := if vb = 8 then (d_word bs).map (fun q => (nI q.1, q.2)) else if vb < vs.length then some (vs.getD vb 0, bs) else none
def d_store (m : o_Mm) (f x : Nat) (bs : List Int32) : Option (o_Mm × List o_Rw × List Int32) := match d_val m.2.2.1 (f % 16) bs with
  | none => none
  | some (v, r) => some ((m.1, (d_place m.2.1.1 m.2.1.2 (Nat.ble 16 f) x, d_place m.2.1.1 m.2.1.2 (Nat.ble 16 f) x - m.2.1.1), o_use 8 m.2.2.1 v, m.2.2.2), [(3, d_place m.2.1.1 m.2.1.2 (Nat.ble 16 f) x, v)], r)
theorem c_U_takeStore {l : Launch} {h : g_H} {a k f x : Nat} {ins : List Int32} {m : o_Mm} {rs : List o_Rw} {o t : Int32} (hby : o_by ins) (hf : f < 32) (hx : x < 2 ^ 40) (hk : k ≤ ins.length) (hU : o_U h a ins m rs o t (nI k)) : g_Run l J_U_takeStore [.ref a, .int (nI f), .long (lN x)] h (u_P a ins o t h (d_cap rs (d_store m f x (ins.drop k)))) := by
  have hv8 := g_I_len hU.2.2.1.2.2.2.2
  -- from the places on
  have t3 : ∀ (v w : Int32) (l5 l8 : Option Value) (l4 : Int32) (k1 : Nat) (h1 : g_H) (Post : g_P), k1 ≤ ins.length → w = d_place m.2.1.1 m.2.1.2 (Nat.ble 16 f) x → o_U h1 a ins m rs o t (nI k1) → (∀ hE oc, u_P a ins o t h1 (d_cap rs (some ((m.1, (w, w - m.2.1.1), o_use 8 m.2.2.1 v, m.2.2.2), [(3, w, v)], ins.drop k1))) oc hE → Post oc hE) →
      g_X l J_U_takeStore 124 [some (.ref a), some (.int (nI f)), some (.long (lN x)), none, some (.int l4), l5, some (.int v), some (.ref (a + 3 + 2)), l8] [.int w, .ref (a + 3 + 2)] h1 Post := by
    intro v w l5 l8 l4 k1 h1 Post hk1 hw u1 hP
    refine g_X_mono (fun oc hE hp => hP hE oc hp) ?_
    refine g_go ok_U_takeStore [] 60 ?_
    refine g_cv_i u1.2.2.1.2.2.1 (c_L_goTo u1.2.2.1.2.2.1) (fun oc h2 hp => ?_)
    obtain ⟨rfl, i2, f2⟩ := hp
    refine ⟨_, rfl, ?_⟩
    have u2 := o_U_st u1 i2 f2
    refine g_gt_i u2.1 rfl ?_
    refine g_gt_i u2.2.2.1.1 rfl ?_
    refine g_cv_i u2.2.2.1.2.2.2.1 (c_V_use u2.2.2.1.2.2.2) (fun oc h3 hp => ?_)
    obtain ⟨rfl, i3, f3⟩ := hp
    refine ⟨_, rfl, ?_⟩
    have u3 := o_U_vs u2 i3 f3
    refine g_gt_i u3.1 rfl ?_
    refine g_cv_i u3.2.2.1.2.2.1 (c_L_last u3.2.2.1.2.2.1) (fun oc h4 hp => ?_)
    obtain ⟨rfl, rfl⟩ := hp
    refine ⟨_, rfl, ?_⟩
    refine g_cv_i (o_B_ty u3.2.2.2) (u_add (3, w, v) u3) (fun oc h4 hp => ?_)
    obtain ⟨rfl, u4, f4⟩ := hp
    refine ⟨_, rfl, ?_⟩
    exact u_end hk1 (g_Fr_tr (g_Fr_wd f2 (by omega) (by omega)) (g_Fr_tr (g_Fr_wd f3 (by omega) (by omega)) f4)) u4
  have t2 : ∀ (v : Int32) (l5 l7 l8 : Option Value) (k1 : Nat) (h1 : g_H), k1 ≤ ins.length → d_val m.2.2.1 (f % 16) (ins.drop k) = some (v, ins.drop k1) → o_U h1 a ins m rs o t (nI k1) → g_Fr a (a + 16) h h1 →
      g_X l J_U_takeStore 91 [some (.ref a), some (.int (nI f)), some (.long (lN x)), none, some (.int (if Nat.ble 16 f = true then 1 else 0)), l5, some (.int v), l7, l8] [] h1 (u_P a ins o t h (d_cap rs (d_store m f x (ins.drop k)))) := by
    intro v l5 l7 l8 k1 h1 hk1 hv u1 F1
    unfold d_store
    rw [hv]
    refine g_go ok_U_takeStore [124] 60 ?_
    refine g_gt_i u1.1 rfl ?_
    refine g_gt_i u1.2.2.1.1 rfl ?_
    by_cases q : Nat.ble 16 f = true
    · rw [if_pos q]
      refine g_br_f (by decide) ?_
      refine g_cs_i (c_T_differenceOf hx) (fun oc h2 hp => ?_)
      obtain ⟨rfl, rfl⟩ := hp
      refine ⟨_, rfl, ?_⟩
      refine g_cv_i u1.2.2.1.2.2.1 (c_L_after u1.2.2.1.2.2.1) (fun oc h2 hp => ?_)
      obtain ⟨rfl, rfl⟩ := hp
      refine ⟨_, rfl, ?_⟩
      have e : m.2.1.1 + d_dif x = d_place m.2.1.1 m.2.1.2 (Nat.ble 16 f) x := by unfold d_place; rw [if_pos q]
      refine t3 v _ l5 l8 _ k1 _ _ hk1 e u1 (fun hE oc hp => ?_)
      rw [e] at hp
      exact u_P_fr F1 hp
    · rw [if_neg q]
      refine g_br_t (by decide) ?_
      refine g_cv_i u1.2.2.1.2.2.1 (c_L_expected u1.2.2.1.2.2.1) (fun oc h2 hp => ?_)
      obtain ⟨rfl, rfl⟩ := hp
      refine ⟨_, rfl, ?_⟩
      have e : m.2.1.1 + m.2.1.2 = d_place m.2.1.1 m.2.1.2 (Nat.ble 16 f) x := by unfold d_place; rw [if_neg q]
      refine t3 v _ l5 l8 _ k1 _ _ hk1 e u1 (fun hE oc hp => ?_)
      rw [e] at hp
      exact u_P_fr F1 hp
  have t1 : ∀ (v5 : Int32), v5 = nI (f % 16) → g_X l J_U_takeStore 26 [some (.ref a), some (.int (nI f)), some (.long (lN x)), none, some (.int (if Nat.ble 16 f = true then 1 else 0)), none, none, none, none] [.int v5] h (u_P a ins o t h (d_cap rs (d_store m f x (ins.drop k)))) := by
    intro v5 hv5
    subst hv5
    have hfm : f % 16 < 16 := Nat.mod_lt _ (by omega)
    refine g_go ok_U_takeStore [91] 60 ?_
    refine g_gt_i hU.1 rfl ?_
    refine g_gt_i hU.2.2.1.1 rfl ?_
    refine g_cv_i hU.2.2.1.2.2.2.1 (c_V_at hU.2.2.1.2.2.2) (fun oc h1 hp => ?_)
    obtain ⟨rfl, rfl⟩ := hp
    refine ⟨_, rfl, ?_⟩
    refine g_br_i (fun q => ?_) (fun q => ?_)
    · have q : ¬ f % 16 = 8 := fun z => q (by rw [z]; rfl)
      refine g_gt_i hU.1 rfl ?_
      refine g_gt_i hU.2.2.1.1 rfl ?_
      refine g_cv_i hU.2.2.1.2.2.2.1 (c_V_has hU.2.2.1.2.2.2) (fun oc h1 hp => ?_)
      obtain ⟨rfl, rfl⟩ := hp
      refine ⟨_, rfl, ?_⟩
      by_cases q2 : f % 16 < m.2.2.1.length
      · rw [if_pos (v_in_nI (by omega) q2)]
        refine g_br_t (by decide) ?_
        refine t2 _ _ _ _ k _ hk ?_ hU (g_Fr_rf _ _ _)
        unfold d_val
        rw [if_neg q, if_pos q2, v_at_nI (by omega) q2]
      · rw [if_neg (v_not_in (by omega) (by omega) (by omega))]
        refine g_br_f (by decide) ?_
        have e : d_store m f x (ins.drop k) = none := by
          unfold d_store d_val
          rw [if_neg q, if_neg q2]
        rw [e]
        exact ⟨by decide, g_Fr_rf _ _ _, rfl, _, _, _, hU⟩
    · have q : f % 16 = 8 := (nI_eq (b := 8) (by omega) (by omega)).mp (Classical.not_not.mp q)
      refine g_cv_i hU.1 (c_U_takeWord hby hk hU) (fun oc h2 hp => ?_)
      obtain ⟨f2, hp⟩ := hp
      cases hw : d_word (ins.drop k) with
      | none =>
        rw [hw] at hp
        obtain ⟨rfl, pl, u2⟩ := hp
        refine ⟨_, rfl, ?_⟩
        refine g_br_f (show ¬ ¬ lg_cmp (-1) (-1) = 0 from fun z => z ((lg_cmp_eq _ _).mpr rfl)) ?_
        have e : d_store m f x (ins.drop k) = none := by
          unfold d_store d_val
          rw [if_pos q, hw]
          rfl
        rw [e]
        exact ⟨by decide, f2, rfl, _, _, _, u2⟩
      | some w =>
        obtain ⟨w, r⟩ := w
        rw [hw] at hp
        obtain ⟨k', hk', hr, rfl, u2⟩ := hp
        refine ⟨_, rfl, ?_⟩
        have hwl : w < 256 ^ 4 := by
          unfold d_word at hw
          split at hw
          next hq =>
            cases hw
            exact d_wf_lt 4 0 _ (o_by_drop hby k) (by decide) (by omega) hq
          next => cases hw
        refine g_br_t (fun z => lQ_m1 (show w < 2 ^ 63 by omega) ((lg_cmp_eq _ _).mp z)) ?_
        refine t2 (lN w).toInt32 _ _ _ k' _ hk' ?_ u2 f2
        unfold d_val
        rw [if_pos q, hw, lN_i, ← hr]
        rfl
  refine go_U_takeStore [26] 40 ?_
  refine g_br_i (fun q => ?_) (fun q => ?_)
  · have q : f < 16 := (nI_ltI (b := 16) (by omega) (by omega)).mp q
    refine g_br_t (by decide) ?_
    have e : Nat.ble 16 f = false := by
      cases hb : Nat.ble 16 f with
      | false => rfl
      | true => exact absurd (Nat.le_of_ble_eq_true hb) (by omega)
    have := t1 (nI f) (by rw [Nat.mod_eq_of_lt q])
    rw [e] at this
    exact this
  · have q : 16 ≤ f := Nat.le_of_not_lt fun z => q (nI_lt (b := 16) z (by omega))
    refine g_br_f (by decide) ?_
    have := t1 (nI f - 16) (by rw [show nI f - 16 = nI (f - 16) from pk_sub (b := 16) q, show f % 16 = f - 16 by omega])
    rw [Nat.ble_eq_true_of_le q] at this
    exact this
