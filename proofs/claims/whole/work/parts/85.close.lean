/-! TracePacksModel: bytes behind the pack; a block is closed -/
def z_sb (v : Int32) : Int32 := v.toInt8.toInt32
theorem z_sb_id (v : Int32) : (z_sb v).toInt8.toInt32 = z_sb v := by
  unfold z_sb
  rw [Int8.toInt8_toInt32]
def z_pk (F : Nat → Int32) (A : Nat → List Int32) (pk : List Int32) : Prop := F 1 = nI pk.length ∧ pk.length ≤ 16384 ∧ (A 1).take pk.length = pk.map z_sb
theorem c_Z_putByte {l : Launch} {h : g_H} {a : Nat} {F : Nat → Int32} {A : Nat → List Int32} {pk : List Int32} {b : Int32} (hZ : o_Z h a F A) (hp : z_pk F A pk) (hl : pk.length < 16384) : g_Run l J_Z_putByte [.ref a, .int b] h (fun oc hE => oc = .inl none ∧ ∃ F' A', o_Z hE a F' A' ∧ z_pk F' A' (pk ++ [b]) ∧ (∀ k, k ≠ 1 → F' k = F k) ∧ (∀ i, i ≠ 1 → A' i = A i) ∧ g_Fr a (a + 18) h hE) := by
  have h1 : (A 1).length = 16384 := hZ.2.2.2 1 (by omega) (by omega)
  obtain ⟨p1, p2, p3⟩ := hp
  refine go_Z_putByte [] 40 ?_
  refine g_gt_i hZ.1 rfl ?_
  refine g_gt_i hZ.1 rfl ?_
  refine g_asB_i hZ.2.1 (by rw [p1, h1]; exact vp_in_nI (by omega) (by omega)) (congrArg Value.int (z_sb_id b)) ?_
  rw [p1, nI_clamp (by omega)]
  obtain ⟨z1, f1⟩ := z_byt hZ pk.length (z_sb b)
  refine g_gt_i z1.1 rfl ?_
  refine g_pt_j (z_fs a (z_u F 1 (F 1 + 1))) z1.1 (Nat.le_of_ble_eq_true rfl) rfl rfl rfl ?_
  obtain ⟨z2, f2⟩ := z_fld z1 (z_u F 1 (F 1 + 1))
  refine ⟨rfl, _, _, z2, ⟨?_, by simp; omega, ?_⟩, fun k hk => z_u_ne hk, fun i hi => z_u_ne hi, g_Fr_tr f1 f2⟩
  · rw [z_u_eq, p1, nI_1]
    simp
  · rw [z_u_eq]
    have := l_put (ys := A 1) (xs := pk.map z_sb) (v := z_sb b) (by rw [List.length_map]; exact p3) (by rw [List.length_map]; omega)
    rw [List.length_map] at this
    rw [List.map_append]
    simpa using this
theorem c_Z_isShielded {l : Launch} {h : g_H} {v : Int32} : g_Run l J_Z_isShielded [.int v] h (fun oc hE => oc = .inl (some (.int (if v = 126 ∨ v = 125 then 1 else 0))) ∧ hE = h) := by
  refine go_Z_isShielded [] 20 ?_
  refine g_br_i (fun q => ?_) (fun q => ?_)
  · exact ⟨by decide, by rw [if_pos (Or.inl q)], rfl⟩
  · refine g_br_i (fun q2 => ?_) (fun q2 => ?_)
    · exact ⟨by decide, by rw [if_neg (fun z => z.elim q q2)], rfl⟩
    · exact ⟨by decide, by rw [if_pos (Or.inr (Classical.not_not.mp q2))], rfl⟩
theorem x_Z_clen {l : Launch} {h : g_H} {a : Nat} {F : Nat → Int32} {A : Nat → List Int32} {ins : List Int32} (hZ : o_Z h a F A) (hi : z_in F A ins) (hil : ins.length ≤ 1008) {Post : g_P} (hk : ∀ c2, g_X l J_Z_close 51 [some (.ref a), some (.int (nI (1 + (e_sh ins).length))), c2] [] h Post) : ∀ (d i n : Nat), ins.length - i = d → i ≤ ins.length → n + (e_sh (ins.drop i)).length = 1 + (e_sh ins).length →
    g_X l J_Z_close 17 [some (.ref a), some (.int (nI n)), some (.int (nI i))] [] h Post := by
  have h6 : (A 6).length = 16400 := hZ.2.2.2 6 (by omega) (by omega)
  intro d
  induction d with
  | zero =>
    intro i n hd hi2 hn
    refine g_go ok_Z_close [17, 51] 60 ?_
    refine g_gt_i hZ.1 rfl ?_
    refine g_br_t (show F 15 ≤ nI i by rw [hi.1]; exact nI_le (by omega) (by omega)) ?_
    rw [List.drop_eq_nil_of_le (by omega)] at hn
    have hn : n = 1 + (e_sh ins).length := hn
    rw [hn]
    exact hk _
  | succ d ih =>
    intro i n hd hi2 hn
    obtain ⟨x, hx, hdr⟩ := l_drop (xs := ins) (i := i) (by omega)
    have hx2 : (A 6).getD i 0 = x := by
      have hx' := hx
      rw [← hi.2.1, List.getElem?_take, if_pos (by omega)] at hx'
      exact l_getD hx'
    have ec : (e_sh (ins.drop i)).length = (e_sh1 x).length + (e_sh (ins.drop (i + 1))).length := by rw [hdr]; simp [e_sh]
    rw [ec, e_sh1_len] at hn
    refine g_go ok_Z_close [17, 51] 60 ?_
    refine g_gt_i hZ.1 rfl ?_
    refine g_br_f (show ¬ F 15 ≤ nI i by rw [hi.1]; exact nI_ge (by omega) (by omega)) ?_
    refine g_gt_i hZ.1 rfl ?_
    refine g_al_i (hZ.2.2.1 6 (by omega) (by omega)) (by rw [h6]; exact vp_in_nI (by omega) (by omega)) ?_
    rw [nI_clamp (by omega), hx2]
    refine g_cs_i c_Z_isShielded (fun oc h1 hp => ?_)
    obtain ⟨rfl, rfl⟩ := hp
    refine ⟨_, rfl, ?_⟩
    by_cases q : x = 126 ∨ x = 125
    · rw [if_pos q] at hn ⊢
      refine g_br_f (by decide) ?_
      have := ih (i + 1) (n + 2) (by omega) (by omega) (by omega)
      rw [← nI_1 i, ← nI_add] at this
      exact this
    · rw [if_neg q] at hn ⊢
      refine g_br_t (by decide) ?_
      have := ih (i + 1) (n + 1) (by omega) (by omega) (by omega)
      rw [← nI_1 i, ← nI_add] at this
      exact this
theorem x_Z_cput {l : Launch} {a : Nat} {F0 : Nat → Int32} {A0 : Nat → List Int32} {ins : List Int32} {hh : g_H} {c1 : Int32} (hi : z_in F0 A0 ins) (hil : ins.length ≤ 1008) {P : List Int32} (hP : P.length ≤ 16384) {Post : g_P} (hk : ∀ (c2 : Option Value) (F1 : Nat → Int32) (A1 : Nat → List Int32) (h1 : g_H), o_Z h1 a F1 A1 → z_pk F1 A1 P → (∀ k, k ≠ 1 → F1 k = F0 k) → (∀ i, i ≠ 1 → A1 i = A0 i) → g_Fr a (a + 18) hh h1 → g_X l J_Z_close 140 [some (.ref a), some (.int c1), c2] [] h1 Post) : ∀ (d i : Nat) (pk : List Int32) (F : Nat → Int32) (A : Nat → List Int32) (h : g_H), ins.length - i = d → i ≤ ins.length → P = pk ++ e_sh (ins.drop i) → o_Z h a F A → z_pk F A pk → (∀ k, k ≠ 1 → F k = F0 k) → (∀ i, i ≠ 1 → A i = A0 i) → g_Fr a (a + 18) hh h →
    g_X l J_Z_close 73 [some (.ref a), some (.int c1), some (.int (nI i))] [] h Post := by
  intro d
  induction d with
  | zero =>
    intro i pk F A h hd hi2 hPe hZ hp eF eA hF
    refine g_go ok_Z_close [73, 140] 60 ?_
    refine g_gt_i hZ.1 rfl ?_
    refine g_br_t (show F 15 ≤ nI i by rw [eF 15 (by omega), hi.1]; exact nI_le (by omega) (by omega)) ?_
    rw [List.drop_eq_nil_of_le (by omega), show e_sh [] = [] from rfl, List.append_nil] at hPe
    subst hPe
    exact hk _ F A h hZ hp eF eA hF
  | succ d ih =>
    intro i pk F A h hd hi2 hPe hZ hp eF eA hF
    have h6 : (A 6).length = 16400 := hZ.2.2.2 6 (by omega) (by omega)
    obtain ⟨x, hx, hdr⟩ := l_drop (xs := ins) (i := i) (by omega)
    have hx2 : (A 6).getD i 0 = x := by
      have hx' := hx
      rw [← hi.2.1, List.getElem?_take, if_pos (by omega)] at hx'
      rw [eA 6 (by omega)]
      exact l_getD hx'
    have ec : e_sh (ins.drop i) = e_sh1 x ++ e_sh (ins.drop (i + 1)) := by rw [hdr]; simp [e_sh]
    rw [ec] at hPe
    have hPl := congrArg List.length hPe
    rw [List.length_append, List.length_append, e_sh1_len] at hPl
    refine g_go ok_Z_close [73, 140] 90 ?_
    refine g_gt_i hZ.1 rfl ?_
    refine g_br_f (show ¬ F 15 ≤ nI i by rw [eF 15 (by omega), hi.1]; exact nI_ge (by omega) (by omega)) ?_
    refine g_gt_i hZ.1 rfl ?_
    refine g_al_i (hZ.2.2.1 6 (by omega) (by omega)) (by rw [h6]; exact vp_in_nI (by omega) (by omega)) ?_
    rw [nI_clamp (by omega), hx2]
    refine g_cs_i c_Z_isShielded (fun oc h1 hp => ?_)
    obtain ⟨rfl, rfl⟩ := hp
    refine ⟨_, rfl, ?_⟩
    by_cases q : x = 126 ∨ x = 125
    · rw [if_pos q] at hPl ⊢
      refine g_br_f (by decide) ?_
      refine g_cv_i hZ.1 (c_Z_putByte hZ hp (by omega)) (fun oc h2 hp2 => ?_)
      obtain ⟨rfl, F2, A2, z2, p2, e2, d2, f2⟩ := hp2
      refine ⟨_, rfl, ?_⟩
      have h26 : (A2 6).length = 16400 := z2.2.2.2 6 (by omega) (by omega)
      refine g_gt_i z2.1 rfl ?_
      refine g_al_i (z2.2.2.1 6 (by omega) (by omega)) (by rw [h26]; exact vp_in_nI (by omega) (by omega)) ?_
      rw [nI_clamp (by omega), d2 6 (by omega), hx2]
      have fin : ∀ (v : Int32) (oc : g_R) (h3 : g_H), e_sh1 x = [125, v] → (oc = .inl none ∧ ∃ F' A', o_Z h3 a F' A' ∧ z_pk F' A' (pk ++ [125] ++ [v]) ∧ (∀ k, k ≠ 1 → F' k = F2 k) ∧ (∀ i, i ≠ 1 → A' i = A2 i) ∧ g_Fr a (a + 18) h2 h3) → oc = .inl none ∧ g_X l J_Z_close 73 [some (.ref a), some (.int c1), some (.int (nI i + 1))] [] h3 Post := by
        intro v oc h3 hv hp3
        obtain ⟨rfl, F3, A3, z3, p3, e3, d3, f3⟩ := hp3
        refine ⟨rfl, ?_⟩
        have := ih (i + 1) (pk ++ [125] ++ [v]) F3 A3 h3 (by omega) (by omega) (by rw [hPe, hv]; simp) z3 p3 (fun k hk => (e3 k hk).trans ((e2 k hk).trans (eF k hk))) (fun j hj => (d3 j hj).trans ((d2 j hj).trans (eA j hj))) (g_Fr_tr hF (g_Fr_tr f2 f3))
        rw [← nI_1 i] at this
        exact this
      refine g_br_i (fun q3 => ?_) (fun q3 => ?_)
      · have q3 : ¬ x = 126 := q3
        have q4 : x = 125 := q.resolve_left q3
        refine g_cv_i z2.1 (c_Z_putByte z2 p2 (by simp; omega)) (fun oc h3 hp3 => ?_)
        obtain ⟨rfl, kk⟩ := fin 93 oc h3 (by unfold e_sh1; rw [if_neg q3, if_pos q4]) hp3
        exact ⟨_, rfl, kk⟩
      · have q3 : x = 126 := Classical.not_not.mp q3
        refine g_cv_i z2.1 (c_Z_putByte z2 p2 (by simp; omega)) (fun oc h3 hp3 => ?_)
        obtain ⟨rfl, kk⟩ := fin 94 oc h3 (by unfold e_sh1; rw [if_pos q3]) hp3
        exact ⟨_, rfl, kk⟩
    · rw [if_neg q] at hPl ⊢
      refine g_br_t (by decide) ?_
      refine g_gt_i hZ.1 rfl ?_
      refine g_al_i (hZ.2.2.1 6 (by omega) (by omega)) (by rw [h6]; exact vp_in_nI (by omega) (by omega)) ?_
      rw [nI_clamp (by omega), hx2]
      refine g_cv_i hZ.1 (c_Z_putByte hZ hp (by omega)) (fun oc h2 hp2 => ?_)
      obtain ⟨rfl, F2, A2, z2, p2, e2, d2, f2⟩ := hp2
      refine ⟨_, rfl, ?_⟩
      have es : e_sh1 x = [x] := by unfold e_sh1; rw [if_neg (fun z => q (Or.inl z)), if_neg (fun z => q (Or.inr z))]
      have := ih (i + 1) (pk ++ [x]) F2 A2 h2 (by omega) (by omega) (by rw [hPe, es]; simp) z2 p2 (fun k hk => (e2 k hk).trans (eF k hk)) (fun j hj => (d2 j hj).trans (eA j hj)) (g_Fr_tr hF f2)
      rw [← nI_1 i] at this
      exact this
/-- what the model's close comes to, where rows wait -/
theorem c_Z_close {l : Launch} {h : g_H} {a : Nat} {F : Nat → Int32} {A : Nat → List Int32} {rs : List o_Rw} {o t : Int32} {pk : List Int32} (hZ : o_Z h a F A) (hr : z_rw F A rs) (h6 : F 6 = o) (h7 : F 7 = t) (hw : w_ok t rs) (ho : ∃ n : Nat, n < 4 ∧ o = nI n) (ht : ∃ n : Nat, n < 2 ^ 31 ∧ t = nI n) (hp : z_pk F A pk) (hrs : ¬ rs.length = 0) : g_Run l J_Z_close [.ref a] h (fun oc hE => (∃ F' A', o_Z hE a F' A' ∧ o_by (e_in o t rs) ∧
      ((pk.length + (1 + (e_sh (e_in o t rs)).length) ≤ 16384 ∧ oc = .inl (some (.int 1)) ∧ z_pk F' A' (pk ++ 126 :: e_sh (e_in o t rs)) ∧ F' 5 = 0 ∧ F' 12 = F 12 + 1 ∧ (∀ k, k ≠ 1 → k ≠ 5 → k ≠ 12 → k ≠ 15 → k ≠ 17 → k ≠ 18 → k ≠ 19 → F' k = F k) ∧ (∀ i, i ≠ 1 → i ≠ 6 → i ≠ 7 → A' i = A i)) ∨
       (¬ pk.length + (1 + (e_sh (e_in o t rs)).length) ≤ 16384 ∧ oc = .inl (some (.int 0)) ∧ (∀ k, k ≠ 15 → k ≠ 17 → k ≠ 18 → k ≠ 19 → F' k = F k) ∧ (∀ i, i ≠ 6 → i ≠ 7 → A' i = A i)))) ∧ g_Fr a (a + 18) h hE) := by
  have hrl := hr.2.1
  have hpl := hp.2.1
  refine go_Z_close [17] 60 ?_
  refine g_gt_i hZ.1 rfl ?_
  refine g_br_t (show ¬ F 5 = 0 by rw [hr.1]; exact nI_ne0 (by omega) (by omega)) ?_
  refine g_cv_i hZ.1 (c_Z_makeInside hZ hr h6 h7 hw ho ht) (fun oc h1 hp1 => ?_)
  obtain ⟨rfl, F1, A1, z1, i1, e1, d1, f1⟩ := hp1
  refine ⟨_, rfl, ?_⟩
  have hby := i1.2.2.2
  have hil : (e_in o t rs).length ≤ 1008 := by
    unfold e_in e_fin
    exact o_ap_len _ _
  have hsh := e_sh_len_le (e_in o t rs)
  have p1 : z_pk F1 A1 pk := ⟨(e1 1 (by omega) (by omega) (by omega) (by omega)).trans hp.1, hpl, by rw [d1 1 (by omega) (by omega)]; exact hp.2.2⟩
  refine x_Z_clen z1 i1 hil (fun c2 => ?_) (e_in o t rs).length 0 1 rfl (Nat.zero_le _) (by rw [List.drop_zero])
  refine g_go ok_Z_close [73] 60 ?_
  refine g_gt_i z1.1 rfl ?_
  have es : F1 1 + nI (1 + (e_sh (e_in o t rs)).length) = nI (pk.length + (1 + (e_sh (e_in o t rs)).length)) := by rw [p1.1, nI_add]
  by_cases q : pk.length + (1 + (e_sh (e_in o t rs)).length) ≤ 16384
  · refine g_br_t (show F1 1 + nI (1 + (e_sh (e_in o t rs)).length) ≤ 16384 by rw [es]; exact nI_le (b := 16384) q (by omega)) ?_
    refine g_cv_i z1.1 (c_Z_putByte z1 p1 (by omega)) (fun oc h2 hp2 => ?_)
    obtain ⟨rfl, F2, A2, z2, p2, e2, d2, f2⟩ := hp2
    refine ⟨_, rfl, ?_⟩
    have i2 : z_in F2 A2 (e_in o t rs) := ⟨(e2 15 (by omega)).trans i1.1, by rw [d2 6 (by omega)]; exact i1.2.1, i1.2.2⟩
    refine x_Z_cput (P := pk ++ 126 :: e_sh (e_in o t rs)) (hh := h) i2 hil (by simp; omega) (fun c2 F3 A3 h3 z3 p3 e3 d3 f3 => ?_) (e_in o t rs).length 0 (pk ++ [126]) F2 A2 h2 rfl (Nat.zero_le _) (by rw [List.drop_zero]; simp) z2 p2 (fun _ _ => rfl) (fun _ _ => rfl) (g_Fr_tr f1 f2)
    refine g_go ok_Z_close [] 60 ?_
    refine g_pt_j (z_fs a (z_u F3 5 0)) z3.1 (Nat.le_of_ble_eq_true rfl) rfl rfl rfl ?_
    obtain ⟨z4, f4⟩ := z_fld z3 (z_u F3 5 0)
    refine g_gt_i z4.1 rfl ?_
    refine g_pt_j (z_fs a (z_u (z_u F3 5 0) 12 (F3 12 + 1))) z4.1 (Nat.le_of_ble_eq_true rfl) rfl rfl rfl ?_
    obtain ⟨z5, f5⟩ := z_fld z4 (z_u (z_u F3 5 0) 12 (F3 12 + 1))
    refine ⟨by decide, ⟨_, _, z5, hby, Or.inl ⟨q, rfl, ⟨p3.1, p3.2⟩, rfl, ?_, fun k k1 k2 k3 k4 k5 k6 k7 => ?_, fun i j1 j2 j3 => ?_⟩⟩, g_Fr_tr f3 (g_Fr_tr f4 f5)⟩
    · rw [z_u_eq, e3 12 (by omega), e2 12 (by omega), e1 12 (by omega) (by omega) (by omega) (by omega)]
    · rw [z_u_ne k3, z_u_ne k2, e3 k k1, e2 k k1, e1 k k4 k5 k6 k7]
    · rw [d3 i j1, d2 i j1, d1 i j2 j3]
  · refine g_br_f (show ¬ F1 1 + nI (1 + (e_sh (e_in o t rs)).length) ≤ 16384 by rw [es]; exact nI_ge (a := 16384) (by omega) (by omega)) ?_
    exact ⟨by decide, ⟨F1, A1, z1, hby, Or.inr ⟨q, rfl, e1, d1⟩⟩, f1⟩
