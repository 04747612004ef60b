/-! TracePacks: its methods -/
/-- a frame; one exception may have been made -/
def g_Fx (lo hi : Nat) (h h1 : g_H) : Prop := (h1.2 = h.2 ∨ h1.2 = (h.2.1 + 1, h.2.2 + 6)) ∧ ∀ q : Nat, (q < lo ∨ hi ≤ q) → h1.1 q = h.1 q
theorem g_Fx_of {lo hi : Nat} {h h1 : g_H} (hf : g_Fr lo hi h h1) : g_Fx lo hi h h1 := ⟨Or.inl hf.1, hf.2⟩
theorem g_Fx_th {lo hi : Nat} {h h1 : g_H} (hf : g_Fr lo hi h h1) : g_Fx lo hi h (h1.1, h1.2.1 + 1, h1.2.2 + 6) := ⟨Or.inr (by show (h1.2.1 + 1, h1.2.2 + 6) = _; rw [hf.1]), hf.2⟩
theorem o_T_th {h : g_H} {a n w : Nat} {S : q_S} (hT : o_T h a S) : o_T (h.1, n, w) a S := o_T_rg hT (fun _ _ _ => rfl)
abbrev q_cu (S : q_S) (c : Int32 × Int32 × Int32 × Int32) : q_S := (S.1, S.2.1, S.2.2.1, c, S.2.2.2.2)
theorem o_T_cu {h : g_H} {a : Nat} {S : q_S} (c : Int32 × Int32 × Int32 × Int32) (hT : o_T h a S) : o_T (g_up h a (q_cell a c)) a (q_cu S c) ∧ g_Fr a (a + 55) h (g_up h a (q_cell a c)) := by
  obtain ⟨h0, h2, h3, h4, ⟨ins, m, h5⟩, h6⟩ := hT
  have f1 : g_Fr a (a + 1) h (g_up h a (q_cell a c)) := g_Fr_up (by omega) (by omega)
  exact ⟨⟨g_up_eq, g_I_Fr h2 f1 (by omega), g_I_Fr h3 f1 (by omega), o_B_Fr h4 f1 (by omega), ⟨ins, m, o_Q_Fr h5 f1 (by omega)⟩, o_R_Fr h6 f1 (by omega)⟩, g_Fr_wd f1 (by omega) (by omega)⟩
theorem o_T_pk {h h1 : g_H} {a : Nat} {S : q_S} {pk : List Int32} (hT : o_T h a S) (i1 : g_I h1 (a + 1) 16384 pk) (f1 : g_Fr (a + 1) (a + 1 + 2) h h1) : o_T h1 a (pk, S.2) ∧ g_Fr a (a + 55) h h1 := by
  obtain ⟨h0, h2, h3, h4, ⟨ins, m, h5⟩, h6⟩ := hT
  exact ⟨⟨(f1.2 a (by omega)).trans h0, i1, g_I_Fr h3 f1 (by omega), o_B_Fr h4 f1 (by omega), ⟨ins, m, o_Q_Fr h5 f1 (by omega)⟩, o_R_Fr h6 f1 (by omega)⟩, g_Fr_wd f1 (by omega) (by omega)⟩
theorem o_T_ts {h h1 : g_H} {a : Nat} {S : q_S} {ts : List Int32} (hT : o_T h a S) (i1 : g_I h1 (a + 3) 4 ts) (f1 : g_Fr (a + 3) (a + 3 + 2) h h1) : o_T h1 a (S.1, ts, S.2.2) ∧ g_Fr a (a + 55) h h1 := by
  obtain ⟨h0, h2, h3, h4, ⟨ins, m, h5⟩, h6⟩ := hT
  exact ⟨⟨(f1.2 a (by omega)).trans h0, g_I_Fr h2 f1 (by omega), i1, o_B_Fr h4 f1 (by omega), ⟨ins, m, o_Q_Fr h5 f1 (by omega)⟩, o_R_Fr h6 f1 (by omega)⟩, g_Fr_wd f1 (by omega) (by omega)⟩
theorem o_T_op {h h1 : g_H} {a : Nat} {S : q_S} {rs : List o_Rw} {o t : Int32} (hT : o_T h a S) (i1 : o_B h1 (a + 5) rs o t) (f1 : g_Fr (a + 5) (a + 5 + 7) h h1) : o_T h1 a (S.1, S.2.1, (rs, o, t), S.2.2.2) ∧ g_Fr a (a + 55) h h1 := by
  obtain ⟨h0, h2, h3, h4, ⟨ins, m, h5⟩, h6⟩ := hT
  exact ⟨⟨(f1.2 a (by omega)).trans h0, g_I_Fr h2 f1 (by omega), g_I_Fr h3 f1 (by omega), i1, ⟨ins, m, o_Q_Fr h5 f1 (by omega)⟩, o_R_Fr h6 f1 (by omega)⟩, g_Fr_wd f1 (by omega) (by omega)⟩
theorem o_T_rd {h h1 : g_H} {a : Nat} {S : q_S} {ks : List o_Kr} {po bl br nk : Int32} (hT : o_T h a S) (i1 : o_R h1 (a + 21) ks po bl br nk) (f1 : g_Fr (a + 21) (a + 21 + 34) h h1) : o_T h1 a (S.1, S.2.1, S.2.2.1, S.2.2.2.1, (ks, po, bl, br, nk)) ∧ g_Fr a (a + 55) h h1 := by
  obtain ⟨h0, h2, h3, h4, ⟨ins, m, h5⟩, h6⟩ := hT
  exact ⟨⟨(f1.2 a (by omega)).trans h0, g_I_Fr h2 f1 (by omega), g_I_Fr h3 f1 (by omega), o_B_Fr h4 f1 (by omega), ⟨ins, m, o_Q_Fr h5 f1 (by omega)⟩, i1⟩, g_Fr_wd f1 (by omega) (by omega)⟩
/-- an answer, or which exception; the state behind it -/
abbrev q_A : Type := (Int32 ⊕ String) × q_S
/-- what a call of TracePacks comes to -/
def q_P (a : Nat) (h : g_H) (r : q_A) : g_P := fun oc hE => (match r.1 with
    | .inl v => oc = .inl (some (.int v))
    | .inr X => oc = .inr X) ∧ o_T hE a r.2 ∧ g_Fx a (a + 55) h hE
theorem q_P_i {a : Nat} {h hE : g_H} {v : Int32} {S : q_S} (hT : o_T hE a S) (hf : g_Fr a (a + 55) h hE) : q_P a h (.inl v, S) (.inl (some (.int v))) hE := ⟨rfl, hT, g_Fx_of hf⟩
theorem q_P_t {a : Nat} {h hE : g_H} {X : String} {S : q_S} (hT : o_T hE a S) (hf : g_Fr a (a + 55) h hE) : q_P a h (.inr X, S) (.inr X) (hE.1, hE.2.1 + 1, hE.2.2 + 6) := ⟨rfl, o_T_th hT, g_Fx_th hf⟩
def q_thread (S : q_S) (t : Int32) : q_A := if 0 ≤ t ∧ t < 4 then (.inl S.2.2.2.1.1, q_cu S (t, S.2.2.2.1.2)) else (.inr z_X1, S)
theorem c_T_thread {l : Launch} {h : g_H} {a : Nat} {S : q_S} {t : Int32} (hl : l.stackTraces = false) (hT : o_T h a S) : g_Run l J_T_thread [.ref a, .int t] h (q_P a h (q_thread S t)) := by
  unfold q_thread
  have tF : ∀ (L : g_L), ¬ (0 ≤ t ∧ t < 4) → g_X l J_T_thread 9 L [] h (q_P a h (if 0 ≤ t ∧ t < 4 then (.inl S.2.2.2.1.1, q_cu S (t, S.2.2.2.1.2)) else (.inr z_X1, S))) := fun L hn => by
    rw [if_neg hn]
    refine g_go ok_T_thread [] 20 ?_
    exact ⟨hl, q_P_t hT (g_Fr_rf _ _ _)⟩
  refine go_T_thread [9] 40 ?_
  refine g_br_i (fun q => ?_) (fun q => ?_)
  · exact tF _ (fun z => absurd z.1 (Int32.not_le.mpr q))
  · refine g_br_i (fun q2 => ?_) (fun q2 => ?_)
    · rw [if_pos ⟨Int32.not_lt.mp q, q2⟩]
      refine g_gt_i hT.1 rfl ?_
      refine g_pt_i hT.1 (Nat.le_of_ble_eq_true rfl) rfl rfl ?_
      obtain ⟨t2, f2⟩ := o_T_cu (t, S.2.2.2.1.2) hT
      exact q_P_i t2 f2
    · exact tF _ (fun z => q2 z.2)
def q_in (xs : List Int32) (i : Int32) : Prop := 0 ≤ i ∧ i < nI xs.length
def q_byteAt (S : q_S) (i : Int32) : q_A := if 0 ≤ i ∧ i < nI S.1.length then (.inl (v_at S.1 i), S) else (.inr z_X1, S)
theorem c_T_byteAt {l : Launch} {h : g_H} {a : Nat} {S : q_S} {i : Int32} (hl : l.stackTraces = false) (hT : o_T h a S) : g_Run l J_T_byteAt [.ref a, .int i] h (q_P a h (q_byteAt S i)) := by
  unfold q_byteAt
  refine go_T_byteAt [] 40 ?_
  refine g_gt_i hT.1 rfl ?_
  refine g_cv_i (g_I_ty hT.2.1) (c_I_has hT.2.1) (fun oc h1 hp => ?_)
  obtain ⟨rfl, rfl⟩ := hp
  refine ⟨_, rfl, ?_⟩
  by_cases q : 0 ≤ i ∧ i < nI S.1.length
  · rw [if_pos q, if_pos q]
    refine g_br_t (by decide) ?_
    refine g_gt_i hT.1 rfl ?_
    refine g_cv_i (g_I_ty hT.2.1) (c_I_at hT.2.1) (fun oc h1 hp => ?_)
    obtain ⟨rfl, rfl⟩ := hp
    refine ⟨_, rfl, ?_⟩
    exact q_P_i hT (g_Fr_rf _ _ _)
  · rw [if_neg q, if_neg q]
    refine g_br_f (by decide) ?_
    exact ⟨hl, q_P_t hT (g_Fr_rf _ _ _)⟩
def q_flip (S : q_S) (i k : Int32) : q_A := if 0 ≤ i ∧ i < nI S.1.length then (if 0 ≤ k ∧ k ≤ 255 then (.inl (v_at (v_set S.1 i (v_at S.1 i ^^^ k)) i), (v_set S.1 i (v_at S.1 i ^^^ k), S.2)) else (.inr z_X2, S)) else (.inr z_X1, S)
theorem c_T_flip {l : Launch} {h : g_H} {a : Nat} {S : q_S} {i k : Int32} (hl : l.stackTraces = false) (hT : o_T h a S) : g_Run l J_T_flip [.ref a, .int i, .int k] h (q_P a h (q_flip S i k)) := by
  unfold q_flip
  have tF : ∀ (L : g_L), ¬ (0 ≤ k ∧ k ≤ 255) → g_X l J_T_flip 32 L [] h (q_P a h (if 0 ≤ k ∧ k ≤ 255 then (.inl (v_at (v_set S.1 i (v_at S.1 i ^^^ k)) i), (v_set S.1 i (v_at S.1 i ^^^ k), S.2)) else (.inr z_X2, S))) := fun L hn => by
    rw [if_neg hn]
    refine g_go ok_T_flip [] 20 ?_
    exact ⟨hl, q_P_t hT (g_Fr_rf _ _ _)⟩
  refine go_T_flip [32] 60 ?_
  refine g_gt_i hT.1 rfl ?_
  refine g_cv_i (g_I_ty hT.2.1) (c_I_has hT.2.1) (fun oc h1 hp => ?_)
  obtain ⟨rfl, rfl⟩ := hp
  refine ⟨_, rfl, ?_⟩
  by_cases q : 0 ≤ i ∧ i < nI S.1.length
  · rw [if_pos q, if_pos q]
    refine g_br_t (by decide) ?_
    refine g_br_i (fun q2 => ?_) (fun q2 => ?_)
    · exact tF _ (fun z => absurd z.1 (Int32.not_le.mpr q2))
    · refine g_br_i (fun q3 => ?_) (fun q3 => ?_)
      · rw [if_pos ⟨Int32.not_lt.mp q2, q3⟩]
        refine g_gt_i hT.1 rfl ?_
        refine g_gt_i hT.1 rfl ?_
        refine g_cv_i (g_I_ty hT.2.1) (c_I_at hT.2.1) (fun oc h1 hp => ?_)
        obtain ⟨rfl, rfl⟩ := hp
        refine ⟨_, rfl, ?_⟩
        refine g_cv_i (g_I_ty hT.2.1) (c_I_set hT.2.1) (fun oc h2 hp => ?_)
        obtain ⟨rfl, i2, f2⟩ := hp
        refine ⟨_, rfl, ?_⟩
        obtain ⟨t2, F2⟩ := o_T_pk hT i2 f2
        refine g_gt_i t2.1 rfl ?_
        refine g_cv_i (g_I_ty t2.2.1) (c_I_at t2.2.1) (fun oc h3 hp => ?_)
        obtain ⟨rfl, rfl⟩ := hp
        refine ⟨_, rfl, ?_⟩
        exact q_P_i t2 F2
      · exact tF _ (fun z => q3 z.2)
  · rw [if_neg q, if_neg q]
    refine g_br_f (by decide) ?_
    exact ⟨hl, q_P_t hT (g_Fr_rf _ _ _)⟩
def q_put (S : q_S) (v : Int32) : q_A := if 0 ≤ v ∧ v ≤ 255 then (if S.1.length < 16384 then (.inl (nI (S.1.length + 1)), (S.1 ++ [v], S.2)) else (.inr z_X3, S)) else (.inr z_X2, S)
theorem c_T_put {l : Launch} {h : g_H} {a : Nat} {S : q_S} {v : Int32} (hl : l.stackTraces = false) (hT : o_T h a S) : g_Run l J_T_put [.ref a, .int v] h (q_P a h (q_put S v)) := by
  have hpl := g_I_len hT.2.1
  unfold q_put
  have tF : ∀ (L : g_L), ¬ (0 ≤ v ∧ v ≤ 255) → g_X l J_T_put 11 L [] h (q_P a h (if 0 ≤ v ∧ v ≤ 255 then (if S.1.length < 16384 then (.inl (nI (S.1.length + 1)), (S.1 ++ [v], S.2)) else (.inr z_X3, S)) else (.inr z_X2, S))) := fun L hn => by
    rw [if_neg hn]
    refine g_go ok_T_put [] 20 ?_
    exact ⟨hl, q_P_t hT (g_Fr_rf _ _ _)⟩
  refine go_T_put [11] 60 ?_
  refine g_br_i (fun q2 => ?_) (fun q2 => ?_)
  · exact tF _ (fun z => absurd z.1 (Int32.not_le.mpr q2))
  · refine g_br_i (fun q3 => ?_) (fun q3 => ?_)
    · rw [if_pos ⟨Int32.not_lt.mp q2, q3⟩]
      refine g_gt_i hT.1 rfl ?_
      refine g_cv_i (g_I_ty hT.2.1) (c_I_add hT.2.1) (fun oc h2 hp => ?_)
      obtain ⟨rfl, i2, f2⟩ := hp
      refine ⟨_, rfl, ?_⟩
      by_cases q : S.1.length < 16384
      · rw [if_pos q, if_pos q]
        rw [v_add_lt q] at i2
        obtain ⟨t2, F2⟩ := o_T_pk hT i2 f2
        refine g_br_t (by decide) ?_
        refine g_gt_i t2.1 rfl ?_
        refine g_cv_i (g_I_ty t2.2.1) (c_I_size t2.2.1) (fun oc h3 hp => ?_)
        obtain ⟨rfl, rfl⟩ := hp
        refine ⟨_, rfl, ?_⟩
        have e : (S.1 ++ [v]).length = S.1.length + 1 := by simp
        simp only [e]
        exact q_P_i t2 F2
      · rw [if_neg q, if_neg q]
        rw [v_add_ge (by omega)] at i2
        obtain ⟨t2, F2⟩ := o_T_pk hT i2 f2
        refine g_br_f (by decide) ?_
        exact ⟨hl, q_P_t t2 F2⟩
    · exact tF _ (fun z => q3 z.2)
