/-! TracePacksLaw: its helpers (by program: wip/whole/gen/mk99.py) -/
/-- what a helper comes to, when TracePacks comes to r: 0 and the answer, or a code -/
def w_P (x w : Nat) (h : g_H) (c : String → Int32) (r : q_A) : g_P := fun oc hE => ∃ v0 : Int64, oc = .inl (some (.int (match r.1 with
    | .inl _ => 0
    | .inr X => c X))) ∧ (∀ v, r.1 = .inl v → v0 = v.toInt64) ∧ o_T hE x r.2 ∧ hE.1 w = some (.inl (.inr (.inl [v0]))) ∧ (hE.2 = h.2 ∨ hE.2 = (h.2.1 + 1, h.2.2 + 6)) ∧ (∀ q, (q < x ∨ x + 55 ≤ q) → q ≠ w → hE.1 q = h.1 q)
theorem w_P_i {x w : Nat} {h hE : g_H} {c : String → Int32} {r : q_A} {v : Int32} (hr : r.1 = .inl v) (hT : o_T hE x r.2) (hf : g_Fx x (x + 55) h hE) (hd : w < x ∨ x + 55 ≤ w) : w_P x w h c r (.inl (some (.int 0))) (g_up hE w (.inl (.inr (.inl [v.toInt64])))) := by
  refine ⟨v.toInt64, by rw [hr], fun u hu => by rw [hr] at hu; cases hu; rfl, o_T_rg hT (fun q q1 q2 => g_up_ne (by omega)), g_up_eq, hf.1, fun q q1 q2 => ?_⟩
  rw [g_up_ne q2]
  exact hf.2 q q1
theorem w_P_t {x w : Nat} {h hE : g_H} {c : String → Int32} {r : q_A} {X : String} {k : Int32} {v0 : Int64} (hr : r.1 = .inr X) (hk : k = c X) (hT : o_T hE x r.2) (hf : g_Fx x (x + 55) h hE) (hd : w < x ∨ x + 55 ≤ w) (hw : h.1 w = some (.inl (.inr (.inl [v0])))) : w_P x w h c r (.inl (some (.int k))) hE :=
  ⟨v0, by rw [hr, hk], fun u hu => by (rw [hr] at hu; cases hu), hT, (hf.2 w hd).trans hw, hf.1, fun q q1 _ => hf.2 q q1⟩
theorem c_W_thread {l : Launch} {h : g_H} {x w : Nat} {S : q_S} {v0 : Int64} {c : String → Int32} {a1 : Int32} (hl : l.stackTraces = false) (hc0 : c z_X1 = 1) (hT : o_T h x S) (hw : h.1 w = some (.inl (.inr (.inl [v0])))) (hd : w < x ∨ x + 55 ≤ w) : g_Run l J_W_thread [.ref x, .int a1, .ref w] h (w_P x w h c (q_thread S a1)) := by
  have hx : ∀ X, (q_thread S a1).1 = .inr X → X = z_X1 := by
    intro X hX
    unfold q_thread at hX
    repeat' split at hX
    all_goals first
      | (cases hX; done)
      | (simp only [Sum.inr.injEq] at hX; subst hX; simp)
  refine go_W_thread [] 40 ?_
  refine g_ct_i hT.1 (c_T_thread hl hT) (fun oc hE hp => ?_)
  obtain ⟨hr, hT2, hf⟩ := hp
  cases hq : (q_thread S a1).1 with
  | inl v =>
    rw [hq] at hr
    refine Or.inl ⟨some (.int v), hr, ?_⟩
    refine g_asL_i ((hf.2 w hd).trans hw) (vp_in_nI (n := 0) (by simp) (by simp)) ?_
    exact w_P_i hq hT2 hf hd
  | inr X =>
    rw [hq] at hr
    refine Or.inr ⟨X, hr, 12, by rw [hx X hq]; simp, ?_⟩
    exact w_P_t hq (by rw [hx X hq, hc0]) hT2 hf hd hw
theorem c_W_row {l : Launch} {h : g_H} {x w : Nat} {S : q_S} {v0 : Int64} {c : String → Int32} {a1 a2 a3 : Int32} (hl : l.stackTraces = false) (hc0 : c z_X2 = 1) (hc1 : c z_X3 = 2) (hT : o_T h x S) (hw : h.1 w = some (.inl (.inr (.inl [v0])))) (hd : w < x ∨ x + 55 ≤ w) : g_Run l J_W_row [.ref x, .int a1, .int a2, .int a3, .ref w] h (w_P x w h c (q_row S a1 a2 a3)) := by
  have hx : ∀ X, (q_row S a1 a2 a3).1 = .inr X → X = z_X2 ∨ X = z_X3 := by
    intro X hX
    unfold q_row at hX
    repeat' split at hX
    all_goals first
      | (cases hX; done)
      | (simp only [Sum.inr.injEq] at hX; subst hX; simp)
  refine go_W_row [] 40 ?_
  refine g_ct_i hT.1 (c_T_rows hl hT) (fun oc hE hp => ?_)
  obtain ⟨hr, hT2, hf⟩ := hp
  cases hq : (q_row S a1 a2 a3).1 with
  | inl v =>
    rw [hq] at hr
    refine Or.inl ⟨some (.int v), hr, ?_⟩
    refine g_asL_i ((hf.2 w hd).trans hw) (vp_in_nI (n := 0) (by simp) (by simp)) ?_
    exact w_P_i hq hT2 hf hd
  | inr X =>
    rw [hq] at hr
    rcases hx X hq with e | e
    · refine Or.inr ⟨X, hr, 15, by rw [e]; simp, ?_⟩
      exact w_P_t hq (by rw [e, hc0]) hT2 hf hd hw
    · refine Or.inr ⟨X, hr, 19, by rw [e]; simp, ?_⟩
      exact w_P_t hq (by rw [e, hc1]) hT2 hf hd hw
theorem c_W_mark {l : Launch} {h : g_H} {x w : Nat} {S : q_S} {v0 : Int64} {c : String → Int32} (hl : l.stackTraces = false) (hc0 : c z_X3 = 1) (hT : o_T h x S) (hw : h.1 w = some (.inl (.inr (.inl [v0])))) (hd : w < x ∨ x + 55 ≤ w) : g_Run l J_W_mark [.ref x, .ref w] h (w_P x w h c (q_mark S)) := by
  have hx : ∀ X, (q_mark S).1 = .inr X → X = z_X3 := by
    intro X hX
    unfold q_mark at hX
    repeat' split at hX
    all_goals first
      | (cases hX; done)
      | (simp only [Sum.inr.injEq] at hX; subst hX; simp)
  refine go_W_mark [] 40 ?_
  refine g_ct_i hT.1 (c_T_marks hl hT) (fun oc hE hp => ?_)
  obtain ⟨hr, hT2, hf⟩ := hp
  cases hq : (q_mark S).1 with
  | inl v =>
    rw [hq] at hr
    refine Or.inl ⟨some (.int v), hr, ?_⟩
    refine g_asL_i ((hf.2 w hd).trans hw) (vp_in_nI (n := 0) (by simp) (by simp)) ?_
    exact w_P_i hq hT2 hf hd
  | inr X =>
    rw [hq] at hr
    refine Or.inr ⟨X, hr, 11, by rw [hx X hq]; simp, ?_⟩
    exact w_P_t hq (by rw [hx X hq, hc0]) hT2 hf hd hw
theorem c_W_byteAt {l : Launch} {h : g_H} {x w : Nat} {S : q_S} {v0 : Int64} {c : String → Int32} {a1 : Int32} (hl : l.stackTraces = false) (hc0 : c z_X1 = 1) (hT : o_T h x S) (hw : h.1 w = some (.inl (.inr (.inl [v0])))) (hd : w < x ∨ x + 55 ≤ w) : g_Run l J_W_byteAt [.ref x, .int a1, .ref w] h (w_P x w h c (q_byteAt S a1)) := by
  have hx : ∀ X, (q_byteAt S a1).1 = .inr X → X = z_X1 := by
    intro X hX
    unfold q_byteAt at hX
    repeat' split at hX
    all_goals first
      | (cases hX; done)
      | (simp only [Sum.inr.injEq] at hX; subst hX; simp)
  refine go_W_byteAt [] 40 ?_
  refine g_ct_i hT.1 (c_T_byteAt hl hT) (fun oc hE hp => ?_)
  obtain ⟨hr, hT2, hf⟩ := hp
  cases hq : (q_byteAt S a1).1 with
  | inl v =>
    rw [hq] at hr
    refine Or.inl ⟨some (.int v), hr, ?_⟩
    refine g_asL_i ((hf.2 w hd).trans hw) (vp_in_nI (n := 0) (by simp) (by simp)) ?_
    exact w_P_i hq hT2 hf hd
  | inr X =>
    rw [hq] at hr
    refine Or.inr ⟨X, hr, 12, by rw [hx X hq]; simp, ?_⟩
    exact w_P_t hq (by rw [hx X hq, hc0]) hT2 hf hd hw
theorem c_W_flip {l : Launch} {h : g_H} {x w : Nat} {S : q_S} {v0 : Int64} {c : String → Int32} {a1 a2 : Int32} (hl : l.stackTraces = false) (hc0 : c z_X1 = 1) (hc1 : c z_X2 = 2) (hT : o_T h x S) (hw : h.1 w = some (.inl (.inr (.inl [v0])))) (hd : w < x ∨ x + 55 ≤ w) : g_Run l J_W_flip [.ref x, .int a1, .int a2, .ref w] h (w_P x w h c (q_flip S a1 a2)) := by
  have hx : ∀ X, (q_flip S a1 a2).1 = .inr X → X = z_X1 ∨ X = z_X2 := by
    intro X hX
    unfold q_flip at hX
    repeat' split at hX
    all_goals first
      | (cases hX; done)
      | (simp only [Sum.inr.injEq] at hX; subst hX; simp)
  refine go_W_flip [] 40 ?_
  refine g_ct_i hT.1 (c_T_flip hl hT) (fun oc hE hp => ?_)
  obtain ⟨hr, hT2, hf⟩ := hp
  cases hq : (q_flip S a1 a2).1 with
  | inl v =>
    rw [hq] at hr
    refine Or.inl ⟨some (.int v), hr, ?_⟩
    refine g_asL_i ((hf.2 w hd).trans hw) (vp_in_nI (n := 0) (by simp) (by simp)) ?_
    exact w_P_i hq hT2 hf hd
  | inr X =>
    rw [hq] at hr
    rcases hx X hq with e | e
    · refine Or.inr ⟨X, hr, 13, by rw [e]; simp, ?_⟩
      exact w_P_t hq (by rw [e, hc0]) hT2 hf hd hw
    · refine Or.inr ⟨X, hr, 17, by rw [e]; simp, ?_⟩
      exact w_P_t hq (by rw [e, hc1]) hT2 hf hd hw
theorem c_W_put {l : Launch} {h : g_H} {x w : Nat} {S : q_S} {v0 : Int64} {c : String → Int32} {a1 : Int32} (hl : l.stackTraces = false) (hc0 : c z_X2 = 1) (hc1 : c z_X3 = 2) (hT : o_T h x S) (hw : h.1 w = some (.inl (.inr (.inl [v0])))) (hd : w < x ∨ x + 55 ≤ w) : g_Run l J_W_put [.ref x, .int a1, .ref w] h (w_P x w h c (q_put S a1)) := by
  have hx : ∀ X, (q_put S a1).1 = .inr X → X = z_X2 ∨ X = z_X3 := by
    intro X hX
    unfold q_put at hX
    repeat' split at hX
    all_goals first
      | (cases hX; done)
      | (simp only [Sum.inr.injEq] at hX; subst hX; simp)
  refine go_W_put [] 40 ?_
  refine g_ct_i hT.1 (c_T_put hl hT) (fun oc hE hp => ?_)
  obtain ⟨hr, hT2, hf⟩ := hp
  cases hq : (q_put S a1).1 with
  | inl v =>
    rw [hq] at hr
    refine Or.inl ⟨some (.int v), hr, ?_⟩
    refine g_asL_i ((hf.2 w hd).trans hw) (vp_in_nI (n := 0) (by simp) (by simp)) ?_
    exact w_P_i hq hT2 hf hd
  | inr X =>
    rw [hq] at hr
    rcases hx X hq with e | e
    · refine Or.inr ⟨X, hr, 12, by rw [e]; simp, ?_⟩
      exact w_P_t hq (by rw [e, hc0]) hT2 hf hd hw
    · refine Or.inr ⟨X, hr, 15, by rw [e]; simp, ?_⟩
      exact w_P_t hq (by rw [e, hc1]) hT2 hf hd hw
theorem c_W_cut {l : Launch} {h : g_H} {x w : Nat} {S : q_S} {v0 : Int64} {c : String → Int32} {a1 : Int32} (hl : l.stackTraces = false) (hc0 : c z_X2 = 1) (hT : o_T h x S) (hw : h.1 w = some (.inl (.inr (.inl [v0])))) (hd : w < x ∨ x + 55 ≤ w) : g_Run l J_W_cut [.ref x, .int a1, .ref w] h (w_P x w h c (q_cut S a1)) := by
  have hx : ∀ X, (q_cut S a1).1 = .inr X → X = z_X2 := by
    intro X hX
    unfold q_cut at hX
    repeat' split at hX
    all_goals first
      | (cases hX; done)
      | (simp only [Sum.inr.injEq] at hX; subst hX; simp)
  refine go_W_cut [] 40 ?_
  refine g_ct_i hT.1 (c_T_cut hl hT) (fun oc hE hp => ?_)
  obtain ⟨hr, hT2, hf⟩ := hp
  cases hq : (q_cut S a1).1 with
  | inl v =>
    rw [hq] at hr
    refine Or.inl ⟨some (.int v), hr, ?_⟩
    refine g_asL_i ((hf.2 w hd).trans hw) (vp_in_nI (n := 0) (by simp) (by simp)) ?_
    exact w_P_i hq hT2 hf hd
  | inr X =>
    rw [hq] at hr
    refine Or.inr ⟨X, hr, 12, by rw [hx X hq]; simp, ?_⟩
    exact w_P_t hq (by rw [hx X hq, hc0]) hT2 hf hd hw
theorem c_W_choose {l : Launch} {h : g_H} {x w : Nat} {S : q_S} {v0 : Int64} {c : String → Int32} {a1 a2 : Int32} (hl : l.stackTraces = false) (hc0 : c z_X2 = 1) (hT : o_T h x S) (hw : h.1 w = some (.inl (.inr (.inl [v0])))) (hd : w < x ∨ x + 55 ≤ w) : g_Run l J_W_choose [.ref x, .int a1, .int a2, .ref w] h (w_P x w h c (q_choose S a1 a2)) := by
  have hx : ∀ X, (q_choose S a1 a2).1 = .inr X → X = z_X2 := by
    intro X hX
    unfold q_choose at hX
    repeat' split at hX
    all_goals first
      | (cases hX; done)
      | (simp only [Sum.inr.injEq] at hX; subst hX; simp)
  refine go_W_choose [] 40 ?_
  refine g_ct_i hT.1 (c_T_choose hl hT) (fun oc hE hp => ?_)
  obtain ⟨hr, hT2, hf⟩ := hp
  cases hq : (q_choose S a1 a2).1 with
  | inl v =>
    rw [hq] at hr
    refine Or.inl ⟨some (.int v), hr, ?_⟩
    refine g_asL_i ((hf.2 w hd).trans hw) (vp_in_nI (n := 0) (by simp) (by simp)) ?_
    exact w_P_i hq hT2 hf hd
  | inr X =>
    rw [hq] at hr
    refine Or.inr ⟨X, hr, 13, by rw [hx X hq]; simp, ?_⟩
    exact w_P_t hq (by rw [hx X hq, hc0]) hT2 hf hd hw
theorem c_W_read {l : Launch} {h : g_H} {x w : Nat} {S : q_S} {v0 : Int64} {c : String → Int32} {a1 : Int32} (hl : l.stackTraces = false) (hby : o_by S.1) (hc0 : c z_X1 = 1) (hT : o_T h x S) (hw : h.1 w = some (.inl (.inr (.inl [v0])))) (hd : w < x ∨ x + 55 ≤ w) : g_Run l J_W_read [.ref x, .int a1, .ref w] h (w_P x w h c (q_read S a1)) := by
  have hx : ∀ X, (q_read S a1).1 = .inr X → X = z_X1 := by
    intro X hX
    unfold q_read at hX
    repeat' split at hX
    all_goals first
      | (cases hX; done)
      | (simp only [Sum.inr.injEq] at hX; subst hX; simp)
  refine go_W_read [] 40 ?_
  refine g_ct_i hT.1 (c_T_read hl hby hT) (fun oc hE hp => ?_)
  obtain ⟨hr, hT2, hf⟩ := hp
  cases hq : (q_read S a1).1 with
  | inl v =>
    rw [hq] at hr
    refine Or.inl ⟨some (.int v), hr, ?_⟩
    refine g_asL_i ((hf.2 w hd).trans hw) (vp_in_nI (n := 0) (by simp) (by simp)) ?_
    exact w_P_i hq hT2 hf hd
  | inr X =>
    rw [hq] at hr
    refine Or.inr ⟨X, hr, 12, by rw [hx X hq]; simp, ?_⟩
    exact w_P_t hq (by rw [hx X hq, hc0]) hT2 hf hd hw
theorem c_W_kept {l : Launch} {h : g_H} {x w : Nat} {S : q_S} {v0 : Int64} {c : String → Int32} {a1 a2 : Int32} (hl : l.stackTraces = false) (hc0 : c z_X1 = 1) (hT : o_T h x S) (hw : h.1 w = some (.inl (.inr (.inl [v0])))) (hd : w < x ∨ x + 55 ≤ w) : g_Run l J_W_kept [.ref x, .int a1, .int a2, .ref w] h (w_P x w h c (q_kept S a1 a2)) := by
  have hx : ∀ X, (q_kept S a1 a2).1 = .inr X → X = z_X1 := by
    intro X hX
    unfold q_kept at hX
    repeat' split at hX
    all_goals first
      | (cases hX; done)
      | (simp only [Sum.inr.injEq] at hX; subst hX; simp)
  refine go_W_kept [] 40 ?_
  refine g_ct_i hT.1 (c_T_kept hl hT) (fun oc hE hp => ?_)
  obtain ⟨hr, hT2, hf⟩ := hp
  cases hq : (q_kept S a1 a2).1 with
  | inl v =>
    rw [hq] at hr
    refine Or.inl ⟨some (.int v), hr, ?_⟩
    refine g_asL_i ((hf.2 w hd).trans hw) (vp_in_nI (n := 0) (by simp) (by simp)) ?_
    exact w_P_i hq hT2 hf hd
  | inr X =>
    rw [hq] at hr
    refine Or.inr ⟨X, hr, 13, by rw [hx X hq]; simp, ?_⟩
    exact w_P_t hq (by rw [hx X hq, hc0]) hT2 hf hd hw
theorem c_W_merged {l : Launch} {h : g_H} {x w : Nat} {S : q_S} {v0 : Int64} {c : String → Int32} {a1 : Int32} (hl : l.stackTraces = false) (hc0 : c z_X1 = 1) (hT : o_T h x S) (hw : h.1 w = some (.inl (.inr (.inl [v0])))) (hd : w < x ∨ x + 55 ≤ w) : g_Run l J_W_merged [.ref x, .int a1, .ref w] h (w_P x w h c (q_merged S a1)) := by
  have hx : ∀ X, (q_merged S a1).1 = .inr X → X = z_X1 := by
    intro X hX
    unfold q_merged at hX
    repeat' split at hX
    all_goals first
      | (cases hX; done)
      | (simp only [Sum.inr.injEq] at hX; subst hX; simp)
  refine go_W_merged [] 40 ?_
  refine g_ct_i hT.1 (c_T_merged hl hT) (fun oc hE hp => ?_)
  obtain ⟨hr, hT2, hf⟩ := hp
  cases hq : (q_merged S a1).1 with
  | inl v =>
    rw [hq] at hr
    refine Or.inl ⟨some (.int v), hr, ?_⟩
    refine g_asL_i ((hf.2 w hd).trans hw) (vp_in_nI (n := 0) (by simp) (by simp)) ?_
    exact w_P_i hq hT2 hf hd
  | inr X =>
    rw [hq] at hr
    refine Or.inr ⟨X, hr, 12, by rw [hx X hq]; simp, ?_⟩
    exact w_P_t hq (by rw [hx X hq, hc0]) hT2 hf hd hw
