/-! Block.add; LastValues -/
theorem c_B_add {l : Launch} {h : g_H} {a : Nat} {rs : List o_Rw} {o t : Int32} {r : o_Rw} (hB : o_B h a rs o t) : g_Run l J_B_add [.ref a, .int r.1, .int r.2.1, .int r.2.2] h (fun oc hE => oc = .inl (some (.int (if rs.length < 100 then 1 else 0))) ∧ o_B hE a (if rs.length < 100 then rs ++ [r] else rs) o t ∧ g_Fr a (a + 7) h hE) := by
  have hl := o_B_len hB
  by_cases hq : rs.length < 100
  · have z : ∀ (f : o_Rw → Int32), v_add 100 (rs.map f) (f r) = (rs ++ [r]).map f := fun f => by rw [v_add_lt (by simpa using hq)]; simp
    have e1 : ∀ (f : o_Rw → Int32), (if (rs.map f).length < 100 then (1 : Int32) else 0) = 1 := fun f => by rw [if_pos (by simpa using hq)]
    refine go_B_add [] 40 ?_
    refine g_gt_i hB.1 rfl ?_
    refine g_cv_i (g_I_ty hB.2.1) (c_I_add hB.2.1) (fun oc h1 hp => ?_)
    obtain ⟨rfl, i1, f1⟩ := hp
    rw [z] at i1
    refine ⟨_, rfl, ?_⟩
    refine g_br_f (by rw [e1]; decide) ?_
    have b1 := (f1.2 a (by omega)).trans hB.1
    have j1 := g_I_Fr hB.2.2.1 f1 (by omega)
    refine g_gt_i b1 rfl ?_
    refine g_cv_i (g_I_ty j1) (c_I_add j1) (fun oc h2 hp => ?_)
    obtain ⟨rfl, i2, f2⟩ := hp
    rw [z (fun x => x.2.1)] at i2
    refine ⟨_, rfl, ?_⟩
    refine g_br_f (by rw [e1]; decide) ?_
    have b2 := (f2.2 a (by omega)).trans b1
    have j2 := g_I_Fr (g_I_Fr hB.2.2.2 f1 (by omega)) f2 (by omega)
    refine g_gt_i b2 rfl ?_
    refine g_cv_i (g_I_ty j2) (c_I_add j2) (fun oc h3 hp => ?_)
    obtain ⟨rfl, i3, f3⟩ := hp
    rw [z (fun x => x.2.2)] at i3
    refine ⟨_, rfl, ?_⟩
    refine g_br_f (by rw [e1]; decide) ?_
    rw [if_pos hq, if_pos hq]
    exact ⟨by decide, rfl, ⟨(f3.2 a (by omega)).trans b2, g_I_Fr (g_I_Fr i1 f2 (by omega)) f3 (by omega), g_I_Fr i2 f3 (by omega), i3⟩, g_Fr_tr (g_Fr_wd f1 (by omega) (by omega)) (g_Fr_tr (g_Fr_wd f2 (by omega) (by omega)) (g_Fr_wd f3 (by omega) (by omega)))⟩
  · have e1 : (if (rs.map (·.1)).length < 100 then (1 : Int32) else 0) = 0 := by rw [if_neg (by simpa using hq)]
    refine go_B_add [] 40 ?_
    refine g_gt_i hB.1 rfl ?_
    refine g_cv_i (g_I_ty hB.2.1) (c_I_add hB.2.1) (fun oc h1 hp => ?_)
    obtain ⟨rfl, i1, f1⟩ := hp
    rw [v_add_ge (by simp; omega)] at i1
    refine ⟨_, rfl, ?_⟩
    refine g_br_t e1 ?_
    rw [if_neg hq, if_neg hq]
    exact ⟨by decide, rfl, ⟨(f1.2 a (by omega)).trans hB.1, i1, g_I_Fr hB.2.2.1 f1 (by omega), g_I_Fr hB.2.2.2 f1 (by omega)⟩, g_Fr_wd f1 (by omega) (by omega)⟩
def o_V (h : g_H) (a : Nat) (xs : List Int32) : Prop := h.1 a = some (.inr (3, [.ref (a + 1)])) ∧ g_I h (a + 1) 8 xs
theorem o_V_Fr {h h1 : g_H} {a lo hi : Nat} {xs : List Int32} (hV : o_V h a xs) (hf : g_Fr lo hi h h1) (hd : a + 3 ≤ lo ∨ hi ≤ a) : o_V h1 a xs := ⟨(hf.2 a (by omega)).trans hV.1, g_I_Fr hV.2 hf (by omega)⟩
theorem c_V_init {l : Launch} {f : Nat → Option g_E} {w a : Nat} (h0 : f a = some (.inr (3, [.null]))) : g_Run l J_V_init [.ref a] (f, a + 1, w) (fun oc hE => oc = .inl none ∧ o_V hE a [] ∧ g_Nw a (a + 3) 10 (f, a + 1, w) hE) := by
  refine go_V_init [] 60 ?_
  refine g_cs_i (c_I_init (cap := 8) (a := a + 1) (g_nw_eq (n := 2) rfl) rfl (by omega)) (fun oc h1 hp => ?_)
  obtain ⟨f1, _, w1⟩ := h1
  obtain ⟨rfl, i1, rfl, rfl, n1⟩ := hp
  refine ⟨_, rfl, ?_⟩
  have f1a : f1 a = some (.inr (3, [.null])) := (n1 a (by omega)).trans ((g_nw_ne (by show a ≠ a + 1; omega)).trans h0)
  refine g_pt_i f1a (Nat.le_of_ble_eq_true rfl) rfl rfl ?_
  exact ⟨rfl, ⟨g_up_eq, g_I_fr i1 (g_up_ne (by omega)) (g_up_ne (by omega))⟩, rfl, rfl, fun q hq => (g_up_ne (by omega)).trans ((n1 q (by omega)).trans (g_nw_ne (by show q ≠ a + 1; omega)))⟩
theorem c_V_clear {l : Launch} {h : g_H} {a : Nat} {xs : List Int32} (hV : o_V h a xs) : g_Run l J_V_clear [.ref a] h (fun oc hE => oc = .inl none ∧ o_V hE a [] ∧ g_Fr a (a + 3) h hE) := by
  have hl := g_I_len hV.2
  refine go_V_clear [] 20 ?_
  refine g_gt_i hV.1 rfl ?_
  refine g_cv_i (g_I_ty hV.2) (c_I_shorten hV.2) (fun oc h1 hp => ?_)
  obtain ⟨rfl, i1, f1⟩ := hp
  rw [v_cut_0 (by omega)] at i1
  refine ⟨_, rfl, ?_⟩
  exact ⟨rfl, ⟨(f1.2 a (by omega)).trans hV.1, i1⟩, g_Fr_wd f1 (by omega) (by omega)⟩
theorem c_V_has {l : Launch} {h : g_H} {a : Nat} {xs : List Int32} {i : Int32} (hV : o_V h a xs) : g_Run l J_V_has [.ref a, .int i] h (fun oc hE => oc = .inl (some (.int (if 0 ≤ i ∧ i < nI xs.length then 1 else 0))) ∧ hE = h) := by
  refine go_V_has [] 20 ?_
  refine g_gt_i hV.1 rfl ?_
  refine g_cv_i (g_I_ty hV.2) (c_I_has hV.2) (fun oc h1 hp => ?_)
  obtain ⟨rfl, rfl⟩ := hp
  refine ⟨_, rfl, ?_⟩
  exact ⟨by split <;> rfl, rfl, rfl⟩
theorem c_V_at {l : Launch} {h : g_H} {a : Nat} {xs : List Int32} {i : Int32} (hV : o_V h a xs) : g_Run l J_V_at [.ref a, .int i] h (fun oc hE => oc = .inl (some (.int (v_at xs i))) ∧ hE = h) := by
  refine go_V_at [] 20 ?_
  refine g_gt_i hV.1 rfl ?_
  refine g_cv_i (g_I_ty hV.2) (c_I_at hV.2) (fun oc h1 hp => ?_)
  obtain ⟨rfl, rfl⟩ := hp
  refine ⟨_, rfl, ?_⟩
  exact ⟨rfl, rfl⟩
/-- the place of the first v -/
def o_fnd : List Int32 → Int32 → Option Nat
  | [], _ => none
  | x :: t, v => if x = v then some 0 else (o_fnd t v).map (· + 1)
theorem o_fnd_some : ∀ {xs : List Int32} {v : Int32} {i : Nat}, xs[i]? = some v → (∀ j, j < i → xs[j]? ≠ some v) → o_fnd xs v = some i
  | [], v, i, h, _ => by simp at h
  | x :: t, v, 0, h, _ => by
    simp at h
    simp [o_fnd, h]
  | x :: t, v, i + 1, h, hn => by
    have h0 : x ≠ v := fun z => hn 0 (by omega) (by simp [z])
    have := o_fnd_some (xs := t) (i := i) (by simpa using h) (fun j hj => by simpa using hn (j + 1) (by omega))
    simp [o_fnd, h0, this]
theorem o_fnd_none : ∀ {xs : List Int32} {v : Int32}, (∀ j, j < xs.length → xs[j]? ≠ some v) → o_fnd xs v = none
  | [], v, _ => rfl
  | x :: t, v, hn => by
    have h0 : x ≠ v := fun z => hn 0 (by simp) (by simp [z])
    have := o_fnd_none (xs := t) (v := v) (fun j hj => by simpa using hn (j + 1) (by simpa using hj))
    simp [o_fnd, h0, this]
def o_num (xs : List Int32) (v : Int32) : Int32 := match o_fnd xs v with
  | some i => nI i
  | none => -1
theorem v_at_get {xs : List Int32} {i : Nat} (hl : xs.length < 2 ^ 31) (h : i < xs.length) : xs[i]? = some (v_at xs (nI i)) := by
  rw [v_at_nI hl h]
  simp [List.getD_eq_getElem?_getD, h]
theorem x_V_num {l : Launch} {h : g_H} {a : Nat} {xs : List Int32} {v : Int32} (hV : o_V h a xs) : ∀ (d i : Nat), xs.length - i = d → i ≤ xs.length → (∀ j, j < i → xs[j]? ≠ some v) →
    g_X l J_V_numberOfValue 2 [some (.ref a), some (.int v), some (.int (nI i))] [] h (fun oc hE => oc = .inl (some (.int (o_num xs v))) ∧ hE = h) := by
  have hl := g_I_len hV.2
  intro d
  induction d with
  | zero =>
    intro i hd hi hn
    refine g_go ok_V_numberOfValue [2] 60 ?_
    refine g_gt_i hV.1 rfl ?_
    refine g_cv_i (g_I_ty hV.2) (c_I_size hV.2) (fun oc h1 hp => ?_)
    obtain ⟨rfl, rfl⟩ := hp
    refine ⟨_, rfl, ?_⟩
    refine g_br_t (show nI xs.length ≤ nI i from nI_le (by omega) (by omega)) ?_
    refine ⟨?_, rfl⟩
    unfold o_num
    rw [o_fnd_none (fun j hj => hn j (by omega))]
  | succ d ih =>
    intro i hd hi hn
    refine g_go ok_V_numberOfValue [2] 60 ?_
    refine g_gt_i hV.1 rfl ?_
    refine g_cv_i (g_I_ty hV.2) (c_I_size hV.2) (fun oc h1 hp => ?_)
    obtain ⟨rfl, rfl⟩ := hp
    refine ⟨_, rfl, ?_⟩
    refine g_br_f (show ¬ nI xs.length ≤ nI i from nI_ge (by omega) (by omega)) ?_
    refine g_gt_i hV.1 rfl ?_
    refine g_cv_i (g_I_ty hV.2) (c_I_at hV.2) (fun oc h1 hp => ?_)
    obtain ⟨rfl, rfl⟩ := hp
    refine ⟨_, rfl, ?_⟩
    have hg := v_at_get (xs := xs) (i := i) (by omega) (by omega)
    refine g_br_i (fun q => ?_) (fun q => ?_)
    · have := ih (i + 1) (by omega) (by omega) (fun j hj => by
        rcases Nat.lt_or_ge j i with z | z
        · exact hn j z
        · rw [show j = i by omega, hg]
          exact fun e => q (Option.some.inj e))
      rw [← nI_1] at this
      exact this
    · have q : v_at xs (nI i) = v := Classical.not_not.mp q
      refine ⟨?_, rfl⟩
      unfold o_num
      rw [o_fnd_some (by rw [hg, q]) hn]
theorem c_V_numberOfValue {l : Launch} {h : g_H} {a : Nat} {xs : List Int32} {v : Int32} (hV : o_V h a xs) : g_Run l J_V_numberOfValue [.ref a, .int v] h (fun oc hE => oc = .inl (some (.int (o_num xs v))) ∧ hE = h) := by
  refine go_V_numberOfValue [2] 20 ?_
  exact x_V_num hV xs.length 0 rfl (Nat.zero_le _) (fun j hj => absurd hj (by omega))
