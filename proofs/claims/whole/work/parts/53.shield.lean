/-! Unpacker: shields -/
def d_us : Bool → List Int32 → List Int32 → Option (List Int32)
  | false, ins, [] => some ins
  | true, _, [] => none
  | false, ins, b :: t => if b = 125 then d_us true ins t else if ins.length < 1008 then d_us false (ins ++ [b]) t else none
  | true, ins, b :: t => if b = 94 then (if ins.length < 1008 then d_us false (ins ++ [126]) t else none) else if b = 93 then (if ins.length < 1008 then d_us false (ins ++ [125]) t else none) else none
theorem c_U_unshielded {l : Launch} {h : g_H} {v : Int32} : g_Run l J_U_unshielded [.int v] h (fun oc hE => oc = .inl (some (.int (if v = 94 then 126 else if v = 93 then 125 else -1))) ∧ hE = h) := by
  refine go_U_unshielded [] 20 ?_
  refine g_br_i (fun q => ?_) (fun q => ?_)
  · rw [if_neg q]
    refine g_br_i (fun q2 => ?_) (fun q2 => ?_)
    · rw [if_neg q2]
      exact ⟨rfl, rfl⟩
    · rw [if_pos (Classical.not_not.mp q2)]
      exact ⟨rfl, rfl⟩
  · rw [if_pos (Classical.not_not.mp q)]
    exact ⟨rfl, rfl⟩
theorem o_U_in {h h1 : g_H} {a : Nat} {ins ins' : List Int32} {m : o_Mm} {rs : List o_Rw} {o t pl : Int32} (hU : o_U h a ins m rs o t pl) (i1 : g_I h1 (a + 1) 1008 ins') (f1 : g_Fr (a + 1) (a + 1 + 2) h h1) : o_U h1 a ins' m rs o t pl := ⟨(f1.2 a (by omega)).trans hU.1, i1, o_M_Fr hU.2.2.1 f1 (by omega), o_B_Fr hU.2.2.2 f1 (by omega)⟩
/-- what unshield comes to -/
abbrev u_us (a : Nat) (m : o_Mm) (rs : List o_Rw) (o t pl : Int32) (hh : g_H) (res : Option (List Int32)) : g_P := fun oc hE => g_Fr a (a + 16) hh hE ∧ match res with
      | some ins' => oc = .inl (some (.int 1)) ∧ o_U hE a ins' m rs o t pl
      | none => oc = .inl (some (.int 0)) ∧ ∃ ins', o_U hE a ins' m rs o t pl
theorem x_U_us {l : Launch} {a b s e : Nat} {m : o_Mm} {rs : List o_Rw} {o t pl : Int32} {hh : g_H} {pk : List Int32} (hI0 : g_I hh b 16384 pk) (hby : o_by pk) (hab : a + 16 ≤ b ∨ b + 2 ≤ a) (he : e ≤ pk.length) : ∀ (d i : Nat) (fl : Bool) (ins : List Int32) (c6 : Option Value) (h : g_H), e - i = d → i ≤ e → o_U h a ins m rs o t pl → g_Fr a (a + 16) hh h →
    g_X l J_U_unshield 14 [some (.ref a), some (.ref b), some (.int (nI s)), some (.int (nI e)), some (.int (if fl = true then 1 else 0)), some (.int (nI i)), c6] [] h (u_us a m rs o t pl hh (d_us fl ins ((pk.take e).drop i))) := by
  have hlp := g_I_len hI0
  have htl : (pk.take e).length = e := by rw [List.length_take]; omega
  intro d
  induction d with
  | zero =>
    intro i fl ins c6 h hd hi hU hF
    refine g_go ok_U_unshield [14] 60 ?_
    refine g_br_t (show nI e ≤ nI i from nI_le (by omega) (by omega)) ?_
    rw [List.drop_eq_nil_of_le (by omega)]
    cases fl with
    | false =>
      refine g_br_f (by decide) ?_
      exact ⟨by decide, hF, rfl, hU⟩
    | true =>
      refine g_br_t (by decide) ?_
      exact ⟨by decide, hF, rfl, _, hU⟩
  | succ d ih =>
    intro i fl ins c6 h hd hi hU hF
    have hI := g_I_Fr hI0 hF (by omega)
    have hl := g_I_len hU.2.1
    obtain ⟨x, hx, hdr⟩ := l_drop (xs := pk.take e) (i := i) (by omega)
    have hx2 : pk[i]? = some x := by
      rw [List.getElem?_take, if_pos (by omega)] at hx
      exact hx
    obtain ⟨β, hβ, rfl⟩ := o_by_at hby hx2
    rw [hdr]
    -- behind the byte's value: it is put behind the inside
    have tA : ∀ (v : Int32) (Post : g_P), (¬ v = -1) → (ins.length < 1008 → ∀ h1 : g_H, o_U h1 a (ins ++ [v]) m rs o t pl → g_Fr a (a + 16) hh h1 → g_X l J_U_unshield 14 [some (.ref a), some (.ref b), some (.int (nI s)), some (.int (nI e)), some (.int 0), some (.int (nI i + 1)), some (.int v)] [] h1 Post) → (¬ ins.length < 1008 → ∀ h1 : g_H, o_U h1 a ins m rs o t pl → g_Fr a (a + 16) hh h1 → Post (.inl (some (.int 0))) h1) →
        g_X l J_U_unshield 61 [some (.ref a), some (.ref b), some (.int (nI s)), some (.int (nI e)), some (.int 0), some (.int (nI i)), some (.int v)] [] h Post := by
      intro v Post hv k1 k2
      refine g_go ok_U_unshield [14] 60 ?_
      refine g_br_f hv ?_
      refine g_gt_i hU.1 rfl ?_
      refine g_cv_i (g_I_ty hU.2.1) (c_I_add hU.2.1) (fun oc h1 hp => ?_)
      obtain ⟨rfl, i1, f1⟩ := hp
      refine ⟨_, rfl, ?_⟩
      have F1 := g_Fr_tr hF (g_Fr_wd (lo' := a) (hi' := a + 16) f1 (by omega) (by omega))
      have u1 := o_U_in hU i1 f1
      by_cases q : ins.length < 1008
      · rw [if_pos q]
        rw [v_add_lt q] at u1
        refine g_br_t (by decide) ?_
        exact k1 q _ u1 F1
      · rw [if_neg q]
        rw [v_add_ge (by omega)] at u1
        refine g_br_f (by decide) ?_
        exact ⟨by decide, k2 q _ u1 F1⟩
    have hne : ¬ nI β = -1 := fun z => by have := nI_pos (n := β) (by omega); rw [z] at this; exact this (by decide)
    refine g_go ok_U_unshield [14, 61] 60 ?_
    refine g_br_f (show ¬ nI e ≤ nI i from nI_ge (by omega) (by omega)) ?_
    refine g_cv_i (g_I_ty hI) (c_I_at hI) (fun oc h1 hp => ?_)
    obtain ⟨rfl, rfl⟩ := hp
    rw [v_at_some (by omega) hx2]
    refine ⟨_, rfl, ?_⟩
    cases fl with
    | false =>
      unfold d_us
      refine g_br_f (by decide) ?_
      refine g_br_i (fun q => ?_) (fun q => ?_)
      · have q : ¬ nI β = 125 := q
        rw [if_neg q]
        refine g_br_t (by decide) ?_
        refine tA _ _ hne (fun q2 h2 u2 F2 => ?_) (fun q2 h2 u2 F2 => ?_)
        · rw [if_pos q2]
          have := ih (i + 1) false _ (some (.int (nI β))) h2 (by omega) (by omega) u2 F2
          rw [← nI_1] at this
          exact this
        · rw [if_neg q2]
          exact ⟨F2, rfl, _, u2⟩
      · have q : nI β = 125 := Classical.not_not.mp q
        rw [if_pos q]
        have := ih (i + 1) true ins (some (.int (nI β))) _ (by omega) (by omega) hU hF
        rw [← nI_1] at this
        exact this
    | true =>
      unfold d_us
      refine g_br_t (by decide) ?_
      refine g_br_f (by decide) ?_
      refine g_cs_i c_U_unshielded (fun oc h2 hp => ?_)
      obtain ⟨rfl, rfl⟩ := hp
      refine ⟨_, rfl, ?_⟩
      by_cases q : nI β = 94
      · rw [if_pos q, if_pos q]
        refine tA _ _ (by decide) (fun q2 h2 u2 F2 => ?_) (fun q2 h2 u2 F2 => ?_)
        · rw [if_pos q2]
          have := ih (i + 1) false _ (some (.int 126)) h2 (by omega) (by omega) u2 F2
          rw [← nI_1] at this
          exact this
        · rw [if_neg q2]
          exact ⟨F2, rfl, _, u2⟩
      · rw [if_neg q, if_neg q]
        by_cases q3 : nI β = 93
        · rw [if_pos q3, if_pos q3]
          refine tA _ _ (by decide) (fun q2 h2 u2 F2 => ?_) (fun q2 h2 u2 F2 => ?_)
          · rw [if_pos q2]
            have := ih (i + 1) false _ (some (.int 125)) h2 (by omega) (by omega) u2 F2
            rw [← nI_1] at this
            exact this
          · rw [if_neg q2]
            exact ⟨F2, rfl, _, u2⟩
        · rw [if_neg q3, if_neg q3]
          refine g_go ok_U_unshield [14] 60 ?_
          refine g_br_t rfl ?_
          exact ⟨by decide, hF, rfl, _, hU⟩
theorem c_U_unshield {l : Launch} {h : g_H} {a b s e : Nat} {ins : List Int32} {m : o_Mm} {rs : List o_Rw} {o t pl : Int32} {pk : List Int32} (hU : o_U h a ins m rs o t pl) (hI : g_I h b 16384 pk) (hby : o_by pk) (hab : a + 16 ≤ b ∨ b + 2 ≤ a) (hs : s ≤ e) (he : e ≤ pk.length) : g_Run l J_U_unshield [.ref a, .ref b, .int (nI s), .int (nI e)] h (u_us a m rs o t pl h (d_us false [] ((pk.take e).drop s))) := by
  have hl := g_I_len hU.2.1
  refine go_U_unshield [14] 40 ?_
  refine g_gt_i hU.1 rfl ?_
  refine g_cv_i (g_I_ty hU.2.1) (c_I_shorten hU.2.1) (fun oc h1 hp => ?_)
  obtain ⟨rfl, i1, f1⟩ := hp
  rw [v_cut_0 (by omega)] at i1
  refine ⟨_, rfl, ?_⟩
  have f2 := g_Fr_wd (lo' := a) (hi' := a + 16) f1 (by omega) (by omega)
  have := x_U_us (l := l) (a := a) (b := b) (s := s) (hh := h1) (g_I_Fr hI f2 (by omega)) hby hab he (e - s) s false [] none h1 rfl hs (o_U_in hU i1 f1) (g_Fr_rf _ _ _)
  exact g_X_mono (fun oc hE hp => ⟨g_Fr_tr f2 hp.1, hp.2⟩) this
def d_isn (k f : Nat) : Bool := k == 1 || (k == 2 && f == 1) || (k == 3 && Nat.ble 16 f) || k == 4
theorem c_U_isNumberBehind {l : Launch} {h : g_H} {k f : Nat} (hk : k < 8) (hf : f < 32) : g_Run l J_U_isNumberBehind [.int (nI k), .int (nI f)] h (fun oc hE => oc = .inl (some (.int (if d_isn k f = true then 1 else 0))) ∧ hE = h) := by
  refine go_U_isNumberBehind [] 20 ?_
  refine g_br_i (fun q => ?_) (fun q => ?_)
  · have q : k = 1 := (nI_eq (b := 1) (by omega) (by omega)).mp q
    exact ⟨by decide, by simp [d_isn, q], rfl⟩
  have q : ¬ k = 1 := fun z => q (by rw [z]; rfl)
  refine g_br_i (fun q2 => ?_) (fun q2 => ?_)
  · have q2 : k = 2 := (nI_eq (b := 2) (by omega) (by omega)).mp q2
    subst q2
    refine g_br_i (fun q3 => ?_) (fun q3 => ?_)
    · have q3 : ¬ f = 1 := fun z => q3 (by rw [z]; rfl)
      exact ⟨by decide, by simp [d_isn, q3], rfl⟩
    · have q3 : f = 1 := (nI_eq (b := 1) (by omega) (by omega)).mp (Classical.not_not.mp q3)
      exact ⟨by decide, by simp [d_isn, q3], rfl⟩
  have q2 : ¬ k = 2 := fun z => q2 (by rw [z]; rfl)
  refine g_br_i (fun q3 => ?_) (fun q3 => ?_)
  · have q3 : k = 3 := (nI_eq (b := 3) (by omega) (by omega)).mp q3
    subst q3
    refine g_br_i (fun q4 => ?_) (fun q4 => ?_)
    · have q4 : f < 16 := (nI_ltI (b := 16) (by omega) (by omega)).mp q4
      exact ⟨by decide, by simp [d_isn]; omega, rfl⟩
    · have q4 : 16 ≤ f := Nat.le_of_not_lt fun z => q4 (nI_lt (b := 16) z (by omega))
      exact ⟨by decide, by simp [d_isn, q4], rfl⟩
  have q3 : ¬ k = 3 := fun z => q3 (by rw [z]; rfl)
  refine g_br_i (fun q4 => ?_) (fun q4 => ?_)
  · have q4 : k = 4 := (nI_eq (b := 4) (by omega) (by omega)).mp q4
    exact ⟨by decide, by simp [d_isn, q4], rfl⟩
  have q4 : ¬ k = 4 := fun z => q4 (by rw [z]; rfl)
  exact ⟨by decide, by simp [d_isn, q, q2, q3, q4], rfl⟩
