/-! shields; Packer.moveBehind -/
def o_tk (cap : Nat) (xs bs : List Int32) : List Int32 := (xs ++ bs).take cap
theorem o_tk_tk (cap : Nat) (ins bs cs : List Int32) : o_tk cap (o_tk cap ins bs) cs = o_tk cap ins (bs ++ cs) := by
  unfold o_tk
  rw [← List.append_assoc]
  generalize ins ++ bs = X
  rcases Nat.le_total X.length cap with h | h
  · rw [List.take_of_length_le h]
  · rw [List.take_append_of_le_length (by rw [List.length_take]; omega), List.take_append_of_le_length h, List.take_take]
    simp
theorem o_tk_le {cap : Nat} {xs bs : List Int32} (h : xs.length + bs.length ≤ cap) : o_tk cap xs bs = xs ++ bs := by
  unfold o_tk
  exact List.take_of_length_le (by rw [List.length_append]; exact h)
def e_shq (v : Int32) : Prop := v = 126 ∨ v = 125
def e_sh1 (v : Int32) : List Int32 := if v = 126 then [125, 94] else if v = 125 then [125, 93] else [v]
def e_sh (xs : List Int32) : List Int32 := xs.flatMap e_sh1
theorem e_sh1_len (v : Int32) : (e_sh1 v).length = if v = 126 ∨ v = 125 then 2 else 1 := by
  unfold e_sh1
  by_cases h1 : v = 126
  · simp [h1]
  · by_cases h2 : v = 125
    · simp [h2]
    · simp [h1, h2]
theorem e_sh_len_le : ∀ xs : List Int32, (e_sh xs).length ≤ 2 * xs.length
  | [] => by simp [e_sh]
  | x :: t => by
    have h1 := e_sh_len_le t
    have h2 := e_sh1_len x
    have : (e_sh (x :: t)).length = (e_sh1 x).length + (e_sh t).length := by simp [e_sh]
    rw [this, h2, List.length_cons]
    split <;> omega
theorem c_Q_isShielded {l : Launch} {h : g_H} {v : Int32} : g_Run l J_Q_isShielded [.int v] h (fun oc hE => oc = .inl (some (.int (if v = 126 ∨ v = 125 then 1 else 0))) ∧ hE = h) := by
  refine go_Q_isShielded [] 20 ?_
  refine g_br_i (fun q => ?_) (fun q => ?_)
  · exact ⟨by decide, by rw [if_pos (Or.inl q)], rfl⟩
  · refine g_br_i (fun q2 => ?_) (fun q2 => ?_)
    · exact ⟨by decide, by rw [if_neg (fun z => z.elim q q2)], rfl⟩
    · exact ⟨by decide, by rw [if_pos (Or.inr (Classical.not_not.mp q2))], rfl⟩
theorem x_Q_len {l : Launch} {h : g_H} {a : Nat} {ins : List Int32} {m : o_Mm} {c : Int32} (hQ : o_Q h a ins m c) : ∀ (d i n : Nat), ins.length - i = d → i ≤ ins.length → n ≤ 1 + 1008 + i →
    g_X l J_Q_lengthShielded 12 [some (.ref a), some (.int (nI n)), some (.int (nI i))] [] h (fun oc hE => oc = .inl (some (.int (nI (n + ((e_sh (ins.drop i)).length - (ins.length - i)))))) ∧ hE = h) := by
  have hl := g_I_len hQ.2.1
  intro d
  induction d with
  | zero =>
    intro i n hd hi hn
    refine g_go ok_Q_lengthShielded [12] 60 ?_
    refine g_gt_i hQ.1 rfl ?_
    refine g_cv_i (g_I_ty hQ.2.1) (c_I_size hQ.2.1) (fun oc h1 hp => ?_)
    obtain ⟨rfl, rfl⟩ := hp
    refine ⟨_, rfl, ?_⟩
    refine g_br_t (show nI ins.length ≤ nI i from nI_le (by omega) (by omega)) ?_
    rw [List.drop_eq_nil_of_le (by omega)]
    exact ⟨by simp [e_sh], rfl⟩
  | succ d ih =>
    intro i n hd hi hn
    obtain ⟨x, hx, hdr⟩ := l_drop (xs := ins) (i := i) (by omega)
    have ge : ∀ ys : List Int32, ys.length ≤ (e_sh ys).length := fun ys => by
      induction ys with
      | nil => simp
      | cons y t ih2 =>
        have : (e_sh (y :: t)).length = (e_sh1 y).length + (e_sh t).length := by simp [e_sh]
        rw [this, e_sh1_len, List.length_cons]
        split <;> omega
    have g2 := ge (ins.drop (i + 1))
    rw [List.length_drop] at g2
    have ec : (e_sh (ins.drop i)).length = (e_sh1 x).length + (e_sh (ins.drop (i + 1))).length := by rw [hdr]; simp [e_sh]
    refine g_go ok_Q_lengthShielded [12] 60 ?_
    refine g_gt_i hQ.1 rfl ?_
    refine g_cv_i (g_I_ty hQ.2.1) (c_I_size hQ.2.1) (fun oc h1 hp => ?_)
    obtain ⟨rfl, rfl⟩ := hp
    refine ⟨_, rfl, ?_⟩
    refine g_br_f (show ¬ nI ins.length ≤ nI i from nI_ge (by omega) (by omega)) ?_
    refine g_gt_i hQ.1 rfl ?_
    refine g_cv_i (g_I_ty hQ.2.1) (c_I_at hQ.2.1) (fun oc h1 hp => ?_)
    obtain ⟨rfl, rfl⟩ := hp
    rw [v_at_some (by omega) hx]
    refine ⟨_, rfl, ?_⟩
    refine g_cs_i c_Q_isShielded (fun oc h1 hp => ?_)
    obtain ⟨rfl, rfl⟩ := hp
    refine ⟨_, rfl, ?_⟩
    rw [ec, e_sh1_len]
    by_cases q : x = 126 ∨ x = 125
    · rw [if_pos q, if_pos q]
      refine g_br_f (by decide) ?_
      have := ih (i + 1) (n + 1) (by omega) (by omega) (by omega)
      rw [← nI_1, ← nI_1] at this
      rw [show n + (2 + (e_sh (ins.drop (i + 1))).length - (ins.length - i)) = n + 1 + ((e_sh (ins.drop (i + 1))).length - (ins.length - (i + 1))) by omega]
      exact this
    · rw [if_neg q, if_neg q]
      refine g_br_t (by decide) ?_
      have := ih (i + 1) n (by omega) (by omega) (by omega)
      rw [← nI_1] at this
      rw [show n + (1 + (e_sh (ins.drop (i + 1))).length - (ins.length - i)) = n + ((e_sh (ins.drop (i + 1))).length - (ins.length - (i + 1))) by omega]
      exact this
theorem e_sh_ge : ∀ ys : List Int32, ys.length ≤ (e_sh ys).length
  | [] => by simp
  | y :: t => by
    have ih2 := e_sh_ge t
    have : (e_sh (y :: t)).length = (e_sh1 y).length + (e_sh t).length := by simp [e_sh]
    rw [this, e_sh1_len, List.length_cons]
    split <;> omega
theorem c_Q_lengthShielded {l : Launch} {h : g_H} {a : Nat} {ins : List Int32} {m : o_Mm} {c : Int32} (hQ : o_Q h a ins m c) : g_Run l J_Q_lengthShielded [.ref a] h (fun oc hE => oc = .inl (some (.int (nI (1 + (e_sh ins).length)))) ∧ hE = h) := by
  have hl := g_I_len hQ.2.1
  have g2 := e_sh_ge ins
  refine go_Q_lengthShielded [12] 20 ?_
  refine g_gt_i hQ.1 rfl ?_
  refine g_cv_i (g_I_ty hQ.2.1) (c_I_size hQ.2.1) (fun oc h1 hp => ?_)
  obtain ⟨rfl, rfl⟩ := hp
  refine ⟨_, rfl, ?_⟩
  have := x_Q_len (l := l) hQ ins.length 0 (1 + ins.length) rfl (Nat.zero_le _) (by omega)
  rw [← nI_add, List.drop_zero, show 1 + ins.length + ((e_sh ins).length - (ins.length - 0)) = 1 + (e_sh ins).length by omega] at this
  exact this
theorem x_Q_move {l : Launch} {a b : Nat} {ins : List Int32} {m : o_Mm} {c : Int32} {hh : g_H} (hQ0 : o_Q hh a ins m c) (hab : a + 9 ≤ b ∨ b + 2 ≤ a) : ∀ (d i : Nat) (pk : List Int32) (c3 : Option Value) (h : g_H), ins.length - i = d → i ≤ ins.length → g_I h b 16384 pk → g_Fr b (b + 2) hh h →
    g_X l J_Q_moveBehind 26 [some (.ref a), some (.ref b), some (.int (nI i)), c3] [] h (fun oc hE => oc = .inl (some (.int 1)) ∧ g_I hE b 16384 (o_tk 16384 pk (e_sh (ins.drop i))) ∧ g_Fr b (b + 2) hh hE) := by
  have hl := g_I_len hQ0.2.1
  intro d
  induction d with
  | zero =>
    intro i pk c3 h hd hi hI hF
    have hQ := o_Q_Fr hQ0 hF (by omega)
    have hp := g_I_len hI
    refine g_go ok_Q_moveBehind [26] 60 ?_
    refine g_gt_i hQ.1 rfl ?_
    refine g_cv_i (g_I_ty hQ.2.1) (c_I_size hQ.2.1) (fun oc h1 hp => ?_)
    obtain ⟨rfl, rfl⟩ := hp
    refine ⟨_, rfl, ?_⟩
    refine g_br_t (show nI ins.length ≤ nI i from nI_le (by omega) (by omega)) ?_
    rw [List.drop_eq_nil_of_le (by omega), o_tk_le (by simp [e_sh]; omega)]
    simp only [e_sh, List.flatMap_nil, List.append_nil]
    exact ⟨by decide, rfl, hI, hF⟩
  | succ d ih =>
    intro i pk c3 h hd hi hI hF
    have hQ := o_Q_Fr hQ0 hF (by omega)
    obtain ⟨x, hx, hdr⟩ := l_drop (xs := ins) (i := i) (by omega)
    have ec : e_sh (ins.drop i) = e_sh1 x ++ e_sh (ins.drop (i + 1)) := by rw [hdr]; simp [e_sh]
    refine g_go ok_Q_moveBehind [26] 60 ?_
    refine g_gt_i hQ.1 rfl ?_
    refine g_cv_i (g_I_ty hQ.2.1) (c_I_size hQ.2.1) (fun oc h1 hp => ?_)
    obtain ⟨rfl, rfl⟩ := hp
    refine ⟨_, rfl, ?_⟩
    refine g_br_f (show ¬ nI ins.length ≤ nI i from nI_ge (by omega) (by omega)) ?_
    refine g_gt_i hQ.1 rfl ?_
    refine g_cv_i (g_I_ty hQ.2.1) (c_I_at hQ.2.1) (fun oc h1 hp => ?_)
    obtain ⟨rfl, rfl⟩ := hp
    rw [v_at_some (by omega) hx]
    refine ⟨_, rfl, ?_⟩
    refine g_cs_i c_Q_isShielded (fun oc h1 hp => ?_)
    obtain ⟨rfl, rfl⟩ := hp
    refine ⟨_, rfl, ?_⟩
    rw [ec, ← o_tk_tk]
    by_cases q : x = 126 ∨ x = 125
    · rw [if_pos q]
      refine g_br_f (by decide) ?_
      refine g_cv_i (g_I_ty hI) (c_I_add hI) (fun oc h2 hp => ?_)
      obtain ⟨rfl, i2, f2⟩ := hp
      refine ⟨_, rfl, ?_⟩
      refine g_br_i (fun q3 => ?_) (fun q3 => ?_)
      · have q3 : ¬ x = 126 := q3
        have q4 : x = 125 := q.resolve_left q3
        refine g_cv_i (g_I_ty i2) (c_I_add i2) (fun oc h3 hp => ?_)
        obtain ⟨rfl, i3, f3⟩ := hp
        refine ⟨_, rfl, ?_⟩
        have i3 : g_I h3 b 16384 (o_tk 16384 pk (e_sh1 x)) := by
          have e5 : e_sh1 x = [125] ++ [93] := by unfold e_sh1; rw [if_neg q3, if_pos q4]; rfl
          rw [e5, ← o_tk_tk]
          exact i3
        have := ih (i + 1) _ (some (.int x)) h3 (by omega) (by omega) i3 (g_Fr_tr hF (g_Fr_tr f2 f3))
        rw [← nI_1] at this
        exact this
      · have q3 : x = 126 := Classical.not_not.mp q3
        refine g_cv_i (g_I_ty i2) (c_I_add i2) (fun oc h3 hp => ?_)
        obtain ⟨rfl, i3, f3⟩ := hp
        refine ⟨_, rfl, ?_⟩
        have i3 : g_I h3 b 16384 (o_tk 16384 pk (e_sh1 x)) := by
          have e5 : e_sh1 x = [125] ++ [94] := by unfold e_sh1; rw [if_pos q3]; rfl
          rw [e5, ← o_tk_tk]
          exact i3
        have := ih (i + 1) _ (some (.int x)) h3 (by omega) (by omega) i3 (g_Fr_tr hF (g_Fr_tr f2 f3))
        rw [← nI_1] at this
        exact this
    · rw [if_neg q]
      refine g_br_t (by decide) ?_
      refine g_cv_i (g_I_ty hI) (c_I_add hI) (fun oc h2 hp => ?_)
      obtain ⟨rfl, i2, f2⟩ := hp
      refine ⟨_, rfl, ?_⟩
      have i3 : g_I h2 b 16384 (o_tk 16384 pk (e_sh1 x)) := by
        have e5 : e_sh1 x = [x] := by unfold e_sh1; rw [if_neg (fun z => q (Or.inl z)), if_neg (fun z => q (Or.inr z))]
        rw [e5]
        exact i2
      have := ih (i + 1) _ (some (.int x)) h2 (by omega) (by omega) i3 (g_Fr_tr hF f2)
      rw [← nI_1] at this
      exact this
theorem c_Q_moveBehind {l : Launch} {h : g_H} {a b : Nat} {ins pk : List Int32} {m : o_Mm} {c : Int32} (hQ : o_Q h a ins m c) (hI : g_I h b 16384 pk) (hab : a + 9 ≤ b ∨ b + 2 ≤ a) : g_Run l J_Q_moveBehind [.ref a, .ref b] h (fun oc hE => oc = .inl (some (.int (if pk.length + (1 + (e_sh ins).length) ≤ 16384 then 1 else 0))) ∧ g_I hE b 16384 (if pk.length + (1 + (e_sh ins).length) ≤ 16384 then pk ++ 126 :: e_sh ins else pk) ∧ g_Fr b (b + 2) h hE) := by
  have hl := g_I_len hQ.2.1
  have hp := g_I_len hI
  have hs := e_sh_len_le ins
  refine go_Q_moveBehind [26] 40 ?_
  refine g_cv_i hQ.1 (c_Q_lengthShielded hQ) (fun oc h1 hp => ?_)
  obtain ⟨rfl, rfl⟩ := hp
  refine ⟨_, rfl, ?_⟩
  refine g_cv_i (g_I_ty hI) (c_I_size hI) (fun oc h1 hp => ?_)
  obtain ⟨rfl, rfl⟩ := hp
  refine ⟨_, rfl, ?_⟩
  have es : (16384 : Int32) - nI pk.length = nI (16384 - pk.length) := pk_sub (a := 16384) (b := pk.length) (by omega)
  by_cases q : pk.length + (1 + (e_sh ins).length) ≤ 16384
  · rw [if_pos q, if_pos q]
    refine g_br_t (show nI (1 + (e_sh ins).length) ≤ 16384 - nI pk.length by rw [es]; exact nI_le (by omega) (by omega)) ?_
    refine g_cv_i (g_I_ty hI) (c_I_add hI) (fun oc h2 hp => ?_)
    obtain ⟨rfl, i2, f2⟩ := hp
    refine ⟨_, rfl, ?_⟩
    have := x_Q_move (l := l) hQ hab ins.length 0 _ none _ rfl (Nat.zero_le _) i2 f2
    rw [List.drop_zero, show v_add 16384 pk 126 = o_tk 16384 pk [126] from rfl, o_tk_tk, o_tk_le (by simp; omega)] at this
    exact this
  · rw [if_neg q, if_neg q]
    refine g_br_f (show ¬ nI (1 + (e_sh ins).length) ≤ 16384 - nI pk.length by rw [es]; exact nI_ge (by omega) (by omega)) ?_
    exact ⟨by decide, rfl, hI, g_Fr_rf _ _ _⟩
