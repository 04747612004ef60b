/-! Packer: what it writes, as functions; then its methods -/
def o_ap (ins bs : List Int32) : List Int32 := (ins ++ bs).take 1008
theorem o_ap_ap (ins bs cs : List Int32) : o_ap (o_ap ins bs) cs = o_ap ins (bs ++ cs) := by
  unfold o_ap
  rw [← List.append_assoc]
  generalize ins ++ bs = X
  rcases Nat.le_total X.length 1008 with h | h
  · rw [List.take_of_length_le h]
  · rw [List.take_append_of_le_length (by rw [List.length_take]; omega), List.take_append_of_le_length h, List.take_take]
    simp
theorem o_ap_nil {ins : List Int32} (h : ins.length ≤ 1008) : o_ap ins [] = ins := by
  unfold o_ap
  rw [List.append_nil]
  exact List.take_of_length_le h
theorem o_ap_len (ins bs : List Int32) : (o_ap ins bs).length ≤ 1008 := by
  unfold o_ap
  rw [List.length_take]
  omega
def o_Q (h : g_H) (a : Nat) (ins : List Int32) (m : o_Mm) (c : Int32) : Prop := h.1 a = some (.inr (6, [.ref (a + 1), .ref (a + 3), .int c])) ∧ g_I h (a + 1) 1008 ins ∧ o_M h (a + 3) m
theorem o_Q_Fr {h h1 : g_H} {a lo hi : Nat} {ins : List Int32} {m : o_Mm} {c : Int32} (hQ : o_Q h a ins m c) (hf : g_Fr lo hi h h1) (hd : a + 9 ≤ lo ∨ hi ≤ a) : o_Q h1 a ins m c := ⟨(hf.2 a (by omega)).trans hQ.1, g_I_Fr hQ.2.1 hf (by omega), o_M_Fr hQ.2.2 hf (by omega)⟩
theorem c_Q_init {l : Launch} {f : Nat → Option g_E} {w a : Nat} (h0 : f a = some (.inr (6, [.null, .null, .int 0]))) : g_Run l J_Q_init [.ref a] (f, a + 1, w) (fun oc hE => oc = .inl none ∧ o_Q hE a [] ((0, 0), (0, 0), [], 0, 0) 1 ∧ g_Nw a (a + 9) 1030 (f, a + 1, w) hE) := by
  refine go_Q_init [] 60 ?_
  refine g_cs_i (c_I_init (cap := 1008) (a := a + 1) (g_nw_eq (n := 2) rfl) rfl (by omega)) (fun oc h1 hp => ?_)
  obtain ⟨f1, _, w1⟩ := h1
  obtain ⟨rfl, i1, rfl, rfl, n1⟩ := hp
  refine ⟨_, rfl, ?_⟩
  refine g_pt_i (show f1 a = _ from (n1 a (by omega)).trans ((g_nw_ne (by show a ≠ a + 1; omega)).trans h0)) (Nat.le_of_ble_eq_true rfl) rfl rfl ?_
  refine g_cs_i (c_M_init (a := a + 3) (g_nw_eq (n := 5) rfl)) (fun oc h2 hp => ?_)
  obtain ⟨f2, _, w2⟩ := h2
  obtain ⟨rfl, i2, rfl, rfl, n2⟩ := hp
  refine ⟨_, rfl, ?_⟩
  refine g_pt_i (show f2 a = _ from (n2 a (by omega)).trans ((g_nw_ne (by show a ≠ a + 3; omega)).trans g_up_eq)) (Nat.le_of_ble_eq_true rfl) rfl rfl ?_
  refine g_pt_i g_up_eq (Nat.le_of_ble_eq_true rfl) rfl rfl ?_
  have g2 : ∀ q, q < a + 3 → q ≠ a → f2 q = f1 q := fun q h1 h2 => (n2 q h1).trans ((g_nw_ne (by show q ≠ a + 3; omega)).trans (g_up_ne h2))
  have f3 : g_Fr a (a + 1) (f2, a + 9, w + 2 + 1008 + 5 + 15) (g_up (g_up (f2, a + 9, w + 2 + 1008 + 5 + 15) a (.inr (6, [.ref (a + 1), .ref (a + 3), .int 0]))) a (.inr (6, [.ref (a + 1), .ref (a + 3), .int 1]))) := g_Fr_tr (g_Fr_up (by omega) (by omega)) (g_Fr_up (by omega) (by omega))
  refine ⟨rfl, ⟨g_up_eq, ?_, o_M_Fr i2 f3 (by omega)⟩, rfl, rfl, fun q hq => ?_⟩
  · exact g_I_fr i1 ((f3.2 _ (by omega)).trans (g2 _ (by omega) (by omega))) ((f3.2 _ (by omega)).trans (g2 _ (by omega) (by omega)))
  · exact (f3.2 _ (by omega)).trans ((g2 _ (by omega) (by omega)).trans ((n1 q (by omega)).trans (g_nw_ne (by show q ≠ a + 1; omega))))
theorem q_add {l : Launch} {h : g_H} {a : Nat} {ins : List Int32} {m : o_Mm} {c v : Int32} (hQ : o_Q h a ins m c) : g_Run l J_I_add [.ref (a + 1), .int v] h (fun oc hE => (∃ b : Int32, oc = .inl (some (.int b))) ∧ o_Q hE a (o_ap ins [v]) m c ∧ g_Fr a (a + 9) h hE) :=
  g_Run_mono (c_I_add hQ.2.1) (fun oc hE hp => ⟨⟨_, hp.1⟩, ⟨(hp.2.2.2 a (by omega)).trans hQ.1, hp.2.1, o_M_Fr hQ.2.2 hp.2.2 (by omega)⟩, g_Fr_wd hp.2.2 (by omega) (by omega)⟩)
def e_kind (k f : Int32) : List Int32 := [(k <<< ((5 : Int32) &&& 31)) + f]
theorem c_Q_addKind {l : Launch} {h : g_H} {a : Nat} {ins : List Int32} {m : o_Mm} {c k f : Int32} (hQ : o_Q h a ins m c) : g_Run l J_Q_addKind [.ref a, .int k, .int f] h (fun oc hE => oc = .inl none ∧ o_Q hE a (o_ap ins (e_kind k f)) m c ∧ g_Fr a (a + 9) h hE) := by
  refine go_Q_addKind [] 20 ?_
  refine g_gt_i hQ.1 rfl ?_
  refine g_cv_i (g_I_ty hQ.2.1) (q_add hQ) (fun oc h1 hp => ?_)
  obtain ⟨⟨b, rfl⟩, q1, f1⟩ := hp
  refine ⟨_, rfl, ?_⟩
  exact ⟨rfl, q1, f1⟩
def e_word (w : Int32) : List Int32 := [w >>> ((24 : Int32) &&& 31) &&& 255, w >>> ((16 : Int32) &&& 31) &&& 255, w >>> ((8 : Int32) &&& 31) &&& 255, w >>> ((0 : Int32) &&& 31) &&& 255]
theorem c_Q_addWord {l : Launch} {h : g_H} {a : Nat} {ins : List Int32} {m : o_Mm} {c w : Int32} (hQ : o_Q h a ins m c) : g_Run l J_Q_addWord [.ref a, .int w] h (fun oc hE => oc = .inl none ∧ o_Q hE a (o_ap ins (e_word w)) m c ∧ g_Fr a (a + 9) h hE) := by
  refine go_Q_addWord [] 100 ?_
  refine g_br_f (by decide) ?_
  refine g_gt_i hQ.1 rfl ?_
  refine g_cv_i (g_I_ty hQ.2.1) (q_add hQ) (fun oc h1 hp => ?_)
  obtain ⟨⟨b, rfl⟩, q1, f1⟩ := hp
  refine ⟨_, rfl, ?_⟩
  refine g_br_f (by decide) ?_
  refine g_gt_i q1.1 rfl ?_
  refine g_cv_i (g_I_ty q1.2.1) (q_add q1) (fun oc h2 hp => ?_)
  obtain ⟨⟨b, rfl⟩, q2, f2⟩ := hp
  refine ⟨_, rfl, ?_⟩
  refine g_br_f (by decide) ?_
  refine g_gt_i q2.1 rfl ?_
  refine g_cv_i (g_I_ty q2.2.1) (q_add q2) (fun oc h3 hp => ?_)
  obtain ⟨⟨b, rfl⟩, q3, f3⟩ := hp
  refine ⟨_, rfl, ?_⟩
  refine g_br_f (by decide) ?_
  refine g_gt_i q3.1 rfl ?_
  refine g_cv_i (g_I_ty q3.2.1) (q_add q3) (fun oc h4 hp => ?_)
  obtain ⟨⟨b, rfl⟩, q4, f4⟩ := hp
  refine ⟨_, rfl, ?_⟩
  refine g_br_t (by decide) ?_
  refine ⟨rfl, ?_, g_Fr_tr f1 (g_Fr_tr f2 (g_Fr_tr f3 f4))⟩
  rw [o_ap_ap, o_ap_ap, o_ap_ap] at q4
  exact q4
/-- a number, at most f bytes with the highest bit -/
def e_num : Nat → Int64 → List Int32
  | 0, x => [x.toInt32]
  | f + 1, x => if x < 128 then [x.toInt32] else ((x - x / 128 * 128).toInt32 + 128) :: e_num f (x / 128)
theorem x_Q_num {l : Launch} {a : Nat} {m : o_Mm} {c : Int32} {hh : g_H} {n0 : Int64} : ∀ (f i : Nat) (x : Int64) (ins : List Int32) (h : g_H), f + i = 5 → o_Q h a ins m c → g_Fr a (a + 9) hh h →
    g_X l J_Q_addNumber 5 [some (.ref a), some (.long n0), none, some (.long x), none, some (.int (nI i))] [] h (fun oc hE => oc = .inl none ∧ o_Q hE a (o_ap ins (e_num f x)) m c ∧ g_Fr a (a + 9) hh hE) := by
  intro f
  induction f with
  | zero =>
    intro i x ins h hfi hQ hF
    have : i = 5 := by omega
    subst this
    refine g_go ok_Q_addNumber [5] 60 ?_
    refine g_br_t (show (5 : Int32) ≤ nI 5 by decide) ?_
    refine g_gt_i hQ.1 rfl ?_
    refine g_cv_i (g_I_ty hQ.2.1) (q_add hQ) (fun oc h1 hp => ?_)
    obtain ⟨⟨b, rfl⟩, q1, f1⟩ := hp
    refine ⟨_, rfl, ?_⟩
    exact ⟨rfl, q1, g_Fr_tr hF f1⟩
  | succ f ih =>
    intro i x ins h hfi hQ hF
    refine g_go ok_Q_addNumber [5] 60 ?_
    refine g_br_f (show ¬ (5 : Int32) ≤ nI i from nI_ge (b := 5) (by omega) (by omega)) ?_
    refine g_br_i (fun q => ?_) (fun q => ?_)
    · have q : x < 128 := (lg_cmp_lt _ _).mp q
      refine g_gt_i hQ.1 rfl ?_
      refine g_cv_i (g_I_ty hQ.2.1) (q_add hQ) (fun oc h1 hp => ?_)
      obtain ⟨⟨b, rfl⟩, q1, f1⟩ := hp
      refine ⟨_, rfl, ?_⟩
      refine ⟨rfl, ?_, g_Fr_tr hF f1⟩
      unfold e_num
      rw [if_pos q]
      exact q1
    · have q : ¬ x < 128 := fun z => q ((lg_cmp_lt _ _).mpr z)
      refine g_gt_i hQ.1 rfl ?_
      refine And.intro (by decide) ?_
      refine g_cv_i (g_I_ty hQ.2.1) (q_add hQ) (fun oc h1 hp => ?_)
      obtain ⟨⟨b, rfl⟩, q1, f1⟩ := hp
      refine ⟨_, rfl, ?_⟩
      refine And.intro (by decide) ?_
      have := ih (i + 1) (x / 128) _ h1 (by omega) q1 (g_Fr_tr hF f1)
      rw [← nI_1, o_ap_ap] at this
      unfold e_num
      rw [if_neg q]
      exact this
theorem c_Q_addNumber {l : Launch} {h : g_H} {a : Nat} {ins : List Int32} {m : o_Mm} {c : Int32} {x : Int64} (hQ : o_Q h a ins m c) : g_Run l J_Q_addNumber [.ref a, .long x] h (fun oc hE => oc = .inl none ∧ o_Q hE a (o_ap ins (e_num 4 x)) m c ∧ g_Fr a (a + 9) h hE) := by
  refine go_Q_addNumber [5] 20 ?_
  exact x_Q_num 4 1 x ins h rfl hQ (g_Fr_rf _ _ _)
def e_zz (d : Int32) : Int64 := if d < 0 then d.toInt64 * (-2) - 1 else d.toInt64 * 2
theorem c_T_numberOf {l : Launch} {h : g_H} {d : Int32} : g_Run l J_T_numberOf [.int d] h (fun oc hE => oc = .inl (some (.long (e_zz d))) ∧ hE = h) := by
  refine go_T_numberOf [] 20 ?_
  refine g_br_i (fun q => ?_) (fun q => ?_)
  · refine ⟨?_, rfl⟩
    unfold e_zz
    rw [if_pos q]
  · refine ⟨?_, rfl⟩
    unfold e_zz
    rw [if_neg q]
def e_fl (c : Int32) : List Int32 := if c = 1 then [] else e_kind 0 c
theorem c_Q_addBranches {l : Launch} {h : g_H} {a : Nat} {ins : List Int32} {m : o_Mm} {c : Int32} (hQ : o_Q h a ins m c) : g_Run l J_Q_addBranches [.ref a] h (fun oc hE => oc = .inl none ∧ o_Q hE a (o_ap ins (e_fl c)) m 1 ∧ g_Fr a (a + 9) h hE) := by
  have hl := (g_I_len hQ.2.1).1
  refine go_Q_addBranches [] 40 ?_
  refine g_gt_i hQ.1 rfl ?_
  refine g_br_i (fun q => ?_) (fun q => ?_)
  · have q : c = 1 := q
    refine g_pt_i hQ.1 (Nat.le_of_ble_eq_true rfl) rfl rfl ?_
    have f2 : g_Fr a (a + 1) h (g_up h a (.inr (6, [.ref (a + 1), .ref (a + 3), .int 1]))) := g_Fr_up (by omega) (by omega)
    unfold e_fl
    rw [if_pos q, o_ap_nil hl]
    exact ⟨rfl, ⟨g_up_eq, g_I_Fr hQ.2.1 f2 (by omega), o_M_Fr hQ.2.2 f2 (by omega)⟩, g_Fr_wd f2 (by omega) (by omega)⟩
  · have q : ¬ c = 1 := q
    refine g_gt_i hQ.1 rfl ?_
    refine g_cv_i hQ.1 (c_Q_addKind hQ) (fun oc h1 hp => ?_)
    obtain ⟨rfl, q1, f1⟩ := hp
    refine ⟨_, rfl, ?_⟩
    refine g_pt_i q1.1 (Nat.le_of_ble_eq_true rfl) rfl rfl ?_
    have f2 : g_Fr a (a + 1) h1 (g_up h1 a (.inr (6, [.ref (a + 1), .ref (a + 3), .int 1]))) := g_Fr_up (by omega) (by omega)
    unfold e_fl
    rw [if_neg q]
    exact ⟨rfl, ⟨g_up_eq, g_I_Fr q1.2.1 f2 (by omega), o_M_Fr q1.2.2 f2 (by omega)⟩, g_Fr_tr f1 (g_Fr_wd f2 (by omega) (by omega))⟩
def e_load (m : o_Mm) (p : Int32) : List Int32 := if p = m.1.1 + m.1.2 then e_kind 2 0 else e_kind 2 1 ++ e_num 4 (e_zz (p - m.1.1))
theorem c_Q_addLoad {l : Launch} {h : g_H} {a : Nat} {ins : List Int32} {m : o_Mm} {c p : Int32} (hQ : o_Q h a ins m c) : g_Run l J_Q_addLoad [.ref a, .int p] h (fun oc hE => oc = .inl none ∧ o_Q hE a (o_ap ins (e_load m p)) ((p, p - m.1.1), m.2) c ∧ g_Fr a (a + 9) h hE) := by
  have tail : ∀ (ins1 : List Int32) (h1 : g_H) (Post : g_P), o_Q h1 a ins1 m c → (∀ hE, o_Q hE a ins1 ((p, p - m.1.1), m.2) c → g_Fr a (a + 9) h1 hE → Post (.inl none) hE) → g_X l J_Q_addLoad 47 [some (.ref a), some (.int p)] [] h1 Post := by
    intro ins1 h1 Post q1 hP
    refine g_go ok_Q_addLoad [] 40 ?_
    refine g_gt_i q1.1 rfl ?_
    refine g_gt_i q1.2.2.1 rfl ?_
    refine g_cv_i q1.2.2.2.1 (c_L_goTo q1.2.2.2.1) (fun oc h2 hp => ?_)
    obtain ⟨rfl, i2, f2⟩ := hp
    refine ⟨_, rfl, ?_⟩
    exact hP _ ⟨(f2.2 a (by omega)).trans q1.1, g_I_Fr q1.2.1 f2 (by omega), (f2.2 (a + 3) (by omega)).trans q1.2.2.1, i2, o_L_Fr q1.2.2.2.2.1 f2 (by omega), o_V_Fr q1.2.2.2.2.2 f2 (by omega)⟩ (g_Fr_wd f2 (by omega) (by omega))
  refine go_Q_addLoad [47] 40 ?_
  refine g_gt_i hQ.1 rfl ?_
  refine g_gt_i hQ.2.2.1 rfl ?_
  refine g_cv_i hQ.2.2.2.1 (c_L_expected hQ.2.2.2.1) (fun oc h1 hp => ?_)
  obtain ⟨rfl, rfl⟩ := hp
  refine ⟨_, rfl, ?_⟩
  refine g_br_i (fun q => ?_) (fun q => ?_)
  · have q : ¬ p = m.1.1 + m.1.2 := q
    refine g_cv_i hQ.1 (c_Q_addKind hQ) (fun oc h2 hp => ?_)
    obtain ⟨rfl, q2, f2⟩ := hp
    refine ⟨_, rfl, ?_⟩
    refine g_gt_i q2.1 rfl ?_
    refine g_gt_i q2.2.2.1 rfl ?_
    refine g_cv_i q2.2.2.2.1 (c_L_differenceTo q2.2.2.2.1) (fun oc h3 hp => ?_)
    obtain ⟨rfl, rfl⟩ := hp
    refine ⟨_, rfl, ?_⟩
    refine g_cs_i c_T_numberOf (fun oc h3 hp => ?_)
    obtain ⟨rfl, rfl⟩ := hp
    refine ⟨_, rfl, ?_⟩
    refine g_cv_i q2.1 (c_Q_addNumber q2) (fun oc h4 hp => ?_)
    obtain ⟨rfl, q4, f4⟩ := hp
    refine ⟨_, rfl, ?_⟩
    refine tail _ h4 _ q4 (fun hE qE fE => ⟨rfl, ?_, g_Fr_tr f2 (g_Fr_tr f4 fE)⟩)
    unfold e_load
    rw [if_neg q]
    rw [o_ap_ap] at qE
    exact qE
  · have q : p = m.1.1 + m.1.2 := Classical.not_not.mp q
    refine g_cv_i hQ.1 (c_Q_addKind hQ) (fun oc h2 hp => ?_)
    obtain ⟨rfl, q2, f2⟩ := hp
    refine ⟨_, rfl, ?_⟩
    refine tail _ h2 _ q2 (fun hE qE fE => ⟨rfl, ?_, g_Fr_tr f2 fE⟩)
    unfold e_load
    rw [if_pos q]
    exact qE
