/-! Reader -/
def o_K0 (h : g_H) (a : Nat) (ks : List o_Kr) : Prop := ∃ p q os ss, o_K h a ks p q 0 os ss
theorem o_K0_Fr {h h1 : g_H} {a lo hi : Nat} {ks : List o_Kr} (hK : o_K0 h a ks) (hf : g_Fr lo hi h h1) (hd : a + 17 ≤ lo ∨ hi ≤ a) : o_K0 h1 a ks := by
  obtain ⟨p, q, os, ss, h1⟩ := hK
  exact ⟨p, q, os, ss, o_K_Fr h1 hf hd⟩
theorem o_K0_KK {h : g_H} {a : Nat} {ks : List o_Kr} (hK : o_K0 h a ks) : o_KK h a ks := by
  obtain ⟨p, q, os, ss, h1⟩ := hK
  exact ⟨p, q, 0, os, ss, h1, Or.inl rfl⟩
theorem o_KK_len {h : g_H} {a : Nat} {ks : List o_Kr} (hK : o_KK h a ks) : ks.length ≤ 2000 := by
  obtain ⟨p, q, z, os, ss, h1, -⟩ := hK
  exact o_K_len h1
theorem o_KK_ty {h : g_H} {a : Nat} {ks : List o_Kr} (hK : o_KK h a ks) : ∃ fs, h.1 a = some (.inr (5, fs)) := by
  obtain ⟨p, q, z, os, ss, h1, -⟩ := hK
  exact ⟨_, h1.1⟩
abbrev r_cell (a : Nat) (po bl br nk : Int32) : g_E := .inr (8, [.ref (a + 1), .ref (a + 17), .int po, .int bl, .int br, .int nk])
def o_R (h : g_H) (a : Nat) (ks : List o_Kr) (po bl br nk : Int32) : Prop := h.1 a = some (r_cell a po bl br nk) ∧ (∃ ins m rs o t pl, o_U h (a + 1) ins m rs o t pl) ∧ o_KK h (a + 17) ks
theorem o_R_Fr {h h1 : g_H} {a lo hi : Nat} {ks : List o_Kr} {po bl br nk : Int32} (hR : o_R h a ks po bl br nk) (hf : g_Fr lo hi h h1) (hd : a + 34 ≤ lo ∨ hi ≤ a) : o_R h1 a ks po bl br nk := by
  obtain ⟨h1, ⟨ins, m, rs, o, t, pl, hU⟩, hK⟩ := hR
  exact ⟨(hf.2 a (by omega)).trans h1, ⟨ins, m, rs, o, t, pl, o_U_Fr hU hf (by omega)⟩, o_KK_Fr hK hf (by omega)⟩
theorem g_I_rg {h h1 : g_H} {a cap : Nat} {xs : List Int32} (hI : g_I h a cap xs) (e : ∀ q, a ≤ q → q < a + 2 → h1.1 q = h.1 q) : g_I h1 a cap xs := g_I_fr hI (e a (by omega) (by omega)) (e (a + 1) (by omega) (by omega))
theorem o_B_rg {h h1 : g_H} {a : Nat} {rs : List o_Rw} {o t : Int32} (hB : o_B h a rs o t) (e : ∀ q, a ≤ q → q < a + 7 → h1.1 q = h.1 q) : o_B h1 a rs o t :=
  ⟨(e a (by omega) (by omega)).trans hB.1, g_I_rg hB.2.1 (fun q h1 h2 => e q (by omega) (by omega)), g_I_rg hB.2.2.1 (fun q h1 h2 => e q (by omega) (by omega)), g_I_rg hB.2.2.2 (fun q h1 h2 => e q (by omega) (by omega))⟩
theorem o_M_rg {h h1 : g_H} {a : Nat} {m : o_Mm} (hM : o_M h a m) (e : ∀ q, a ≤ q → q < a + 6 → h1.1 q = h.1 q) : o_M h1 a m :=
  ⟨(e a (by omega) (by omega)).trans hM.1, (e _ (by omega) (by omega)).trans hM.2.1, (e _ (by omega) (by omega)).trans hM.2.2.1, (e _ (by omega) (by omega)).trans hM.2.2.2.1, g_I_rg hM.2.2.2.2 (fun q h1 h2 => e q (by omega) (by omega))⟩
theorem o_U_rg {h h1 : g_H} {a : Nat} {ins : List Int32} {m : o_Mm} {rs : List o_Rw} {o t pl : Int32} (hU : o_U h a ins m rs o t pl) (e : ∀ q, a ≤ q → q < a + 16 → h1.1 q = h.1 q) : o_U h1 a ins m rs o t pl :=
  ⟨(e a (by omega) (by omega)).trans hU.1, g_I_rg hU.2.1 (fun q h1 h2 => e q (by omega) (by omega)), o_M_rg hU.2.2.1 (fun q h1 h2 => e q (by omega) (by omega)), o_B_rg hU.2.2.2 (fun q h1 h2 => e q (by omega) (by omega))⟩
theorem o_Q_rg {h h1 : g_H} {a : Nat} {ins : List Int32} {m : o_Mm} {c : Int32} (hQ : o_Q h a ins m c) (e : ∀ q, a ≤ q → q < a + 9 → h1.1 q = h.1 q) : o_Q h1 a ins m c :=
  ⟨(e a (by omega) (by omega)).trans hQ.1, g_I_rg hQ.2.1 (fun q h1 h2 => e q (by omega) (by omega)), o_M_rg hQ.2.2 (fun q h1 h2 => e q (by omega) (by omega))⟩
def o_R0 (h : g_H) (a : Nat) (ins : List Int32) (m : o_Mm) (rs : List o_Rw) (o t pl : Int32) (ks : List o_Kr) (po bl br nk : Int32) : Prop := h.1 a = some (r_cell a po bl br nk) ∧ o_U h (a + 1) ins m rs o t pl ∧ o_K0 h (a + 17) ks
theorem c_K_initW {l : Launch} {f : Nat → Option g_E} {w a W : Nat} (hW : W = 16016) (h0 : f a = some (.inr (5, [.null, .null, .null, .null, .null, .null, .null, .null, .int 0]))) : g_Run l J_K_init [.ref a] (f, a + 1, w) (fun oc hE => oc = .inl none ∧ o_K hE a [] (a + 13) (a + 15) 0 [] [] ∧ g_Nw a (a + 17) W (f, a + 1, w) hE) := by
  subst hW
  exact c_K_init h0
theorem c_U_initW {l : Launch} {f : Nat → Option g_E} {w a W : Nat} (hW : W = 1341) (h0 : f a = some (.inr (7, [.null, .null, .null, .int 0]))) : g_Run l J_U_init [.ref a] (f, a + 1, w) (fun oc hE => oc = .inl none ∧ o_U hE a [] ((0, 0), (0, 0), [], 0, 0) [] 0 0 0 ∧ g_Nw a (a + 16) W (f, a + 1, w) hE) := by
  subst hW
  exact c_U_init h0
theorem c_R_init {l : Launch} {f : Nat → Option g_E} {w a W : Nat} (hW : W = 17370) (h0 : f a = some (.inr (8, [.null, .null, .int 0, .int 0, .int 0, .int 0]))) : g_Run l J_R_init [.ref a] (f, a + 1, w) (fun oc hE => oc = .inl none ∧ o_R hE a [] 0 0 0 0 ∧ g_Nw a (a + 34) W (f, a + 1, w) hE) := by
  obtain ⟨W1, e1⟩ : ∃ x : Nat, x = 1341 := ⟨_, rfl⟩
  obtain ⟨W2, e2⟩ : ∃ x : Nat, x = 16016 := ⟨_, rfl⟩
  refine go_R_init [] 60 ?_
  refine g_cs_i (c_U_initW (a := a + 1) e1 (g_nw_eq (n := 4) rfl)) (fun oc h1 hp => ?_)
  obtain ⟨f1, m1, w1⟩ := h1
  obtain ⟨rfl, i1, p1, q1, n1⟩ := hp
  have u1 : m1 = a + 17 := p1
  have q1' : w1 = w + 4 + W1 := q1
  clear p1 q1
  subst u1
  refine ⟨_, rfl, ?_⟩
  have a1 : f1 a = some (.inr (8, [.null, .null, .int 0, .int 0, .int 0, .int 0])) := (n1 a (by omega)).trans ((g_nw_ne (by show a ≠ a + 1; omega)).trans h0)
  refine g_pt_j [.ref (a + 1), .null, .int 0, .int 0, .int 0, .int 0] a1 (Nat.le_of_ble_eq_true rfl) rfl rfl rfl ?_
  refine g_cs_i (c_K_initW (a := a + 17) e2 (g_nw_eq (n := 9) rfl)) (fun oc h2 hp => ?_)
  obtain ⟨f2, m2, w2⟩ := h2
  obtain ⟨rfl, i2, p2, q2, n2⟩ := hp
  have u2 : m2 = a + 34 := p2
  have q2' : w2 = w1 + 9 + W2 := q2
  have v2 : w2 = w + W := by omega
  clear p2 q2 q2'
  subst u2 v2
  refine ⟨_, rfl, ?_⟩
  have a2 : f2 a = some (.inr (8, [.ref (a + 1), .null, .int 0, .int 0, .int 0, .int 0])) := (n2 a (by omega)).trans ((g_nw_ne (by show a ≠ a + 17; omega)).trans g_up_eq)
  refine g_pt_j [.ref (a + 1), .ref (a + 17), .int 0, .int 0, .int 0, .int 0] a2 (Nat.le_of_ble_eq_true rfl) rfl rfl rfl ?_
  have g2 : ∀ q, q < a + 17 → q ≠ a → f2 q = f1 q := fun q h1 h2 => (n2 q h1).trans ((g_nw_ne (by show q ≠ a + 17; omega)).trans (g_up_ne h2))
  have f3 : g_Fr a (a + 1) (f2, a + 34, w + W) (g_up (f2, a + 34, w + W) a (r_cell a 0 0 0 0)) := g_Fr_up (by omega) (by omega)
  have u3 : o_U (f2, a + 34, w + W) (a + 1) [] ((0, 0), (0, 0), [], 0, 0) [] 0 0 0 := o_U_rg i1 (fun q h1 h2 => g2 q (by omega) (by omega))
  refine ⟨rfl, ⟨g_up_eq, ⟨_, _, _, _, _, _, o_U_Fr u3 f3 (by omega)⟩, ⟨_, _, 0, _, _, o_K_Fr i2 f3 (by omega), Or.inl rfl⟩⟩, rfl, rfl, fun q hq => ?_⟩
  exact (f3.2 q (by omega)).trans ((g2 q (by omega) (by omega)).trans ((n1 q (by omega)).trans (g_nw_ne (by show q ≠ a + 1; omega))))
theorem c_R_passedOver {l : Launch} {h : g_H} {a : Nat} {ks : List o_Kr} {po bl br nk : Int32} (hR : o_R h a ks po bl br nk) : g_Run l J_R_passedOver [.ref a] h (fun oc hE => oc = .inl (some (.int po)) ∧ hE = h) := by
  refine go_R_passedOver [] 20 ?_
  refine g_gt_i hR.1 rfl ?_
  exact ⟨rfl, rfl⟩
theorem c_R_blocks {l : Launch} {h : g_H} {a : Nat} {ks : List o_Kr} {po bl br nk : Int32} (hR : o_R h a ks po bl br nk) : g_Run l J_R_blocks [.ref a] h (fun oc hE => oc = .inl (some (.int bl)) ∧ hE = h) := by
  refine go_R_blocks [] 20 ?_
  refine g_gt_i hR.1 rfl ?_
  exact ⟨rfl, rfl⟩
theorem c_R_broken {l : Launch} {h : g_H} {a : Nat} {ks : List o_Kr} {po bl br nk : Int32} (hR : o_R h a ks po bl br nk) : g_Run l J_R_broken [.ref a] h (fun oc hE => oc = .inl (some (.int br)) ∧ hE = h) := by
  refine go_R_broken [] 20 ?_
  refine g_gt_i hR.1 rfl ?_
  exact ⟨rfl, rfl⟩
theorem c_R_notKept {l : Launch} {h : g_H} {a : Nat} {ks : List o_Kr} {po bl br nk : Int32} (hR : o_R h a ks po bl br nk) : g_Run l J_R_notKept [.ref a] h (fun oc hE => oc = .inl (some (.int nk)) ∧ hE = h) := by
  refine go_R_notKept [] 20 ?_
  refine g_gt_i hR.1 rfl ?_
  exact ⟨rfl, rfl⟩
theorem c_R_rows {l : Launch} {h : g_H} {a : Nat} {ks : List o_Kr} {po bl br nk : Int32} (hR : o_R h a ks po bl br nk) : g_Run l J_R_rows [.ref a] h (fun oc hE => oc = .inl (some (.ref (a + 17))) ∧ hE = h) := by
  refine go_R_rows [] 20 ?_
  refine g_gt_i hR.1 rfl ?_
  exact ⟨rfl, rfl⟩
theorem c_KK_size {l : Launch} {h : g_H} {a : Nat} {ks : List o_Kr} (hK : o_KK h a ks) : g_Run l J_K_size [.ref a] h (fun oc hE => oc = .inl (some (.int (nI ks.length))) ∧ hE = h) := by
  obtain ⟨p, q, z, os, ss, h1, -⟩ := hK
  exact c_K_size h1
theorem c_KK_has {l : Launch} {h : g_H} {a : Nat} {ks : List o_Kr} {k i : Int32} (hK : o_KK h a ks) : g_Run l J_K_has [.ref a, .int k, .int i] h (fun oc hE => oc = .inl (some (.int (if (0 ≤ k ∧ k < nI ks.length) ∧ 0 ≤ i ∧ i < 6 then 1 else 0))) ∧ hE = h) := by
  obtain ⟨p, q, z, os, ss, h1, -⟩ := hK
  exact c_K_has h1
theorem c_KK_at {l : Launch} {h : g_H} {a i : Nat} {ks : List o_Kr} {k : Int32} (hi : i < 6) (hK : o_KK h a ks) : g_Run l J_K_at [.ref a, .int k, .int (nI i)] h (fun oc hE => oc = .inl (some (.int (v_at (ks.map (k_col i)) k))) ∧ hE = h) := by
  obtain ⟨p, q, z, os, ss, h1, -⟩ := hK
  exact c_K_at hi h1
theorem c_R_clear {l : Launch} {h : g_H} {a : Nat} {ks : List o_Kr} {po bl br nk : Int32} (hR : o_R h a ks po bl br nk) : g_Run l J_R_clear [.ref a] h (fun oc hE => oc = .inl none ∧ (∃ ins m rs o t pl, o_R0 hE a ins m rs o t pl [] po 0 0 0) ∧ g_Fr a (a + 34) h hE) := by
  obtain ⟨b0, ⟨ins, m, rs, o, t, pl, hU⟩, ⟨p, q, z, os, ss, hK, -⟩⟩ := hR
  refine go_R_clear [] 40 ?_
  refine g_gt_i b0 rfl ?_
  refine g_cv_i hK.1 (c_K_clear hK) (fun oc h1 hp => ?_)
  obtain ⟨rfl, k1, f1⟩ := hp
  refine ⟨_, rfl, ?_⟩
  have b1 := (f1.2 a (by omega)).trans b0
  refine g_pt_j [.ref (a + 1), .ref (a + 17), .int po, .int 0, .int br, .int nk] b1 (Nat.le_of_ble_eq_true rfl) rfl rfl rfl ?_
  refine g_pt_j [.ref (a + 1), .ref (a + 17), .int po, .int 0, .int 0, .int nk] g_up_eq (Nat.le_of_ble_eq_true rfl) rfl rfl rfl ?_
  refine g_pt_j [.ref (a + 1), .ref (a + 17), .int po, .int 0, .int 0, .int 0] g_up_eq (Nat.le_of_ble_eq_true rfl) rfl rfl rfl ?_
  have f2 : g_Fr a (a + 1) h1 (g_up (g_up (g_up h1 a (r_cell a po 0 br nk)) a (r_cell a po 0 0 nk)) a (r_cell a po 0 0 0)) := g_Fr_tr (g_Fr_up (by omega) (by omega)) (g_Fr_tr (g_Fr_up (by omega) (by omega)) (g_Fr_up (by omega) (by omega)))
  exact ⟨rfl, ⟨ins, m, rs, o, t, pl, g_up_eq, o_U_Fr (o_U_Fr hU f1 (by omega)) f2 (by omega), ⟨p, q, os, ss, o_K_Fr k1 f2 (by omega)⟩⟩, g_Fr_tr (g_Fr_wd f1 (by omega) (by omega)) (g_Fr_wd f2 (by omega) (by omega))⟩
def d_skip : List Int32 → Nat
  | [] => 0
  | b :: t => if b = 126 then 0 else d_skip t + 1
theorem d_skip_le : ∀ xs : List Int32, d_skip xs ≤ xs.length
  | [] => Nat.le_refl _
  | b :: t => by
    have := d_skip_le t
    unfold d_skip
    split
    · simp
    · simp only [List.length_cons]; omega
theorem x_R_first {l : Launch} {h : g_H} {b : Nat} {v : Int32} {pk : List Int32} (hI : g_I h b 16384 pk) : ∀ (d i : Nat), pk.length - i = d → i ≤ pk.length → g_X l J_R_firstMark 2 [some (.ref b), some (.int v), some (.int (nI i))] [] h (fun oc hE => oc = .inl (some (.int (nI (i + d_skip (pk.drop i))))) ∧ hE = h) := by
  have hl := g_I_len hI
  intro d
  induction d with
  | zero =>
    intro i hd hi
    refine g_go ok_R_firstMark [2] 60 ?_
    refine g_cv_i (g_I_ty hI) (c_I_size hI) (fun oc h1 hp => ?_)
    obtain ⟨rfl, rfl⟩ := hp
    refine ⟨_, rfl, ?_⟩
    refine g_br_t (show nI pk.length ≤ nI i from nI_le (by omega) (by omega)) ?_
    refine g_cv_i (g_I_ty hI) (c_I_size hI) (fun oc h1 hp => ?_)
    obtain ⟨rfl, rfl⟩ := hp
    refine ⟨_, rfl, ?_⟩
    rw [List.drop_eq_nil_of_le (by omega)]
    have e : i = pk.length := by omega
    exact ⟨by rw [e]; rfl, rfl⟩
  | succ d ih =>
    intro i hd hi
    obtain ⟨x, hx, hdr⟩ := l_drop (xs := pk) (i := i) (by omega)
    refine g_go ok_R_firstMark [2] 60 ?_
    refine g_cv_i (g_I_ty hI) (c_I_size hI) (fun oc h1 hp => ?_)
    obtain ⟨rfl, rfl⟩ := hp
    refine ⟨_, rfl, ?_⟩
    refine g_br_f (show ¬ nI pk.length ≤ nI i from nI_ge (by omega) (by omega)) ?_
    refine g_cv_i (g_I_ty hI) (c_I_at hI) (fun oc h1 hp => ?_)
    obtain ⟨rfl, rfl⟩ := hp
    refine ⟨_, rfl, ?_⟩
    rw [v_at_some (by omega) hx, hdr]
    unfold d_skip
    refine g_br_i (fun q => ?_) (fun q => ?_)
    · have q : ¬ x = 126 := q
      have := ih (i + 1) (by omega) (by omega)
      rw [← nI_1 i, show i + 1 + d_skip (pk.drop (i + 1)) = i + (d_skip (pk.drop (i + 1)) + 1) by omega] at this
      rw [if_neg q]
      exact this
    · have q : x = 126 := Classical.not_not.mp q
      rw [if_pos q]
      exact ⟨rfl, rfl⟩
theorem c_R_firstMark {l : Launch} {h : g_H} {b i : Nat} {pk : List Int32} (hI : g_I h b 16384 pk) (hi : i ≤ pk.length) : g_Run l J_R_firstMark [.ref b, .int (nI i)] h (fun oc hE => oc = .inl (some (.int (nI (i + d_skip (pk.drop i))))) ∧ hE = h) := by
  refine go_R_firstMark [2] 20 ?_
  exact x_R_first hI _ i rfl hi
def d_ch (ch k o : Int32) : Bool := decide ((ch >>> (k &&& 31)) &&& 1 = 1) && decide ((ch >>> ((5 + o) &&& 31)) &&& 1 = 1)
theorem c_R_isChosen {l : Launch} {h : g_H} {ch k o : Int32} : g_Run l J_R_isChosen [.int ch, .int k, .int o] h (fun oc hE => oc = .inl (some (.int (if d_ch ch k o = true then 1 else 0))) ∧ hE = h) := by
  unfold d_ch
  refine go_R_isChosen [] 20 ?_
  refine g_br_i (fun q => ?_) (fun q => ?_)
  · have q : ¬ (ch >>> (k &&& 31)) &&& 1 = 1 := q
    exact ⟨by decide, by simp [q], rfl⟩
  · have q : (ch >>> (k &&& 31)) &&& 1 = 1 := Classical.not_not.mp q
    refine g_br_i (fun q2 => ?_) (fun q2 => ?_)
    · have q2 : ¬ (ch >>> ((5 + o) &&& 31)) &&& 1 = 1 := q2
      exact ⟨by decide, by simp [q2], rfl⟩
    · have q2 : (ch >>> ((5 + o) &&& 31)) &&& 1 = 1 := Classical.not_not.mp q2
      exact ⟨by decide, by simp [q, q2], rfl⟩
