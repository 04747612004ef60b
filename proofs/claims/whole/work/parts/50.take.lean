/-! Unpacker: state, numbers, words -/
def o_U (h : g_H) (a : Nat) (ins : List Int32) (m : o_Mm) (rs : List o_Rw) (o t pl : Int32) : Prop := h.1 a = some (.inr (7, [.ref (a + 1), .ref (a + 3), .ref (a + 9), .int pl])) ∧ g_I h (a + 1) 1008 ins ∧ o_M h (a + 3) m ∧ o_B h (a + 9) rs o t
theorem o_U_Fr {h h1 : g_H} {a lo hi : Nat} {ins : List Int32} {m : o_Mm} {rs : List o_Rw} {o t pl : Int32} (hU : o_U h a ins m rs o t pl) (hf : g_Fr lo hi h h1) (hd : a + 16 ≤ lo ∨ hi ≤ a) : o_U h1 a ins m rs o t pl := ⟨(hf.2 a (by omega)).trans hU.1, g_I_Fr hU.2.1 hf (by omega), o_M_Fr hU.2.2.1 hf (by omega), o_B_Fr hU.2.2.2 hf (by omega)⟩
theorem c_U_init {l : Launch} {f : Nat → Option g_E} {w a : Nat} (h0 : f a = some (.inr (7, [.null, .null, .null, .int 0]))) : g_Run l J_U_init [.ref a] (f, a + 1, w) (fun oc hE => oc = .inl none ∧ o_U hE a [] ((0, 0), (0, 0), [], 0, 0) [] 0 0 0 ∧ g_Nw a (a + 16) 1341 (f, a + 1, w) hE) := by
  refine go_U_init [] 60 ?_
  refine g_cs_i (c_I_init (cap := 1008) (a := a + 1) (g_nw_eq (n := 2) rfl) rfl (by omega)) (fun oc h1 hp => ?_)
  obtain ⟨f1, _, w1⟩ := h1
  obtain ⟨rfl, i1, rfl, rfl, n1⟩ := hp
  refine ⟨_, rfl, ?_⟩
  refine g_pt_i (show f1 a = _ from (n1 a (by omega)).trans ((g_nw_ne (by show a ≠ a + 1; omega)).trans h0)) (Nat.le_of_ble_eq_true rfl) rfl rfl ?_
  refine g_cs_i (c_M_init (a := a + 3) (g_nw_eq (n := 5) rfl)) (fun oc h2 hp => ?_)
  obtain ⟨f2, _, w2⟩ := h2
  obtain ⟨rfl, i2, rfl, rfl, n2⟩ := hp
  refine ⟨_, rfl, ?_⟩
  refine g_pt_i (show f2 a = _ from (n2 a (by omega)).trans ((g_nw_ne (by show a ≠ a + 3; omega)).trans g_up_eq)) (Nat.le_of_ble_eq_true rfl) rfl rfl ?_
  refine g_cs_i (c_B_init (a := a + 9) (o := 0) (t := 0) (g_nw_eq (n := 5) rfl)) (fun oc h3 hp => ?_)
  obtain ⟨f3, _, w3⟩ := h3
  obtain ⟨rfl, i3, rfl, rfl, n3⟩ := hp
  refine ⟨_, rfl, ?_⟩
  refine g_pt_i (show f3 a = _ from (n3 a (by omega)).trans ((g_nw_ne (by show a ≠ a + 9; omega)).trans g_up_eq)) (Nat.le_of_ble_eq_true rfl) rfl rfl ?_
  have g2 : ∀ q, q < a + 3 → q ≠ a → f2 q = f1 q := fun q h1 h2 => (n2 q h1).trans ((g_nw_ne (by show q ≠ a + 3; omega)).trans (g_up_ne h2))
  have g3 : ∀ q, q < a + 9 → q ≠ a → f3 q = f2 q := fun q h1 h2 => (n3 q h1).trans ((g_nw_ne (by show q ≠ a + 9; omega)).trans (g_up_ne h2))
  have e3 : ∀ q, q ≠ a → (g_up (f3, a + 16, w + 2 + 1008 + 5 + 15 + 5 + 306) a (.inr (7, [.ref (a + 1), .ref (a + 3), .ref (a + 9), .int 0]))).1 q = f3 q := fun q h => g_up_ne h
  refine ⟨rfl, ⟨g_up_eq, ?_, ?_, ?_⟩, rfl, rfl, fun q hq => ?_⟩
  · exact g_I_fr i1 ((e3 _ (by omega)).trans ((g3 _ (by omega) (by omega)).trans (g2 _ (by omega) (by omega)))) ((e3 _ (by omega)).trans ((g3 _ (by omega) (by omega)).trans (g2 _ (by omega) (by omega))))
  · have k : ∀ q, a + 3 ≤ q → q < a + 9 → (g_up (f3, a + 16, w + 2 + 1008 + 5 + 15 + 5 + 306) a (.inr (7, [.ref (a + 1), .ref (a + 3), .ref (a + 9), .int 0]))).1 q = f2 q := fun q h1 h2 => (e3 q (by omega)).trans (g3 q h2 (by omega))
    exact ⟨(k _ (by omega) (by omega)).trans i2.1, (k _ (by omega) (by omega)).trans i2.2.1, (k _ (by omega) (by omega)).trans i2.2.2.1, (k _ (by omega) (by omega)).trans i2.2.2.2.1, g_I_fr i2.2.2.2.2 (k _ (by omega) (by omega)) (k _ (by omega) (by omega))⟩
  · exact ⟨(e3 _ (by omega)).trans i3.1, g_I_fr i3.2.1 (e3 _ (by omega)) (e3 _ (by omega)), g_I_fr i3.2.2.1 (e3 _ (by omega)) (e3 _ (by omega)), g_I_fr i3.2.2.2 (e3 _ (by omega)) (e3 _ (by omega))⟩
  · exact (e3 _ (by omega)).trans ((g3 _ (by omega) (by omega)).trans ((g2 _ (by omega) (by omega)).trans ((n1 q (by omega)).trans (g_nw_ne (by show q ≠ a + 1; omega)))))
theorem c_U_block {l : Launch} {h : g_H} {a : Nat} {ins : List Int32} {m : o_Mm} {rs : List o_Rw} {o t pl : Int32} (hU : o_U h a ins m rs o t pl) : g_Run l J_U_block [.ref a] h (fun oc hE => oc = .inl (some (.ref (a + 9))) ∧ hE = h) := by
  refine go_U_block [] 20 ?_
  refine g_gt_i hU.1 rfl ?_
  exact ⟨rfl, rfl⟩
def o_by (xs : List Int32) : Prop := ∀ x ∈ xs, ∃ β : Nat, β < 256 ∧ x = nI β
theorem o_by_at {xs : List Int32} (h : o_by xs) {i : Nat} {x : Int32} (hx : xs[i]? = some x) : ∃ β : Nat, β < 256 ∧ x = nI β := h x (List.mem_of_getElem? hx)
def d_last (b i : Nat) : Bool := if i = 4 ∧ 15 < b then false else i == 0 || b != 0
theorem c_U_isLastOfNumber {l : Launch} {h : g_H} {b i : Nat} (hb : b < 256) (hi : i < 5) : g_Run l J_U_isLastOfNumber [.int (nI b), .int (nI i)] h (fun oc hE => oc = .inl (some (.int (if d_last b i = true then 1 else 0))) ∧ hE = h) := by
  have k2 : g_X l J_U_isLastOfNumber 13 [some (.int (nI b)), some (.int (nI i))] [] h (fun oc hE => oc = .inl (some (.int (if (i == 0 || b != 0) = true then 1 else 0))) ∧ hE = h) := by
    refine g_go ok_U_isLastOfNumber [] 20 ?_
    refine g_br_i (fun q => ?_) (fun q => ?_)
    · have q : i = 0 := (nI_eq (by omega) (by omega)).mp q
      exact ⟨by decide, by simp [q], rfl⟩
    · have q : ¬ i = 0 := fun z => q (by rw [z]; rfl)
      refine g_br_i (fun q2 => ?_) (fun q2 => ?_)
      · have q2 : b = 0 := (nI_eq (by omega) (by omega)).mp q2
        exact ⟨by decide, by simp [q, q2], rfl⟩
      · have q2 : ¬ b = 0 := fun z => q2 (by rw [z]; rfl)
        exact ⟨by decide, by simp [q2], rfl⟩
  refine go_U_isLastOfNumber [13] 20 ?_
  refine g_br_i (fun q => ?_) (fun q => ?_)
  · have q : ¬ i = 4 := fun z => q (by rw [z]; rfl)
    rw [show d_last b i = (i == 0 || b != 0) by unfold d_last; rw [if_neg (fun z => q z.1)]]
    exact k2
  · have q : i = 4 := (nI_eq (b := 4) (by omega) (by omega)).mp (Classical.not_not.mp q)
    refine g_br_i (fun q2 => ?_) (fun q2 => ?_)
    · have q2 : b ≤ 15 := (nI_leI (b := 15) (by omega) (by omega)).mp q2
      rw [show d_last b i = (i == 0 || b != 0) by unfold d_last; rw [if_neg (fun z => by omega)]]
      exact k2
    · have q2 : 15 < b := Nat.lt_of_not_le fun z => q2 (nI_le (b := 15) z (by omega))
      rw [show d_last b i = false by unfold d_last; rw [if_pos ⟨q, q2⟩]]
      exact ⟨by decide, rfl, rfl⟩
/-- a number read off bytes: fuel, how many bytes are read, the sum so far -/
def d_num : Nat → Nat → Nat → List Int32 → Option (Nat × List Int32)
  | 0, _, _, _ => none
  | _ + 1, _, _, [] => none
  | f + 1, i, acc, b :: t => if b.toNatClampNeg < 128 then (if d_last b.toNatClampNeg i = true then some (acc + b.toNatClampNeg % 128 * 2 ^ (7 * i), t) else none) else d_num f (i + 1) (acc + b.toNatClampNeg % 128 * 2 ^ (7 * i)) t
theorem nI_tn {b : Nat} (h : b < 256) : (nI b).toNatClampNeg = b := nI_clamp (by omega)
theorem d_shift {r i : Nat} (hi : i < 5) (hr : r < 128) : (nI r).toInt64 <<< (((7 : Int32) * nI i).toInt64 &&& 63) = lN (r * 2 ^ (7 * i)) := by
  have e1 : (7 : Int32) * nI i = nI (7 * i) := pk_mul 7 i
  rw [e1, nI_l (by omega), nI_l (by omega)]
  have e2 : lN (7 * i) &&& 63 = lN (7 * i) := by
    rcases (show i = 0 ∨ i = 1 ∨ i = 2 ∨ i = 3 ∨ i = 4 by omega) with rfl | rfl | rfl | rfl | rfl <;> decide
  rw [e2]
  rcases (show i = 0 ∨ i = 1 ∨ i = 2 ∨ i = 3 ∨ i = 4 by omega) with rfl | rfl | rfl | rfl | rfl <;> · revert r; decide
theorem x_U_num {l : Launch} {a : Nat} {ins : List Int32} {m : o_Mm} {rs : List o_Rw} {o t : Int32} {hh : g_H} (hby : o_by ins) : ∀ (f i acc k : Nat) (c4 : Option Value) (h : g_H), f + i = 5 → k ≤ ins.length → o_U h a ins m rs o t (nI k) → g_Fr a (a + 16) hh h →
    g_X l J_U_takeNumber 4 [some (.ref a), some (.long (lN acc)), none, some (.int (nI i)), c4] [] h (fun oc hE => g_Fr a (a + 16) hh hE ∧ match d_num f i acc (ins.drop k) with
      | some (x, r) => ∃ k', k' ≤ ins.length ∧ r = ins.drop k' ∧ oc = .inl (some (.long (lN x))) ∧ o_U hE a ins m rs o t (nI k')
      | none => oc = .inl (some (.long (-1))) ∧ ∃ pl, o_U hE a ins m rs o t pl) := by
  intro f
  induction f with
  | zero =>
    intro i acc k c4 h hfi hk hU hF
    have : i = 5 := by omega
    subst this
    refine g_go ok_U_takeNumber [4] 60 ?_
    refine g_br_t (show (5 : Int32) ≤ nI 5 by decide) ?_
    exact ⟨hF, rfl, _, hU⟩
  | succ f ih =>
    intro i acc k c4 h hfi hk hU hF
    have hl := g_I_len hU.2.1
    have up : ∀ (h1 : g_H) (pl pl2 : Int32), o_U h1 a ins m rs o t pl → o_U (g_up h1 a (.inr (7, [.ref (a + 1), .ref (a + 3), .ref (a + 9), .int pl2]))) a ins m rs o t pl2 ∧ g_Fr a (a + 16) h1 (g_up h1 a (.inr (7, [.ref (a + 1), .ref (a + 3), .ref (a + 9), .int pl2]))) := fun h1 pl pl2 u1 => by
      have f1 : g_Fr a (a + 1) h1 (g_up h1 a (.inr (7, [.ref (a + 1), .ref (a + 3), .ref (a + 9), .int pl2]))) := g_Fr_up (by omega) (by omega)
      exact ⟨⟨g_up_eq, g_I_Fr u1.2.1 f1 (by omega), o_M_Fr u1.2.2.1 f1 (by omega), o_B_Fr u1.2.2.2 f1 (by omega)⟩, g_Fr_wd f1 (by omega) (by omega)⟩
    refine g_go ok_U_takeNumber [4] 60 ?_
    refine g_br_f (show ¬ (5 : Int32) ≤ nI i from nI_ge (b := 5) (by omega) (by omega)) ?_
    refine g_gt_i hU.1 rfl ?_
    refine g_gt_i hU.1 rfl ?_
    refine g_cv_i (g_I_ty hU.2.1) (c_I_at hU.2.1) (fun oc h1 hp => ?_)
    obtain ⟨rfl, rfl⟩ := hp
    refine ⟨_, rfl, ?_⟩
    refine g_gt_i hU.1 rfl ?_
    refine g_pt_i hU.1 (Nat.le_of_ble_eq_true rfl) rfl rfl ?_
    obtain ⟨u2, f2⟩ := up _ _ (nI k + 1) hU
    by_cases hkl : k < ins.length
    · obtain ⟨b, hb, hdr⟩ := l_drop (xs := ins) (i := k) hkl
      obtain ⟨β, hβ, rfl⟩ := o_by_at hby hb
      rw [v_at_some (by omega) hb, hdr]
      refine g_br_t (show ¬ nI β = -1 from fun z => by have := nI_pos (n := β) (by omega); rw [z] at this; exact this (by decide)) ?_
      refine And.intro (by decide) ?_
      have e1 : nI β - nI β / 128 * 128 = nI (β % 128) := pk_rem (d := 128) (by omega) (by omega) (by omega)
      have e2 : lN acc + (nI β - nI β / 128 * 128).toInt64 <<< (((7 : Int32) * nI i).toInt64 &&& 63) = lN (acc + β % 128 * 2 ^ (7 * i)) := by
        rw [e1, d_shift (by omega) (Nat.mod_lt _ (by omega)), lN_add]
      unfold d_num
      rw [nI_tn hβ]
      have u2' := (fun (hx : g_H) (z : o_U hx a ins m rs o t (nI k + 1)) => (show o_U hx a ins m rs o t (nI (k + 1)) by rw [← nI_1]; exact z)) _ u2
      by_cases q : β < 128
      · rw [if_pos q]
        refine g_br_f (show ¬ (128 : Int32) ≤ nI β from nI_ge (b := 128) q (by omega)) ?_
        refine g_cs_i (c_U_isLastOfNumber hβ (by omega)) (fun oc h3 hp => ?_)
        obtain ⟨rfl, rfl⟩ := hp
        refine ⟨_, rfl, ?_⟩
        by_cases q2 : d_last β i = true
        · rw [if_pos q2, if_pos q2]
          refine g_br_f (by decide) ?_
          exact ⟨g_Fr_tr hF f2, k + 1, by omega, rfl, by rw [← e2], u2'⟩
        · rw [if_neg q2, if_neg q2]
          refine g_br_t (by decide) ?_
          exact ⟨g_Fr_tr hF f2, rfl, _, u2'⟩
      · rw [if_neg q]
        refine g_br_t (show (128 : Int32) ≤ nI β from nI_le (a := 128) (by omega) (by omega)) ?_
        have := ih (i + 1) (acc + β % 128 * 2 ^ (7 * i)) (k + 1) (some (.int (nI β))) _ (by omega) (by omega) u2' (g_Fr_tr hF f2)
        rw [← e2, ← nI_1] at this
        exact this
    · rw [v_at_out (v_not_in (by omega) (by omega) (by omega)), List.drop_eq_nil_of_le (by omega)]
      refine g_br_f (by decide) ?_
      exact ⟨g_Fr_tr hF f2, rfl, _, u2⟩
theorem c_U_takeNumber {l : Launch} {h : g_H} {a k : Nat} {ins : List Int32} {m : o_Mm} {rs : List o_Rw} {o t : Int32} (hby : o_by ins) (hk : k ≤ ins.length) (hU : o_U h a ins m rs o t (nI k)) : g_Run l J_U_takeNumber [.ref a] h (fun oc hE => g_Fr a (a + 16) h hE ∧ match d_num 5 0 0 (ins.drop k) with
      | some (x, r) => ∃ k', k' ≤ ins.length ∧ r = ins.drop k' ∧ oc = .inl (some (.long (lN x))) ∧ o_U hE a ins m rs o t (nI k')
      | none => oc = .inl (some (.long (-1))) ∧ ∃ pl, o_U hE a ins m rs o t pl) := by
  refine go_U_takeNumber [4] 20 ?_
  exact x_U_num hby 5 0 0 k none h rfl hk hU (g_Fr_rf _ _ _)
