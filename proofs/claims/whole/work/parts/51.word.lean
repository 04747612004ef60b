/-! bits of longs (pasted of kit/laws/BITS.to-paste) -/
theorem wb_tb (n : Nat) : (lN n).toBitVec = BitVec.ofNat 64 n := rfl
theorem wb_inj {a b : Int64} (h : a.toBitVec = b.toBitVec) : a = b := Int64.toBitVec_inj.mp h
theorem wb_tn {n : Nat} (h : n < 2 ^ 64) : (lN n).toBitVec.toNat = n := by rw [wb_tb, BitVec.toNat_ofNat, Nat.mod_eq_of_lt h]
theorem wb_of32 (x : Int32) : ∃ n, n < 2 ^ 32 ∧ x = nI n := ⟨x.toBitVec.toNat, x.toBitVec.isLt, Int32.toBitVec_inj.mp (by show _ = BitVec.ofNat 32 _; simp)⟩
theorem wb_c : ∀ k, k < 64 → ((nI k).toInt64 &&& 63) = lN k := by decide +kernel
theorem wb_sm : ∀ k, k < 64 → (BitVec.ofNat 64 k).smod 64 = BitVec.ofNat 64 k := by decide +kernel
theorem wb_shl (n : Nat) {k : Nat} (hk : k < 64) : lN n <<< ((nI k).toInt64 &&& 63) = lN (n * 2 ^ k) := by
  rw [wb_c k hk]
  apply wb_inj
  rw [Int64.toBitVec_shiftLeft, wb_tb, wb_tb, wb_tb, wb_sm k hk]
  apply BitVec.eq_of_toNat_eq
  rw [BitVec.shiftLeft_eq', BitVec.toNat_shiftLeft, BitVec.toNat_ofNat, BitVec.toNat_ofNat, BitVec.toNat_ofNat, Nat.mod_eq_of_lt (show k < 2 ^ 64 by omega), Nat.shiftLeft_eq, Nat.mul_mod, Nat.mod_mod, ← Nat.mul_mod]
/-! Unpacker: words, the sum, the head -/
def d_wf : Nat → Nat → List Int32 → Nat
  | 0, w, _ => w
  | _ + 1, w, [] => w
  | n + 1, w, b :: t => d_wf n (w * 256 + b.toNatClampNeg) t
def d_word (bs : List Int32) : Option (Nat × List Int32) := if 4 ≤ bs.length then some (d_wf 4 0 bs, bs.drop 4) else none
theorem d_wf_lt : ∀ (n w : Nat) (bs : List Int32), o_by bs → w < 256 ^ (4 - n) → n ≤ 4 → n ≤ bs.length → d_wf n w bs < 256 ^ 4
  | 0, w, bs, _, h, _, _ => h
  | n + 1, w, [], _, _, _, h => by simp at h
  | n + 1, w, b :: t, hb, h, h1, h2 => by
    obtain ⟨β, hβ, rfl⟩ := hb b List.mem_cons_self
    unfold d_wf
    rw [nI_tn hβ]
    refine d_wf_lt n _ t (fun x hx => hb x (List.mem_cons_of_mem _ hx)) ?_ (by omega) (by simpa using h2)
    have e : 4 - n = (4 - (n + 1)) + 1 := by omega
    rw [e, Nat.pow_succ]
    omega
theorem o_U_up {h1 : g_H} {a : Nat} {ins : List Int32} {m : o_Mm} {rs : List o_Rw} {o t pl : Int32} (pl2 : Int32) (u1 : o_U h1 a ins m rs o t pl) : o_U (g_up h1 a (.inr (7, [.ref (a + 1), .ref (a + 3), .ref (a + 9), .int pl2]))) a ins m rs o t pl2 ∧ g_Fr a (a + 16) h1 (g_up h1 a (.inr (7, [.ref (a + 1), .ref (a + 3), .ref (a + 9), .int pl2]))) := by
  have f1 : g_Fr a (a + 1) h1 (g_up h1 a (.inr (7, [.ref (a + 1), .ref (a + 3), .ref (a + 9), .int pl2]))) := g_Fr_up (by omega) (by omega)
  exact ⟨⟨g_up_eq, g_I_Fr u1.2.1 f1 (by omega), o_M_Fr u1.2.2.1 f1 (by omega), o_B_Fr u1.2.2.2 f1 (by omega)⟩, g_Fr_wd f1 (by omega) (by omega)⟩
theorem o_U_nx {hx : g_H} {a k : Nat} {ins : List Int32} {m : o_Mm} {rs : List o_Rw} {o t : Int32} (z : o_U hx a ins m rs o t (nI k + 1)) : o_U hx a ins m rs o t (nI (k + 1)) := by rw [← nI_1]; exact z
theorem x_U_word {l : Launch} {a : Nat} {ins : List Int32} {m : o_Mm} {rs : List o_Rw} {o t : Int32} {hh : g_H} (hby : o_by ins) : ∀ (n i w k : Nat) (h : g_H), n + i = 4 → k + n ≤ ins.length → o_U h a ins m rs o t (nI k) → g_Fr a (a + 16) hh h →
    g_X l J_U_takeWord 24 [some (.ref a), some (.long (lN w)), none, some (.int (nI i))] [] h (fun oc hE => g_Fr a (a + 16) hh hE ∧ oc = .inl (some (.long (lN (d_wf n w (ins.drop k))))) ∧ o_U hE a ins m rs o t (nI (k + n))) := by
  intro n
  induction n with
  | zero =>
    intro i w k h hfi hk hU hF
    have : i = 4 := by omega
    subst this
    refine g_go ok_U_takeWord [24] 60 ?_
    refine g_br_t (show (4 : Int32) ≤ nI 4 by decide) ?_
    exact ⟨hF, rfl, hU⟩
  | succ n ih =>
    intro i w k h hfi hk hU hF
    have hl := g_I_len hU.2.1
    obtain ⟨b, hb, hdr⟩ := l_drop (xs := ins) (i := k) (by omega)
    obtain ⟨β, hβ, rfl⟩ := o_by_at hby hb
    refine g_go ok_U_takeWord [24] 60 ?_
    refine g_br_f (show ¬ (4 : Int32) ≤ nI i from nI_ge (b := 4) (by omega) (by omega)) ?_
    refine g_gt_i hU.1 rfl ?_
    refine g_gt_i hU.1 rfl ?_
    refine g_cv_i (g_I_ty hU.2.1) (c_I_at hU.2.1) (fun oc h1 hp => ?_)
    obtain ⟨rfl, rfl⟩ := hp
    rw [v_at_some (by omega) hb]
    refine ⟨_, rfl, ?_⟩
    refine g_gt_i hU.1 rfl ?_
    refine g_pt_i hU.1 (Nat.le_of_ble_eq_true rfl) rfl rfl ?_
    obtain ⟨u2, f2⟩ := o_U_up (nI k + 1) hU
    have e2 : lN w <<< (((8 : Int32)).toInt64 &&& 63) + (nI β).toInt64 = lN (w * 256 + β) := by
      rw [show (8 : Int32) = nI 8 from rfl, wb_shl w (by omega), nI_l (by omega), lN_add]
    have := ih (i + 1) (w * 256 + β) (k + 1) _ (by omega) (by omega) (o_U_nx u2) (g_Fr_tr hF f2)
    rw [← e2, ← nI_1 i, show k + 1 + n = k + (n + 1) by omega] at this
    rw [hdr]
    unfold d_wf
    rw [nI_tn hβ]
    exact this
theorem c_U_takeWord {l : Launch} {h : g_H} {a k : Nat} {ins : List Int32} {m : o_Mm} {rs : List o_Rw} {o t : Int32} (hby : o_by ins) (hk : k ≤ ins.length) (hU : o_U h a ins m rs o t (nI k)) : g_Run l J_U_takeWord [.ref a] h (fun oc hE => g_Fr a (a + 16) h hE ∧ match d_word (ins.drop k) with
      | some (x, r) => ∃ k', k' ≤ ins.length ∧ r = ins.drop k' ∧ oc = .inl (some (.long (lN x))) ∧ o_U hE a ins m rs o t (nI k')
      | none => oc = .inl (some (.long (-1))) ∧ ∃ pl, o_U hE a ins m rs o t pl) := by
  have hl := g_I_len hU.2.1
  unfold d_word
  rw [List.length_drop]
  refine go_U_takeWord [24] 40 ?_
  refine g_gt_i hU.1 rfl ?_
  refine g_cv_i (g_I_ty hU.2.1) (c_I_size hU.2.1) (fun oc h1 hp => ?_)
  obtain ⟨rfl, rfl⟩ := hp
  refine ⟨_, rfl, ?_⟩
  refine g_gt_i hU.1 rfl ?_
  have es : nI ins.length - nI k = nI (ins.length - k) := pk_sub hk
  by_cases q : 4 ≤ ins.length - k
  · rw [if_pos q]
    refine g_br_t (show (4 : Int32) ≤ nI ins.length - nI k by rw [es]; exact nI_le (a := 4) q (by omega)) ?_
    have := x_U_word (l := l) (hh := h1) hby 4 0 0 k h1 rfl (by omega) hU (g_Fr_rf _ _ _)
    exact g_X_mono (fun oc hE hp => ⟨hp.1, k + 4, by omega, by rw [List.drop_drop], hp.2.1, hp.2.2⟩) this
  · rw [if_neg q]
    refine g_br_f (show ¬ (4 : Int32) ≤ nI ins.length - nI k by rw [es]; exact nI_ge (b := 4) (by omega) (by omega)) ?_
    exact ⟨g_Fr_rf _ _ _, rfl, _, hU⟩
def d_told (ins : List Int32) : Int32 := (ins.getD (ins.length - 2) 0 <<< ((8 : Int32) &&& 31)) + ins.getD (ins.length - 1) 0
def d_sum (ins : List Int32) : Option (List Int32) := if 9 ≤ ins.length ∧ d_told ins = e_sum (ins.take (ins.length - 2)) then some (ins.take (ins.length - 2)) else none
theorem c_U_takeSum {l : Launch} {h : g_H} {a : Nat} {ins : List Int32} {m : o_Mm} {rs : List o_Rw} {o t pl : Int32} (hU : o_U h a ins m rs o t pl) : g_Run l J_U_takeSum [.ref a] h (fun oc hE => g_Fr a (a + 16) h hE ∧ match d_sum ins with
      | some ins' => oc = .inl (some (.int 1)) ∧ o_U hE a ins' m rs o t pl
      | none => oc = .inl (some (.int 0)) ∧ ∃ ins', o_U hE a ins' m rs o t pl) := by
  have hl := g_I_len hU.2.1
  unfold d_sum
  refine go_U_takeSum [] 80 ?_
  refine g_gt_i hU.1 rfl ?_
  refine g_cv_i (g_I_ty hU.2.1) (c_I_size hU.2.1) (fun oc h1 hp => ?_)
  obtain ⟨rfl, rfl⟩ := hp
  refine ⟨_, rfl, ?_⟩
  by_cases q : 9 ≤ ins.length
  · refine g_br_t (show (9 : Int32) ≤ nI ins.length from nI_le (a := 9) q (by omega)) ?_
    refine g_gt_i hU.1 rfl ?_
    refine g_cv_i (g_I_ty hU.2.1) (c_I_size hU.2.1) (fun oc h1 hp => ?_)
    obtain ⟨rfl, rfl⟩ := hp
    refine ⟨_, rfl, ?_⟩
    have es : nI ins.length - 2 = nI (ins.length - 2) := pk_sub (b := 2) (by omega)
    have es1 : nI ins.length - 2 + 1 = nI (ins.length - 1) := by rw [es, nI_1]; congr 1; omega
    refine g_gt_i hU.1 rfl ?_
    refine g_cv_i (g_I_ty hU.2.1) (c_I_at hU.2.1) (fun oc h1 hp => ?_)
    obtain ⟨rfl, rfl⟩ := hp
    refine ⟨_, rfl, ?_⟩
    refine g_gt_i hU.1 rfl ?_
    refine g_cv_i (g_I_ty hU.2.1) (c_I_at hU.2.1) (fun oc h1 hp => ?_)
    obtain ⟨rfl, rfl⟩ := hp
    refine ⟨_, rfl, ?_⟩
    refine g_gt_i hU.1 rfl ?_
    refine g_cv_i (g_I_ty hU.2.1) (c_I_shorten hU.2.1) (fun oc h2 hp => ?_)
    obtain ⟨rfl, i2, f2⟩ := hp
    refine ⟨_, rfl, ?_⟩
    have ec : v_cut ins (nI ins.length - 2) = ins.take (ins.length - 2) := by
      unfold v_cut
      rw [es, if_pos (v_in_nI (by omega) (by omega)), nI_clamp (by omega)]
    rw [ec] at i2
    have u2 : o_U h2 a (ins.take (ins.length - 2)) m rs o t pl := ⟨(f2.2 a (by omega)).trans hU.1, i2, o_M_Fr hU.2.2.1 f2 (by omega), o_B_Fr hU.2.2.2 f2 (by omega)⟩
    refine g_gt_i u2.1 rfl ?_
    refine g_cs_i (c_T_sumOf u2.2.1 (show nI ins.length - 2 = _ by rw [es, List.length_take]; congr 1; omega)) (fun oc h3 hp => ?_)
    obtain ⟨rfl, rfl⟩ := hp
    refine ⟨_, rfl, ?_⟩
    have et : (v_at ins (nI ins.length - 2) <<< ((8 : Int32) &&& 31)) + v_at ins (nI ins.length - 2 + 1) = d_told ins := by
      unfold d_told
      rw [es1, es, v_at_nI (by omega) (by omega), v_at_nI (by omega) (by omega)]
    refine g_br_i (fun q2 => ?_) (fun q2 => ?_)
    · have q2 : ¬ d_told ins = e_sum (ins.take (ins.length - 2)) := fun z => q2 (by rw [← z]; exact et)
      rw [if_neg (fun z => q2 z.2)]
      exact ⟨by decide, g_Fr_wd f2 (by omega) (by omega), rfl, _, u2⟩
    · have q2 : d_told ins = e_sum (ins.take (ins.length - 2)) := et.symm.trans (Classical.not_not.mp q2)
      rw [if_pos ⟨q, q2⟩]
      exact ⟨by decide, g_Fr_wd f2 (by omega) (by omega), rfl, u2⟩
  · refine g_br_f (show ¬ (9 : Int32) ≤ nI ins.length from nI_ge (b := 9) (by omega) (by omega)) ?_
    rw [if_neg (fun z => q z.1)]
    exact ⟨by decide, g_Fr_rf _ _ _, rfl, _, hU⟩
