/-! Reader: keepRows, readFrom -/
def d_kp (ch o bl : Int32) : List o_Rw → Int32 → List o_Kr → Int32 → List o_Kr × Int32
  | [], _, ks, nk => (ks, nk)
  | r :: t, tm, ks, nk =>
    if d_ch ch r.1 o = true ∧ ks.length < 2000 then d_kp ch o bl t (if r.1 = 4 then r.2.1 else tm) (ks ++ [(r.1, r.2.1, r.2.2, o, (if r.1 = 4 then r.2.1 else tm), bl)]) nk
    else d_kp ch o bl t (if r.1 = 4 then r.2.1 else tm) ks (nk + 1)
theorem r_nk {h : g_H} {a : Nat} {ins : List Int32} {m : o_Mm} {rs : List o_Rw} {o t pl : Int32} {ks : List o_Kr} {po bl br nk : Int32} (po' bl' br' nk' : Int32) (hR : o_R0 h a ins m rs o t pl ks po bl br nk) : o_R0 (g_up h a (r_cell a po' bl' br' nk')) a ins m rs o t pl ks po' bl' br' nk' ∧ g_Fr a (a + 34) h (g_up h a (r_cell a po' bl' br' nk')) := by
  have f1 : g_Fr a (a + 1) h (g_up h a (r_cell a po' bl' br' nk')) := g_Fr_up (by omega) (by omega)
  exact ⟨⟨g_up_eq, o_U_Fr hR.2.1 f1 (by omega), o_K0_Fr hR.2.2 f1 (by omega)⟩, g_Fr_wd f1 (by omega) (by omega)⟩
theorem r_add {l : Launch} {h : g_H} {a i : Nat} {ins : List Int32} {m : o_Mm} {rs : List o_Rw} {o t pl : Int32} {ks : List o_Kr} {po bl br nk tm nr : Int32} {r : o_Rw} (hR : o_R0 h a ins m rs o t pl ks po bl br nk) (hr : rs[i]? = some r) : g_Run l J_K_add [.ref (a + 17), .ref (a + 1 + 9), .int (nI i), .int tm, .int nr] h (fun oc hE => oc = .inl (some (.int (if ks.length < 2000 then 1 else 0))) ∧ o_R0 hE a ins m rs o t pl (if ks.length < 2000 then ks ++ [(r.1, r.2.1, r.2.2, o, tm, nr)] else ks) po bl br nk ∧ g_Fr a (a + 34) h hE) := by
  obtain ⟨b0, hU, ⟨p, q, os, ss, hK⟩⟩ := hR
  refine g_Run_mono (c_K_add hK hU.2.2.2 (by omega) hr) (fun oc hE hp => ?_)
  obtain ⟨h1, h2, h3⟩ := hp
  exact ⟨h1, ⟨(h3.2 a (by omega)).trans b0, o_U_Fr hU h3 (by omega), ⟨p, q, os, ss, h2⟩⟩, g_Fr_wd h3 (by omega) (by omega)⟩
theorem r_kty {h : g_H} {a : Nat} {ks : List o_Kr} (hK : o_K0 h a ks) : ∃ fs, h.1 a = some (.inr (5, fs)) := o_KK_ty (o_K0_KK hK)
theorem x_R_keep {l : Launch} {a : Nat} {ins : List Int32} {m : o_Mm} {rs : List o_Rw} {o t pl : Int32} {po bl br ch : Int32} {hh : g_H} : ∀ (d i : Nat) (tm : Int32) (ks : List o_Kr) (nk : Int32) (h : g_H), rs.length - i = d → i ≤ rs.length → o_R0 h a ins m rs o t pl ks po bl br nk → g_Fr a (a + 34) hh h →
    g_X l J_R_keepRows 8 [some (.ref a), some (.ref (a + 1 + 9)), some (.int ch), some (.int tm), some (.int (nI i))] [] h (fun oc hE => oc = .inl none ∧ o_R0 hE a ins m rs o t pl (d_kp ch o bl (rs.drop i) tm ks nk).1 po (bl + 1) br (d_kp ch o bl (rs.drop i) tm ks nk).2 ∧ g_Fr a (a + 34) hh hE) := by
  intro d
  induction d with
  | zero =>
    intro i tm ks nk h hd hi hR hF
    have hB := hR.2.1.2.2.2
    have hl := o_B_len hB
    refine g_go ok_R_keepRows [8] 60 ?_
    refine g_cv_i (o_B_ty hB) (c_B_size hB) (fun oc h1 hp => ?_)
    obtain ⟨rfl, rfl⟩ := hp
    refine ⟨_, rfl, ?_⟩
    refine g_br_t (show nI rs.length ≤ nI i from nI_le (by omega) (by omega)) ?_
    refine g_gt_i hR.1 rfl ?_
    refine g_pt_i hR.1 (Nat.le_of_ble_eq_true rfl) rfl rfl ?_
    obtain ⟨r2, f2⟩ := r_nk po (bl + 1) br nk hR
    rw [List.drop_eq_nil_of_le (by omega)]
    exact ⟨rfl, r2, g_Fr_tr hF f2⟩
  | succ d ih =>
    intro i tm ks nk h hd hi hR hF
    have hB := hR.2.1.2.2.2
    have hl := o_B_len hB
    obtain ⟨r, hr, hdr⟩ := l_drop (xs := rs) (i := i) (by omega)
    have ra : ∀ (f : o_Rw → Int32), v_at (rs.map f) (nI i) = f r := fun f => v_at_some (by simp; omega) (by rw [List.getElem?_map, hr]; rfl)
    -- behind the row that isn't kept
    have tN : ∀ (tm' : Int32) (ks' : List o_Kr) (h1 : g_H) (Post : g_P), o_R0 h1 a ins m rs o t pl ks' po bl br nk → (∀ h2 : g_H, o_R0 h2 a ins m rs o t pl ks' po bl br (nk + 1) → g_Fr a (a + 34) h1 h2 → g_X l J_R_keepRows 8 [some (.ref a), some (.ref (a + 1 + 9)), some (.int ch), some (.int tm'), some (.int (nI (i + 1)))] [] h2 Post) → g_X l J_R_keepRows 69 [some (.ref a), some (.ref (a + 1 + 9)), some (.int ch), some (.int tm'), some (.int (nI i))] [] h1 Post := by
      intro tm' ks' h1 Post r1 hk
      refine g_go ok_R_keepRows [8] 60 ?_
      refine g_gt_i r1.1 rfl ?_
      refine g_pt_i r1.1 (Nat.le_of_ble_eq_true rfl) rfl rfl ?_
      obtain ⟨r2, f2⟩ := r_nk po bl br (nk + 1) r1
      have := hk _ r2 f2
      rw [← nI_1 i] at this
      exact this
    have tK : ∀ (tm' : Int32), tm' = (if r.1 = 4 then r.2.1 else tm) → g_X l J_R_keepRows 34 [some (.ref a), some (.ref (a + 1 + 9)), some (.int ch), some (.int tm'), some (.int (nI i))] [] h (fun oc hE => oc = .inl none ∧ o_R0 hE a ins m rs o t pl (d_kp ch o bl (rs.drop i) tm ks nk).1 po (bl + 1) br (d_kp ch o bl (rs.drop i) tm ks nk).2 ∧ g_Fr a (a + 34) hh hE) := by
      intro tm' htm
      rw [hdr]
      unfold d_kp
      rw [← htm]
      refine g_go ok_R_keepRows [8, 69] 60 ?_
      refine g_cv_i (o_B_ty hB) (c_B_kind hB) (fun oc h1 hp => ?_)
      obtain ⟨rfl, rfl⟩ := hp
      refine ⟨_, rfl, ?_⟩
      rw [ra]
      refine g_cv_i (o_B_ty hB) (c_B_owner hB) (fun oc h1 hp => ?_)
      obtain ⟨rfl, rfl⟩ := hp
      refine ⟨_, rfl, ?_⟩
      refine g_cs_i c_R_isChosen (fun oc h1 hp => ?_)
      obtain ⟨rfl, rfl⟩ := hp
      refine ⟨_, rfl, ?_⟩
      by_cases q1 : d_ch ch r.1 o = true
      · rw [if_pos q1]
        refine g_br_f (by decide) ?_
        refine g_gt_i hR.1 rfl ?_
        refine g_gt_i hR.1 rfl ?_
        obtain ⟨fs, hty⟩ := r_kty hR.2.2
        refine g_cv_i hty (r_add hR hr) (fun oc h2 hp => ?_)
        obtain ⟨rfl, r2, f2⟩ := hp
        refine ⟨_, rfl, ?_⟩
        by_cases q2 : ks.length < 2000
        · rw [if_pos q2] at r2 ⊢
          rw [if_pos ⟨q1, q2⟩]
          refine g_br_t (by decide) ?_
          have := ih (i + 1) tm' _ nk h2 (by omega) (by omega) r2 (g_Fr_tr hF f2)
          rw [← nI_1 i] at this
          exact this
        · rw [if_neg q2] at r2 ⊢
          rw [if_neg (fun z => q2 z.2)]
          refine g_br_f (by decide) ?_
          exact tN tm' ks h2 _ r2 (fun h3 r3 f3 => ih (i + 1) tm' ks (nk + 1) h3 (by omega) (by omega) r3 (g_Fr_tr hF (g_Fr_tr f2 f3)))
      · rw [if_neg q1, if_neg (fun z => q1 z.1)]
        refine g_br_t (by decide) ?_
        exact tN tm' ks _ _ hR (fun h3 r3 f3 => ih (i + 1) tm' ks (nk + 1) h3 (by omega) (by omega) r3 (g_Fr_tr hF f3))
    refine g_go ok_R_keepRows [8, 34] 60 ?_
    refine g_cv_i (o_B_ty hB) (c_B_size hB) (fun oc h1 hp => ?_)
    obtain ⟨rfl, rfl⟩ := hp
    refine ⟨_, rfl, ?_⟩
    refine g_br_f (show ¬ nI rs.length ≤ nI i from nI_ge (by omega) (by omega)) ?_
    refine g_cv_i (o_B_ty hB) (c_B_kind hB) (fun oc h1 hp => ?_)
    obtain ⟨rfl, rfl⟩ := hp
    refine ⟨_, rfl, ?_⟩
    rw [ra]
    refine g_br_i (fun q => ?_) (fun q => ?_)
    · exact tK tm (by rw [if_neg q])
    · refine g_cv_i (o_B_ty hB) (c_B_a hB) (fun oc h1 hp => ?_)
      obtain ⟨rfl, rfl⟩ := hp
      refine ⟨_, rfl, ?_⟩
      rw [ra (fun x => x.2.1)]
      exact tK r.2.1 (by rw [if_pos (Classical.not_not.mp q)])
theorem c_R_keepRows {l : Launch} {h : g_H} {a : Nat} {ins : List Int32} {m : o_Mm} {rs : List o_Rw} {o t pl : Int32} {ks : List o_Kr} {po bl br nk ch : Int32} (hR : o_R0 h a ins m rs o t pl ks po bl br nk) : g_Run l J_R_keepRows [.ref a, .ref (a + 1 + 9), .int ch] h (fun oc hE => oc = .inl none ∧ o_R0 hE a ins m rs o t pl (d_kp ch o bl rs t ks nk).1 po (bl + 1) br (d_kp ch o bl rs t ks nk).2 ∧ g_Fr a (a + 34) h hE) := by
  have hB := hR.2.1.2.2.2
  refine go_R_keepRows [8] 20 ?_
  refine g_cv_i (o_B_ty hB) (c_B_time hB) (fun oc h1 hp => ?_)
  obtain ⟨rfl, rfl⟩ := hp
  refine ⟨_, rfl, ?_⟩
  exact x_R_keep rs.length 0 t ks nk _ rfl (Nat.zero_le _) hR (g_Fr_rf _ _ _)
/-- what a reading found: rows, blocks, broken, not kept -/
abbrev o_Sd : Type := List o_Kr × Int32 × Int32 × Int32
def d_one (ch : Int32) (S : o_Sd) (seg : List Int32) : o_Sd := match d_blk seg with
  | some (o, t, rs) => ((d_kp ch o S.2.1 rs t S.1 S.2.2.2).1, S.2.1 + 1, S.2.2.1, (d_kp ch o S.2.1 rs t S.1 S.2.2.2).2)
  | none => (S.1, S.2.1, S.2.2.1 + 1, S.2.2.2)
def d_go (ch : Int32) : List Int32 → List Int32 → o_Sd → o_Sd
  | seg, [], S => d_one ch S seg
  | seg, b :: t, S => if b = 126 then d_go ch [] t (d_one ch S seg) else d_go ch (seg ++ [b]) t S
theorem x_R_read {l : Launch} {a b : Nat} {ch po fr c4 : Int32} {pk : List Int32} {hh : g_H} (hI0 : g_I hh b 16384 pk) (hby : o_by pk) (hab : a + 34 ≤ b ∨ b + 2 ≤ a) : ∀ (d s i : Nat) (S : o_Sd) (h : g_H), pk.length - i = d → s ≤ i → i ≤ pk.length → (∃ ins m rs o t pl, o_R0 h a ins m rs o t pl S.1 po S.2.1 S.2.2.1 S.2.2.2) → g_Fr a (a + 34) hh h →
    g_X l J_R_readFrom 29 [some (.ref a), some (.ref b), some (.int fr), some (.int ch), some (.int c4), some (.int (nI s)), some (.int (nI i))] [] h (fun oc hE => oc = .inl none ∧ (∃ ins m rs o t pl, o_R0 hE a ins m rs o t pl (d_go ch ((pk.take i).drop s) (pk.drop i) S).1 po (d_go ch ((pk.take i).drop s) (pk.drop i) S).2.1 (d_go ch ((pk.take i).drop s) (pk.drop i) S).2.2.1 (d_go ch ((pk.take i).drop s) (pk.drop i) S).2.2.2) ∧ g_Fr a (a + 34) hh hE) := by
  have hl := g_I_len hI0
  -- a block is unpacked
  have tU : ∀ (s i : Nat) (S : o_Sd) (h : g_H) (Post : g_P), s ≤ i → i ≤ pk.length → (∃ ins m rs o t pl, o_R0 h a ins m rs o t pl S.1 po S.2.1 S.2.2.1 S.2.2.2) → g_Fr a (a + 34) hh h → (∀ h1 : g_H, (∃ ins m rs o t pl, o_R0 h1 a ins m rs o t pl (d_one ch S ((pk.take i).drop s)).1 po (d_one ch S ((pk.take i).drop s)).2.1 (d_one ch S ((pk.take i).drop s)).2.2.1 (d_one ch S ((pk.take i).drop s)).2.2.2) → g_Fr a (a + 34) hh h1 → g_X l J_R_readFrom 29 [some (.ref a), some (.ref b), some (.int fr), some (.int ch), some (.int c4), some (.int (nI (i + 1))), some (.int (nI (i + 1)))] [] h1 Post) →
      g_X l J_R_readFrom 58 [some (.ref a), some (.ref b), some (.int fr), some (.int ch), some (.int c4), some (.int (nI s)), some (.int (nI i))] [] h Post := by
    intro s i S h Post hsi hi hR hF hk
    obtain ⟨ins, m, rs, o, t, pl, hR⟩ := hR
    have hI := g_I_Fr hI0 hF (by omega)
    refine g_go ok_R_readFrom [29] 60 ?_
    refine g_gt_i hR.1 rfl ?_
    refine g_cv_i hR.2.1.1 (c_U_unpack hR.2.1 hI hby (by omega) hsi hi) (fun oc h1 hp => ?_)
    obtain ⟨f1, hp⟩ := hp
    have F1 : g_Fr a (a + 34) hh h1 := g_Fr_tr hF (g_Fr_wd f1 (by omega) (by omega))
    have b1 := (f1.2 a (by omega)).trans hR.1
    have k1 := o_K0_Fr hR.2.2 f1 (by omega)
    unfold d_one at hk
    cases hb : d_blk ((pk.take i).drop s) with
    | none =>
      rw [hb] at hp hk
      obtain ⟨rfl, ins1, m1, rs1, o1, t1, pl1, u1⟩ := hp
      refine ⟨_, rfl, ?_⟩
      refine g_br_t (by decide) ?_
      refine g_gt_i b1 rfl ?_
      refine g_pt_i b1 (Nat.le_of_ble_eq_true rfl) rfl rfl ?_
      have R1 : o_R0 h1 a ins1 m1 rs1 o1 t1 pl1 S.1 po S.2.1 S.2.2.1 S.2.2.2 := ⟨b1, u1, k1⟩
      obtain ⟨r2, f2⟩ := r_nk po S.2.1 (S.2.2.1 + 1) S.2.2.2 R1
      have := hk _ ⟨_, _, _, _, _, _, r2⟩ (g_Fr_tr F1 f2)
      rw [← nI_1 i] at this
      exact this
    | some w =>
      obtain ⟨o1, t1, rs1⟩ := w
      rw [hb] at hp hk
      obtain ⟨rfl, ins1, m1, pl1, u1⟩ := hp
      refine ⟨_, rfl, ?_⟩
      refine g_br_f (by decide) ?_
      refine g_gt_i b1 rfl ?_
      refine g_cv_i u1.1 (c_U_block u1) (fun oc h2 hp => ?_)
      obtain ⟨rfl, rfl⟩ := hp
      refine ⟨_, rfl, ?_⟩
      have R1 : o_R0 h2 a ins1 m1 rs1 o1 t1 pl1 S.1 po S.2.1 S.2.2.1 S.2.2.2 := ⟨b1, u1, k1⟩
      refine g_cv_i R1.1 (c_R_keepRows R1) (fun oc h3 hp => ?_)
      obtain ⟨rfl, r3, f3⟩ := hp
      refine ⟨_, rfl, ?_⟩
      have := hk _ ⟨_, _, _, _, _, _, r3⟩ (g_Fr_tr F1 f3)
      rw [← nI_1 i] at this
      exact this
  intro d
  induction d with
  | zero =>
    intro s i S h hd hsi hi hR hF
    have hI := g_I_Fr hI0 hF (by omega)
    have e : i = pk.length := by omega
    subst e
    rw [List.drop_length]
    simp only [d_go]
    refine g_go ok_R_readFrom [29, 58] 60 ?_
    refine g_cv_i (g_I_ty hI) (c_I_size hI) (fun oc h1 hp => ?_)
    obtain ⟨rfl, rfl⟩ := hp
    refine ⟨_, rfl, ?_⟩
    refine g_br_f (show ¬ nI pk.length < nI pk.length from nI_nlt (Nat.le_refl _) (by omega)) ?_
    refine g_cv_i (g_I_ty hI) (c_I_size hI) (fun oc h1 hp => ?_)
    obtain ⟨rfl, rfl⟩ := hp
    refine ⟨_, rfl, ?_⟩
    refine g_br_t rfl ?_
    refine tU s _ S _ _ hsi (Nat.le_refl _) hR hF (fun h2 R2 F2 => ?_)
    have hI2 := g_I_Fr hI0 F2 (by omega)
    refine g_go ok_R_readFrom [] 60 ?_
    refine g_cv_i (g_I_ty hI2) (c_I_size hI2) (fun oc h3 hp => ?_)
    obtain ⟨rfl, rfl⟩ := hp
    refine ⟨_, rfl, ?_⟩
    refine g_br_t (show nI pk.length < nI (pk.length + 1) from nI_lt (by omega) (by omega)) ?_
    exact ⟨rfl, R2, F2⟩
  | succ d ih =>
    intro s i S h hd hsi hi hR hF
    have hI := g_I_Fr hI0 hF (by omega)
    obtain ⟨x, hx, hdr⟩ := l_drop (xs := pk) (i := i) (by omega)
    rw [hdr]
    simp only [d_go]
    refine g_go ok_R_readFrom [29, 58] 60 ?_
    refine g_cv_i (g_I_ty hI) (c_I_size hI) (fun oc h1 hp => ?_)
    obtain ⟨rfl, rfl⟩ := hp
    refine ⟨_, rfl, ?_⟩
    refine g_br_f (show ¬ nI pk.length < nI i from nI_nlt (by omega) (by omega)) ?_
    refine g_cv_i (g_I_ty hI) (c_I_size hI) (fun oc h1 hp => ?_)
    obtain ⟨rfl, rfl⟩ := hp
    refine ⟨_, rfl, ?_⟩
    refine g_br_f (show ¬ nI i = nI pk.length from fun z => by have := (nI_eq (by omega) (by omega)).mp z; omega) ?_
    refine g_cv_i (g_I_ty hI) (c_I_at hI) (fun oc h1 hp => ?_)
    obtain ⟨rfl, rfl⟩ := hp
    refine ⟨_, rfl, ?_⟩
    rw [v_at_some (by omega) hx]
    refine g_br_i (fun q => ?_) (fun q => ?_)
    · have q : ¬ x = 126 := q
      rw [if_neg q]
      have := ih s (i + 1) S _ (by omega) (by omega) (by omega) hR hF
      have e : (pk.take (i + 1)).drop s = (pk.take i).drop s ++ [x] := by
        rw [List.take_add_one, hx, List.drop_append_of_le_length (by rw [List.length_take]; omega)]
        rfl
      rw [← nI_1 i, e] at this
      exact this
    · have q : x = 126 := Classical.not_not.mp q
      rw [if_pos q]
      refine tU s i S _ _ hsi hi hR hF (fun h2 R2 F2 => ?_)
      have := ih (i + 1) (i + 1) _ h2 (by omega) (by omega) (by omega) R2 F2
      have e : (pk.take (i + 1)).drop (i + 1) = [] := List.drop_eq_nil_of_le (by rw [List.length_take]; omega)
      rw [e] at this
      exact this
/-- a whole reading -/
def d_read (ch : Int32) (xs : List Int32) : o_Sd := if d_skip xs < xs.length then d_go ch [] (xs.drop (d_skip xs + 1)) ([], 0, 0, 0) else ([], 0, 0, 0)
theorem c_R_readFrom {l : Launch} {h : g_H} {a b i : Nat} {ks : List o_Kr} {po bl br nk ch : Int32} {pk : List Int32} (hR : o_R h a ks po bl br nk) (hI : g_I h b 16384 pk) (hby : o_by pk) (hab : a + 34 ≤ b ∨ b + 2 ≤ a) (hi : i ≤ pk.length) : g_Run l J_R_readFrom [.ref a, .ref b, .int (nI i), .int ch] h (fun oc hE => oc = .inl none ∧ o_R hE a (d_read ch (pk.drop i)).1 (nI (d_skip (pk.drop i))) (d_read ch (pk.drop i)).2.1 (d_read ch (pk.drop i)).2.2.1 (d_read ch (pk.drop i)).2.2.2 ∧ g_Fr a (a + 34) h hE) := by
  have hl := g_I_len hI
  have hsk := d_skip_le (pk.drop i)
  rw [List.length_drop] at hsk
  refine go_R_readFrom [29] 60 ?_
  refine g_cv_i hR.1 (c_R_clear hR) (fun oc h1 hp => ?_)
  obtain ⟨rfl, ⟨ins1, m1, rs1, o1, t1, pl1, r1⟩, f1⟩ := hp
  refine ⟨_, rfl, ?_⟩
  have I1 := g_I_Fr hI f1 (by omega)
  refine g_cs_i (c_R_firstMark I1 hi) (fun oc h2 hp => ?_)
  obtain ⟨rfl, rfl⟩ := hp
  refine ⟨_, rfl, ?_⟩
  refine g_pt_i r1.1 (Nat.le_of_ble_eq_true rfl) rfl rfl ?_
  have e1 : nI (i + d_skip (pk.drop i)) - nI i = nI (d_skip (pk.drop i)) := by rw [pk_sub (by omega)]; congr 1; omega
  obtain ⟨r2, f2⟩ := r_nk (nI (i + d_skip (pk.drop i)) - nI i) 0 0 0 r1
  have F2 := g_Fr_tr f1 f2
  have I2 := g_I_Fr hI F2 (by omega)
  have r3 : ∃ ins m rs o t pl, o_R0 (g_up h2 a (r_cell a (nI (i + d_skip (pk.drop i)) - nI i) 0 0 0)) a ins m rs o t pl ([], 0, 0, 0).1 (nI (d_skip (pk.drop i))) 0 0 0 := by
    rw [e1] at r2 ⊢
    exact ⟨_, _, _, _, _, _, r2⟩
  unfold d_read
  rw [List.length_drop]
  by_cases q : d_skip (pk.drop i) < pk.length - i
  · rw [if_pos q, List.drop_drop]
    have := x_R_read (l := l) (a := a) (b := b) (ch := ch) (po := nI (d_skip (pk.drop i))) (fr := nI i) (c4 := nI (i + d_skip (pk.drop i))) I2 hby hab _ (i + d_skip (pk.drop i) + 1) (i + d_skip (pk.drop i) + 1) ([], 0, 0, 0) _ rfl (Nat.le_refl _) (by omega) r3 (g_Fr_rf _ _ _)
    have e : (pk.take (i + d_skip (pk.drop i) + 1)).drop (i + d_skip (pk.drop i) + 1) = [] := List.drop_eq_nil_of_le (by rw [List.length_take]; omega)
    rw [e, ← nI_1 (i + d_skip (pk.drop i)), show i + d_skip (pk.drop i) + 1 = i + (d_skip (pk.drop i) + 1) by omega] at this
    refine g_X_mono (fun oc hE hp => ?_) this
    obtain ⟨p1, ⟨_, _, _, _, _, _, p2⟩, p3⟩ := hp
    exact ⟨p1, ⟨p2.1, ⟨_, _, _, _, _, _, p2.2.1⟩, o_K0_KK p2.2.2⟩, g_Fr_tr F2 p3⟩
  · rw [if_neg q]
    refine g_go ok_R_readFrom [] 60 ?_
    refine g_cv_i (g_I_ty I2) (c_I_size I2) (fun oc h3 hp => ?_)
    obtain ⟨rfl, rfl⟩ := hp
    refine ⟨_, rfl, ?_⟩
    refine g_br_t (show nI pk.length < nI (i + d_skip (pk.drop i)) + 1 by rw [nI_1]; exact nI_lt (by omega) (by omega)) ?_
    obtain ⟨_, _, _, _, _, _, p2⟩ := r3
    exact ⟨rfl, ⟨p2.1, ⟨_, _, _, _, _, _, p2.2.1⟩, o_K0_KK p2.2.2⟩, F2⟩
