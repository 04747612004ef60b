/-! TracePacksModel: it says the rows -/
def w_ok : Int32 → List o_Rw → Prop
  | _, [] => True
  | t, r :: rs => (0 ≤ r.1 ∧ r.1 ≤ 4) ∧ (r.1 = 0 → r.2.1 = 0 ∨ r.2.1 = 1) ∧ (r.1 = 4 → t ≤ r.2.1) ∧ w_ok (if r.1 = 4 then r.2.1 else t) rs
theorem e_fl1 : e_fl 1 = [] := if_pos rfl
theorem er_nb {r : o_Rw} {t : List o_Rw} {m : o_Mm} (h : ¬ r.1 = 0) : e_rows (r :: t) m 1 = (e_row m 1 r).1 ++ e_rows t (e_row m 1 r).2.1 1 := by
  have e1 : e_pre 1 r.1 = ([], 1) := by
    unfold e_pre
    rw [if_pos (Or.inl h), e_fl1]
  have e2 : (e_row m 1 r).2.2 = 1 := by
    unfold e_row
    rw [if_neg h]
    split
    · rfl
    · split
      · rfl
      · split <;> rfl
  simp only [e_rows]
  rw [e1]
  simp only [List.nil_append]
  rw [e2]
theorem er_b {r : o_Rw} {t : List o_Rw} {m : o_Mm} {c : Int32} (h : r.1 = 0) (hc : c < 16) : e_rows (r :: t) m c = e_rows t m (c * 2 + r.2.1) := by
  have e1 : e_pre c r.1 = ([], c) := by
    unfold e_pre
    rw [if_neg]
    rintro (z | z)
    · exact z h
    · exact z hc
  have e2 : e_row m c r = ([], m, c * 2 + r.2.1) := by
    unfold e_row
    rw [if_pos h]
  simp only [e_rows]
  rw [e1]
  simp only [e2, List.nil_append]
theorem er_fl {t : List o_Rw} {m : o_Mm} {c : Int32} (h : ∀ r t', t = r :: t' → ¬ r.1 = 0 ∨ ¬ c < 16) : e_rows t m c = e_fl c ++ e_rows t m 1 := by
  cases t with
  | nil =>
    simp only [e_rows]
    rw [e_fl1, List.append_nil]
  | cons r t' =>
    have e1 : e_pre c r.1 = (e_fl c, 1) := by
      unfold e_pre
      rw [if_pos (h r t' rfl)]
    have e2 : e_pre 1 r.1 = ([], 1) := by
      unfold e_pre
      split
      · rw [e_fl1]
      · rfl
    simp only [e_rows]
    rw [e1, e2, List.nil_append]
def z_rP (a : Nat) (hh : g_H) (F0 : Nat → Int32) (A0 : Nat → List Int32) (T : List Int32) : g_P := fun oc hE => oc = .inl none ∧ ∃ F' A', o_Z hE a F' A' ∧ z_in F' A' T ∧ (∀ k, k ≠ 15 → k ≠ 19 → F' k = F0 k) ∧ (∀ i, i ≠ 6 → i ≠ 7 → A' i = A0 i) ∧ g_Fr a (a + 18) hh hE
def z_rI (a : Nat) (hh : g_H) (F0 : Nat → Int32) (A0 : Nat → List Int32) (h : g_H) (F : Nat → Int32) (A : Nat → List Int32) (ins vs : List Int32) : Prop := o_Z h a F A ∧ z_in F A ins ∧ z_vs F A vs ∧ (∀ k, k ≠ 15 → k ≠ 19 → F k = F0 k) ∧ (∀ i, i ≠ 6 → i ≠ 7 → A i = A0 i) ∧ g_Fr a (a + 18) hh h
theorem z_rI_sy {a : Nat} {hh : g_H} {F0 : Nat → Int32} {A0 : Nat → List Int32} {h : g_H} {F : Nat → Int32} {A : Nat → List Int32} {ins vs bs : List Int32} (hI : z_rI a hh F0 A0 h F A ins vs) {oc : g_R} {hE : g_H} (hp : z_sy a h F A ins bs oc hE) : oc = .inl none ∧ ∃ F' A', z_rI a hh F0 A0 hE F' A' (ins ++ bs) vs := by
  obtain ⟨i1, i2, i3, i4, i5, i6⟩ := hI
  obtain ⟨h1, F', A', h2, h3, h4, h5, h6⟩ := hp
  refine ⟨h1, F', A', h2, h3, ⟨?_, ?_, i3.2.2⟩, fun k k1 k2 => (h4 k k1).trans (i4 k k1 k2), fun i k1 k2 => (h5 i k1).trans (i5 i k1 k2), g_Fr_tr i6 h6⟩
  · rw [h4 19 (by omega)]
    exact i3.1
  · rw [h5 7 (by omega)]
    exact i3.2.1
theorem z_rI_pv {a : Nat} {hh : g_H} {F0 : Nat → Int32} {A0 : Nat → List Int32} {h : g_H} {F : Nat → Int32} {A : Nat → List Int32} {ins vs vs' : List Int32} (hI : z_rI a hh F0 A0 h F A ins vs) {hE : g_H} {F' : Nat → Int32} {A' : Nat → List Int32} (h2 : o_Z hE a F' A') (h3 : z_vs F' A' vs') (h4 : ∀ k, k ≠ 19 → F' k = F k) (h5 : ∀ i, i ≠ 7 → A' i = A i) (h6 : g_Fr a (a + 18) h hE) : z_rI a hh F0 A0 hE F' A' ins vs' := by
  obtain ⟨i1, i2, i3, i4, i5, i6⟩ := hI
  refine ⟨h2, ⟨?_, ?_, i2.2.2⟩, h3, fun k k1 k2 => (h4 k k2).trans (i4 k k1 k2), fun i k1 k2 => (h5 i k2).trans (i5 i k1 k2), g_Fr_tr i6 h6⟩
  · rw [h4 15 (by omega)]
    exact i2.1
  · rw [h5 6 (by omega)]
    exact i2.2.1
abbrev z_L (a : Nat) (m : o_Mm) (k : Int32) (c8 c9 c10 : Option Value) : g_L := [some (.ref a), some (.int m.2.2.2.1), some (.int m.1.1), some (.int m.1.2), some (.int m.2.1.1), some (.int m.2.1.2), some (.int m.2.2.2.2), some (.int k), c8, c9, c10]
theorem e_row_len (m : o_Mm) (r : o_Rw) : (e_row m 1 r).1.length ≤ 10 := by
  have n4 := e_num_len 4
  unfold e_row
  split
  · simp
  · split
    · have := n4 (e_zz (r.2.1 - m.2.2.2.1))
      simp [e_kind]; omega
    · split
      · unfold e_load
        split
        · simp [e_kind]
        · have := n4 (e_zz (r.2.1 - m.1.1))
          simp [e_kind]; omega
      · split
        · have := n4 (e_zz (r.2.1 - m.2.1.1))
          unfold e_store
          split
          · split <;> simp [e_kind, e_word]
          · split
            · simp [e_kind, e_word]; omega
            · simp [e_kind]; omega
        · have := n4 (r.2.1 - m.2.2.2.2).toInt64
          simp [e_kind]; omega
theorem n_bk : ∀ b, b < 32 → 2 ≤ b → nI b &&& 255 = nI b ∧ e_fl (nI b) = [nI b] := by
  intro b h1 h2
  refine ⟨n_255 b (by omega), ?_⟩
  have : ¬ nI b = 1 := fun z => by
    have := (nI_eq (b := 1) (by omega) (by omega)).mp z
    omega
  unfold e_fl
  rw [if_neg this]
  unfold e_kind
  rw [show (0 : Int32) <<< ((5 : Int32) &&& 31) = 0 by decide, Int32.zero_add]
theorem w_ok_drop {t : Int32} {r : o_Rw} {rs : List o_Rw} (h : w_ok t (r :: rs)) (h0 : ¬ r.1 = 4) : w_ok t rs := by
  have := h.2.2.2
  rw [if_neg h0] at this
  exact this
theorem n_step {b n : Nat} {x : Int32} (hn : n < 4) (h1 : 2 ^ n ≤ b) (h2 : b < 2 ^ (n + 1)) (hx : x = 0 ∨ x = 1) : ∃ b', 2 ^ (n + 1) ≤ b' ∧ b' < 2 ^ (n + 2) ∧ nI b * 2 + x = nI b' ∧ 2 * nI b + x = nI b' := by
  have e : 2 ^ (n + 2) = 2 * 2 ^ (n + 1) := by rw [Nat.pow_succ]; omega
  have e2 : 2 ^ (n + 1) = 2 * 2 ^ n := by rw [Nat.pow_succ]; omega
  have e3 : nI b * 2 = nI (b * 2) := pk_mul b 2
  have e4 : 2 * nI b = nI (b * 2) := by rw [Int32.mul_comm]; exact e3
  rcases hx with rfl | rfl
  · exact ⟨b * 2, by omega, by omega, by rw [e3, Int32.add_zero], by rw [e4, Int32.add_zero]⟩
  · exact ⟨b * 2 + 1, by omega, by omega, by rw [e3, nI_1], by rw [e4, nI_1]⟩
theorem n_sub (x y : Int32) : y + (x - y) = x := by
  rw [Int32.sub_eq_add_neg, Int32.add_comm x, ← Int32.add_assoc, Int32.add_right_neg, Int32.zero_add]
theorem n_add (x y : Int32) : x + y - x = y := by
  rw [Int32.add_comm, Int32.sub_eq_add_neg, Int32.add_assoc, Int32.add_right_neg, Int32.add_zero]
set_option maxRecDepth 100000 in
set_option maxHeartbeats 4000000 in
theorem x_Z_rows {l : Launch} {a : Nat} {rs : List o_Rw} {hh : g_H} {F0 : Nat → Int32} {A0 : Nat → List Int32} {T : List Int32} (hrl : rs.length ≤ 100) (hF5 : F0 5 = nI rs.length) (hr3 : ∀ (j : Nat) (r : o_Rw), rs[j]? = some r → (A0 3).getD j 0 = r.1) (hr4 : ∀ (j : Nat) (r : o_Rw), rs[j]? = some r → (A0 4).getD j 0 = r.2.1) (hr5 : ∀ (j : Nat) (r : o_Rw), rs[j]? = some r → (A0 5).getD j 0 = r.2.2) : ∀ (d k : Nat) (m : o_Mm) (ins : List Int32) (F : Nat → Int32) (A : Nat → List Int32) (h : g_H) (c8 c9 c10 : Option Value), rs.length - k ≤ d → k ≤ rs.length → z_rI a hh F0 A0 h F A ins m.2.2.1 → w_ok m.2.2.2.2 (rs.drop k) → o_tm m → ins.length ≤ 10 + 10 * k → T = ins ++ e_rows (rs.drop k) m 1 →
    g_X l J_Z_sayRows 26 (z_L a m (nI k) c8 c9 c10) [] h (z_rP a hh F0 A0 T) := by
  intro d
  induction d with
  | zero =>
    intro k m ins F A h c8 c9 c10 hd hk hI hw hm hil hT
    obtain ⟨i1, i2, i3, i4, i5, i6⟩ := hI
    refine g_go ok_Z_sayRows [26] 60 ?_
    refine g_gt_i i1.1 rfl ?_
    refine g_br_t (show F 5 ≤ nI k by rw [i4 5 (by omega) (by omega), hF5]; exact nI_le (by omega) (by omega)) ?_
    rw [List.drop_eq_nil_of_le (by omega)] at hT
    simp only [e_rows] at hT
    rw [e_fl1, List.append_nil] at hT
    subst hT
    exact ⟨rfl, F, A, i1, i2, i4, i5, i6⟩
  | succ d ih =>
    intro k m ins F A h c8 c9 c10 hd hk hI hw hm hil hT
    have hI0 := hI
    obtain ⟨i1, i2, i3, i4, i5, i6⟩ := hI
    have hlen : ∀ i, 3 ≤ i → i ≤ 5 → (A i).length = 100 := fun i h1 h2 => by
      have := i1.2.2.2 i (by omega) (by omega)
      rw [this]
      unfold z_cap
      rw [if_neg (by omega), if_neg (by omega), if_pos h2]
    by_cases hkl : k < rs.length
    · obtain ⟨r, hr, hdr⟩ := l_drop (xs := rs) (i := k) hkl
      have g3 : (A 3).getD k 0 = r.1 := by rw [i5 3 (by omega) (by omega)]; exact hr3 k r hr
      have g4 : (A 4).getD k 0 = r.2.1 := by rw [i5 4 (by omega) (by omega)]; exact hr4 k r hr
      have g5 : (A 5).getD k 0 = r.2.2 := by rw [i5 5 (by omega) (by omega)]; exact hr5 k r hr
      -- behind a row or a group of branches
      have tN : ∀ (k' : Nat) (m' : o_Mm) (ins' : List Int32) (F' : Nat → Int32) (A' : Nat → List Int32) (h' : g_H) (c8 c9 c10 : Option Value), k ≤ k' → k' < rs.length → z_rI a hh F0 A0 h' F' A' ins' m'.2.2.1 → w_ok m'.2.2.2.2 (rs.drop (k' + 1)) → o_tm m' → ins'.length ≤ 10 + 10 * (k' + 1) → T = ins' ++ e_rows (rs.drop (k' + 1)) m' 1 → g_X l J_Z_sayRows 359 (z_L a m' (nI k') c8 c9 c10) [] h' (z_rP a hh F0 A0 T) := by
        intro k' m' ins' F' A' h' c8 c9 c10 h1 h2 h3 h4 h5 h6 h7
        refine g_go ok_Z_sayRows [26] 20 ?_
        have := ih (k' + 1) m' ins' F' A' h' c8 c9 c10 (by omega) (by omega) h3 h4 h5 h6 h7
        rw [← nI_1] at this
        exact this
      -- a group of branches
      have tB : ∀ (e n b : Nat) (c8 : Int32), 4 - n = e → n ≤ 4 → k + n ≤ rs.length → (n = 0 → r.1 = 0) → 2 ^ n ≤ b → b < 2 ^ (n + 1) → e_rows (rs.drop k) m 1 = e_rows (rs.drop (k + n)) m (nI b) → w_ok m.2.2.2.2 (rs.drop (k + n)) → g_X l J_Z_sayRows 60 (z_L a m (nI k) (some (.int c8)) (some (.int (nI b))) (some (.int (nI n)))) [] h (z_rP a hh F0 A0 T) := by
        -- the group ends
        have tBE : ∀ (n b : Nat) (c8 : Int32), n ≤ 4 → 1 ≤ n → k + n ≤ rs.length → 2 ^ n ≤ b → b < 2 ^ (n + 1) → e_rows (rs.drop k) m 1 = e_rows (rs.drop (k + n)) m (nI b) → w_ok m.2.2.2.2 (rs.drop (k + n)) → (∀ r' t', rs.drop (k + n) = r' :: t' → ¬ r'.1 = 0 ∨ ¬ nI b < 16) → g_X l J_Z_sayRows 114 (z_L a m (nI k) (some (.int c8)) (some (.int (nI b))) (some (.int (nI n)))) [] h (z_rP a hh F0 A0 T) := by
          intro n b c8 hn4 hn1 hkn hb1 hb2 he hw2 hend
          have p1 : 2 ^ 1 ≤ 2 ^ n := Nat.pow_le_pow_right (by omega) hn1
          have p2 : 2 ^ (n + 1) ≤ 2 ^ 5 := Nat.pow_le_pow_right (by omega) (by omega)
          obtain ⟨b1, b2⟩ := n_bk b (by omega) (by omega)
          refine g_go ok_Z_sayRows [359] 60 ?_
          refine g_cv_i i1.1 (c_Z_say i1 i2 (by omega)) (fun oc h1 hp => ?_)
          obtain ⟨rfl, F1, A1, hI1⟩ := z_rI_sy hI0 hp
          refine ⟨_, rfl, ?_⟩
          rw [b1] at hI1
          have key := tN (k + n - 1) m (ins ++ [nI b]) F1 A1 h1 (some (.int c8)) (some (.int (nI b))) (some (.int (nI n))) (by omega) (by omega) hI1 (by rw [show k + n - 1 + 1 = k + n by omega]; exact hw2) hm (by simp; omega) (by rw [hT, he, er_fl hend, b2, show k + n - 1 + 1 = k + n by omega, List.append_assoc])
          have e1 : nI k + (nI n - 1) = nI (k + n - 1) := by
            obtain ⟨n', rfl⟩ : ∃ n', n = n' + 1 := ⟨n - 1, by omega⟩
            rw [nI_pred, nI_add]
            rfl
          rw [← e1] at key
          exact key
        intro e
        induction e with
        | zero =>
          intro n b c8 he hn4 hkn h0 hb1 hb2 hee hw2
          have e4 : n = 4 := by omega
          subst e4
          refine g_go ok_Z_sayRows [60, 114] 60 ?_
          refine g_br_t (by decide) ?_
          refine tBE 4 b c8 (by omega) (by omega) hkn hb1 hb2 hee hw2 (fun r' t' _ => Or.inr ?_)
          exact nI_nlt (b := 16) (by omega) (by omega)
        | succ e ihe =>
          intro n b c8 he hn4 hkn h0 hb1 hb2 hee hw2
          have p2 : 2 ^ (n + 1) ≤ 2 ^ 4 := Nat.pow_le_pow_right (by omega) (by omega)
          refine g_go ok_Z_sayRows [60, 114] 60 ?_
          refine g_br_f (show ¬ (4 : Int32) ≤ nI n from nI_ge (b := 4) (by omega) (by omega)) ?_
          refine g_gt_i i1.1 rfl ?_
          by_cases q1 : k + n < rs.length
          · refine g_br_f (show ¬ F 5 ≤ nI k + nI n by rw [i4 5 (by omega) (by omega), hF5, nI_add]; exact nI_ge q1 (by omega)) ?_
            obtain ⟨r2, hr2, hdr2⟩ := l_drop (xs := rs) (i := k + n) q1
            have g23 : (A 3).getD (k + n) 0 = r2.1 := by rw [i5 3 (by omega) (by omega)]; exact hr3 _ r2 hr2
            have g24 : (A 4).getD (k + n) 0 = r2.2.1 := by rw [i5 4 (by omega) (by omega)]; exact hr4 _ r2 hr2
            have en : (nI k + nI n).toNatClampNeg = k + n := by rw [nI_add, nI_clamp (by omega)]
            refine g_gt_i i1.1 rfl ?_
            refine g_al_i (i1.2.2.1 3 (by omega) (by omega)) (show vp_in (nI k + nI n) _ by rw [nI_add, hlen 3 (by omega) (by omega)]; exact vp_in_nI (by omega) (by omega)) ?_
            have en' : Int32.toNatClampNeg ((fun x y : Int32 => x + y) (nI k) (nI n)) = k + n := en
            rw [en', g23]
            refine g_br_i (fun q2 => ?_) (fun q2 => ?_)
            · have q2 : ¬ r2.1 = 0 := q2
              have hn1 : 1 ≤ n := by
                apply Nat.lt_of_not_le
                intro z
                have z0 : n = 0 := by omega
                subst z0
                cases hr.symm.trans hr2
                exact q2 (h0 rfl)
              exact tBE n b c8 (by omega) hn1 (by omega) hb1 hb2 hee hw2 (fun r' t' hrt => Or.inl (by rw [hdr2] at hrt; cases hrt; exact q2))
            · have q2 : r2.1 = 0 := Classical.not_not.mp q2
              refine g_gt_i i1.1 rfl ?_
              refine g_al_i (i1.2.2.1 4 (by omega) (by omega)) (show vp_in (nI k + nI n) _ by rw [nI_add, hlen 4 (by omega) (by omega)]; exact vp_in_nI (by omega) (by omega)) ?_
              rw [en', g24]
              rw [hdr2] at hw2 hee
              obtain ⟨b', hb'1, hb'2, hb'3, hb'4⟩ := n_step (by omega) hb1 hb2 (hw2.2.1 q2)
              rw [er_b q2 (nI_lt (b := 16) (by omega) (by omega)), hb'3] at hee
              have key := ihe (n + 1) b' c8 (by omega) (by omega) (by omega) (fun z => by omega) hb'1 hb'2 hee (w_ok_drop hw2 (by rw [q2]; decide))
              rw [← hb'4, ← nI_1 n] at key
              exact key
          · refine g_br_t (show F 5 ≤ nI k + nI n by rw [i4 5 (by omega) (by omega), hF5, nI_add]; exact nI_le (by omega) (by omega)) ?_
            exact tBE n b c8 (by omega) (by omega) (by omega) hb1 hb2 hee hw2 (fun r' t' hrt => by rw [List.drop_eq_nil_of_le (by omega)] at hrt; cases hrt)
      have hrk : ∀ (X : Nat), 3 ≤ X → X ≤ 5 → vp_in (nI k) (A X).length := fun X h1 h2 => by
        rw [hlen X h1 h2]
        exact vp_in_nI (by omega) (by omega)
      have ck : (nI k).toNatClampNeg = k := nI_clamp (by omega)
      rw [hdr] at hT hw
      refine g_go ok_Z_sayRows [26, 60, 187, 255, 359] 90 ?_
      refine g_gt_i i1.1 rfl ?_
      refine g_br_f (show ¬ F 5 ≤ nI k by rw [i4 5 (by omega) (by omega), hF5]; exact nI_ge (by omega) (by omega)) ?_
      refine g_gt_i i1.1 rfl ?_
      refine g_al_i (i1.2.2.1 4 (by omega) (by omega)) (hrk 4 (by omega) (by omega)) ?_
      rw [ck, g4]
      refine g_gt_i i1.1 rfl ?_
      refine g_al_i (i1.2.2.1 3 (by omega) (by omega)) (hrk 3 (by omega) (by omega)) ?_
      rw [ck, g3]
      refine g_br_i (fun q0 => ?_) (fun q0 => ?_)
      · have q0 : ¬ r.1 = 0 := q0
        rw [er_nb q0] at hT
        have hel := e_row_len m r
        refine g_gt_i i1.1 rfl ?_
        refine g_al_i (i1.2.2.1 3 (by omega) (by omega)) (hrk 3 (by omega) (by omega)) ?_
        rw [ck, g3]
        refine g_br_i (fun q1 => ?_) (fun q1 => ?_)
        · have q1 : ¬ r.1 = 1 := q1
          refine g_gt_i i1.1 rfl ?_
          refine g_al_i (i1.2.2.1 3 (by omega) (by omega)) (hrk 3 (by omega) (by omega)) ?_
          rw [ck, g3]
          refine g_br_i (fun q2 => ?_) (fun q2 => ?_)
          · have q2 : ¬ r.1 = 2 := q2
            refine g_gt_i i1.1 rfl ?_
            refine g_al_i (i1.2.2.1 3 (by omega) (by omega)) (hrk 3 (by omega) (by omega)) ?_
            rw [ck, g3]
            refine g_br_i (fun q3 => ?_) (fun q3 => ?_)
            · have q3 : ¬ r.1 = 3 := q3
              -- a time
              have q4 : r.1 = 4 := by
                obtain ⟨j, hj, e⟩ := nI_of2 (x := r.1) (M := 4) (n := 4) (by decide) (Int32.not_lt.mpr hw.1.1) hw.1.2
                rw [e] at q0 q1 q2 q3 ⊢
                rcases (show j = 0 ∨ j = 1 ∨ j = 2 ∨ j = 3 ∨ j = 4 by omega) with rfl | rfl | rfl | rfl | rfl
                · exact absurd rfl q0
                · exact absurd rfl q1
                · exact absurd rfl q2
                · exact absurd rfl q3
                · rfl
              have er : e_row m 1 r = (e_kind 4 0 ++ e_num 4 (r.2.1 - m.2.2.2.2).toInt64, (m.1, m.2.1, m.2.2.1, m.2.2.2.1, r.2.1), 1) := by
                unfold e_row
                rw [if_neg q0, if_neg q1, if_neg q2, if_neg q3]
              rw [er] at hT hel
              obtain ⟨n, hn, hmn⟩ := hm
              have hle := hw.2.2.1 q4
              have hw4 := hw.2.2.2
              rw [if_pos q4] at hw4
              obtain ⟨p, hp, hrp⟩ : ∃ p : Nat, p < 2 ^ 31 ∧ r.2.1 = nI p := nI_of (Int32.not_lt.mpr (Int32.le_trans (by rw [hmn]; exact nI_pos' hn) hle))
              have hnp : n ≤ p := by
                rw [hmn, hrp] at hle
                exact (nI_leI hn hp).mp hle
              have ee : (r.2.1 - m.2.2.2.2).toInt64 = lN (p - n) := by rw [hmn, hrp, pk_sub hnp, nI_l (by omega)]
              have e2 : r.2.1.toInt64 - m.2.2.2.2.toInt64 = lN (p - n) := by rw [hmn, hrp, nI_l hp, nI_l hn, lN_sub hnp]
              rw [ee] at hT hel
              refine g_cv_i i1.1 (c_Z_say i1 i2 (by omega)) (fun oc h1 hp => ?_)
              obtain ⟨rfl, F1, A1, hI1⟩ := z_rI_sy hI0 hp
              refine ⟨_, rfl, ?_⟩
              have hk2 : ∀ y : Int64, y = lN (p - n) → g_Run l J_Z_sayNumber [.ref a, .long y] h1 (z_sy a h1 F1 A1 (ins ++ [(128 : Int32) &&& 255]) (e_num 4 (lN (p - n)))) := fun y hy => by
                subst hy
                exact c_Z_sayNumber (by omega) hI1.1 hI1.2.1 (by simp; omega)
              refine g_cv_i hI1.1.1 (hk2 _ ?_) (fun oc h2 hp => ?_)
              · exact e2
              obtain ⟨rfl, F2, A2, hI2⟩ := z_rI_sy hI1 hp
              refine ⟨_, rfl, ?_⟩
              refine tN k (m.1, m.2.1, m.2.2.1, m.2.2.2.1, r.2.1) _ F2 A2 h2 (some (.int r.2.1)) c9 c10 (Nat.le_refl _) hkl hI2 hw4 ⟨p, by omega, hrp⟩ ?_ ?_
              · rw [List.append_assoc, List.length_append]
                have : ([(128 : Int32) &&& 255] ++ e_num 4 (lN (p - n))).length ≤ 10 := hel
                omega
              · rw [hT, List.append_assoc, List.append_assoc, List.append_assoc]
                rfl
            · have q3 : r.1 = 3 := Classical.not_not.mp q3
              -- a store
              have er : e_row m 1 r = (e_store m r.2.1 r.2.2, (m.1, (r.2.1, r.2.1 - m.2.1.1), o_use 8 m.2.2.1 r.2.2, m.2.2.2), 1) := by
                unfold e_row
                rw [if_neg q0, if_neg q1, if_neg q2, if_pos q3]
              rw [er] at hT hel
              have hv8 := i3.2.2
              obtain ⟨at', hat', hat8, hnum, hvb⟩ : ∃ at' : Nat, z_at m.2.2.1 r.2.2 = at' ∧ at' ≤ 8 ∧ (o_num m.2.2.1 r.2.2 = -1 ↔ at' = 8) ∧ e_vb m r.2.2 = nI at' := by
                unfold z_at e_vb o_num
                cases hf : o_fnd m.2.2.1 r.2.2 with
                | none => exact ⟨8, rfl, Nat.le_refl _, by simp, by simp; rfl⟩
                | some i =>
                  have hi : i < m.2.2.1.length := (List.getElem?_eq_some_iff.mp (o_fnd_spec hf).1).1
                  have hni : ¬ nI i = -1 := fun z => by have := nI_pos (n := i) (by omega); rw [z] at this; exact this (by decide)
                  refine ⟨i, rfl, by omega, ⟨fun z => absurd z hni, fun z => by omega⟩, ?_⟩
                  simp only
                  rw [if_neg hni]
              have n96 : ∀ j, j ≤ 8 → ((96 : Int32) + 0 + nI j) &&& 255 = ((3 : Int32) <<< ((5 : Int32) &&& 31)) + nI j ∧ ((96 : Int32) + 16 + nI j) &&& 255 = ((3 : Int32) <<< ((5 : Int32) &&& 31)) + (16 + nI j) := by decide
              -- from the value on
              have t305 : ∀ (c9 : Int32) (ins2 : List Int32) (F2 : Nat → Int32) (A2 : Nat → List Int32) (h2 : g_H), z_rI a hh F0 A0 h2 F2 A2 ins2 (o_use 8 m.2.2.1 r.2.2) → ins2 ++ (if o_num m.2.2.1 r.2.2 = -1 then e_word r.2.2 else []) = ins ++ e_store m r.2.1 r.2.2 → ins2.length ≤ 10 + 10 * k + 10 → g_X l J_Z_sayRows 305 (z_L a m (nI k) (some (.int r.2.1)) (some (.int c9)) (some (.int (nI at')))) [] h2 (z_rP a hh F0 A0 T) := by
                intro c9 ins2 F2 A2 h2 hI2 he2 hl2
                have t323 : ∀ (ins3 : List Int32) (F3 : Nat → Int32) (A3 : Nat → List Int32) (h3 : g_H), z_rI a hh F0 A0 h3 F3 A3 ins3 (o_use 8 m.2.2.1 r.2.2) → ins3 = ins ++ e_store m r.2.1 r.2.2 → g_X l J_Z_sayRows 323 (z_L a m (nI k) (some (.int r.2.1)) (some (.int c9)) (some (.int (nI at')))) [] h3 (z_rP a hh F0 A0 T) := by
                  intro ins3 F3 A3 h3 hI3 he3
                  refine g_go ok_Z_sayRows [359] 40 ?_
                  refine tN k (m.1, (r.2.1, r.2.1 - m.2.1.1), o_use 8 m.2.2.1 r.2.2, m.2.2.2) ins3 F3 A3 h3 _ _ _ (Nat.le_refl _) hkl hI3 (w_ok_drop hw (by rw [q3]; decide)) hm ?_ ?_
                  · rw [he3, List.length_append]
                    have : (e_store m r.2.1 r.2.2).length ≤ 10 := hel
                    omega
                  · rw [hT, he3, List.append_assoc]
                refine g_go ok_Z_sayRows [323] 40 ?_
                by_cases q8 : at' = 8
                · rw [if_pos (hnum.mpr q8)] at he2
                  refine g_br_f (show ¬ ¬ nI at' = 8 from fun z => z (by rw [q8]; rfl)) ?_
                  have h25 : (A2 5).length = 100 := hI2.1.2.2.2 5 (by omega) (by omega)
                  refine g_gt_i hI2.1.1 rfl ?_
                  refine g_al_i (hI2.1.2.2.1 5 (by omega) (by omega)) (by rw [h25]; exact vp_in_nI (by omega) (by omega)) ?_
                  rw [ck, show (A2 5).getD k 0 = r.2.2 by rw [hI2.2.2.2.2.1 5 (by omega) (by omega)]; exact hr5 k r hr]
                  refine g_cv_i hI2.1.1 (c_Z_sayFour hI2.1 hI2.2.1 (by omega)) (fun oc h3 hp => ?_)
                  obtain ⟨rfl, F3, A3, hI3⟩ := z_rI_sy hI2 hp
                  refine ⟨_, rfl, ?_⟩
                  exact t323 _ F3 A3 h3 hI3 he2
                · rw [if_neg (fun z => q8 (hnum.mp z)), List.append_nil] at he2
                  refine g_br_t (show ¬ nI at' = 8 from fun z => q8 ((nI_eq (b := 8) (by omega) (by omega)).mp z)) ?_
                  exact t323 _ F2 A2 h2 hI2 he2
              have t255 : ∀ (sm : Bool), (sm = true ↔ r.2.1 = m.2.1.1 + m.2.1.2) → g_X l J_Z_sayRows 255 (z_L a m (nI k) (some (.int r.2.1)) c9 c10) [.int (if sm = true then 1 else 0)] h (z_rP a hh F0 A0 T) := by
                intro sm hsm
                refine g_go ok_Z_sayRows [305] 60 ?_
                refine g_gt_i i1.1 rfl ?_
                refine g_al_i (i1.2.2.1 5 (by omega) (by omega)) (hrk 5 (by omega) (by omega)) ?_
                rw [ck, g5]
                refine g_cv_i i1.1 (c_Z_putValue i1 i3) (fun oc h1 hp => ?_)
                obtain ⟨rfl, F1, A1, z1, v1, e1, d1, f1⟩ := hp
                rw [hat']
                have hI1 := z_rI_pv hI0 z1 v1 e1 d1 f1
                refine ⟨_, rfl, ?_⟩
                cases sm with
                | true =>
                  have hs : r.2.1 = m.2.1.1 + m.2.1.2 := hsm.mp rfl
                  refine g_br_f (by decide) ?_
                  refine g_cv_i hI1.1.1 (c_Z_say hI1.1 hI1.2.1 (by omega)) (fun oc h2 hp => ?_)
                  obtain ⟨rfl, F2, A2, hI2⟩ := z_rI_sy hI1 hp
                  refine ⟨_, rfl, ?_⟩
                  refine g_br_t (by decide) ?_
                  refine t305 1 _ F2 A2 h2 hI2 ?_ (by simp; omega)
                  unfold e_store
                  rw [if_pos hs, hvb, List.append_assoc]
                  congr 2
                  exact congrArg (fun x => [x]) (n96 at' hat8).1
                | false =>
                  have hs : ¬ r.2.1 = m.2.1.1 + m.2.1.2 := fun z => by have := hsm.mpr z; cases this
                  refine g_br_t (by decide) ?_
                  refine g_cv_i hI1.1.1 (c_Z_say hI1.1 hI1.2.1 (by omega)) (fun oc h2 hp => ?_)
                  obtain ⟨rfl, F2, A2, hI2⟩ := z_rI_sy hI1 hp
                  refine ⟨_, rfl, ?_⟩
                  refine g_br_f (by decide) ?_
                  refine g_cv_i hI2.1.1 (c_Z_sayDifference hI2.1 hI2.2.1 (by simp; omega)) (fun oc h3 hp => ?_)
                  obtain ⟨rfl, F3, A3, hI3⟩ := z_rI_sy hI2 hp
                  refine ⟨_, rfl, ?_⟩
                  have n4 := e_num_len 4 (e_zz (r.2.1 - m.2.1.1))
                  refine t305 0 _ F3 A3 h3 hI3 ?_ (by simp only [List.length_append, List.length_cons, List.length_nil]; show ins.length + (0 + 1) + (e_num 4 (e_zz (r.2.1 - m.2.1.1))).length ≤ _; omega)
                  unfold e_store
                  rw [if_neg hs, hvb, List.append_assoc, List.append_assoc]
                  congr 2
                  exact congrArg (fun x => [x]) (n96 at' hat8).2
              have hiff : r.2.1 - m.2.1.1 = m.2.1.2 ↔ r.2.1 = m.2.1.1 + m.2.1.2 := ⟨fun z => by rw [← z]; exact (n_sub r.2.1 m.2.1.1).symm, fun z => by rw [z]; exact n_add m.2.1.1 m.2.1.2⟩
              refine g_br_i (fun q => ?_) (fun q => ?_)
              · have q : ¬ r.2.1 - m.2.1.1 = m.2.1.2 := q
                exact t255 false ⟨fun z => (by cases z), fun z => absurd (hiff.mpr z) q⟩
              · have q : r.2.1 - m.2.1.1 = m.2.1.2 := Classical.not_not.mp q
                exact t255 true ⟨fun _ => hiff.mp q, fun _ => rfl⟩
          · have q2 : r.1 = 2 := Classical.not_not.mp q2
            -- a load
            have er : e_row m 1 r = (e_load m r.2.1, ((r.2.1, r.2.1 - m.1.1), m.2), 1) := by
              unfold e_row
              rw [if_neg q0, if_neg q1, if_pos q2]
            rw [er] at hT hel
            have t187 : ∀ (sm : Bool), (sm = true ↔ r.2.1 = m.1.1 + m.1.2) → g_X l J_Z_sayRows 187 (z_L a m (nI k) (some (.int r.2.1)) c9 c10) [.int (if sm = true then 1 else 0)] h (z_rP a hh F0 A0 T) := by
              intro sm hsm
              have t218 : ∀ (c9 : Int32) (ins3 : List Int32) (F3 : Nat → Int32) (A3 : Nat → List Int32) (h3 : g_H), z_rI a hh F0 A0 h3 F3 A3 ins3 m.2.2.1 → ins3 = ins ++ e_load m r.2.1 → g_X l J_Z_sayRows 218 (z_L a m (nI k) (some (.int r.2.1)) (some (.int c9)) c10) [] h3 (z_rP a hh F0 A0 T) := by
                intro c9 ins3 F3 A3 h3 hI3 he3
                refine g_go ok_Z_sayRows [359] 40 ?_
                refine tN k ((r.2.1, r.2.1 - m.1.1), m.2) ins3 F3 A3 h3 _ _ _ (Nat.le_refl _) hkl hI3 (w_ok_drop hw (by rw [q2]; decide)) (show ∃ n : Nat, n < 2 ^ 31 ∧ m.2.2.2.2 = nI n from hm) ?_ ?_
                · rw [he3, List.length_append]
                  have : (e_load m r.2.1).length ≤ 10 := hel
                  omega
                · rw [hT, he3, List.append_assoc]
              refine g_go ok_Z_sayRows [218] 60 ?_
              cases sm with
              | true =>
                have hs : r.2.1 = m.1.1 + m.1.2 := hsm.mp rfl
                refine g_br_f (by decide) ?_
                refine g_cv_i i1.1 (c_Z_say i1 i2 (by omega)) (fun oc h2 hp => ?_)
                obtain ⟨rfl, F2, A2, hI2⟩ := z_rI_sy hI0 hp
                refine ⟨_, rfl, ?_⟩
                refine g_br_t (by decide) ?_
                refine t218 1 _ F2 A2 h2 hI2 ?_
                unfold e_load
                rw [if_pos hs]
                rfl
              | false =>
                have hs : ¬ r.2.1 = m.1.1 + m.1.2 := fun z => by have := hsm.mpr z; cases this
                refine g_br_t (by decide) ?_
                refine g_cv_i i1.1 (c_Z_say i1 i2 (by omega)) (fun oc h2 hp => ?_)
                obtain ⟨rfl, F2, A2, hI2⟩ := z_rI_sy hI0 hp
                refine ⟨_, rfl, ?_⟩
                refine g_br_f (by decide) ?_
                refine g_cv_i hI2.1.1 (c_Z_sayDifference hI2.1 hI2.2.1 (by simp; omega)) (fun oc h3 hp => ?_)
                obtain ⟨rfl, F3, A3, hI3⟩ := z_rI_sy hI2 hp
                refine ⟨_, rfl, ?_⟩
                refine t218 0 _ F3 A3 h3 hI3 ?_
                unfold e_load
                rw [if_neg hs, List.append_assoc]
                rfl
            have hiff : r.2.1 - m.1.1 = m.1.2 ↔ r.2.1 = m.1.1 + m.1.2 := ⟨fun z => by rw [← z]; exact (n_sub r.2.1 m.1.1).symm, fun z => by rw [z]; exact n_add m.1.1 m.1.2⟩
            refine g_br_i (fun q => ?_) (fun q => ?_)
            · have q : ¬ r.2.1 - m.1.1 = m.1.2 := q
              exact t187 false ⟨fun z => (by cases z), fun z => absurd (hiff.mpr z) q⟩
            · have q : r.2.1 - m.1.1 = m.1.2 := Classical.not_not.mp q
              exact t187 true ⟨fun _ => hiff.mp q, fun _ => rfl⟩
        · have q1 : r.1 = 1 := Classical.not_not.mp q1
          have er : e_row m 1 r = (e_kind 1 0 ++ e_num 4 (e_zz (r.2.1 - m.2.2.2.1)), (m.1, m.2.1, m.2.2.1, r.2.1, m.2.2.2.2), 1) := by
            unfold e_row
            rw [if_neg q0, if_pos q1]
          rw [er] at hT hel
          refine g_cv_i i1.1 (c_Z_say i1 i2 (by omega)) (fun oc h1 hp => ?_)
          obtain ⟨rfl, F1, A1, hI1⟩ := z_rI_sy hI0 hp
          refine ⟨_, rfl, ?_⟩
          refine g_cv_i hI1.1.1 (c_Z_sayDifference hI1.1 hI1.2.1 (by simp; omega)) (fun oc h2 hp => ?_)
          obtain ⟨rfl, F2, A2, hI2⟩ := z_rI_sy hI1 hp
          refine ⟨_, rfl, ?_⟩
          refine tN k (m.1, m.2.1, m.2.2.1, r.2.1, m.2.2.2.2) _ F2 A2 h2 (some (.int r.2.1)) c9 c10 (Nat.le_refl _) hkl hI2 (w_ok_drop hw (by rw [q1]; decide)) hm ?_ ?_
          · rw [List.append_assoc, List.length_append]
            have : ([(32 : Int32) &&& 255] ++ e_num 4 (e_zz (r.2.1 - m.2.2.2.1))).length ≤ 10 := hel
            show ins.length + ([(32 : Int32) &&& 255] ++ e_num 4 (e_zz (r.2.1 - m.2.2.2.1))).length ≤ _
            omega
          · rw [hT, List.append_assoc, List.append_assoc, List.append_assoc]
            rfl
      · have q0 : r.1 = 0 := Classical.not_not.mp q0
        have key := tB 4 0 1 r.2.1 rfl (by omega) (by omega) (fun _ => q0) (by omega) (by omega) rfl (by rw [Nat.add_zero, hdr]; exact hw)
        exact key
    · refine g_go ok_Z_sayRows [26] 60 ?_
      refine g_gt_i i1.1 rfl ?_
      refine g_br_t (show F 5 ≤ nI k by rw [i4 5 (by omega) (by omega), hF5]; exact nI_le (by omega) (by omega)) ?_
      rw [List.drop_eq_nil_of_le (by omega)] at hT
      simp only [e_rows] at hT
      rw [e_fl1, List.append_nil] at hT
      subst hT
      exact ⟨rfl, F, A, i1, i2, i4, i5, i6⟩
