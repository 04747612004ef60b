/-! TracePacksModel: next, numbers, words -/
def z_ps (F : Nat → Int32) (A : Nat → List Int32) (bs : List Int32) (k : Nat) : Prop := k ≤ bs.length ∧ F 37 = nI k ∧ F 38 = nI bs.length ∧ (A 6).take bs.length = bs ∧ bs.length ≤ 16400 ∧ o_by bs
theorem c_Z_next {l : Launch} {h : g_H} {a k : Nat} {F : Nat → Int32} {A : Nat → List Int32} {bs : List Int32} (hZ : o_Z h a F A) (hs : z_ps F A bs k) : g_Run l J_Z_next [.ref a] h (fun oc hE => ∃ F', o_Z hE a F' A ∧ (∀ j, j ≠ 37 → j ≠ 39 → F' j = F j) ∧ g_Fr a (a + 18) h hE ∧ ((∃ x, bs[k]? = some x ∧ oc = .inl (some (.int x)) ∧ F' 37 = nI (k + 1) ∧ F' 39 = F 39) ∨ (bs.length ≤ k ∧ oc = .inl (some (.int 0)) ∧ F' 37 = nI k ∧ F' 39 = 0))) := by
  obtain ⟨s1, s2, s3, s4, s5, s6⟩ := hs
  have h6 : (A 6).length = 16400 := hZ.2.2.2 6 (by omega) (by omega)
  refine go_Z_next [] 40 ?_
  refine g_gt_i hZ.1 rfl ?_
  refine g_gt_i hZ.1 rfl ?_
  by_cases q : k < bs.length
  · obtain ⟨x, hx, -⟩ := l_drop (xs := bs) (i := k) q
    have hx2 : (A 6).getD k 0 = x := by
      have hx' := hx
      rw [← s4, List.getElem?_take, if_pos q] at hx'
      exact l_getD hx'
    refine g_br_t (show F 37 < F 38 by rw [s2, s3]; exact nI_lt q (by omega)) ?_
    refine g_gt_i hZ.1 rfl ?_
    refine g_pt_j (z_fs a (z_u F 37 (F 37 + 1))) hZ.1 (Nat.le_of_ble_eq_true rfl) rfl rfl rfl ?_
    obtain ⟨z1, f1⟩ := z_fld hZ (z_u F 37 (F 37 + 1))
    refine g_gt_i z1.1 rfl ?_
    refine g_gt_i z1.1 rfl ?_
    have e1 : F 37 + 1 - 1 = nI k := by rw [s2, nI_1, nI_pred]
    refine g_al_i (z1.2.2.1 6 (by omega) (by omega)) (show vp_in (F 37 + 1 - 1) _ by rw [e1, h6]; exact vp_in_nI (by omega) (by omega)) ?_
    refine ⟨_, z1, fun j h1 _ => z_u_ne h1, f1, Or.inl ⟨x, hx, ?_, ?_, rfl⟩⟩
    · show Sum.inl (some (Value.int ((A 6).getD (F 37 + 1 - 1).toNatClampNeg 0))) = _
      rw [e1, nI_clamp (by omega), hx2]
    · rw [z_u_eq, s2, nI_1]
  · refine g_br_f (show ¬ F 37 < F 38 by rw [s2, s3]; exact nI_nlt (by omega) (by omega)) ?_
    refine g_pt_j (z_fs a (z_u F 39 0)) hZ.1 (Nat.le_of_ble_eq_true rfl) rfl rfl rfl ?_
    obtain ⟨z1, f1⟩ := z_fld hZ (z_u F 39 0)
    exact ⟨_, z1, fun j _ h2 => z_u_ne h2, f1, Or.inr ⟨by omega, rfl, s2, rfl⟩⟩
theorem z_ps_mv {F F' : Nat → Int32} {A : Nat → List Int32} {bs : List Int32} {k k' : Nat} (hs : z_ps F A bs k) (hk : k' ≤ bs.length) (e37 : F' 37 = nI k') (e38 : F' 38 = F 38) : z_ps F' A bs k' := ⟨hk, e37, e38.trans hs.2.2.1, hs.2.2.2⟩
theorem lN_or {a b k : Nat} (ha : a < 2 ^ k) (h : a + b * 2 ^ k < 2 ^ 62) : lN a ||| lN (b * 2 ^ k) = lN (a + b * 2 ^ k) := by
  apply wb_inj
  rw [Int64.toBitVec_or, wb_tb, wb_tb, wb_tb]
  apply BitVec.eq_of_toNat_eq
  rw [BitVec.toNat_or, BitVec.toNat_ofNat, BitVec.toNat_ofNat, BitVec.toNat_ofNat, Nat.mod_eq_of_lt (by omega), Nat.mod_eq_of_lt (by omega), Nat.mod_eq_of_lt (by omega), Nat.or_comm, Nat.mul_comm, ← Nat.two_pow_add_eq_or_of_lt ha]
  omega
/-- what the reading of a number comes to -/
def z_nn (a : Nat) (hh : g_H) (F0 : Nat → Int32) (A : Nat → List Int32) (bs : List Int32) (res : Option (Nat × List Int32)) (f : Nat → Value) (P : Value → Prop) : g_P := fun oc hE => ∃ F', o_Z hE a F' A ∧ (∀ j, j ≠ 37 → j ≠ 39 → F' j = F0 j) ∧ g_Fr a (a + 18) hh hE ∧ ∃ k', z_ps F' A bs k' ∧ match res with
  | some (x, r) => oc = .inl (some (f x)) ∧ F' 39 = 1 ∧ r = bs.drop k'
  | none => (∃ y, oc = .inl (some y) ∧ P y) ∧ F' 39 = 0
set_option maxRecDepth 100000 in
set_option maxHeartbeats 4000000 in
theorem x_Z_nn {l : Launch} {a : Nat} {hh : g_H} {F0 : Nat → Int32} {A : Nat → List Int32} {bs : List Int32} : ∀ (f i acc k b : Nat) (F : Nat → Int32) (h : g_H), f + i = 5 → 1 ≤ f → acc < 2 ^ (7 * i) → 128 ≤ b → b < 256 → F 39 = 1 → o_Z h a F A → z_ps F A bs k → (∀ j, j ≠ 37 → j ≠ 39 → F j = F0 j) → g_Fr a (a + 18) hh h →
    g_X l J_Z_nextNumber 9 [some (.ref a), some (.long (lN acc)), none, some (.int (nI i)), some (.int (nI b))] [] h (z_nn a hh F0 A bs (d_num f i acc (bs.drop k)) (fun x => .long (lN x)) (fun y => ∃ x, y = .long x)) := by
  intro f
  induction f with
  | zero =>
    intro i acc k b F h hf hf1
    omega
  | succ f ih =>
    intro i acc k b F h hf hf1 hacc hb1 hb2 hg hZ hs eF hF
    have hbl := hs.2.2.2.2.1
    have p35 : 2 ^ (7 * (i + 1)) ≤ 2 ^ 35 := Nat.pow_le_pow_right (by omega) (by omega)
    -- where the loop ends
    have tE : ∀ (acc' n b' : Nat) (F1 : Nat → Int32) (h1 : g_H) (k1 : Nat), n ≤ 5 → b' < 256 → (b' < 128 ∨ F1 39 = 0) → (F1 39 = 1 ∨ F1 39 = 0) → o_Z h1 a F1 A → z_ps F1 A bs k1 → (∀ j, j ≠ 37 → j ≠ 39 → F1 j = F0 j) → g_Fr a (a + 18) hh h1 → (F1 39 = 1 → ¬ (1 < n ∧ b' = 0) → d_num (f + 1) i acc (bs.drop k) = some (acc', bs.drop k1)) → (F1 39 = 0 ∨ (1 < n ∧ b' = 0) → d_num (f + 1) i acc (bs.drop k) = none) → g_X l J_Z_nextNumber 9 [some (.ref a), some (.long (lN acc')), none, some (.int (nI n)), some (.int (nI b'))] [] h1 (z_nn a hh F0 A bs (d_num (f + 1) i acc (bs.drop k)) (fun x => .long (lN x)) (fun y => ∃ x, y = .long x)) := by
      intro acc' n b' F1 h1 k1 hn hb' hx hx2 z1 s1 e1 f1 r1 r2
      have t66 : g_X l J_Z_nextNumber 66 [some (.ref a), some (.long (lN acc')), none, some (.int (nI n)), some (.int (nI b'))] [] h1 (z_nn a hh F0 A bs (d_num (f + 1) i acc (bs.drop k)) (fun x => .long (lN x)) (fun y => ∃ x, y = .long x)) := by
        refine g_go ok_Z_nextNumber [] 40 ?_
        have good : ¬ (1 < n ∧ b' = 0) → z_nn a hh F0 A bs (d_num (f + 1) i acc (bs.drop k)) (fun x => .long (lN x)) (fun y => ∃ x, y = .long x) (.inl (some (.long (lN acc')))) h1 := fun q => by
          rcases hx2 with g1 | g0
          · rw [r1 g1 q]
            exact ⟨F1, z1, e1, f1, k1, s1, rfl, g1, rfl⟩
          · rw [r2 (Or.inl g0)]
            exact ⟨F1, z1, e1, f1, k1, s1, ⟨_, rfl, _, rfl⟩, g0⟩
        by_cases q1 : 1 < n
        · refine g_br_f (show ¬ nI n ≤ 1 from nI_ge (a := 1) q1 (by omega)) ?_
          by_cases q2 : b' = 0
          · refine g_br_f (show ¬ ¬ nI b' = 0 from fun z => z (by rw [q2]; rfl)) ?_
            refine g_pt_j (z_fs a (z_u F1 39 0)) z1.1 (Nat.le_of_ble_eq_true rfl) rfl rfl rfl ?_
            obtain ⟨z2, f2⟩ := z_fld z1 (z_u F1 39 0)
            rw [r2 (Or.inr ⟨q1, q2⟩)]
            exact ⟨_, z2, fun j j1 j2 => by rw [z_u_ne j2]; exact e1 j j1 j2, g_Fr_tr f1 f2, k1, z_ps_mv s1 s1.1 s1.2.1 rfl, ⟨_, rfl, _, rfl⟩, rfl⟩
          · refine g_br_t (show ¬ nI b' = 0 from nI_ne0 (by omega) (by omega)) ?_
            exact good (fun z => q2 z.2)
        · refine g_br_t (show nI n ≤ 1 from nI_le (b := 1) (by omega) (by omega)) ?_
          exact good (fun z => q1 z.1)
      refine g_go ok_Z_nextNumber [66] 40 ?_
      by_cases q : b' < 128
      · refine g_br_t (show nI b' ≤ 127 from nI_le (b := 127) (by omega) (by omega)) ?_
        exact t66
      · refine g_br_f (show ¬ nI b' ≤ 127 from nI_ge (a := 127) (by omega) (by omega)) ?_
        refine g_gt_i z1.1 rfl ?_
        refine g_br_t (hx.resolve_left q) ?_
        exact t66
    refine g_go ok_Z_nextNumber [9] 60 ?_
    refine g_br_f (show ¬ nI b ≤ 127 from nI_ge (a := 127) (by omega) (by omega)) ?_
    refine g_gt_i hZ.1 rfl ?_
    refine g_br_f (show ¬ F 39 = 0 by rw [hg]; decide) ?_
    refine g_cv_i hZ.1 (c_Z_next hZ hs) (fun oc h1 hp => ?_)
    obtain ⟨F1, z1, e1, f1, hc⟩ := hp
    have eF1 : ∀ j, j ≠ 37 → j ≠ 39 → F1 j = F0 j := fun j j1 j2 => (e1 j j1 j2).trans (eF j j1 j2)
    rcases hc with ⟨x, hx, rfl, g37, g39⟩ | ⟨hkl, rfl, g37, g39⟩
    · have hkl : k < bs.length := (List.getElem?_eq_some_iff.mp hx).1
      obtain ⟨x', hx', hdr⟩ := l_drop (xs := bs) (i := k) hkl
      cases hx.symm.trans hx'
      obtain ⟨β, hβ, rfl⟩ := o_by_at hs.2.2.2.2.2 hx
      have hs1 := z_ps_mv (k' := k + 1) hs hkl g37 (e1 38 (by omega) (by omega))
      have ev : lN acc ||| (nI β &&& 127).toInt64 <<< (((7 : Int32) * nI i).toInt64 &&& 63) = lN (acc + β % 128 * 2 ^ (7 * i)) := by
        have hr : β % 128 < 128 := Nat.mod_lt _ (by omega)
        rw [pk_andN (n := β) (by omega) 7 (by decide), d_shift (by omega) hr]
        refine lN_or hacc ?_
        have e2 : 2 ^ (7 * (i + 1)) = 128 * 2 ^ (7 * i) := by rw [show 7 * (i + 1) = 7 + 7 * i by omega, Nat.pow_add]
        have e3 := Nat.mul_le_mul_right (2 ^ (7 * i)) (show β % 128 ≤ 127 by omega)
        omega
      have hacc' : acc + β % 128 * 2 ^ (7 * i) < 2 ^ (7 * (i + 1)) := by
        have e2 : 2 ^ (7 * (i + 1)) = 128 * 2 ^ (7 * i) := by rw [show 7 * (i + 1) = 7 + 7 * i by omega, Nat.pow_add]
        have e3 := Nat.mul_le_mul_right (2 ^ (7 * i)) (show β % 128 ≤ 127 by omega)
        omega
      have hdn : d_num (f + 1) i acc (bs.drop k) = if β < 128 then (if d_last β i = true then some (acc + β % 128 * 2 ^ (7 * i), bs.drop (k + 1)) else none) else d_num f (i + 1) (acc + β % 128 * 2 ^ (7 * i)) (bs.drop (k + 1)) := by
        rw [hdr]
        simp only [d_num]
        rw [nI_tn hβ]
      refine ⟨_, rfl, ?_⟩
      have g1 : F1 39 = 1 := g39.trans hg
      -- the number's fifth byte
      by_cases q5 : i + 1 = 5
      · refine g_br_f (show ¬ ¬ nI i + 1 = 5 from fun z => z (by rw [nI_1, q5]; rfl)) ?_
        by_cases q15 : 15 < β
        · refine g_br_f (show ¬ nI β ≤ 15 from nI_ge (a := 15) q15 (by omega)) ?_
          refine g_pt_j (z_fs a (z_u F1 39 0)) z1.1 (Nat.le_of_ble_eq_true rfl) rfl rfl rfl ?_
          obtain ⟨z2, f2⟩ := z_fld z1 (z_u F1 39 0)
          have hno : d_num (f + 1) i acc (bs.drop k) = none := by
            rw [hdn]
            split
            · rw [if_neg (by unfold d_last; rw [if_pos ⟨by omega, q15⟩]; decide)]
            · have f0 : f = 0 := by omega
              subst f0
              simp only [d_num]
          have key := tE (acc + β % 128 * 2 ^ (7 * i)) (i + 1) β (z_u F1 39 0) _ (k + 1) (by omega) hβ (Or.inr rfl) (Or.inr rfl) z2 (z_ps_mv hs1 hs1.1 hs1.2.1 rfl) (fun j j1 j2 => by rw [z_u_ne j2]; exact eF1 j j1 j2) (g_Fr_tr hF (g_Fr_tr f1 f2)) (fun z => by rw [z_u_eq] at z; exact absurd z (by decide)) (fun _ => hno)
          rw [← ev, ← nI_1 i] at key
          exact key
        · refine g_br_t (show nI β ≤ 15 from nI_le (b := 15) (by omega) (by omega)) ?_
          have key := tE (acc + β % 128 * 2 ^ (7 * i)) (i + 1) β F1 _ (k + 1) (by omega) hβ (Or.inl (by omega)) (Or.inl g1) z1 hs1 eF1 (g_Fr_tr hF f1) (fun _ hq => by
              rw [hdn, if_pos (by omega), if_pos]
              unfold d_last
              rw [if_neg (by omega)]
              have : ¬ β = 0 := fun z => hq ⟨by omega, z⟩
              simp [this]) (fun hq => by
              rcases hq with hq | hq
              · rw [g1] at hq
                exact absurd hq (by decide)
              · rw [hdn, if_pos (by omega), if_neg]
                unfold d_last
                rw [if_neg (by omega)]
                have : ¬ i = 0 := by omega
                simp [this, hq.2])
          rw [← ev, ← nI_1 i] at key
          exact key
      · refine g_br_t (show ¬ nI i + 1 = 5 by rw [nI_1]; exact fun z => q5 ((nI_eq (b := 5) (by omega) (by omega)).mp z)) ?_
        by_cases q128 : β < 128
        · have key := tE (acc + β % 128 * 2 ^ (7 * i)) (i + 1) β F1 _ (k + 1) (by omega) hβ (Or.inl q128) (Or.inl g1) z1 hs1 eF1 (g_Fr_tr hF f1) (fun _ hq => by
              rw [hdn, if_pos q128, if_pos]
              unfold d_last
              rw [if_neg (by omega)]
              by_cases hi0 : i = 0
              · simp [hi0]
              · have : ¬ β = 0 := fun z => hq ⟨by omega, z⟩
                simp [this]) (fun hq => by
              rcases hq with hq | hq
              · rw [g1] at hq
                exact absurd hq (by decide)
              · rw [hdn, if_pos q128, if_neg]
                unfold d_last
                rw [if_neg (by omega)]
                have : ¬ i = 0 := by omega
                simp [this, hq.2])
          rw [← ev, ← nI_1 i] at key
          exact key
        · have key := ih (i + 1) (acc + β % 128 * 2 ^ (7 * i)) (k + 1) β F1 _ (by omega) (by omega) hacc' (by omega) hβ g1 z1 hs1 eF1 (g_Fr_tr hF f1)
          rw [hdn, if_neg q128]
          rw [← ev, ← nI_1 i] at key
          exact key
    · refine ⟨_, rfl, ?_⟩
      have ev : lN acc ||| ((0 : Int32) &&& 127).toInt64 <<< (((7 : Int32) * nI i).toInt64 &&& 63) = lN acc := by
        have := d_shift (r := 0) (i := i) (by omega) (by omega)
        rw [show (0 : Int32) &&& 127 = nI 0 by decide, this, Nat.zero_mul]
        have := lN_or (a := acc) (b := 0) (k := 7 * i) hacc (by have : 2 ^ (7 * i) ≤ 2 ^ 35 := Nat.pow_le_pow_right (by omega) (by omega); omega)
        rw [Nat.zero_mul] at this
        exact this
      have hno : d_num (f + 1) i acc (bs.drop k) = none := by
        rw [List.drop_eq_nil_of_le hkl]
        simp only [d_num]
      have key := tE acc (i + 1) 0 F1 h1 k (by omega) (by omega) (Or.inl (by omega)) (Or.inr g39) z1 (z_ps_mv hs hs.1 g37 (e1 38 (by omega) (by omega))) eF1 (g_Fr_tr hF f1) (fun z => by rw [g39] at z; exact absurd z (by decide)) (fun _ => hno)
      rw [← nI_1 i] at key
      refine g_br_i (fun q => ?_) (fun q => ?_)
      · rw [← ev] at key
        exact key
      · refine g_br_t (by decide) ?_
        rw [← ev] at key
        exact key
