/-! TracePacksModel: bytes are read -/
theorem z_sb_at : ∀ β, β < 256 → z_sb (nI β) &&& 255 = nI β := by decide +kernel
theorem z_sb_m : ∀ β, β < 256 → (z_sb (nI β) = 126 ↔ nI β = 126) := by decide +kernel
theorem z_pk_at {F : Nat → Int32} {A : Nat → List Int32} {pk : List Int32} (hp : z_pk F A pk) (hb : o_by pk) {i : Nat} {x : Int32} (hx : pk[i]? = some x) : (A 1).getD i 0 &&& 255 = x ∧ ((A 1).getD i 0 = 126 ↔ x = 126) := by
  have hi : i < pk.length := (List.getElem?_eq_some_iff.mp hx).1
  obtain ⟨β, hβ, rfl⟩ := o_by_at hb hx
  have : (pk.map z_sb)[i]? = some (z_sb (nI β)) := by rw [List.getElem?_map, hx]; rfl
  rw [← hp.2.2, List.getElem?_take, if_pos hi] at this
  rw [l_getD this]
  exact ⟨z_sb_at β hβ, z_sb_m β hβ⟩
/-- shields taken off, without a limit -/
def r_us : List Int32 → List Int32 → Option (List Int32)
  | ins, [] => some ins
  | ins, b :: t => if b = 125 then (match t with
      | [] => none
      | c :: t' => if c = 94 then r_us (ins ++ [126]) t' else if c = 93 then r_us (ins ++ [125]) t' else none) else r_us (ins ++ [b]) t
termination_by _ xs => xs.length
theorem r_us_nil {ins : List Int32} : r_us ins [] = some ins := by rw [r_us]
theorem r_us_1 {ins : List Int32} : r_us ins [125] = none := by rw [r_us]; rfl
theorem r_us_2 {ins t : List Int32} {c : Int32} : r_us ins (125 :: c :: t) = if c = 94 then r_us (ins ++ [126]) t else if c = 93 then r_us (ins ++ [125]) t else none := by rw [r_us]; rfl
theorem r_us_3 {ins t : List Int32} {b : Int32} (h : ¬ b = 125) : r_us ins (b :: t) = r_us (ins ++ [b]) t := by rw [r_us.eq_def]; exact if_neg h
/-- what the model's unshield comes to -/
def z_us (a : Nat) (hh : g_H) (F : Nat → Int32) (A : Nat → List Int32) (res : Option (List Int32)) : g_P := fun oc hE => ∃ F' A', o_Z hE a F' A' ∧ (∀ k, k ≠ 15 → F' k = F k) ∧ (∀ i, i ≠ 6 → A' i = A i) ∧ g_Fr a (a + 18) hh hE ∧ match res with
  | some ins => oc = .inl (some (.int 1)) ∧ z_in F' A' ins
  | none => oc = .inl (some (.int 0)) ∧ ∃ ins, z_in F' A' ins
theorem x_Z_us {l : Launch} {a s e : Nat} {pk : List Int32} {hh : g_H} {F0 : Nat → Int32} {A0 : Nat → List Int32} (hp : z_pk F0 A0 pk) (hb : o_by pk) (he : e ≤ pk.length) : ∀ (d i : Nat) (ins : List Int32) (F : Nat → Int32) (A : Nat → List Int32) (h : g_H) (c4 c5 : Option Value), e - i ≤ d → i ≤ e → ins.length ≤ i → o_Z h a F A → z_in F A ins → (∀ k, k ≠ 15 → F k = F0 k) → (∀ i, i ≠ 6 → A i = A0 i) → g_Fr a (a + 18) hh h →
    g_X l J_Z_unshield 7 [some (.ref a), some (.int (nI s)), some (.int (nI e)), some (.int (nI i)), c4, c5] [] h (z_us a hh F0 A0 (r_us ins ((pk.take e).drop i))) := by
  have hpl := hp.2.1
  have htl : (pk.take e).length = e := by rw [List.length_take]; omega
  intro d
  induction d with
  | zero =>
    intro i ins F A h c4 c5 hd hi hil hZ hin eF eA hF
    refine g_go ok_Z_unshield [7] 60 ?_
    refine g_br_t (show nI e ≤ nI i from nI_le (by omega) (by omega)) ?_
    rw [List.drop_eq_nil_of_le (by omega), r_us_nil]
    exact ⟨by decide, F, A, hZ, eF, eA, hF, rfl, hin⟩
  | succ d ih =>
    intro i ins F A h c4 c5 hd hi hil hZ hin eF eA hF
    by_cases hie : i < e
    · have h1 : (A 1).length = 16384 := hZ.2.2.2 1 (by omega) (by omega)
      have hpk : z_pk F A pk := ⟨(eF 1 (by omega)).trans hp.1, hpl, by rw [eA 1 (by omega)]; exact hp.2.2⟩
      obtain ⟨x, hx, hdr⟩ := l_drop (xs := pk.take e) (i := i) (by omega)
      have hx2 : pk[i]? = some x := by
        rw [List.getElem?_take, if_pos (by omega)] at hx
        exact hx
      have gx := (z_pk_at hpk hb hx2).1
      -- from the byte behind the shield on
      have tS : ∀ (y : Int32), x = 125 → (y = (if i + 1 < e then pk.getD (i + 1) 0 else 0)) → g_X l J_Z_unshield 54 [some (.ref a), some (.int (nI s)), some (.int (nI e)), some (.int (nI i)), some (.int x), c5] [.int y] h (z_us a hh F0 A0 (r_us ins ((pk.take e).drop i))) := by
        intro y hx5 hy
        refine g_go ok_Z_unshield [7] 60 ?_
        have fin : ∀ (v : Int32) (oc : g_R) (h2 : g_H), i + 1 < e → v &&& 255 = v → z_sy a h F A ins [v &&& 255] oc h2 → (r_us ins ((pk.take e).drop i) = r_us (ins ++ [v]) ((pk.take e).drop (i + 2))) → oc = .inl none ∧ g_X l J_Z_unshield 7 [some (.ref a), some (.int (nI s)), some (.int (nI e)), some (.int (nI i + 2)), some (.int x), some (.int y)] [] h2 (z_us a hh F0 A0 (r_us ins ((pk.take e).drop i))) := by
          intro v oc h2 hi2 hv hp2 hre
          obtain ⟨rfl, F2, A2, z2, i2, e2, d2, f2⟩ := hp2
          refine ⟨rfl, ?_⟩
          rw [hv] at i2
          rw [hre]
          have := ih (i + 2) (ins ++ [v]) F2 A2 h2 (some (.int x)) (some (.int y)) (by omega) (by omega) (by simp; omega) z2 i2 (fun k hk => (e2 k hk).trans (eF k hk)) (fun j hj => (d2 j hj).trans (eA j hj)) (g_Fr_tr hF f2)
          rw [← nI_add i 2] at this
          exact this
        by_cases q1 : i + 1 < e
        · obtain ⟨c, hc, hdr2⟩ := l_drop (xs := pk.take e) (i := i + 1) (by omega)
          have hc2 : pk[i + 1]? = some c := by
            rw [List.getElem?_take, if_pos (by omega)] at hc
            exact hc
          rw [if_pos q1, l_getD hc2] at hy
          subst hy
          have hre : r_us ins ((pk.take e).drop i) = if y = 94 then r_us (ins ++ [126]) ((pk.take e).drop (i + 2)) else if y = 93 then r_us (ins ++ [125]) ((pk.take e).drop (i + 2)) else none := by
            rw [hdr, hdr2, hx5, r_us_2]
          refine g_br_i (fun q2 => ?_) (fun q2 => ?_)
          · have q2 : y = 94 := q2
            refine g_br_f (show ¬ ¬ y = 94 from fun z => z q2) ?_
            refine g_cv_i hZ.1 (c_Z_say hZ hin (by omega)) (fun oc h2 hp2 => ?_)
            obtain ⟨rfl, kk⟩ := fin 126 oc h2 q1 (by decide) hp2 (by rw [hre, if_pos q2])
            exact ⟨_, rfl, kk⟩
          · have q2 : ¬ y = 94 := q2
            refine g_br_i (fun q3 => ?_) (fun q3 => ?_)
            · have q3 : y = 93 := q3
              refine g_br_t q2 ?_
              refine g_cv_i hZ.1 (c_Z_say hZ hin (by omega)) (fun oc h2 hp2 => ?_)
              obtain ⟨rfl, kk⟩ := fin 125 oc h2 q1 (by decide) hp2 (by rw [hre, if_neg q2, if_pos q3])
              exact ⟨_, rfl, kk⟩
            · have q3 : ¬ y = 93 := q3
              rw [hre, if_neg q2, if_neg q3]
              exact ⟨by decide, F, A, hZ, eF, eA, hF, rfl, ins, hin⟩
        · rw [if_neg q1] at hy
          subst hy
          refine g_br_f (by decide) ?_
          refine g_br_f (by decide) ?_
          have hre : r_us ins ((pk.take e).drop i) = none := by
            rw [hdr, List.drop_eq_nil_of_le (by omega), hx5, r_us_1]
          rw [hre]
          exact ⟨by decide, F, A, hZ, eF, eA, hF, rfl, ins, hin⟩
      have t22 : ∀ (w : Int32), w = x → g_X l J_Z_unshield 22 [some (.ref a), some (.int (nI s)), some (.int (nI e)), some (.int (nI i)), c4, c5] [.int w] h (z_us a hh F0 A0 (r_us ins ((pk.take e).drop i))) := by
        intro w hw
        rw [hw]
        clear hw
        refine g_go ok_Z_unshield [7, 54] 60 ?_
        refine g_br_i (fun q => ?_) (fun q => ?_)
        · have q : ¬ x = 125 := q
          refine g_cv_i hZ.1 (c_Z_say hZ hin (by omega)) (fun oc h2 hp2 => ?_)
          obtain ⟨rfl, F2, A2, z2, i2, e2, d2, f2⟩ := hp2
          refine ⟨_, rfl, ?_⟩
          obtain ⟨β, hβ, hxβ⟩ := o_by_at hb hx2
          have exx : x &&& 255 = x := by rw [hxβ]; exact n_255 β hβ
          rw [exx] at i2
          rw [hdr, r_us_3 q]
          have := ih (i + 1) (ins ++ [x]) F2 A2 h2 (some (.int x)) c5 (by omega) (by omega) (by simp; omega) z2 i2 (fun k hk => (e2 k hk).trans (eF k hk)) (fun j hj => (d2 j hj).trans (eA j hj)) (g_Fr_tr hF f2)
          rw [← nI_1 i] at this
          exact this
        · have q : x = 125 := Classical.not_not.mp q
          by_cases q1 : i + 1 < e
          · obtain ⟨c, hc, -⟩ := l_drop (xs := pk.take e) (i := i + 1) (by omega)
            have hc2 : pk[i + 1]? = some c := by
              rw [List.getElem?_take, if_pos (by omega)] at hc
              exact hc
            have gc := (z_pk_at hpk hb hc2).1
            refine g_br_f (show ¬ nI e ≤ nI i + 1 by rw [nI_1]; exact nI_ge (by omega) (by omega)) ?_
            refine g_gt_i hZ.1 rfl ?_
            refine g_alB_i hZ.2.1 (show vp_in (nI i + 1) _ by rw [nI_1, h1]; exact vp_in_nI (by omega) (by omega)) ?_
            have e1 : Int32.toNatClampNeg ((fun x y : Int32 => x + y) (nI i) 1) = i + 1 := by
              show (nI i + 1).toNatClampNeg = i + 1
              rw [nI_1, nI_clamp (by omega)]
            rw [e1]
            refine tS _ q ?_
            rw [if_pos q1, l_getD hc2]
            exact gc
          · refine g_br_t (show nI e ≤ nI i + 1 by rw [nI_1]; exact nI_le (by omega) (by omega)) ?_
            exact tS 0 q (by rw [if_neg q1])
      refine g_go ok_Z_unshield [22] 60 ?_
      refine g_br_f (show ¬ nI e ≤ nI i from nI_ge (by omega) (by omega)) ?_
      refine g_gt_i hZ.1 rfl ?_
      refine g_alB_i hZ.2.1 (by rw [h1]; exact vp_in_nI (by omega) (by omega)) ?_
      rw [nI_clamp (by omega)]
      exact t22 _ gx
    · refine g_go ok_Z_unshield [7] 60 ?_
      refine g_br_t (show nI e ≤ nI i from nI_le (by omega) (by omega)) ?_
      rw [List.drop_eq_nil_of_le (by omega), r_us_nil]
      exact ⟨by decide, F, A, hZ, eF, eA, hF, rfl, hin⟩
theorem c_Z_unshield {l : Launch} {h : g_H} {a s e : Nat} {F : Nat → Int32} {A : Nat → List Int32} {pk : List Int32} (hZ : o_Z h a F A) (hp : z_pk F A pk) (hb : o_by pk) (hs : s ≤ e) (he : e ≤ pk.length) : g_Run l J_Z_unshield [.ref a, .int (nI s), .int (nI e)] h (z_us a h F A (r_us [] ((pk.take e).drop s))) := by
  refine go_Z_unshield [7] 40 ?_
  refine g_pt_j (z_fs a (z_u F 15 0)) hZ.1 (Nat.le_of_ble_eq_true rfl) rfl rfl rfl ?_
  obtain ⟨z1, f1⟩ := z_fld hZ (z_u F 15 0)
  exact x_Z_us (F0 := F) (A0 := A) hp hb he (e - s) s [] _ _ _ none none (Nat.le_refl _) hs (Nat.zero_le _) z1 ⟨rfl, rfl, by simp, fun x hx => absurd hx (by simp)⟩ (fun k hk => z_u_ne hk) (fun _ _ => rfl) f1
