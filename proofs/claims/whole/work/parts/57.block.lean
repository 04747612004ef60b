/-! Unpacker.unpack -/
def d_rows : Nat → o_Mm → List o_Rw → List Int32 → Option (List o_Rw × List Int32)
  | 0, _, rs, bs => some (rs, bs)
  | _ + 1, _, rs, [] => some (rs, [])
  | n + 1, m, rs, b :: t => match d_cap rs (d_row m (b :: t)) with
    | none => none
    | some (m', rs', r) => d_rows n m' rs' r
def d_in (ins : List Int32) : Option (Int32 × Int32 × List o_Rw) := match d_head ins with
  | none => none
  | some (o, t, n) => match d_rows n ((0, 0), (0, 0), [], 0, t) [] (ins.drop 6) with
    | none => none
    | some (rs, r) => if rs.length = n ∧ r = [] then some (o, t, rs) else none
def d_blk (seg : List Int32) : Option (Int32 × Int32 × List o_Rw) := match d_us false [] seg with
  | none => none
  | some ins => match d_sum ins with
    | none => none
    | some ins' => d_in ins'
theorem d_us_by : ∀ (seg : List Int32) (fl : Bool) (ins r : List Int32), o_by seg → o_by ins → d_us fl ins seg = some r → o_by r
  | [], false, ins, r, _, hi, h => by
    simp only [d_us, Option.some.injEq] at h
    rw [← h]
    exact hi
  | [], true, ins, r, _, _, h => by simp [d_us] at h
  | b :: t, false, ins, r, hs, hi, h => by
    have ht : o_by t := fun x hx => hs x (List.mem_cons_of_mem _ hx)
    have ha : ∀ v : Int32, (∃ β : Nat, β < 256 ∧ v = nI β) → o_by (ins ++ [v]) := fun v hv x hx => by
      rcases List.mem_append.mp hx with h1 | h1
      · exact hi x h1
      · rw [List.mem_singleton.mp h1]
        exact hv
    simp only [d_us] at h
    split at h
    · exact d_us_by t true ins r ht hi h
    · split at h
      · exact d_us_by t false _ r ht (ha _ (hs b List.mem_cons_self)) h
      · cases h
  | b :: t, true, ins, r, hs, hi, h => by
    have ht : o_by t := fun x hx => hs x (List.mem_cons_of_mem _ hx)
    have ha : ∀ v : Int32, (∃ β : Nat, β < 256 ∧ v = nI β) → o_by (ins ++ [v]) := fun v hv x hx => by
      rcases List.mem_append.mp hx with h1 | h1
      · exact hi x h1
      · rw [List.mem_singleton.mp h1]
        exact hv
    simp only [d_us] at h
    split at h
    · split at h
      · exact d_us_by t false _ r ht (ha _ ⟨126, by omega, rfl⟩) h
      · cases h
    · split at h
      · split at h
        · exact d_us_by t false _ r ht (ha _ ⟨125, by omega, rfl⟩) h
        · cases h
      · cases h
theorem d_kind_tm {m : o_Mm} {k f x : Nat} {r r' : List Int32} {m' : o_Mm} {add : List o_Rw} (hm : o_tm m) (h : d_kind m k f x r = some (m', add, r')) : o_tm m' := by
  have e : ∀ (m2 : o_Mm) (ad : List o_Rw) (r2 : List Int32), some (m2, ad, r2) = some (m', add, r') → o_tm m2 → o_tm m' := fun m2 ad r2 z z2 => by
    simp only [Option.some.injEq, Prod.mk.injEq] at z
    rw [← z.1]
    exact z2
  unfold d_kind at h
  split at h
  · split at h
    · exact e _ _ _ h hm
    · cases h
  split at h
  · split at h
    · exact e _ _ _ h hm
    · cases h
  split at h
  · split at h
    · exact e _ _ _ h hm
    · cases h
  split at h
  · unfold d_store at h
    split at h
    · cases h
    · exact e _ _ _ h hm
  split at h
  · split at h
    · unfold d_time at h
      split at h
      next hq => exact e _ _ _ h ⟨_, by omega, rfl⟩
      next => cases h
    · cases h
  · cases h
theorem d_row_tm {m : o_Mm} {bs r' : List Int32} {m' : o_Mm} {add : List o_Rw} (hm : o_tm m) (h : d_row m bs = some (m', add, r')) : o_tm m' := by
  cases bs with
  | nil => simp [d_row] at h
  | cons b t =>
    simp only [d_row] at h
    split at h
    · cases h
    · exact d_kind_tm hm h
theorem d_cap_some {rs rs' : List o_Rw} {res : Option (o_Mm × List o_Rw × List Int32)} {m' : o_Mm} {r : List Int32} (h : d_cap rs res = some (m', rs', r)) : ∃ add, res = some (m', add, r) ∧ rs' = rs ++ add ∧ rs.length + add.length ≤ 100 := by
  cases res with
  | none => simp [d_cap] at h
  | some w =>
    obtain ⟨m2, add, r2⟩ := w
    by_cases q : rs.length + add.length ≤ 100
    · rw [d_cap_le q] at h
      simp only [Option.some.injEq, Prod.mk.injEq] at h
      obtain ⟨rfl, rfl, rfl⟩ := h
      exact ⟨add, rfl, rfl, q⟩
    · rw [d_cap_gt q] at h
      cases h
abbrev u_Q (a : Nat) (hh : g_H) (res : Option (Int32 × Int32 × List o_Rw)) : g_P := fun oc hE => g_Fr a (a + 16) hh hE ∧ match res with
  | some (o', t', rs') => oc = .inl (some (.int 1)) ∧ ∃ ins' m' pl', o_U hE a ins' m' rs' o' t' pl'
  | none => oc = .inl (some (.int 0)) ∧ ∃ ins' m' rs' o' t' pl', o_U hE a ins' m' rs' o' t' pl'
theorem x_U_unp {l : Launch} {a b n : Nat} {s e : Int32} {ins : List Int32} {o t : Int32} {hh : g_H} (hn : n ≤ 100) (hby : o_by ins) : ∀ (d i k : Nat) (m : o_Mm) (rs : List o_Rw) (h : g_H), n - i = d → i ≤ n → k ≤ ins.length → o_tm m → o_U h a ins m rs o t (nI k) → g_Fr a (a + 16) hh h →
    g_X l J_U_unpack 39 [some (.ref a), some (.ref b), some (.int s), some (.int e), some (.int (nI n)), some (.int (nI i))] [] h (u_Q a hh (match d_rows d m rs (ins.drop k) with
      | none => none
      | some (rs, r) => if rs.length = n ∧ r = [] then some (o, t, rs) else none)) := by
  -- the end
  have tE : ∀ (i k : Nat) (m : o_Mm) (rs : List o_Rw) (h : g_H), k ≤ ins.length → o_U h a ins m rs o t (nI k) → g_Fr a (a + 16) hh h → g_X l J_U_unpack 75 [some (.ref a), some (.ref b), some (.int s), some (.int e), some (.int (nI n)), some (.int (nI i))] [] h (u_Q a hh (if rs.length = n ∧ ins.drop k = [] then some (o, t, rs) else none)) := by
    intro i k m rs h hk hU hF
    have hl := g_I_len hU.2.1
    have hr := o_B_len hU.2.2.2
    refine g_go ok_U_unpack [] 60 ?_
    refine g_gt_i hU.1 rfl ?_
    refine g_cv_i (o_B_ty hU.2.2.2) (c_B_size hU.2.2.2) (fun oc h1 hp => ?_)
    obtain ⟨rfl, rfl⟩ := hp
    refine ⟨_, rfl, ?_⟩
    refine g_br_i (fun q => ?_) (fun q => ?_)
    · have q : ¬ rs.length = n := fun z => q (by rw [z])
      rw [if_neg (fun z => q z.1)]
      exact ⟨by decide, hF, rfl, _, _, _, _, _, _, hU⟩
    · have q : rs.length = n := (nI_eq (by omega) (by omega)).mp (Classical.not_not.mp q)
      refine g_gt_i hU.1 rfl ?_
      refine g_gt_i hU.1 rfl ?_
      refine g_cv_i (g_I_ty hU.2.1) (c_I_size hU.2.1) (fun oc h1 hp => ?_)
      obtain ⟨rfl, rfl⟩ := hp
      refine ⟨_, rfl, ?_⟩
      refine g_br_i (fun q2 => ?_) (fun q2 => ?_)
      · have q2 : ¬ k = ins.length := fun z => q2 (by rw [z])
        rw [if_neg (fun z => q2 (by have := z.2; rw [List.drop_eq_nil_iff] at this; omega))]
        exact ⟨by decide, hF, rfl, _, _, _, _, _, _, hU⟩
      · have q2 : k = ins.length := (nI_eq (by omega) (by omega)).mp (Classical.not_not.mp q2)
        rw [if_pos ⟨q, List.drop_eq_nil_of_le (by omega)⟩]
        exact ⟨by decide, hF, rfl, _, _, _, hU⟩
  intro d
  induction d with
  | zero =>
    intro i k m rs h hd hi hk hm hU hF
    refine g_go ok_U_unpack [39, 75] 60 ?_
    refine g_br_t (show nI n ≤ nI i from nI_le (by omega) (by omega)) ?_
    exact tE i k m rs h hk hU hF
  | succ d ih =>
    intro i k m rs h hd hi hk hm hU hF
    have hl := g_I_len hU.2.1
    refine g_go ok_U_unpack [39, 75] 60 ?_
    refine g_br_f (show ¬ nI n ≤ nI i from nI_ge (by omega) (by omega)) ?_
    refine g_gt_i hU.1 rfl ?_
    refine g_gt_i hU.1 rfl ?_
    refine g_cv_i (g_I_ty hU.2.1) (c_I_has hU.2.1) (fun oc h1 hp => ?_)
    obtain ⟨rfl, rfl⟩ := hp
    refine ⟨_, rfl, ?_⟩
    by_cases q : k < ins.length
    · rw [if_pos (v_in_nI (by omega) q)]
      refine g_br_f (by decide) ?_
      refine g_cv_i hU.1 (c_U_takeRow hby hm q hU) (fun oc h2 hp => ?_)
      obtain ⟨b0, hb0, hdr⟩ := l_drop (xs := ins) (i := k) q
      obtain ⟨f2, hp⟩ := hp
      rw [hdr] at hp ⊢
      simp only [d_rows]
      cases hc : d_cap rs (d_row m (b0 :: ins.drop (k + 1))) with
      | none =>
        rw [hc] at hp
        obtain ⟨rfl, m', rs', pl', u2⟩ := hp
        refine ⟨_, rfl, ?_⟩
        refine g_br_f (by decide) ?_
        exact ⟨by decide, g_Fr_tr hF f2, rfl, _, _, _, _, _, _, u2⟩
      | some w =>
        obtain ⟨m', rs', r⟩ := w
        rw [hc] at hp
        obtain ⟨rfl, k', hk', rfl, u2⟩ := hp
        refine ⟨_, rfl, ?_⟩
        refine g_br_t (by decide) ?_
        obtain ⟨add, h3, -, -⟩ := d_cap_some hc
        have := ih (i + 1) k' m' rs' h2 (by omega) (by omega) hk' (d_row_tm hm h3) u2 (g_Fr_tr hF f2)
        rw [← nI_1] at this
        exact this
    · rw [if_neg (v_not_in (by omega) (by omega) (by omega))]
      refine g_br_t (by decide) ?_
      have e0 : ins.drop k = [] := List.drop_eq_nil_of_le (by omega)
      have := tE i k m rs _ hk hU hF
      rw [e0] at this ⊢
      exact this
theorem c_U_unpack {l : Launch} {h : g_H} {a b s e : Nat} {ins : List Int32} {m : o_Mm} {rs : List o_Rw} {o t pl : Int32} {pk : List Int32} (hU : o_U h a ins m rs o t pl) (hI : g_I h b 16384 pk) (hby : o_by pk) (hab : a + 16 ≤ b ∨ b + 2 ≤ a) (hs : s ≤ e) (he : e ≤ pk.length) : g_Run l J_U_unpack [.ref a, .ref b, .int (nI s), .int (nI e)] h (u_Q a h (d_blk ((pk.take e).drop s))) := by
  unfold d_blk
  refine go_U_unpack [39] 60 ?_
  refine g_cv_i hU.1 (c_U_unshield hU hI hby hab hs he) (fun oc h1 hp => ?_)
  obtain ⟨f1, hp⟩ := hp
  cases h1c : d_us false [] ((pk.take e).drop s) with
  | none =>
    rw [h1c] at hp
    obtain ⟨rfl, _, u1⟩ := hp
    refine ⟨_, rfl, ?_⟩
    refine g_br_t (by decide) ?_
    exact ⟨by decide, f1, rfl, _, _, _, _, _, _, u1⟩
  | some ins1 =>
    rw [h1c] at hp
    obtain ⟨rfl, u1⟩ := hp
    have hb1 : o_by ins1 := d_us_by _ _ _ _ (o_by_drop (o_by_take hby e) s) (fun x hx => absurd hx (by simp)) h1c
    refine ⟨_, rfl, ?_⟩
    refine g_br_f (by decide) ?_
    refine g_cv_i u1.1 (c_U_takeSum u1) (fun oc h2 hp => ?_)
    obtain ⟨f2, hp⟩ := hp
    have F2 := g_Fr_tr f1 f2
    simp only
    cases h2c : d_sum ins1 with
    | none =>
      rw [h2c] at hp
      obtain ⟨rfl, _, u2⟩ := hp
      refine ⟨_, rfl, ?_⟩
      refine g_br_t (by decide) ?_
      exact ⟨by decide, F2, rfl, _, _, _, _, _, _, u2⟩
    | some ins2 =>
      rw [h2c] at hp
      obtain ⟨rfl, u2⟩ := hp
      have hq : 9 ≤ ins1.length ∧ ins2 = ins1.take (ins1.length - 2) := by
        unfold d_sum at h2c
        split at h2c
        next hq => exact ⟨hq.1, (Option.some.inj h2c).symm⟩
        next => cases h2c
      have hb2 : o_by ins2 := by rw [hq.2]; exact o_by_take hb1 _
      have hl2 : 7 ≤ ins2.length := by rw [hq.2, List.length_take]; omega
      refine ⟨_, rfl, ?_⟩
      refine g_br_f (by decide) ?_
      refine g_cv_i u2.1 (c_U_takeHead hb2 hl2 u2) (fun oc h3 hp => ?_)
      obtain ⟨f3, hp⟩ := hp
      have F3 := g_Fr_tr F2 f3
      simp only [d_in]
      cases h3c : d_head ins2 with
      | none =>
        rw [h3c] at hp
        obtain ⟨rfl, _, u3⟩ := hp
        refine ⟨_, rfl, ?_⟩
        refine g_br_f (by decide) ?_
        exact ⟨by decide, F3, rfl, _, _, _, _, _, _, u3⟩
      | some w =>
        obtain ⟨o3, t3, n3⟩ := w
        rw [h3c] at hp
        obtain ⟨rfl, u3⟩ := hp
        refine ⟨_, rfl, ?_⟩
        refine g_br_t (by decide) ?_
        have hl3 := g_I_len u3.2.1
        obtain ⟨b5, hb5, -⟩ := l_drop (xs := ins2) (i := 5) (by omega)
        obtain ⟨γ, hγ, rfl⟩ := o_by_at hb2 hb5
        have hh : n3 = γ ∧ γ ≤ 100 ∧ ∃ w, w ≤ 2147483647 ∧ t3 = nI w := by
          unfold d_head at h3c
          rw [l_getD hb5, nI_tn hγ] at h3c
          split at h3c
          next hq =>
            simp only [Option.some.injEq, Prod.mk.injEq] at h3c
            exact ⟨h3c.2.2.symm, hq.2.2.2, _, hq.2.1, h3c.2.1.symm⟩
          next => cases h3c
        obtain ⟨rfl, hn, w, hw, rfl⟩ := hh
        refine g_gt_i u3.1 rfl ?_
        refine g_cv_i (g_I_ty u3.2.1) (c_I_at u3.2.1) (fun oc h4 hp => ?_)
        obtain ⟨rfl, rfl⟩ := hp
        rw [show (5 : Int32) = nI 5 from rfl, v_at_some (by omega) hb5]
        refine ⟨_, rfl, ?_⟩
        exact x_U_unp (l := l) (a := a) (b := b) (hh := h) hn hb2 n3 0 6 _ [] _ rfl (Nat.zero_le _) (by omega) ⟨w, by omega, rfl⟩ u3 F3
