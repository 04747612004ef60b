/-! Unpacker: times, a row, a whole block -/
def o_tm (m : o_Mm) : Prop := ∃ n : Nat, n < 2 ^ 31 ∧ m.2.2.2.2 = nI n
def d_time (m : o_Mm) (x : Nat) (r : List Int32) : Option (o_Mm × List o_Rw × List Int32) := if m.2.2.2.2.toNatClampNeg + x ≤ 2147483647 then some ((m.1, m.2.1, m.2.2.1, m.2.2.2.1, nI (m.2.2.2.2.toNatClampNeg + x)), [(4, nI (m.2.2.2.2.toNatClampNeg + x), 0)], r) else none
theorem c_U_takeTime {l : Launch} {h : g_H} {a k x : Nat} {ins : List Int32} {m : o_Mm} {rs : List o_Rw} {o t : Int32} (hx : x < 2 ^ 40) (hk : k ≤ ins.length) (hm : o_tm m) (hU : o_U h a ins m rs o t (nI k)) : g_Run l J_U_takeTime [.ref a, .long (lN x)] h (u_P a ins o t h (d_cap rs (d_time m x (ins.drop k)))) := by
  obtain ⟨n, hn, hmn⟩ := hm
  have e1 : ((2147483647 : Int32) - m.2.2.2.2).toInt64 = lN (2147483647 - n) := by
    rw [hmn, show (2147483647 : Int32) - nI n = nI (2147483647 - n) from pk_sub (a := 2147483647) (by omega), nI_l (by omega)]
  have e2 : m.2.2.2.2.toNatClampNeg = n := by rw [hmn, nI_clamp hn]
  have e3 : m.2.2.2.2 + (lN x).toInt32 = nI (n + x) := by rw [hmn, lN_i, nI_add]
  unfold d_time
  rw [e2]
  refine go_U_takeTime [] 40 ?_
  refine g_gt_i hU.1 rfl ?_
  refine g_gt_i hU.2.2.1.1 rfl ?_
  refine g_br_i (fun q => ?_) (fun q => ?_)
  · have q : n + x ≤ 2147483647 := by
      have z : lN x ≤ ((2147483647 : Int32) - m.2.2.2.2).toInt64 := (lg_cmp_le _ _).mp q
      rw [e1, lQ_le (by omega) (by omega)] at z
      omega
    rw [if_pos q]
    refine g_gt_i hU.1 rfl ?_
    refine g_gt_i hU.2.2.1.1 rfl ?_
    refine g_pt_i hU.2.2.1.1 (Nat.le_of_ble_eq_true rfl) rfl rfl ?_
    obtain ⟨u1, f1⟩ := o_U_mj m.2.2.2.1 (m.2.2.2.2 + (lN x).toInt32) hU
    refine g_gt_i u1.1 rfl ?_
    refine g_gt_i u1.1 rfl ?_
    refine g_gt_i u1.2.2.1.1 rfl ?_
    refine g_cv_i (o_B_ty u1.2.2.2) (u_add (4, m.2.2.2.2 + (lN x).toInt32, 0) u1) (fun oc h2 hp => ?_)
    obtain ⟨rfl, u2, f2⟩ := hp
    refine ⟨_, rfl, ?_⟩
    have := u_end hk (g_Fr_tr f1 f2) u2
    rw [e3] at this
    exact this
  · have q : ¬ n + x ≤ 2147483647 := fun z => q ((lg_cmp_le _ _).mpr (show lN x ≤ ((2147483647 : Int32) - m.2.2.2.2).toInt64 by rw [e1, lQ_le (by omega) (by omega)]; omega))
    rw [if_neg q]
    exact ⟨by decide, g_Fr_rf _ _ _, rfl, _, _, _, hU⟩
def d_kind (m : o_Mm) (k f x : Nat) (r : List Int32) : Option (o_Mm × List o_Rw × List Int32) :=
  if k = 0 then (if 1 < f then some (m, d_bt 4 f, r) else none)
  else if k = 1 then (if f = 0 then d_jump m x r else none)
  else if k = 2 then (if f ≤ 1 then d_load m f x r else none)
  else if k = 3 then d_store m f x r
  else if k = 4 then (if f = 0 then d_time m x r else none)
  else none
def d_nx (k f : Nat) (t : List Int32) : Option (Nat × List Int32) := if d_isn k f = true then d_num 5 0 0 t else some (0, t)
def d_row (m : o_Mm) : List Int32 → Option (o_Mm × List o_Rw × List Int32)
  | [] => none
  | b :: t => match d_nx (b.toNatClampNeg / 32) (b.toNatClampNeg % 32) t with
    | none => none
    | some (x, r) => d_kind m (b.toNatClampNeg / 32) (b.toNatClampNeg % 32) x r
theorem u_P_01 {a : Nat} {ins : List Int32} {o t : Int32} {hh : g_H} {res : Option (o_Mm × List o_Rw × List Int32)} {oc : g_R} {hE : g_H} (hp : u_P a ins o t hh res oc hE) : oc = .inl (some (.int 1)) ∨ oc = .inl (some (.int 0)) := by
  obtain ⟨_, hp⟩ := hp
  cases res with
  | none => exact Or.inr hp.1
  | some w => exact Or.inl hp.1
theorem x_U_row {l : Launch} {hh h : g_H} {a k kd f x : Nat} {b : Int32} {ins : List Int32} {m : o_Mm} {rs : List o_Rw} {o t : Int32} (hby : o_by ins) (hkd : kd < 8) (hf : f < 32) (hx : x < 2 ^ 40) (hm : o_tm m) (hk : k ≤ ins.length) (hU : o_U h a ins m rs o t (nI k)) (hF : g_Fr a (a + 16) hh h) :
    g_X l J_U_takeRow 47 [some (.ref a), some (.int b), some (.int (nI kd)), some (.int (nI f)), none, none] [.long (lN x)] h (u_P a ins o t hh (d_cap rs (d_kind m kd f x (ins.drop k)))) := by
  unfold d_kind
  refine g_go ok_U_takeRow [] 60 ?_
  refine g_br_t (fun z => lQ_m1 (show x < 2 ^ 63 by omega) ((lg_cmp_eq _ _).mp z)) ?_
  refine g_br_i (fun q => ?_) (fun q => ?_)
  · have q : kd = 0 := (nI_eq (b := 0) (by omega) (by omega)).mp q
    rw [if_pos q]
    refine g_cv_i hU.1 (c_U_takeBranches hf hk hU) (fun oc h1 hp => ?_)
    rcases u_P_01 hp with rfl | rfl
    · refine ⟨_, rfl, ?_⟩
      exact ⟨by decide, u_P_fr hF hp⟩
    · refine ⟨_, rfl, ?_⟩
      exact ⟨by decide, u_P_fr hF hp⟩
  have q : ¬ kd = 0 := fun z => q (by rw [z]; rfl)
  rw [if_neg q]
  refine g_br_i (fun q => ?_) (fun q => ?_)
  · have q : kd = 1 := (nI_eq (b := 1) (by omega) (by omega)).mp q
    rw [if_pos q]
    refine g_br_i (fun q2 => ?_) (fun q2 => ?_)
    · have q2 : ¬ f = 0 := fun z => q2 (by rw [z]; rfl)
      rw [if_neg q2]
      exact ⟨by decide, hF, rfl, _, _, _, hU⟩
    · have q2 : f = 0 := (nI_eq (b := 0) (by omega) (by omega)).mp (Classical.not_not.mp q2)
      rw [if_pos q2]
      refine g_cv_i hU.1 (c_U_takeJump hx hk hU) (fun oc h1 hp => ?_)
      rcases u_P_01 hp with rfl | rfl
      · refine ⟨_, rfl, ?_⟩
        refine g_br_f (by decide) ?_
        exact ⟨by decide, u_P_fr hF hp⟩
      · refine ⟨_, rfl, ?_⟩
        refine g_br_t (by decide) ?_
        exact ⟨by decide, u_P_fr hF hp⟩
  have q : ¬ kd = 1 := fun z => q (by rw [z]; rfl)
  rw [if_neg q]
  refine g_br_i (fun q => ?_) (fun q => ?_)
  · have q : kd = 2 := (nI_eq (b := 2) (by omega) (by omega)).mp q
    rw [if_pos q]
    refine g_br_i (fun q2 => ?_) (fun q2 => ?_)
    · have q2 : 1 < f := (nI_ltI (a := 1) (by omega) (by omega)).mp q2
      rw [if_neg (by omega)]
      exact ⟨by decide, hF, rfl, _, _, _, hU⟩
    · have q2 : f ≤ 1 := Nat.le_of_not_lt fun z => q2 (nI_lt (a := 1) z (by omega))
      rw [if_pos q2]
      refine g_cv_i hU.1 (c_U_takeLoad hf hx hk hU) (fun oc h1 hp => ?_)
      rcases u_P_01 hp with rfl | rfl
      · refine ⟨_, rfl, ?_⟩
        refine g_br_f (by decide) ?_
        exact ⟨by decide, u_P_fr hF hp⟩
      · refine ⟨_, rfl, ?_⟩
        refine g_br_t (by decide) ?_
        exact ⟨by decide, u_P_fr hF hp⟩
  have q : ¬ kd = 2 := fun z => q (by rw [z]; rfl)
  rw [if_neg q]
  refine g_br_i (fun q => ?_) (fun q => ?_)
  · have q : kd = 3 := (nI_eq (b := 3) (by omega) (by omega)).mp q
    rw [if_pos q]
    refine g_cv_i hU.1 (c_U_takeStore hby hf hx hk hU) (fun oc h1 hp => ?_)
    rcases u_P_01 hp with rfl | rfl
    · refine ⟨_, rfl, ?_⟩
      exact ⟨by decide, u_P_fr hF hp⟩
    · refine ⟨_, rfl, ?_⟩
      exact ⟨by decide, u_P_fr hF hp⟩
  have q : ¬ kd = 3 := fun z => q (by rw [z]; rfl)
  rw [if_neg q]
  refine g_br_i (fun q => ?_) (fun q => ?_)
  · have q : kd = 4 := (nI_eq (b := 4) (by omega) (by omega)).mp q
    rw [if_pos q]
    refine g_br_i (fun q2 => ?_) (fun q2 => ?_)
    · have q2 : ¬ f = 0 := fun z => q2 (by rw [z]; rfl)
      rw [if_neg q2]
      exact ⟨by decide, hF, rfl, _, _, _, hU⟩
    · have q2 : f = 0 := (nI_eq (b := 0) (by omega) (by omega)).mp (Classical.not_not.mp q2)
      rw [if_pos q2]
      refine g_cv_i hU.1 (c_U_takeTime hx hk hm hU) (fun oc h1 hp => ?_)
      rcases u_P_01 hp with rfl | rfl
      · refine ⟨_, rfl, ?_⟩
        refine g_br_f (by decide) ?_
        exact ⟨by decide, u_P_fr hF hp⟩
      · refine ⟨_, rfl, ?_⟩
        refine g_br_t (by decide) ?_
        exact ⟨by decide, u_P_fr hF hp⟩
  have q : ¬ kd = 4 := fun z => q (by rw [z]; rfl)
  rw [if_neg q]
  exact ⟨by decide, hF, rfl, _, _, _, hU⟩
theorem c_U_takeRow {l : Launch} {h : g_H} {a k : Nat} {ins : List Int32} {m : o_Mm} {rs : List o_Rw} {o t : Int32} (hby : o_by ins) (hm : o_tm m) (hk : k < ins.length) (hU : o_U h a ins m rs o t (nI k)) : g_Run l J_U_takeRow [.ref a] h (u_P a ins o t h (d_cap rs (d_row m (ins.drop k)))) := by
  have hl := g_I_len hU.2.1
  obtain ⟨b, hb, hdr⟩ := l_drop (xs := ins) (i := k) hk
  obtain ⟨β, hβ, rfl⟩ := o_by_at hby hb
  have e1 : nI β >>> ((5 : Int32) &&& 31) = nI (β / 32) := pk_shrN (by omega) _ 5 (by decide)
  have e2 : nI β &&& 31 = nI (β % 32) := pk_andN (by omega) 5 (by decide)
  rw [hdr]
  simp only [d_row]
  rw [nI_tn hβ]
  refine go_U_takeRow [47] 60 ?_
  refine g_gt_i hU.1 rfl ?_
  refine g_gt_i hU.1 rfl ?_
  refine g_cv_i (g_I_ty hU.2.1) (c_I_at hU.2.1) (fun oc h1 hp => ?_)
  obtain ⟨rfl, rfl⟩ := hp
  rw [v_at_some (by omega) hb]
  refine ⟨_, rfl, ?_⟩
  refine g_gt_i hU.1 rfl ?_
  refine g_pt_i hU.1 (Nat.le_of_ble_eq_true rfl) rfl rfl ?_
  obtain ⟨u2, f2⟩ := o_U_up (nI k + 1) hU
  have u2 := o_U_nx u2
  refine g_cs_i (g_Run_mono (show g_Run l J_U_isNumberBehind [.int (nI β >>> ((5 : Int32) &&& 31)), .int (nI β &&& 31)] _ _ by rw [e1, e2]; exact c_U_isNumberBehind (k := β / 32) (f := β % 32) (by omega) (by omega)) (fun oc hE hp => hp)) (fun oc h2 hp => ?_)
  obtain ⟨rfl, rfl⟩ := hp
  refine ⟨_, rfl, ?_⟩
  by_cases q : d_isn (β / 32) (β % 32) = true
  · rw [if_pos q, show d_nx (β / 32) (β % 32) (ins.drop (k + 1)) = d_num 5 0 0 (ins.drop (k + 1)) from if_pos q]
    refine g_br_f (by decide) ?_
    refine g_cv_i u2.1 (c_U_takeNumber hby (by omega) u2) (fun oc h3 hp => ?_)
    obtain ⟨f3, hp⟩ := hp
    cases hd : d_num 5 0 0 (ins.drop (k + 1)) with
    | none =>
      rw [hd] at hp
      obtain ⟨rfl, pl, u3⟩ := hp
      refine ⟨_, rfl, ?_⟩
      refine g_go ok_U_takeRow [] 60 ?_
      refine g_br_f (show ¬ ¬ lg_cmp (-1) (-1) = 0 from fun z => z ((lg_cmp_eq _ _).mpr rfl)) ?_
      exact ⟨by decide, g_Fr_tr f2 f3, rfl, _, _, _, u3⟩
    | some w =>
      obtain ⟨x, r⟩ := w
      rw [hd] at hp
      obtain ⟨k', hk', rfl, rfl, u3⟩ := hp
      refine ⟨_, rfl, ?_⟩
      have hx := d_num_lt 5 0 0 _ x _ rfl (by decide) hd
      have := x_U_row (l := l) (b := nI β) (kd := β / 32) (f := β % 32) hby (by omega) (by omega) (show x < 2 ^ 40 by omega) hm hk' u3 (g_Fr_tr f2 f3)
      rw [← e1, ← e2] at this
      exact this
  · rw [if_neg q, show d_nx (β / 32) (β % 32) (ins.drop (k + 1)) = some (0, ins.drop (k + 1)) from if_neg q]
    refine g_br_t (by decide) ?_
    have := x_U_row (l := l) (b := nI β) (kd := β / 32) (f := β % 32) (x := 0) hby (by omega) (by omega) (by omega) hm (show k + 1 ≤ ins.length by omega) u2 f2
    simp only
    rw [← e1, ← e2] at this
    exact this
