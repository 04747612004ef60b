/-! Unpacker: the rows by kinds -/
theorem lQ_div {a b : Nat} (ha : a < 2 ^ 62) (h0 : 0 < b) (hb : b < 2 ^ 62) : lN a / lN b = lN (a / b) := by
  apply Int64.toInt_inj.mp
  have hq : a / b ≤ a := Nat.div_le_self a b
  rw [Int64.toInt_div, lQ_toInt (by omega), lQ_toInt (by omega), lQ_toInt (by omega)]
  rw [Int.tdiv_eq_ediv_of_nonneg (by omega), ← Int.natCast_ediv]
  generalize a / b = q at hq ⊢
  exact Int.bmod_eq_of_le (by omega) (by omega)
theorem lQ_divm {a : Nat} (ha : a < 2 ^ 62) : lN a / (-2) = -(lN (a / 2)) := by
  apply Int64.toInt_inj.mp
  have hq : a / 2 ≤ a := Nat.div_le_self a 2
  rw [Int64.toInt_div, show (-2 : Int64).toInt = -2 by decide, Int64.toInt_neg, lQ_toInt (by omega), lQ_toInt (by omega)]
  rw [Int.tdiv_neg, Int.tdiv_eq_ediv_of_nonneg (by omega)]
  congr 1
def d_dif (x : Nat) : Int32 := if x % 2 = 0 then nI (x / 2) else -(nI ((x + 1) / 2))
theorem c_T_differenceOf {l : Launch} {h : g_H} {x : Nat} (hx : x < 2 ^ 40) : g_Run l J_T_differenceOf [.long (lN x)] h (fun oc hE => oc = .inl (some (.int (d_dif x))) ∧ hE = h) := by
  have e1 : lN x - lN x / 2 * 2 = lN (x % 2) := by
    rw [show (2 : Int64) = lN 2 from rfl, lQ_div (by omega) (by omega) (by omega), lN_mul, lN_sub (Nat.div_mul_le_self x 2)]
    exact congrArg lN (by have := Nat.div_add_mod' x 2; omega)
  unfold d_dif
  refine go_T_differenceOf [] 40 ?_
  refine And.intro (by decide) ?_
  refine g_br_i (fun q => ?_) (fun q => ?_)
  · have q : ¬ x % 2 = 0 := fun z => q ((lg_cmp_eq _ _).mpr (show lN x - lN x / 2 * 2 = 0 by rw [e1, z]; rfl))
    rw [if_neg q]
    refine And.intro (by decide) ?_
    refine ⟨?_, rfl⟩
    show Sum.inl (some (Value.int ((lN x + 1) / (-2)).toInt32)) = Sum.inl (some (Value.int (-(nI ((x + 1) / 2)))))
    rw [show lN x + 1 = lN (x + 1) from lN_1 x, lQ_divm (by omega), Int64.toInt32_neg, lN_i]
  · have q : x % 2 = 0 := by
      have z : lN x - lN x / 2 * 2 = 0 := (lg_cmp_eq _ _).mp (Classical.not_not.mp q)
      rw [e1] at z
      exact (lN_eq (by omega) (by omega)).mp z
    rw [if_pos q]
    refine And.intro (by decide) ?_
    refine ⟨?_, rfl⟩
    show Sum.inl (some (Value.int (lN x / 2).toInt32)) = Sum.inl (some (Value.int (nI (x / 2))))
    rw [show lN x / 2 = lN (x / 2) from lQ_div (b := 2) (by omega) (by omega) (by omega), lN_i]
theorem d_num_lt : ∀ (f i acc : Nat) (bs : List Int32) (x : Nat) (r : List Int32), f + i = 5 → acc < 2 ^ (7 * i) → d_num f i acc bs = some (x, r) → x < 2 ^ 35
  | 0, _, _, _, _, _, _, _, h => by simp [d_num] at h
  | _ + 1, _, _, [], _, _, _, _, h => by simp [d_num] at h
  | f + 1, i, acc, b :: t, x, r, hf, ha, h => by
    unfold d_num at h
    have e : acc + b.toNatClampNeg % 128 * 2 ^ (7 * i) < 2 ^ (7 * (i + 1)) := by
      have e1 : 2 ^ (7 * (i + 1)) = 128 * 2 ^ (7 * i) := by rw [show 7 * (i + 1) = 7 + 7 * i by omega, Nat.pow_add]
      have e2 : b.toNatClampNeg % 128 ≤ 127 := by omega
      have e3 := Nat.mul_le_mul_right (2 ^ (7 * i)) e2
      omega
    split at h
    · split at h
      · simp only [Option.some.injEq, Prod.mk.injEq] at h
        have e4 : 2 ^ (7 * (i + 1)) ≤ 2 ^ 35 := Nat.pow_le_pow_right (by omega) (by omega)
        omega
      · cases h
    · exact d_num_lt f (i + 1) _ t x r (by omega) e h
def d_cap (rs : List o_Rw) (res : Option (o_Mm × List o_Rw × List Int32)) : Option (o_Mm × List o_Rw × List Int32) := match res with
  | some (m, add, r) => if rs.length + add.length ≤ 100 then some (m, rs ++ add, r) else none
  | none => none
theorem d_cap_le {rs add : List o_Rw} {m : o_Mm} {r : List Int32} (h : rs.length + add.length ≤ 100) : d_cap rs (some (m, add, r)) = some (m, rs ++ add, r) := if_pos h
theorem d_cap_gt {rs add : List o_Rw} {m : o_Mm} {r : List Int32} (h : ¬ rs.length + add.length ≤ 100) : d_cap rs (some (m, add, r)) = none := if_neg h
theorem d_cap_cons {rs add : List o_Rw} {x : o_Rw} {m : o_Mm} {r : List Int32} : d_cap rs (some (m, x :: add, r)) = d_cap (rs ++ [x]) (some (m, add, r)) := by
  by_cases q : rs.length + (x :: add).length ≤ 100
  · rw [d_cap_le q, d_cap_le (by simp at q ⊢; omega)]
    simp
  · rw [d_cap_gt q, d_cap_gt (by simp at q ⊢; omega)]
abbrev u_P (a : Nat) (ins : List Int32) (o t : Int32) (hh : g_H) (res : Option (o_Mm × List o_Rw × List Int32)) : g_P := fun oc hE => g_Fr a (a + 16) hh hE ∧ match res with
  | some (m', rs', r) => oc = .inl (some (.int 1)) ∧ ∃ k', k' ≤ ins.length ∧ r = ins.drop k' ∧ o_U hE a ins m' rs' o t (nI k')
  | none => oc = .inl (some (.int 0)) ∧ ∃ m' rs' pl', o_U hE a ins m' rs' o t pl'
theorem u_P_fr {a : Nat} {ins : List Int32} {o t : Int32} {h0 hh : g_H} {res : Option (o_Mm × List o_Rw × List Int32)} {oc : g_R} {hE : g_H} (hf : g_Fr a (a + 16) h0 hh) (hp : u_P a ins o t hh res oc hE) : u_P a ins o t h0 res oc hE := ⟨g_Fr_tr hf hp.1, hp.2⟩
theorem u_add {l : Launch} {h : g_H} {a : Nat} {ins : List Int32} {m : o_Mm} {rs : List o_Rw} {o t pl : Int32} (r : o_Rw) (hU : o_U h a ins m rs o t pl) : g_Run l J_B_add [.ref (a + 9), .int r.1, .int r.2.1, .int r.2.2] h (fun oc hE => oc = .inl (some (.int (if rs.length < 100 then 1 else 0))) ∧ o_U hE a ins m (if rs.length < 100 then rs ++ [r] else rs) o t pl ∧ g_Fr a (a + 16) h hE) :=
  g_Run_mono (c_B_add hU.2.2.2) (fun oc hE hp => ⟨hp.1, ⟨(hp.2.2.2 a (by omega)).trans hU.1, g_I_Fr hU.2.1 hp.2.2 (by omega), o_M_Fr hU.2.2.1 hp.2.2 (by omega), hp.2.1⟩, g_Fr_wd hp.2.2 (by omega) (by omega)⟩)
/-- a row is put behind the others, and that is the answer -/
theorem u_end {a k : Nat} {ins : List Int32} {m : o_Mm} {rs : List o_Rw} {o t : Int32} {r : o_Rw} {hh hE : g_H} (hk : k ≤ ins.length) (hF : g_Fr a (a + 16) hh hE) (hU : o_U hE a ins m (if rs.length < 100 then rs ++ [r] else rs) o t (nI k)) : narrow .boolean (.int (if rs.length < 100 then 1 else 0)) = .int (if rs.length < 100 then 1 else 0) ∧ u_P a ins o t hh (d_cap rs (some (m, [r], ins.drop k))) (.inl (some (.int (if rs.length < 100 then 1 else 0)))) hE := by
  by_cases q : rs.length < 100
  · rw [if_pos q] at hU ⊢
    refine ⟨by decide, hF, ?_⟩
    rw [d_cap_le (by simp only [List.length_cons, List.length_nil]; omega)]
    exact ⟨rfl, k, hk, rfl, hU⟩
  · rw [if_neg q] at hU ⊢
    refine ⟨by decide, hF, ?_⟩
    rw [d_cap_gt (by simp only [List.length_cons, List.length_nil]; omega)]
    exact ⟨rfl, _, _, _, hU⟩
def d_bt : Nat → Nat → List o_Rw
  | 0, _ => []
  | n + 1, f => (if 2 ^ (n + 1) ≤ f then [(0, nI (f / 2 ^ n % 2), 0)] else []) ++ d_bt n f
theorem d_b1 : ∀ f, f < 32 → ∀ n, n < 4 → (if nI f &&& nI (2 ^ (n + 1) / 2) = 0 then (0 : Int32) else 1) = nI (f / 2 ^ n % 2) := by decide
theorem d_b2 : ∀ n, n < 4 → nI (2 ^ (n + 1) / 2) >>> ((1 : Int32) &&& 31) = nI (2 ^ n / 2) := by decide
theorem d_b3 : ∀ n, n < 4 → (2 : Int32) * nI (2 ^ (n + 1) / 2) = nI (2 ^ (n + 1)) := by decide
theorem d_b4 : ∀ n, n < 4 → ¬ nI (2 ^ (n + 1) / 2) ≤ 0 := by decide
theorem x_U_br {l : Launch} {a k f : Nat} {ins : List Int32} {m : o_Mm} {o t : Int32} {hh : g_H} (hf : f < 32) (hk : k ≤ ins.length) : ∀ (n : Nat) (rs : List o_Rw) (c4 : Option Value) (h : g_H), n ≤ 4 → o_U h a ins m rs o t (nI k) → g_Fr a (a + 16) hh h →
    g_X l J_U_takeBranches 14 [some (.ref a), some (.int (nI f)), some (.int 1), some (.int (nI (2 ^ n / 2))), c4] [] h (u_P a ins o t hh (d_cap rs (some (m, d_bt n f, ins.drop k)))) := by
  intro n
  induction n with
  | zero =>
    intro rs c4 h hn hU hF
    have hl := o_B_len hU.2.2.2
    refine g_go ok_U_takeBranches [14] 60 ?_
    refine g_br_t (by decide) ?_
    refine ⟨by decide, hF, ?_⟩
    rw [d_cap_le (by simp only [d_bt, List.length_nil]; omega), show d_bt 0 f = [] from rfl, List.append_nil]
    exact ⟨rfl, k, hk, rfl, hU⟩
  | succ n ih =>
    intro rs c4 h hn hU hF
    have hl := o_B_len hU.2.2.2
    have h2 : 2 ^ (n + 1) ≤ 2 ^ 4 := Nat.pow_le_pow_right (by omega) (by omega)
    -- with the answer of the row at hand
    have tB : ∀ (l4 : Option Value) (v : Int32) (h1 : g_H), v = nI (f / 2 ^ n % 2) → 2 ^ (n + 1) ≤ f → o_U h1 a ins m rs o t (nI k) → g_Fr a (a + 16) hh h1 → g_X l J_U_takeBranches 57 [some (.ref a), some (.int (nI f)), some (.int 1), some (.int (nI (2 ^ (n + 1) / 2))), l4] [.int v, .int 0, .ref (a + 9)] h1 (u_P a ins o t hh (d_cap rs (some (m, d_bt (n + 1) f, ins.drop k)))) := by
      intro l4 v h1 hv q u1 F1
      subst hv
      have e0 : d_bt (n + 1) f = (0, nI (f / 2 ^ n % 2), 0) :: d_bt n f := by
        simp only [d_bt]
        rw [if_pos q]
        rfl
      refine g_go ok_U_takeBranches [14] 60 ?_
      refine g_cv_i (o_B_ty u1.2.2.2) (u_add (0, nI (f / 2 ^ n % 2), 0) u1) (fun oc h2 hp => ?_)
      obtain ⟨rfl, u2, f2⟩ := hp
      refine ⟨_, rfl, ?_⟩
      have F2 := g_Fr_tr F1 f2
      by_cases q2 : rs.length < 100
      · rw [if_pos q2] at u2 ⊢
        refine g_br_f (by decide) ?_
        have := ih (rs ++ [(0, nI (f / 2 ^ n % 2), 0)]) l4 h2 (by omega) u2 F2
        rw [← d_b2 n (by omega)] at this
        rw [e0, d_cap_cons]
        exact this
      · rw [if_neg q2] at u2 ⊢
        refine g_br_t (by decide) ?_
        refine g_go ok_U_takeBranches [] 60 ?_
        rw [e0, d_cap_gt (by simp only [List.length_cons]; omega)]
        refine g_br_i (fun z => ?_) (fun z => ?_)
        · exact ⟨by decide, F2, rfl, _, _, _, u2⟩
        · refine g_br_t (by decide) ?_
          exact ⟨by decide, F2, rfl, _, _, _, u2⟩
    refine g_go ok_U_takeBranches [14, 57] 60 ?_
    refine g_br_f (d_b4 n (by omega)) ?_
    refine g_br_f (by decide) ?_
    by_cases q : 2 ^ (n + 1) ≤ f
    · refine g_br_f (show ¬ nI f < 2 * nI (2 ^ (n + 1) / 2) by rw [d_b3 n (by omega)]; exact nI_nlt q (by omega)) ?_
      refine g_br_f (by decide) ?_
      refine g_gt_i hU.1 rfl ?_
      have e := d_b1 f hf n (by omega)
      refine g_br_i (fun z => ?_) (fun z => ?_)
      · have z : nI f &&& nI (2 ^ (n + 1) / 2) = 0 := z
        rw [if_pos z] at e
        exact tB _ _ h e q hU hF
      · have z : ¬ nI f &&& nI (2 ^ (n + 1) / 2) = 0 := z
        rw [if_neg z] at e
        exact tB _ _ h e q hU hF
    · refine g_br_t (show nI f < 2 * nI (2 ^ (n + 1) / 2) by rw [d_b3 n (by omega)]; exact nI_lt (by omega) (by omega)) ?_
      refine g_br_t (by decide) ?_
      have := ih rs (some (.int 0)) h (by omega) hU hF
      rw [← d_b2 n (by omega)] at this
      have e : d_bt (n + 1) f = d_bt n f := by
        simp only [d_bt]
        rw [if_neg q]
        rfl
      rw [e]
      exact this
theorem c_U_takeBranches {l : Launch} {h : g_H} {a k f : Nat} {ins : List Int32} {m : o_Mm} {rs : List o_Rw} {o t : Int32} (hf : f < 32) (hk : k ≤ ins.length) (hU : o_U h a ins m rs o t (nI k)) : g_Run l J_U_takeBranches [.ref a, .int (nI f)] h (u_P a ins o t h (d_cap rs (if 1 < f then some (m, d_bt 4 f, ins.drop k) else none))) := by
  refine go_U_takeBranches [14] 40 ?_
  refine g_br_i (fun q => ?_) (fun q => ?_)
  · have q : f ≤ 1 := (nI_leI (b := 1) (by omega) (by omega)).mp q
    rw [if_neg (by omega)]
    refine g_go ok_U_takeBranches [] 60 ?_
    refine g_br_f (by decide) ?_
    refine g_br_t (by decide) ?_
    exact ⟨by decide, g_Fr_rf _ _ _, rfl, _, _, _, hU⟩
  · have q : 1 < f := Nat.lt_of_not_le fun z => q (nI_le (b := 1) z (by omega))
    rw [if_pos q]
    exact x_U_br hf hk 4 rs none h (by omega) hU (g_Fr_rf _ _ _)
