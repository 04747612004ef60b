/-! what the two read is one thing: shields, sums, rows -/
theorem r_us_ln : ∀ (n : Nat) (seg ins r : List Int32), seg.length ≤ n → r_us ins seg = some r → ins.length ≤ r.length := by
  intro n
  induction n with
  | zero =>
    intro seg ins r hn h
    have : seg = [] := List.eq_nil_of_length_eq_zero (by omega)
    subst this
    rw [r_us_nil] at h
    cases h
    exact Nat.le_refl _
  | succ n ih =>
    intro seg ins r hn h
    cases seg with
    | nil =>
      rw [r_us_nil] at h
      cases h
      exact Nat.le_refl _
    | cons b t =>
      rw [List.length_cons] at hn
      by_cases hb : b = 125
      · subst hb
        cases t with
        | nil =>
          rw [r_us_1] at h
          cases h
        | cons c t' =>
          rw [List.length_cons] at hn
          rw [r_us_2] at h
          split at h
          · have := ih t' _ r (by omega) h
            simp at this
            omega
          · split at h
            · have := ih t' _ r (by omega) h
              simp at this
              omega
            · cases h
      · rw [r_us_3 hb] at h
        have := ih t _ r (by omega) h
        simp at this
        omega
def d_cp (o : Option (List Int32)) : Option (List Int32) := match o with
  | some r => if r.length ≤ 1008 then some r else none
  | none => none
theorem d_cp_no {seg ins : List Int32} (h : 1008 < ins.length) : d_cp (r_us ins seg) = none := by
  cases hr : r_us ins seg with
  | none => rfl
  | some r =>
    have := r_us_ln _ seg ins r (Nat.le_refl _) hr
    unfold d_cp
    simp only
    rw [if_neg (by omega)]
theorem d_us_r : ∀ (n : Nat) (seg ins : List Int32), seg.length ≤ n → ins.length ≤ 1008 → d_us false ins seg = d_cp (r_us ins seg) := by
  intro n
  induction n with
  | zero =>
    intro seg ins hn hi
    have : seg = [] := List.eq_nil_of_length_eq_zero (by omega)
    subst this
    rw [r_us_nil]
    unfold d_cp
    simp only [d_us]
    rw [if_pos hi]
  | succ n ih =>
    intro seg ins hn hi
    have stp : ∀ (v : Int32) (t : List Int32), t.length ≤ n → (if ins.length < 1008 then d_us false (ins ++ [v]) t else none) = d_cp (r_us (ins ++ [v]) t) := fun v t ht => by
      by_cases q : ins.length < 1008
      · rw [if_pos q]
        exact ih t _ ht (by simp; omega)
      · rw [if_neg q, d_cp_no (by simp; omega)]
    cases seg with
    | nil =>
      rw [r_us_nil]
      unfold d_cp
      simp only [d_us]
      rw [if_pos hi]
    | cons b t =>
      rw [List.length_cons] at hn
      by_cases hb : b = 125
      · subst hb
        cases t with
        | nil =>
          rw [r_us_1]
          rfl
        | cons c t' =>
          rw [List.length_cons] at hn
          rw [r_us_2]
          simp only [d_us, if_true]
          by_cases q1 : c = 94
          · rw [if_pos q1, if_pos q1]
            exact stp 126 t' (by omega)
          · rw [if_neg q1, if_neg q1]
            by_cases q2 : c = 93
            · rw [if_pos q2, if_pos q2]
              exact stp 125 t' (by omega)
            · rw [if_neg q2, if_neg q2]
              rfl
      · rw [r_us_3 hb]
        simp only [d_us]
        rw [if_neg hb]
        exact stp b t (by omega)
theorem n_two {x y : Nat} (hx : x < 256) (hy : y < 256) : (nI x <<< ((8 : Int32) &&& 31)) + nI y = nI (x * 256 + y) := by
  have e : nI x <<< ((8 : Int32) &&& 31) = nI (x * 256) := by
    have := n_sh8 (w := x) (β := 0) (by omega)
    rw [Nat.add_zero, show nI 0 = 0 from rfl] at this
    rw [← this]
    simp
  rw [e, nI_add]
theorem d_sum_r {ins : List Int32} (hb : o_by ins) : d_sum ins = if 9 ≤ ins.length ∧ ins.getD (ins.length - 2) 0 = (e_pq 0 0 (ins.take (ins.length - 2))).1 ∧ ins.getD (ins.length - 1) 0 = (e_pq 0 0 (ins.take (ins.length - 2))).2 then some (ins.take (ins.length - 2)) else none := by
  unfold d_sum
  by_cases h9 : 9 ≤ ins.length
  · obtain ⟨p, q, hp, hq, e⟩ := e_pq_N (ins.take (ins.length - 2)) 0 0 (fun x hx => hb x (List.mem_of_mem_take hx)) (by omega) (by omega)
    have e' : e_pq 0 0 (ins.take (ins.length - 2)) = (nI p, nI q) := e
    obtain ⟨x, hx, -⟩ := l_drop (xs := ins) (i := ins.length - 2) (by omega)
    obtain ⟨y, hy, -⟩ := l_drop (xs := ins) (i := ins.length - 1) (by omega)
    obtain ⟨α, hα, rfl⟩ := o_by_at hb hx
    obtain ⟨β, hβ, rfl⟩ := o_by_at hb hy
    unfold d_told e_sum
    rw [l_getD hx, l_getD hy, e', n_two hα hβ, n_two (by omega) (by omega)]
    simp only
    by_cases c : α = p ∧ β = q
    · rw [if_pos ⟨h9, by rw [c.1, c.2]⟩, if_pos ⟨h9, by rw [c.1], by rw [c.2]⟩]
    · rw [if_neg, if_neg]
      · intro z
        exact c ⟨(nI_eq (by omega) (by omega)).mp z.2.1, (nI_eq (by omega) (by omega)).mp z.2.2⟩
      · intro z
        have := (nI_eq (by omega) (by omega)).mp z.2
        exact c (by omega)
  · rw [if_neg (fun z => h9 z.1), if_neg (fun z => h9 z.1)]
/-- the time of each row -/
def w_tms : Int32 → List o_Rw → List (o_Rw × Int32)
  | _, [] => []
  | t, r :: rs => (r, if r.1 = 4 then r.2.1 else t) :: w_tms (if r.1 = 4 then r.2.1 else t) rs
theorem w_tms_ln : ∀ (rs : List o_Rw) (t : Int32), (w_tms t rs).length = rs.length
  | [], _ => rfl
  | r :: rs, t => by
    unfold w_tms
    rw [List.length_cons, List.length_cons, w_tms_ln rs]
theorem w_tms_n4 : ∀ (add rn : List o_Rw) (t : Int32), (∀ w ∈ add, ¬ w.1 = 4) → w_tms t (add ++ rn) = add.map (fun w => (w, t)) ++ w_tms t rn
  | [], _, _, _ => rfl
  | r :: add, rn, t, h => by
    have h1 := h r List.mem_cons_self
    have e : w_tms t (r :: add ++ rn) = (r, if r.1 = 4 then r.2.1 else t) :: w_tms (if r.1 = 4 then r.2.1 else t) (add ++ rn) := rfl
    rw [e, if_neg h1, w_tms_n4 add rn t (fun w hw => h w (List.mem_cons_of_mem _ hw))]
    rfl
theorem d_bt_0 : ∀ (n f : Nat), ∀ w ∈ d_bt n f, w.1 = 0
  | 0, _, w, h => by simp [d_bt] at h
  | n + 1, f, w, h => by
    simp only [d_bt, List.mem_append] at h
    rcases h with h | h
    · split at h
      · rw [List.mem_singleton.mp h]
      · simp at h
    · exact d_bt_0 n f w h
theorem d_kind_tms {m m' : o_Mm} {k f x : Nat} {r r' : List Int32} {add : List o_Rw} (h : d_kind m k f x r = some (m', add, r')) : (∀ w ∈ add, ∃ j : Nat, j < 5 ∧ w.1 = nI j) ∧ ∀ rn, w_tms m.2.2.2.2 (add ++ rn) = add.map (fun w => (w, m'.2.2.2.2)) ++ w_tms m'.2.2.2.2 rn := by
  unfold d_kind at h
  split at h
  · split at h
    · simp only [Option.some.injEq, Prod.mk.injEq] at h
      obtain ⟨rfl, rfl, rfl⟩ := h
      exact ⟨fun w hw => ⟨0, by omega, d_bt_0 _ _ w hw⟩, fun rn => w_tms_n4 _ rn _ (fun w hw => by rw [d_bt_0 _ _ w hw]; decide)⟩
    · cases h
  split at h
  · split at h
    · simp only [d_jump, Option.some.injEq, Prod.mk.injEq] at h
      obtain ⟨rfl, rfl, rfl⟩ := h
      exact ⟨fun w hw => ⟨1, by omega, by rw [List.mem_singleton.mp hw]; rfl⟩, fun rn => w_tms_n4 _ rn _ (fun w hw => by rw [List.mem_singleton.mp hw]; show ¬ (1 : Int32) = 4; decide)⟩
    · cases h
  split at h
  · split at h
    · simp only [d_load, Option.some.injEq, Prod.mk.injEq] at h
      obtain ⟨rfl, rfl, rfl⟩ := h
      exact ⟨fun w hw => ⟨2, by omega, by rw [List.mem_singleton.mp hw]; rfl⟩, fun rn => w_tms_n4 _ rn _ (fun w hw => by rw [List.mem_singleton.mp hw]; show ¬ (2 : Int32) = 4; decide)⟩
    · cases h
  split at h
  · unfold d_store at h
    split at h
    · cases h
    · simp only [Option.some.injEq, Prod.mk.injEq] at h
      obtain ⟨rfl, rfl, rfl⟩ := h
      exact ⟨fun w hw => ⟨3, by omega, by rw [List.mem_singleton.mp hw]; rfl⟩, fun rn => w_tms_n4 _ rn _ (fun w hw => by rw [List.mem_singleton.mp hw]; show ¬ (3 : Int32) = 4; decide)⟩
  split at h
  · split at h
    · unfold d_time at h
      split at h
      · simp only [Option.some.injEq, Prod.mk.injEq] at h
        obtain ⟨rfl, rfl, rfl⟩ := h
        refine ⟨fun w hw => ⟨4, by omega, by rw [List.mem_singleton.mp hw]; rfl⟩, fun rn => ?_⟩
        rw [List.cons_append, List.nil_append]
        rfl
      · cases h
    · cases h
  · cases h
theorem d_row_tms {m m' : o_Mm} {bs r : List Int32} {add : List o_Rw} (h : d_row m bs = some (m', add, r)) : (∀ w ∈ add, ∃ j : Nat, j < 5 ∧ w.1 = nI j) ∧ ∀ rn, w_tms m.2.2.2.2 (add ++ rn) = add.map (fun w => (w, m'.2.2.2.2)) ++ w_tms m'.2.2.2.2 rn := by
  cases bs with
  | nil => simp [d_row] at h
  | cons b t =>
    simp only [d_row] at h
    split at h
    · cases h
    · exact d_kind_tms h
/-- all rows at once and rows by count -/
theorem d_all_rows : ∀ (f : Nat) (m : o_Mm) (gs : List (o_Rw × Int32)) (bs : List Int32) (gs' : List (o_Rw × Int32)), d_all f m gs bs = some gs' → gs'.length ≤ 100 → ∃ rn : List o_Rw, gs' = gs ++ w_tms m.2.2.2.2 rn ∧ bs.length ≤ 10 * rn.length ∧ (∀ w ∈ rn, ∃ j : Nat, j < 5 ∧ w.1 = nI j) ∧ ∀ (n : Nat) (rs : List o_Rw), rs.length = gs.length → rn.length ≤ n → d_rows n m rs bs = some (rs ++ rn, []) := by
  intro f
  induction f with
  | zero =>
    intro m gs bs gs' h hl
    cases bs with
    | nil =>
      simp only [d_all, Option.some.injEq] at h
      refine ⟨[], by rw [← h]; simp [w_tms], by simp, fun w hw => absurd hw (by simp), fun n rs _ _ => ?_⟩
      rw [List.append_nil]
      cases n <;> simp only [d_rows]
    | cons b t => simp [d_all] at h
  | succ f ih =>
    intro m gs bs gs' h hl
    cases bs with
    | nil =>
      simp only [d_all, Option.some.injEq] at h
      refine ⟨[], by rw [← h]; simp [w_tms], by simp, fun w hw => absurd hw (by simp), fun n rs _ _ => ?_⟩
      rw [List.append_nil]
      cases n <;> simp only [d_rows]
    | cons b t =>
      simp only [d_all] at h
      cases hr : d_row m (b :: t) with
      | none =>
        rw [hr] at h
        cases h
      | some w =>
        obtain ⟨m', add, r⟩ := w
        rw [hr] at h
        simp only at h
        split at h
        · rename_i q
          obtain ⟨rn, e1, e2, e3, e4⟩ := ih m' _ r gs' h hl
          obtain ⟨l1, l2, l3⟩ := d_row_ln hr
          obtain ⟨k1, k2⟩ := d_row_tms hr
          refine ⟨add ++ rn, ?_, ?_, ?_, ?_⟩
          · rw [e1, k2, List.append_assoc]
          · rw [List.length_append]
            omega
          · intro w hw
            rcases List.mem_append.mp hw with z | z
            · exact k1 w z
            · exact e3 w z
          · intro n rs hrs hn
            rw [List.length_append] at hn
            cases n with
            | zero => omega
            | succ n =>
              simp only [d_rows]
              rw [hr]
              have hl2 : rs.length + add.length ≤ 100 := by
                rw [e1, List.length_append, List.length_append, List.length_map] at hl
                omega
              rw [d_cap_le hl2]
              simp only
              rw [e4 n (rs ++ add) (by rw [List.length_append, List.length_append, List.length_map, hrs]) (by omega), List.append_assoc]
        · cases h
theorem d_rows_all : ∀ (n : Nat) (m : o_Mm) (rs : List o_Rw) (bs : List Int32) (rs' : List o_Rw), d_rows n m rs bs = some (rs', []) → ∀ (f : Nat) (gs : List (o_Rw × Int32)), bs.length ≤ f → rs.length = gs.length → rs'.length ≤ 100 → ∃ gs', d_all f m gs bs = some gs' ∧ gs'.length = rs'.length := by
  intro n
  induction n with
  | zero =>
    intro m rs bs rs' h f gs hf hl hr
    simp only [d_rows, Option.some.injEq, Prod.mk.injEq] at h
    obtain ⟨rfl, rfl⟩ := h
    exact ⟨gs, by cases f <;> simp only [d_all], hl.symm⟩
  | succ n ih =>
    intro m rs bs rs' h f gs hf hl hr
    cases bs with
    | nil =>
      simp only [d_rows, Option.some.injEq, Prod.mk.injEq] at h
      obtain ⟨rfl, -⟩ := h
      exact ⟨gs, by cases f <;> simp only [d_all], hl.symm⟩
    | cons b t =>
      simp only [d_rows] at h
      cases hrw : d_row m (b :: t) with
      | none =>
        rw [hrw] at h
        cases h
      | some w =>
        obtain ⟨m', add, r⟩ := w
        rw [hrw] at h
        obtain ⟨l1, l2, l3⟩ := d_row_ln hrw
        rw [List.length_cons] at hf l1
        by_cases q : rs.length + add.length ≤ 100
        · rw [d_cap_le q] at h
          simp only at h
          cases f with
          | zero => omega
          | succ f =>
            simp only [d_all]
            rw [hrw]
            simp only
            rw [if_pos (by omega)]
            exact ih m' _ r rs' h f _ (by omega) (by simp; omega) hr
        · rw [d_cap_gt q] at h
          cases h
