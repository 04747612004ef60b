/-! TracePacksModel: the whole inside -/
theorem e_rows_len : ∀ (rs : List o_Rw) (m : o_Mm) (c : Int32), (e_rows rs m c).length ≤ 10 * rs.length + (if c = 1 then 0 else 1)
  | [], m, c => by
    simp only [e_rows]
    unfold e_fl
    split
    · simp
    · simp [e_kind]
  | r :: t, m, c => by
    by_cases h0 : r.1 = 0
    · by_cases hc : c < 16
      · rw [er_b h0 hc]
        have := e_rows_len t m (c * 2 + r.2.1)
        simp only [List.length_cons]
        split at this <;> omega
      · have e1 : e_rows (r :: t) m c = e_fl c ++ e_rows (r :: t) m 1 := er_fl (fun r' t' h => Or.inr hc)
        rw [e1, er_b h0 (by decide)]
        have := e_rows_len t m (1 * 2 + r.2.1)
        have hf : (e_fl c).length ≤ 1 := by
          unfold e_fl
          split
          · simp
          · simp [e_kind]
        simp only [List.length_cons, List.length_append]
        split at this <;> split <;> omega
    · have e1 : e_rows (r :: t) m c = e_fl c ++ e_rows (r :: t) m 1 := er_fl (fun r' t' h => Or.inl (by cases h; exact h0))
      rw [e1, er_nb h0]
      have h1 := e_rows_len t (e_row m 1 r).2.1 1
      have h2 := e_row_len m r
      rw [if_pos rfl] at h1
      have hf : (e_fl c).length ≤ (if c = 1 then 0 else 1) := by
        unfold e_fl
        split
        · simp
        · simp [e_kind]
      simp only [List.length_cons, List.length_append]
      omega
theorem e_pq_N : ∀ (xs : List Int32) (p q : Nat), o_by xs → p < 255 → q < 255 → ∃ p' q' : Nat, p' < 255 ∧ q' < 255 ∧ e_pq (nI p) (nI q) xs = (nI p', nI q')
  | [], p, q, _, hp, hq => ⟨p, q, hp, hq, rfl⟩
  | x :: t, p, q, hb, hp, hq => by
    obtain ⟨β, hβ, rfl⟩ := hb x List.mem_cons_self
    have e1 : e_md (nI p + nI β) = nI ((p + β) % 255) := by
      rw [nI_add]
      exact pk_rem (d := 255) (by omega) (by omega) (by omega)
    have h1 : (p + β) % 255 < 255 := Nat.mod_lt _ (by omega)
    have e2 : e_md (nI q + nI ((p + β) % 255)) = nI ((q + (p + β) % 255) % 255) := by
      rw [nI_add]
      exact pk_rem (d := 255) (by omega) (by omega) (by omega)
    simp only [e_pq]
    rw [e1, e2]
    exact e_pq_N t _ _ (fun y hy => hb y (List.mem_cons_of_mem _ hy)) h1 (Nat.mod_lt _ (by omega))
theorem n_pq {p q : Nat} (hp : p < 255) (hq : q < 255) : ((nI p <<< ((8 : Int32) &&& 31)) + nI q) >>> ((8 : Int32) &&& 31) = nI p ∧ ((nI p <<< ((8 : Int32) &&& 31)) + nI q) &&& 255 = nI q := by
  have e1 : nI p <<< ((8 : Int32) &&& 31) = nI (p * 256) := by
    have : ∀ p, p < 255 → nI p <<< ((8 : Int32) &&& 31) = nI (p * 256) := by decide +kernel
    exact this p hp
  rw [e1, nI_add]
  constructor
  · rw [pk_shrN (n := p * 256 + q) (by omega) _ 8 (by decide)]
    congr 1
    omega
  · rw [pk_andN (n := p * 256 + q) (by omega) 8 (by decide)]
    congr 1
    omega
/-- the inside of a block, said by the model -/
def z_md (o t : Int32) (rs : List o_Rw) : List Int32 := [o] ++ e_word t ++ [nI rs.length] ++ e_rows rs ((0, 0), (0, 0), [], 0, t) 1
theorem z_md_len {o t : Int32} {rs : List o_Rw} (h : rs.length ≤ 100) : (z_md o t rs).length ≤ 1006 := by
  have := e_rows_len rs ((0, 0), (0, 0), [], 0, t) 1
  rw [if_pos rfl] at this
  unfold z_md
  simp [e_word]
  omega
theorem e_in_md {o t : Int32} {rs : List o_Rw} (h : rs.length ≤ 100) (hb : o_by (z_md o t rs)) : e_in o t rs = z_md o t rs ++ [(e_pq 0 0 (z_md o t rs)).1, (e_pq 0 0 (z_md o t rs)).2] := by
  have hl := z_md_len (o := o) (t := t) h
  have e0 : o :: (e_word t ++ (nI rs.length :: e_rows rs ((0, 0), (0, 0), [], 0, t) 1)) = z_md o t rs := by
    unfold z_md
    simp
  obtain ⟨p, q, hp, hq, e1⟩ := e_pq_N (z_md o t rs) 0 0 hb (by omega) (by omega)
  have e1 : e_pq 0 0 (z_md o t rs) = (nI p, nI q) := e1
  obtain ⟨n1, n2⟩ := n_pq hp hq
  unfold e_in
  rw [e0]
  have e2 : o_ap [] (z_md o t rs) = z_md o t rs := by
    unfold o_ap
    rw [List.nil_append]
    exact List.take_of_length_le (by omega)
  rw [e2]
  unfold e_fin e_sum o_ap
  rw [e1]
  simp only
  rw [n1, n2]
  exact List.take_of_length_le (by simp; omega)
/-- the rows that wait, as the model holds them -/
def z_rw (F : Nat → Int32) (A : Nat → List Int32) (rs : List o_Rw) : Prop := F 5 = nI rs.length ∧ rs.length ≤ 100 ∧ (A 3).take rs.length = rs.map (·.1) ∧ (A 4).take rs.length = rs.map (·.2.1) ∧ (A 5).take rs.length = rs.map (·.2.2)
theorem l_tk {ys : List Int32} {rs : List o_Rw} {f : o_Rw → Int32} (h : ys.take rs.length = rs.map f) (j : Nat) (r : o_Rw) (hr : rs[j]? = some r) : ys.getD j 0 = f r := by
  have hj : j < rs.length := (List.getElem?_eq_some_iff.mp hr).1
  have : (rs.map f)[j]? = some (f r) := by rw [List.getElem?_map, hr]; rfl
  rw [← h, List.getElem?_take, if_pos hj] at this
  exact l_getD this
theorem c_Z_sayRows {l : Launch} {h : g_H} {a : Nat} {F : Nat → Int32} {A : Nat → List Int32} {ins : List Int32} {rs : List o_Rw} {t : Int32} (hZ : o_Z h a F A) (hi : z_in F A ins) (hr : z_rw F A rs) (h7 : F 7 = t) (hw : w_ok t rs) (ht : ∃ n : Nat, n < 2 ^ 31 ∧ t = nI n) (hil : ins.length ≤ 10) : g_Run l J_Z_sayRows [.ref a] h (z_rP a h F A (ins ++ e_rows rs ((0, 0), (0, 0), [], 0, t) 1)) := by
  refine go_Z_sayRows [26] 60 ?_
  refine g_gt_i hZ.1 rfl ?_
  refine g_pt_j (z_fs a (z_u F 19 0)) hZ.1 (Nat.le_of_ble_eq_true rfl) rfl rfl rfl ?_
  obtain ⟨z1, f1⟩ := z_fld hZ (z_u F 19 0)
  have hI : z_rI a h F A (g_up h a (.inr (10, z_fs a (z_u F 19 0)))) (z_u F 19 0) A ins [] := ⟨z1, ⟨hi.1, hi.2⟩, ⟨rfl, rfl, by simp⟩, fun k h1 h2 => z_u_ne h2, fun i _ _ => rfl, f1⟩
  have key := x_Z_rows (l := l) (T := ins ++ e_rows rs ((0, 0), (0, 0), [], 0, t) 1) hr.2.1 hr.1 (fun j r hjr => l_tk hr.2.2.1 j r hjr) (fun j r hjr => l_tk hr.2.2.2.1 j r hjr) (fun j r hjr => l_tk hr.2.2.2.2 j r hjr) rs.length 0 ((0, 0), (0, 0), [], 0, t) ins _ _ _ none none none (by omega) (by omega) hI hw ht (by omega) rfl
  rw [← h7] at key
  rw [← h7]
  exact key
theorem c_Z_makeInside {l : Launch} {h : g_H} {a : Nat} {F : Nat → Int32} {A : Nat → List Int32} {rs : List o_Rw} {o t : Int32} (hZ : o_Z h a F A) (hr : z_rw F A rs) (h6 : F 6 = o) (h7 : F 7 = t) (hw : w_ok t rs) (ho : ∃ n : Nat, n < 4 ∧ o = nI n) (ht : ∃ n : Nat, n < 2 ^ 31 ∧ t = nI n) : g_Run l J_Z_makeInside [.ref a] h (fun oc hE => oc = .inl none ∧ ∃ F' A', o_Z hE a F' A' ∧ z_in F' A' (e_in o t rs) ∧ (∀ k, k ≠ 15 → k ≠ 17 → k ≠ 18 → k ≠ 19 → F' k = F k) ∧ (∀ i, i ≠ 6 → i ≠ 7 → A' i = A i) ∧ g_Fr a (a + 18) h hE) := by
  have hrl := hr.2.1
  refine go_Z_makeInside [] 60 ?_
  refine g_pt_j (z_fs a (z_u F 15 0)) hZ.1 (Nat.le_of_ble_eq_true rfl) rfl rfl rfl ?_
  obtain ⟨z1, f1⟩ := z_fld hZ (z_u F 15 0)
  have i1 : z_in (z_u F 15 0) A [] := ⟨rfl, rfl, by simp, fun x hx => absurd hx (by simp)⟩
  refine g_gt_i z1.1 rfl ?_
  refine g_cv_i z1.1 (c_Z_say z1 i1 (by simp)) (fun oc h2 hp => ?_)
  obtain ⟨rfl, F2, A2, z2, i2, e2, d2, f2⟩ := hp
  refine ⟨_, rfl, ?_⟩
  obtain ⟨no, hno, hoe⟩ := ho
  have eo : z_u F 15 0 6 &&& 255 = o := by
    show F 6 &&& 255 = o
    rw [h6, hoe]
    exact n_255 no (by omega)
  rw [eo] at i2
  have i2 : z_in F2 A2 [o] := i2
  have F27 : F2 7 = t := (e2 7 (by omega)).trans h7
  refine g_gt_i z2.1 rfl ?_
  refine g_cv_i z2.1 (c_Z_sayFour z2 i2 (by simp)) (fun oc h3 hp => ?_)
  obtain ⟨rfl, F3, A3, z3, i3, e3, d3, f3⟩ := hp
  refine ⟨_, rfl, ?_⟩
  rw [F27] at i3
  refine g_gt_i z3.1 rfl ?_
  refine g_cv_i z3.1 (c_Z_say z3 i3 (by simp [e_word])) (fun oc h4 hp => ?_)
  obtain ⟨rfl, F4, A4, z4, i4, e4, d4, f4⟩ := hp
  refine ⟨_, rfl, ?_⟩
  have er : F3 5 &&& 255 = nI rs.length := by
    rw [e3 5 (by omega), e2 5 (by omega)]
    show F 5 &&& 255 = _
    rw [hr.1]
    exact n_255 _ (by omega)
  rw [er] at i4
  have ek4 : ∀ k, k ≠ 15 → F4 k = F k := fun k hk => (e4 k hk).trans ((e3 k hk).trans ((e2 k hk).trans (z_u_ne hk)))
  have ei4 : ∀ i, i ≠ 6 → A4 i = A i := fun i hi => (d4 i hi).trans ((d3 i hi).trans (d2 i hi))
  have hr4 : z_rw F4 A4 rs := ⟨(ek4 5 (by omega)).trans hr.1, hrl, by rw [ei4 3 (by omega)]; exact hr.2.2.1, by rw [ei4 4 (by omega)]; exact hr.2.2.2.1, by rw [ei4 5 (by omega)]; exact hr.2.2.2.2⟩
  refine g_cv_i z4.1 (c_Z_sayRows z4 i4 hr4 ((ek4 7 (by omega)).trans h7) hw ht (by simp [e_word])) (fun oc h5 hp => ?_)
  obtain ⟨rfl, F5, A5, z5, i5, e5, d5, f5⟩ := hp
  refine ⟨_, rfl, ?_⟩
  have i5 : z_in F5 A5 (z_md o t rs) := i5
  have hmd := z_md_len (o := o) (t := t) hrl
  have hby := i5.2.2.2
  have heq := e_in_md hrl hby
  refine g_gt_i z5.1 rfl ?_
  have hsu : ∀ y : Int32, y = nI (z_md o t rs).length → g_Run l J_Z_sumUp [.ref a, .int y] h5 (fun oc hE => oc = .inl none ∧ ∃ F', o_Z hE a F' A5 ∧ F' 17 = (e_pq 0 0 ((z_md o t rs).take (z_md o t rs).length)).1 ∧ F' 18 = (e_pq 0 0 ((z_md o t rs).take (z_md o t rs).length)).2 ∧ (∀ k, k ≠ 17 → k ≠ 18 → F' k = F5 k) ∧ g_Fr a (a + 18) h5 hE) := fun y hy => by
    subst hy
    exact c_Z_sumUp (Nat.le_refl _) z5 i5
  refine g_cv_i z5.1 (hsu _ i5.1) (fun oc h6 hp => ?_)
  obtain ⟨rfl, F6, z6, p6, q6, e6, f6⟩ := hp
  rw [List.take_length] at p6 q6
  refine ⟨_, rfl, ?_⟩
  refine g_gt_i z6.1 rfl ?_
  refine g_gt_i z6.1 rfl ?_
  have i6 : z_in F6 A5 (z_md o t rs) := ⟨(e6 15 (by omega) (by omega)).trans i5.1, i5.2⟩
  obtain ⟨p, q, hp, hq, epq⟩ := e_pq_N (z_md o t rs) 0 0 hby (by omega) (by omega)
  have epq : e_pq 0 0 (z_md o t rs) = (nI p, nI q) := epq
  rw [epq] at p6 q6 heq
  refine g_cv_i z6.1 (c_Z_say z6 i6 (by omega)) (fun oc h7 hp' => ?_)
  obtain ⟨rfl, F7, A7, z7, i7, e7, d7, f7⟩ := hp'
  refine ⟨_, rfl, ?_⟩
  have i7 : z_in F7 A7 (z_md o t rs ++ [nI p]) := by
    rw [p6, n_255 p (by omega)] at i7
    exact i7
  refine g_cv_i z7.1 (c_Z_say z7 i7 (by simp; omega)) (fun oc h8 hp' => ?_)
  obtain ⟨rfl, F8, A8, z8, i8, e8, d8, f8⟩ := hp'
  refine ⟨_, rfl, ?_⟩
  have i8 : z_in F8 A8 (e_in o t rs) := by
    rw [q6, n_255 q (by omega), List.append_assoc] at i8
    rw [heq]
    exact i8
  exact ⟨rfl, F8, A8, z8, i8, fun k k1 k2 k3 k4 => (e8 k k1).trans ((e7 k k1).trans ((e6 k k2 k3).trans ((e5 k k1 k4).trans (ek4 k k1)))), fun i j1 j2 => (d8 i j1).trans ((d7 i j1).trans ((d5 i j1 j2).trans (ei4 i j1))), g_Fr_tr f1 (g_Fr_tr f2 (g_Fr_tr f3 (g_Fr_tr f4 (g_Fr_tr f5 (g_Fr_tr f6 (g_Fr_tr f7 f8))))))⟩
