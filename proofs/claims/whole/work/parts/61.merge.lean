/-! merging, as lists of numbers -/
def k_tm (ks : List o_Kr) (i : Nat) : Int32 := (ks.map (k_col 4)).getD i 0
def k_ow (ks : List o_Kr) (i : Nat) : Int32 := (ks.map (k_col 3)).getD i 0
def k_gb (ks : List o_Kr) (i j : Nat) : Bool := if k_tm ks i = k_tm ks j then decide (k_ow ks i < k_ow ks j) else decide (k_tm ks i < k_tm ks j)
def k_lt (ks : List o_Kr) (i j : Nat) : Prop := (k_tm ks i).toInt < (k_tm ks j).toInt ∨ ((k_tm ks i).toInt = (k_tm ks j).toInt ∧ ((k_ow ks i).toInt < (k_ow ks j).toInt ∨ ((k_ow ks i).toInt = (k_ow ks j).toInt ∧ i < j)))
theorem k_lt_tr {ks : List o_Kr} {i j k : Nat} (h1 : k_lt ks i j) (h2 : k_lt ks j k) : k_lt ks i k := by
  unfold k_lt at *
  omega
theorem k_gb_iff {ks : List o_Kr} {i j : Nat} : k_gb ks i j = true ↔ ((k_tm ks i).toInt < (k_tm ks j).toInt ∨ ((k_tm ks i).toInt = (k_tm ks j).toInt ∧ (k_ow ks i).toInt < (k_ow ks j).toInt)) := by
  unfold k_gb
  by_cases h : k_tm ks i = k_tm ks j
  · rw [if_pos h, decide_eq_true_iff, Int32.lt_iff_toInt_lt, h]
    omega
  · rw [if_neg h, decide_eq_true_iff, Int32.lt_iff_toInt_lt]
    have : ¬ (k_tm ks i).toInt = (k_tm ks j).toInt := fun z => h (Int32.toInt_inj.mp z)
    omega
def k_mg (gb : Nat → Nat → Bool) : Nat → List Nat → List Nat → List Nat
  | 0, _, _ => []
  | _ + 1, [], [] => []
  | n + 1, [], y :: ys => y :: k_mg gb n [] ys
  | n + 1, x :: xs, [] => x :: k_mg gb n xs []
  | n + 1, x :: xs, y :: ys => if gb y x = true then y :: k_mg gb n (x :: xs) ys else x :: k_mg gb n xs (y :: ys)
theorem k_mg_pm {gb : Nat → Nat → Bool} : ∀ (n : Nat) (xs ys : List Nat), xs.length + ys.length = n → List.Perm (k_mg gb n xs ys) (xs ++ ys)
  | 0, xs, ys, h => by
    have h1 : xs = [] := List.length_eq_zero_iff.mp (by omega)
    have h2 : ys = [] := List.length_eq_zero_iff.mp (by omega)
    subst h1 h2
    exact List.Perm.refl _
  | n + 1, [], [], h => by simp at h
  | n + 1, [], y :: ys, h => by
    have := k_mg_pm (gb := gb) n [] ys (by simpa using h)
    exact List.Perm.cons y this
  | n + 1, x :: xs, [], h => by
    have := k_mg_pm (gb := gb) n xs [] (by simpa using h)
    exact List.Perm.cons x this
  | n + 1, x :: xs, y :: ys, h => by
    unfold k_mg
    split
    · have := k_mg_pm (gb := gb) n (x :: xs) ys (by simp at h ⊢; omega)
      exact (List.Perm.cons y this).trans List.perm_middle.symm
    · have := k_mg_pm (gb := gb) n xs (y :: ys) (by simp at h ⊢; omega)
      exact List.Perm.cons x this
theorem k_mg_so {ks : List o_Kr} : ∀ (n : Nat) (xs ys : List Nat), xs.length + ys.length = n → List.Pairwise (k_lt ks) xs → List.Pairwise (k_lt ks) ys → (∀ x ∈ xs, ∀ y ∈ ys, x < y) → List.Pairwise (k_lt ks) (k_mg (k_gb ks) n xs ys)
  | 0, xs, ys, h, _, _, _ => by
    unfold k_mg
    exact List.Pairwise.nil
  | n + 1, [], [], h, _, _, _ => by simp at h
  | n + 1, [], y :: ys, h, p1, p2, hx => by
    unfold k_mg
    have ih := k_mg_so n [] ys (by simpa using h) p1 (List.pairwise_cons.mp p2).2 (fun x hx => by simp at hx)
    refine List.pairwise_cons.mpr ⟨fun z hz => ?_, ih⟩
    have hz := (k_mg_pm n [] ys (by simpa using h)).mem_iff.mp hz
    exact (List.pairwise_cons.mp p2).1 z (by simpa using hz)
  | n + 1, x :: xs, [], h, p1, p2, hx => by
    unfold k_mg
    have ih := k_mg_so n xs [] (by simpa using h) (List.pairwise_cons.mp p1).2 p2 (fun x _ y hy => by simp at hy)
    refine List.pairwise_cons.mpr ⟨fun z hz => ?_, ih⟩
    have hz := (k_mg_pm n xs [] (by simpa using h)).mem_iff.mp hz
    exact (List.pairwise_cons.mp p1).1 z (by simpa using hz)
  | n + 1, x :: xs, y :: ys, h, p1, p2, hx => by
    have hxy : x < y := hx x List.mem_cons_self y List.mem_cons_self
    unfold k_mg
    split
    next hg =>
      have hl : (x :: xs).length + ys.length = n := by simp at h ⊢; omega
      have ih := k_mg_so n (x :: xs) ys hl p1 (List.pairwise_cons.mp p2).2 (fun a ha b hb => hx a ha b (List.mem_cons_of_mem _ hb))
      have hyx : k_lt ks y x := by
        have := k_gb_iff.mp hg
        unfold k_lt
        omega
      refine List.pairwise_cons.mpr ⟨fun z hz => ?_, ih⟩
      have hz := (k_mg_pm n (x :: xs) ys hl).mem_iff.mp hz
      rcases List.mem_append.mp hz with hz | hz
      · rcases List.mem_cons.mp hz with rfl | hz
        · exact hyx
        · exact k_lt_tr hyx ((List.pairwise_cons.mp p1).1 z hz)
      · exact (List.pairwise_cons.mp p2).1 z hz
    next hg =>
      have hl : xs.length + (y :: ys).length = n := by simp at h ⊢; omega
      have ih := k_mg_so n xs (y :: ys) hl (List.pairwise_cons.mp p1).2 p2 (fun a ha b hb => hx a (List.mem_cons_of_mem _ ha) b hb)
      have hxy2 : k_lt ks x y := by
        have : ¬ _ := fun z => hg (k_gb_iff.mpr z)
        unfold k_lt
        omega
      refine List.pairwise_cons.mpr ⟨fun z hz => ?_, ih⟩
      have hz := (k_mg_pm n xs (y :: ys) hl).mem_iff.mp hz
      rcases List.mem_append.mp hz with hz | hz
      · exact (List.pairwise_cons.mp p1).1 z hz
      · rcases List.mem_cons.mp hz with rfl | hz
        · exact hxy2
        · exact k_lt_tr hxy2 ((List.pairwise_cons.mp p2).1 z hz)
def k_sg (is : List Nat) (s e : Nat) : List Nat := (is.take e).drop s
theorem k_sg_len {is : List Nat} {s e : Nat} : (k_sg is s e).length = min e is.length - s := by
  unfold k_sg
  rw [List.length_drop, List.length_take]
/-- is: all numbers below n, each run of w of them sorted and of its own numbers -/
def k_run (ks : List o_Kr) (w : Nat) (is : List Nat) : Prop := is.length = ks.length ∧ ∀ c, c * w < ks.length → List.Perm (k_sg is (c * w) (c * w + w)) (List.range' (c * w) (min w (ks.length - c * w))) ∧ List.Pairwise (k_lt ks) (k_sg is (c * w) (c * w + w))
theorem k_run_1 (ks : List o_Kr) : k_run ks 1 (List.range ks.length) := by
  refine ⟨List.length_range, fun c hc => ?_⟩
  have e : k_sg (List.range ks.length) (c * 1) (c * 1 + 1) = [c] := by
    unfold k_sg
    rw [Nat.mul_one] at hc ⊢
    apply List.ext_getElem?
    intro i
    rw [List.getElem?_drop, List.getElem?_take]
    rcases i with _ | i
    · rw [if_pos (by omega), List.getElem?_range (by omega)]
      rfl
    · rw [if_neg (by omega)]
      rfl
  rw [e, Nat.mul_one] at *
  rw [show min 1 (ks.length - c) = 1 by omega]
  exact ⟨List.Perm.refl _, List.pairwise_singleton _ _⟩
/-- two runs, joined -/
theorem k_run_jn {ks : List o_Kr} {w c : Nat} {is : List Nat} (hr : k_run ks w is) (hc : c * (2 * w) < ks.length) :
    (k_mg (k_gb ks) (min (c * (2 * w) + 2 * w) ks.length - c * (2 * w)) (k_sg is (c * (2 * w)) (min (c * (2 * w) + w) ks.length)) (k_sg is (min (c * (2 * w) + w) ks.length) (min (c * (2 * w) + 2 * w) ks.length))).length = min (c * (2 * w) + 2 * w) ks.length - c * (2 * w) ∧
    List.Perm (k_mg (k_gb ks) (min (c * (2 * w) + 2 * w) ks.length - c * (2 * w)) (k_sg is (c * (2 * w)) (min (c * (2 * w) + w) ks.length)) (k_sg is (min (c * (2 * w) + w) ks.length) (min (c * (2 * w) + 2 * w) ks.length))) (List.range' (c * (2 * w)) (min (2 * w) (ks.length - c * (2 * w)))) ∧
    List.Pairwise (k_lt ks) (k_mg (k_gb ks) (min (c * (2 * w) + 2 * w) ks.length - c * (2 * w)) (k_sg is (c * (2 * w)) (min (c * (2 * w) + w) ks.length)) (k_sg is (min (c * (2 * w) + w) ks.length) (min (c * (2 * w) + 2 * w) ks.length))) := by
  obtain ⟨hl, hr⟩ := hr
  have tk : ∀ e, is.take (min e ks.length) = is.take e := fun e => by
    rw [← hl, ← List.take_take, List.take_of_length_le (Nat.le_refl _)]
  have e0 : 2 * c * w = c * (2 * w) := by rw [Nat.mul_comm 2 c, Nat.mul_assoc]
  have e1 : (2 * c + 1) * w = c * (2 * w) + w := by rw [Nat.add_mul, e0, Nat.one_mul]
  have r0 := hr (2 * c) (by omega)
  rw [e0] at r0
  generalize hs : c * (2 * w) = s at *
  have x0 : k_sg is s (min (s + w) ks.length) = k_sg is s (s + w) := by unfold k_sg; rw [tk]
  have lx : (k_sg is s (s + w)).length = min (s + w) ks.length - s := by rw [k_sg_len, hl]
  rw [x0]
  by_cases hw : s + w < ks.length
  · have r1 := hr (2 * c + 1) (by omega)
    rw [e1] at r1
    have x1 : k_sg is (min (s + w) ks.length) (min (s + 2 * w) ks.length) = k_sg is (s + w) (s + w + w) := by
      unfold k_sg
      rw [tk, show min (s + w) ks.length = s + w by omega, show s + 2 * w = s + w + w by omega]
    have ly : (k_sg is (s + w) (s + w + w)).length = min (s + w + w) ks.length - (s + w) := by rw [k_sg_len, hl]
    rw [x1]
    have hlen : (k_sg is s (s + w)).length + (k_sg is (s + w) (s + w + w)).length = min (s + 2 * w) ks.length - s := by rw [lx, ly]; omega
    have pm := k_mg_pm (gb := k_gb ks) _ _ _ hlen
    refine ⟨?_, ?_, ?_⟩
    · rw [pm.length_eq, List.length_append, hlen]
    · refine pm.trans ((List.Perm.append r0.1 r1.1).trans ?_)
      rw [show min w (ks.length - s) = w by omega, show min (2 * w) (ks.length - s) = w + min w (ks.length - (s + w)) by omega]
      exact List.Perm.of_eq (by rw [← List.range'_append_1])
    · refine k_mg_so _ _ _ hlen r0.2 r1.2 (fun x hx y hy => ?_)
      have hx := List.mem_range'_1.mp (r0.1.mem_iff.mp hx)
      have hy := List.mem_range'_1.mp (r1.1.mem_iff.mp hy)
      omega
  · have x1 : k_sg is (min (s + w) ks.length) (min (s + 2 * w) ks.length) = [] := by
      apply List.length_eq_zero_iff.mp
      rw [k_sg_len, hl]
      omega
    rw [x1]
    have hlen : (k_sg is s (s + w)).length + ([] : List Nat).length = min (s + 2 * w) ks.length - s := by rw [lx, List.length_nil]; omega
    have pm := k_mg_pm (gb := k_gb ks) _ _ _ hlen
    refine ⟨?_, ?_, ?_⟩
    · rw [pm.length_eq, List.length_append, hlen]
    · refine pm.trans ?_
      rw [List.append_nil, show min (2 * w) (ks.length - s) = min w (ks.length - s) by omega]
      exact r0.1
    · exact k_mg_so _ _ _ hlen r0.2 List.Pairwise.nil (fun x hx y hy => by simp at hy)
/-- what is joined so far -/
def k_half (ks : List o_Kr) (w c : Nat) (js : List Nat) : Prop := js.length = min (c * (2 * w)) ks.length ∧ ∀ c', c' < c → c' * (2 * w) < ks.length → List.Perm (k_sg js (c' * (2 * w)) (c' * (2 * w) + 2 * w)) (List.range' (c' * (2 * w)) (min (2 * w) (ks.length - c' * (2 * w)))) ∧ List.Pairwise (k_lt ks) (k_sg js (c' * (2 * w)) (c' * (2 * w) + 2 * w))
theorem k_half_0 (ks : List o_Kr) (w : Nat) : k_half ks w 0 [] := ⟨by simp, fun c' hc => absurd hc (by omega)⟩
theorem k_half_st {ks : List o_Kr} {w c : Nat} {is js ms : List Nat} (hr : k_run ks w is) (hh : k_half ks w c js) (hc : c * (2 * w) < ks.length) (hm : ms = k_mg (k_gb ks) (min (c * (2 * w) + 2 * w) ks.length - c * (2 * w)) (k_sg is (c * (2 * w)) (min (c * (2 * w) + w) ks.length)) (k_sg is (min (c * (2 * w) + w) ks.length) (min (c * (2 * w) + 2 * w) ks.length))) : k_half ks w (c + 1) (js ++ ms) := by
  obtain ⟨m1, m2, m3⟩ := k_run_jn hr hc
  rw [← hm] at m1 m2 m3
  obtain ⟨h1, h2⟩ := hh
  have ec : (c + 1) * (2 * w) = c * (2 * w) + 2 * w := by rw [Nat.add_mul, Nat.one_mul]
  refine ⟨?_, fun c' hc' hn => ?_⟩
  · rw [List.length_append, h1, m1, ec]
    omega
  · by_cases e : c' = c
    · subst e
      have : k_sg (js ++ ms) (c' * (2 * w)) (c' * (2 * w) + 2 * w) = ms := by
        unfold k_sg
        rw [List.take_of_length_le (by rw [List.length_append, h1, m1]; omega), List.drop_append_of_le_length (by rw [h1]; omega), List.drop_eq_nil_of_le (by rw [h1]; omega), List.nil_append]
      rw [this]
      exact ⟨m2, m3⟩
    · have hlt : c' < c := by omega
      have hle : (c' + 1) * (2 * w) ≤ c * (2 * w) := Nat.mul_le_mul_right _ hlt
      rw [Nat.add_mul, Nat.one_mul] at hle
      have : k_sg (js ++ ms) (c' * (2 * w)) (c' * (2 * w) + 2 * w) = k_sg js (c' * (2 * w)) (c' * (2 * w) + 2 * w) := by
        unfold k_sg
        rw [List.take_append_of_le_length (by rw [h1]; omega)]
      rw [this]
      exact h2 c' hlt hn
theorem k_half_end {ks : List o_Kr} {w c : Nat} {js : List Nat} (hh : k_half ks w c js) (hc : ks.length ≤ c * (2 * w)) : k_run ks (2 * w) js := by
  obtain ⟨h1, h2⟩ := hh
  refine ⟨by rw [h1]; omega, fun c' hc' => h2 c' ?_ hc'⟩
  apply Nat.lt_of_not_le
  intro z
  have := Nat.mul_le_mul_right (2 * w) z
  omega
/-- is is the order by time, thread, place -/
def k_is (ks : List o_Kr) (is : List Nat) : Prop := List.Perm is (List.range ks.length) ∧ List.Pairwise (k_lt ks) is
theorem k_run_end {ks : List o_Kr} {w : Nat} {is : List Nat} (hr : k_run ks w is) (hw : ks.length ≤ w) : k_is ks is := by
  obtain ⟨h1, h2⟩ := hr
  by_cases hn : ks.length = 0
  · have : is = [] := List.length_eq_zero_iff.mp (by omega)
    subst this
    refine ⟨?_, List.Pairwise.nil⟩
    rw [hn]
    exact List.Perm.refl _
  · have := h2 0 (by omega)
    have e : k_sg is (0 * w) (0 * w + w) = is := by
      unfold k_sg
      rw [List.take_of_length_le (by omega), Nat.zero_mul, List.drop_zero]
    rw [e, Nat.zero_mul, show min w (ks.length - 0) = ks.length by omega] at this
    rw [← List.range_eq_range'] at this
    exact this
theorem k_is_lt {ks : List o_Kr} {is : List Nat} (h : k_is ks is) : is.length = ks.length ∧ ∀ i ∈ is, i < ks.length := ⟨by rw [h.1.length_eq, List.length_range], fun i hi => List.mem_range.mp (h.1.mem_iff.mp hi)⟩
