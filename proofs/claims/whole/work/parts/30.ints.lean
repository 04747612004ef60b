/-! Ints at a: its array at a + 1 -/
def g_I (h : g_H) (a cap : Nat) (xs : List Int32) : Prop := ∃ ys : List Int32, h.1 a = some (.inr (0, [.ref (a + 1), .int (nI xs.length)])) ∧ h.1 (a + 1) = some (.inl (.inl ys)) ∧ ys.length = cap ∧ xs.length ≤ cap ∧ cap < 2 ^ 31 ∧ ys.take xs.length = xs
theorem c_I_size {l : Launch} {h : g_H} {a cap : Nat} {xs : List Int32} (hI : g_I h a cap xs) : g_Run l J_I_size [.ref a] h (fun o hE => o = .inl (some (.int (nI xs.length))) ∧ hE = h) := by
  obtain ⟨ys, h1, h2, h3, h4, h5, h6⟩ := hI
  refine go_I_size [] 20 ?_
  refine g_gt_i h1 rfl ?_
  exact ⟨rfl, rfl⟩
theorem c_I_has {l : Launch} {h : g_H} {a cap : Nat} {xs : List Int32} {i : Int32} (hI : g_I h a cap xs) : g_Run l J_I_has [.ref a, .int i] h (fun o hE => o = .inl (some (.int (if 0 ≤ i ∧ i < nI xs.length then 1 else 0))) ∧ hE = h) := by
  obtain ⟨ys, h1, h2, h3, h4, h5, h6⟩ := hI
  refine go_I_has [] 20 ?_
  refine g_br_i (fun q => ?_) (fun q => ?_)
  · refine ⟨by decide, ?_, rfl⟩
    rw [if_neg (fun z => absurd z.1 (Int32.not_le.mpr q))]
  · refine g_gt_i h1 rfl ?_
    refine g_br_i (fun q2 => ?_) (fun q2 => ?_)
    · refine ⟨by decide, ?_, rfl⟩
      rw [if_neg (fun z => absurd z.2 (Int32.not_lt.mpr q2))]
    · refine ⟨by decide, ?_, rfl⟩
      rw [if_pos ⟨Int32.not_lt.mp q, Int32.not_le.mp q2⟩]
