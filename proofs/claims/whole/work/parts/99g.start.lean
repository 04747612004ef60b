/-! where the law begins: classes, arrays, what a throw needs (by program: wip/whole/gen/mk99g.py) -/
theorem s_arr {args : Array Value} {s : State} {ty : FieldType} (h : (Cond.arrayClass ty).before args s = true) : ∃ cA : ClassId, s.vm.findClass ("[" ++ ty.toString) = some cA ∧ ArrOfT s cA ty := by
  obtain ⟨cA, kA, comp, h1, h2, h3⟩ := Cond.arrayClass_spec h
  exact ⟨cA, h1, fun n z => ⟨fun k h => (by cases h), kA, h2, comp, h3⟩⟩
theorem s_K {args : Array Value} {s : State} (hts : ∀ w ∈ g_W, w.before args s = true) : ∃ D : g_D, g_K D s := by
  obtain ⟨cI, iI, kI⟩ := u_known (C := R_I) (T := F_I) (N := 2) hts i_I (hts _ w_1_28)
  obtain ⟨cL, iL, kL⟩ := u_known (C := R_L) (T := F_L) (N := 2) hts i_L (hts _ w_1_87)
  obtain ⟨cB, iB, kB⟩ := u_known (C := R_B) (T := F_B) (N := 5) hts i_B (hts _ w_1_49)
  obtain ⟨cV, iV, kV⟩ := u_known (C := R_V) (T := F_V) (N := 1) hts i_V (hts _ w_1_100)
  obtain ⟨cM, iM, kM⟩ := u_known (C := R_M) (T := F_M) (N := 5) hts i_M (hts _ w_1_81)
  obtain ⟨cK, iK, kK⟩ := u_known (C := R_K) (T := F_K) (N := 9) hts i_K (hts _ w_1_179)
  obtain ⟨cQ, iQ, kQ⟩ := u_known (C := R_Q) (T := F_Q) (N := 3) hts i_Q (hts _ w_1_73)
  obtain ⟨cU, iU, kU⟩ := u_known (C := R_U) (T := F_U) (N := 4) hts i_U (hts _ w_1_154)
  obtain ⟨cR, iR, kR⟩ := u_known (C := R_R) (T := F_R) (N := 6) hts i_R (hts _ w_1_148)
  obtain ⟨cT, iT, kT⟩ := u_known (C := R_T) (T := F_T) (N := 9) hts i_T (hts _ w_1_20)
  obtain ⟨cZ, iZ, kZ⟩ := u_known (C := R_Z) (T := F_Z) (N := 40) hts i_Z (hts _ w_4_93)
  obtain ⟨a_int, n_int, t_int⟩ := s_arr (hts _ w_1_43)
  obtain ⟨a_long, n_long, t_long⟩ := s_arr (hts _ w_5_132)
  obtain ⟨a_byte, n_byte, t_byte⟩ := s_arr (hts _ w_2_134)
  refine ⟨((fun c => match c with
    | 0 => cI
    | 1 => cL
    | 2 => cB
    | 3 => cV
    | 4 => cM
    | 5 => cK
    | 6 => cQ
    | 7 => cU
    | 8 => cR
    | 9 => cT
    | _ => cZ, fun c => match c with
    | 0 => iI
    | 1 => iL
    | 2 => iB
    | 3 => iV
    | 4 => iM
    | 5 => iK
    | 6 => iQ
    | 7 => iU
    | 8 => iR
    | 9 => iT
    | _ => iZ), a_int, a_long, a_byte), ?_, ?_⟩
  · intro c q hq
    match c, hq with
    | 0, hq => cases hq; exact kI
    | 1, hq => cases hq; exact kL
    | 2, hq => cases hq; exact kB
    | 3, hq => cases hq; exact kV
    | 4, hq => cases hq; exact kM
    | 5, hq => cases hq; exact kK
    | 6, hq => cases hq; exact kQ
    | 7, hq => cases hq; exact kU
    | 8, hq => cases hq; exact kR
    | 9, hq => cases hq; exact kT
    | 10, hq => cases hq; exact kZ
    | n + 11, hq => exact absurd hq (by simp [vwCl])
  · intro k q hq
    match k, hq with
    | 0, hq => cases hq; exact ⟨t_int, n_int⟩
    | 1, hq => cases hq; exact ⟨t_long, n_long⟩
    | 2, hq => cases hq; exact ⟨t_byte, n_byte⟩
    | n + 3, hq => exact absurd hq (by simp)
theorem s_ws : ∀ w ∈ z_ws, w ∈ tables_1 := by decide +kernel
theorem s_ls : Cond.laysStatic z_tN "UNASSIGNED_STACK" z_sD ∈ tables_1 ∧ Cond.laysStatic z_tN "SUPPRESSED_SENTINEL" z_lD ∈ tables_1 := by decide +kernel
theorem s_Z {args : Array Value} {s : State} {n : Nat} (hts : ∀ w ∈ tables_1, w.before args s = true) (h : (Jvm.Cond.and given_1 narrow_1).before args s = true) : g_Z ((fun _ => none, s.heap.size, n) : g_H) s := by
  have hs := flat_of_before _ h
  have hA : ∀ a : Nat, a < s.heap.size → ¬ g_A ((fun _ => none, s.heap.size, n) : g_H) a := fun a ha z => by
    rcases z with z | z
    · exact z rfl
    · exact absurd ha (Nat.not_lt.mpr z)
  refine ⟨fun w hw => va_Nw.of (z_ws_t hw) (hts w (s_ws w hw)), ?_, z_St_of (hts _ s_ls.1) (hs _ (by decide +kernel)) hA, z_St_of (hts _ s_ls.2) (hs _ (by decide +kernel)) hA, ?_⟩
  · intro q hq
    simp only [z_nc, List.mem_cons, List.not_mem_nil, or_false] at hq
    rcases hq with rfl | rfl
    · exact va_Nc.of (args := args) (hs _ (by decide +kernel))
    · exact va_Nc.of (args := args) (hs _ (by decide +kernel))
  · intro q hq
    have h1 : (Cond.stringRef "TracePacks" q.1 q.2).before args s = true := hts _ ((show ∀ q ∈ z_str, Cond.stringRef "TracePacks" q.1 q.2 ∈ tables_1 by decide +kernel) q hq)
    have h2 : (Cond.exactly (Term.string "TracePacks" q.1) "java/lang/String").before args s = true := by
      simp only [z_str, List.mem_cons, List.not_mem_nil, or_false] at hq
      rcases hq with rfl | rfl | rfl | rfl | rfl | rfl | rfl | rfl | rfl | rfl | rfl <;> exact hs _ (by decide +kernel)
    obtain ⟨a, -, -, -, ha, -⟩ := Cond.exactly_spec h2
    exact ⟨a, vk_R.of h1 ha⟩
