/-! TracePacksLaw.law -/
theorem i_l4 {n i : Nat} (hn : n ≤ 2048) (hi : i ≤ 4096) : nI n - 4 < nI i ↔ n < i + 4 := by
  by_cases h : 4 ≤ n
  · rw [show nI n - 4 = nI (n - 4) from pk_sub (b := 4) h, nI_ltI (by omega) (by omega)]
    omega
  · have hneg : nI n - 4 < 0 := by
      rcases (show n = 0 ∨ n = 1 ∨ n = 2 ∨ n = 3 by omega) with rfl | rfl | rfl | rfl <;> decide
    have h0 := nI_pos' (n := i) (by omega)
    rw [Int32.lt_iff_toInt_lt] at hneg ⊢
    rw [Int32.le_iff_toInt_le] at h0
    omega
section
variable {l : Launch} {b x z w : Nat} {xs : List Int32}
set_option maxRecDepth 100000 in
set_option maxHeartbeats 4000000 in
theorem x_law (hl : l.stackTraces = false) (hxz : x + 55 ≤ z) (hzw : z + 18 ≤ w) (hxs : xs.length ≤ 2048) {n1 s1 : Nat} : ∀ (d k : Nat) (S : q_S) (h : g_H) (c5 c6 : Option Value), 512 - k ≤ d → k ≤ 512 → w_I x z w h S → h.2.1 ≤ n1 + k → h.2.2 ≤ s1 + 6 * k →
    g_X l (J_W_law b xs) 23 (w_L b x z w (nI (4 * k)) c5 c6) [] h (fun oc hE => oc = .inl (some (.int 1)) ∧ hE.2.1 ≤ n1 + 512 ∧ hE.2.2 ≤ s1 + 3072) := by
  intro d
  have fin : ∀ (k : Nat) (S : q_S) (h : g_H) (c5 c6 : Option Value), k ≤ 512 → xs.length < 4 * k + 4 → w_I x z w h S → h.2.1 ≤ n1 + k → h.2.2 ≤ s1 + 6 * k → g_X l (J_W_law b xs) 23 (w_L b x z w (nI (4 * k)) c5 c6) [] h (fun oc hE => oc = .inl (some (.int 1)) ∧ hE.2.1 ≤ n1 + 512 ∧ hE.2.2 ≤ s1 + 3072) := by
    intro k S h c5 c6 hk hlt hI h1 h2
    refine g_go (ok_W_law b xs) [] 60 ?_
    refine ⟨rfl, ?_⟩
    refine g_br_t (show nI xs.length - 4 < nI (4 * k) from (i_l4 hxs (by omega)).mpr hlt) ?_
    exact ⟨by decide, rfl, by omega, by omega⟩
  induction d with
  | zero =>
    intro k S h c5 c6 hd hk hI h1 h2
    exact fin k S h c5 c6 hk (by omega) hI h1 h2
  | succ d ih =>
    intro k S h c5 c6 hd hk hI h1 h2
    by_cases hlt : xs.length < 4 * k + 4
    · exact fin k S h c5 c6 hk hlt hI h1 h2
    · have kk : ∀ (S' : q_S) (h' : g_H) (c5 c6 : Option Value), w_I x z w h' S' → w_gr h h' → g_X l (J_W_law b xs) 789 (w_L b x z w (nI (4 * k)) c5 c6) [] h' (fun oc hE => oc = .inl (some (.int 1)) ∧ hE.2.1 ≤ n1 + 512 ∧ hE.2.2 ≤ s1 + 3072) := by
        intro S' h' c5 c6 hI' hg
        refine g_go (ok_W_law b xs) [23] 60 ?_
        have g1 := hg.1
        have g2 := hg.2
        have key := ih (k + 1) S' h' c5 c6 (by omega) (by omega) hI' (by omega) (by omega)
        rw [show 4 * (k + 1) = 4 * k + 4 by omega, show nI (4 * k + 4) = nI (4 * k) + 4 from (nI_add (4 * k) 4).symm] at key
        exact key
      have hi : 4 * k + 4 ≤ xs.length := by omega
      refine g_go (ok_W_law b xs) [100, 156, 236, 280, 336, 404, 460, 516, 584, 640, 708, 764, 789] 60 ?_
      refine ⟨rfl, ?_⟩
      refine g_br_f (show ¬ nI xs.length - 4 < nI (4 * k) from fun z => hlt ((i_l4 hxs (by omega)).mp z)) ?_
      refine ⟨rfl, vp_in_nI (by omega) (by omega), ?_⟩
      refine g_br_i (fun _ => ?_) (fun _ => ?_)
      · exact x_l_thread hl hxz hzw hi hxs hI kk
      refine g_br_i (fun _ => ?_) (fun _ => ?_)
      · exact x_l_row hl hxz hzw hi hxs hI kk
      refine g_br_i (fun _ => ?_) (fun _ => ?_)
      · exact x_l_mark hl hxz hzw hi hxs hI kk
      refine g_br_i (fun _ => ?_) (fun _ => ?_)
      · exact x_l_byteAt hl hxz hzw hi hxs hI kk
      refine g_br_i (fun _ => ?_) (fun _ => ?_)
      · exact x_l_flip hl hxz hzw hi hxs hI kk
      refine g_br_i (fun _ => ?_) (fun _ => ?_)
      · exact x_l_put hl hxz hzw hi hxs hI kk
      refine g_br_i (fun _ => ?_) (fun _ => ?_)
      · exact x_l_cut hl hxz hzw hi hxs hI kk
      refine g_br_i (fun _ => ?_) (fun _ => ?_)
      · exact x_l_choose hl hxz hzw hi hxs hI kk
      refine g_br_i (fun _ => ?_) (fun _ => ?_)
      · exact x_l_read hl hxz hzw hi hxs hI kk
      refine g_br_i (fun _ => ?_) (fun _ => ?_)
      · exact x_l_kept hl hxz hzw hi hxs hI kk
      refine g_br_i (fun _ => ?_) (fun _ => ?_)
      · exact x_l_merged hl hxz hzw hi hxs hI kk
      refine g_br_i (fun _ => ?_) (fun _ => ?_)
      · exact x_l_count hxz hzw hi hxs hI kk
      exact kk S h c5 c6 hI ⟨Nat.le_succ _, Nat.le_add_right _ _⟩
end
theorem z_R0 : z_R z_F0 z_A0 q_0 := by
  refine ⟨⟨⟨rfl, by simp [q_0], rfl⟩, fun x hx => absurd hx (by simp [q_0])⟩, ⟨rfl, 0, by omega, rfl⟩, ⟨rfl, rfl, fun x hx => ?_⟩, ⟨⟨rfl, by simp [q_0], rfl, rfl, rfl⟩, Or.inl rfl⟩, ⟨rfl, rfl⟩, ⟨31, 15, by omega, by omega, rfl, rfl, rfl⟩, ⟨⟨⟨rfl, by simp [q_0], fun j hj => rfl⟩, rfl, rfl, rfl⟩, rfl⟩⟩
  simp only [q_0, List.mem_cons, List.not_mem_nil, or_false, or_self] at hx
  exact ⟨0, by omega, hx⟩
set_option maxRecDepth 100000 in
set_option maxHeartbeats 4000000 in
theorem c_law {l : Launch} {b n0 : Nat} {xs : List Int32} (hl : l.stackTraces = false) (hxs : xs.length ≤ 2048) : g_X l (J_W_law b xs) 0 [some (.ref b), none, none, none, none, none, none] [] ((fun _ => none, n0, 0) : g_H) (fun oc hE => oc = .inl (some (.int 1)) ∧ hE.2.1 ≤ n0 + 74 + 512 ∧ hE.2.2 ≤ 80699 + 3072) := by
  obtain ⟨W1, hW1⟩ : ∃ W : Nat, W = 35112 := ⟨_, rfl⟩
  obtain ⟨W2, hW2⟩ : ∃ W : Nat, W = 45537 := ⟨_, rfl⟩
  refine g_go (ok_W_law b xs) [23] 60 ?_
  refine g_cs_i (c_T_init (a := n0) hW1 (if_pos rfl)) (fun oc h1 hp => ?_)
  obtain ⟨rfl, T1, N1, N2, N3⟩ := hp
  refine ⟨_, rfl, ?_⟩
  refine g_cs_i (c_Z_init (a := h1.2.1) hW2 (if_pos rfl)) (fun oc h2 hp => ?_)
  obtain ⟨rfl, Z2, M1, M2, M3⟩ := hp
  refine ⟨_, rfl, ?_⟩
  refine ⟨by decide, by decide, ?_⟩
  have e1 : h2.2.1 = h1.2.1 + 18 := M1
  have e2 : h1.2.1 = n0 + 55 := N1
  have e3 : h2.2.2 = h1.2.2 + 40 + W2 := M2
  have e4 : h1.2.2 = 0 + 9 + W1 := N2
  have T3 : o_T (g_nw h2 (.inl (.inr (.inl [0]))) 1) n0 q_0 := o_T_rg T1 (fun q q1 q2 => by
    rw [g_nw_ne (by omega), M3 q (by omega)]
    exact if_neg (by omega))
  have Z3 : o_Z (g_nw h2 (.inl (.inr (.inl [0]))) 1) h1.2.1 z_F0 z_A0 := o_Z_rg Z2 (fun q q1 q2 => g_nw_ne (by omega))
  exact g_X_mono (fun oc hE hp => ⟨hp.1, hp.2.1, hp.2.2⟩) (x_law (x := n0) (z := h1.2.1) (w := h2.2.1) hl (by omega) (by omega) hxs (n1 := n0 + 74) (s1 := 80699) 512 0 q_0 (g_nw h2 (.inl (.inr (.inl [0]))) 1) none none (Nat.le_refl _) (by omega) ⟨T3, ⟨z_F0, z_A0, Z3, z_R0⟩, 0, g_nw_eq rfl⟩ (show h2.2.1 + 1 ≤ n0 + 74 + 0 by omega) (show h2.2.2 + 1 ≤ 80699 + 6 * 0 by omega))
