/-! THE G ROWS, fifth part: calls -/

def g_ok (J J' : g_J) (n : Nat) : Prop := Cond.code J'.1 J'.2.1 J'.2.2.1 J'.2.2.2.1 ∈ g_W ∧ J'.2.2.2.2.1.1 + 1 ≤ J.2.2.2.2.1.1 ∧ 8 + (J'.2.2.1 + 11) + J'.2.2.2.2.1.2 ≤ J.2.2.2.2.1.2 ∧ Cond.initialized J'.1.cls ∈ g_W ∧ (J'.1.cls ≠ "java/lang/invoke/MethodHandle" ∧ J'.1.cls ≠ "java/lang/invoke/VarHandle") ∧ (parseMethodDescriptor J'.1.desc).map (fun d => d.parameters.length) = some n
theorem g_okB {J J' : g_J} {n mc ms idx : Nat} {R : Room} {D : g_D} {p : Program} {s : State} {m : MethodId} {args : Array Value} {meth : Method} {c : Code} (hok : g_ok J J' n) (hgd : ∀ w ∈ g_W, g_Gd w) (C : g_CX J D p s m args meth c) (hM : R.frames = J.2.2.2.2.1.1 ∧ R.locals = J.2.2.2.2.1.2) (hl : Cond.methodLink J.1.cls idx J'.1 ∈ g_W) :
    CallB R s args J.1.cls idx J'.1 J'.2.1 J'.2.2.1 J'.2.2.2.1 g_W (g_Rm J' mc ms) mc ms n := by
  obtain ⟨h1, h2, h3, h4, h5, h6⟩ := hok
  have hts := C.2.2.2.2.1
  refine ⟨rfl, rfl, ?_, ?_, fun w hw a' U hW => hgd w hw args a' s U hW (hts w hw), h1, hts _ h1, hts _ h4, h5, fun sig hs => ?_, hts _ hl⟩
  · show J'.2.2.2.2.1.1 + 1 ≤ R.frames
    rw [hM.1]
    exact h2
  · show 8 + (J'.2.2.1 + 11) + J'.2.2.2.2.1.2 ≤ R.locals
    rw [hM.2]
    exact h3
  · rw [hs] at h6
    exact (Option.some.inj h6).symm
theorem g_okN {J J' : g_J} {n mc ms idx : Nat} {host : String} {R : Room} {D : g_D} {p : Program} {s : State} {m : MethodId} {args : Array Value} {meth : Method} {c : Code} (hok : g_ok J J' n) (hgd : ∀ w ∈ g_W, g_Gd w) (C : g_CX J D p s m args meth c) (hM : R.frames = J.2.2.2.2.1.1 ∧ R.locals = J.2.2.2.2.1.2) (hl : Cond.methodLinkNest J.1.cls idx J'.1 host ∈ g_W) :
    va_CN R s args J.1.cls idx J'.1 host J'.2.1 J'.2.2.1 J'.2.2.2.1 g_W (g_Rm J' mc ms) mc ms n := by
  obtain ⟨h1, h2, h3, h4, h5, h6⟩ := hok
  have hts := C.2.2.2.2.1
  refine ⟨⟨rfl, rfl, ?_, ?_, fun w hw a' U hW => hgd w hw args a' s U hW (hts w hw), h1⟩, hts _ h1, hts _ h4, h5, fun sig hs => ?_, hts _ hl⟩
  · show J'.2.2.2.2.1.1 + 1 ≤ R.frames
    rw [hM.1]
    exact h2
  · show 8 + (J'.2.2.1 + 11) + J'.2.2.2.2.1.2 ≤ R.locals
    rw [hM.2]
    exact h3
  · rw [hs] at h6
    exact (Option.some.inj h6).symm
theorem g_call {l : Launch} {J J' : g_J} {pc : Nat} {L : g_L} {st rest : List Value} {h : g_H} {Post : g_P} {av : List Value}
    (hw : ∀ (D : g_D) (p : Program) (e : Env) (s : State) (m : MethodId) (args : Array Value) (below : List Frame) (meth : Method) (c : Code) (H : Heap) (locs : List Loc) (R : Room) (cells slots : Nat) (ls : Array Slot) (v : Option Value) (hE : g_H), g_CX J D p s m args meth c → g_Rep D h H → (∀ U : State, U.heap = H → s.WarmedH U.vm → g_Z h U) → (R.frames = J.2.2.2.2.1.1 ∧ R.locals = J.2.2.2.2.1.2 ∧ ls.size = J.2.2.1) → cells + (hE.2.1 - h.2.1) ≤ R.cells → slots + (hE.2.2 - h.2.2) ≤ R.slots → g_Met l J' av h (.inl v) hE →
      va_Run p l e R s m args below meth c H locs cells slots (hE.2.1 - h.2.1) (hE.2.2 - h.2.2) (F0 m pc ls st) rest (fun s oc t => oc = .returned v ∧ g_Rep D hE t.heap ∧ va_F (g_A h) s t) (g_A h))
    (hr : g_Run l J' av h (fun o hE => ∃ v, o = .inl v ∧ g_X l J (pc + 3) L (v.toList ++ rest) hE Post)) : g_X l J pc L st h Post := by
  obtain ⟨o, hE, hM, v, rfl, k⟩ := hr
  refine g_stepH hM.1 (fun D p e s m args below meth c H locs R cells slots Q ls h0 C hG hR hS hZ hm hc1 hc2 kk => ?_) k
  intro T hT X
  obtain ⟨v', st₀, t, T', L', e0, X', hL, e1, e2, ⟨hv, hRe, hz, hk⟩, stp⟩ := hw D p e s m args below meth c H locs R cells slots ls v hE C hR (fun U hU hW => g_Z_mv hZ hG hS hU hW) hm hc1 hc2 hM T hT X
  cases hv
  rw [e0] at hz hk
  obtain ⟨t2, a1, b1⟩ := kk T'.heap (locs ++ L') (by rw [e1]; exact hRe) ⟨Nat.le_trans hS.1 (by rw [e1]; exact hz), fun q h1 h2 => by rw [e1, hk q (Nat.lt_of_lt_of_le h1 hS.1) (fun z => h2 (g_A_mono hG z))]; exact hS.2.1 q h1 h2, fun q hq => by
      rcases List.mem_append.mp hq with z | z
      · exact hS.2.2 q z
      · exact g_A_mono hG (hL q z)⟩ T' rfl X'
  exact ⟨t2, stp t2 a1, b1⟩
theorem g_cats : ∀ (st : List Value), (st.map fun v => v.category).sum ≤ 2 * st.length
  | [] => Nat.le_refl _
  | v :: t => by
    have h1 := g_cats t
    have h2 := lv_cat v
    simp only [List.map_cons, List.sum_cons, List.length_cons]
    omega
theorem g_rest {m : MethodId} {pc : Nat} {ls : Array Slot} {rest st : List Value} (h : Nat.ble rest.length 4 = true) : 2 * (F0 m pc ls st).monitorRoom + (rest.map fun v => v.category).sum ≤ 8 := by
  have h1 := g_cats rest
  have h2 := Nat.le_of_ble_eq_true h
  show 2 * 0 + _ ≤ 8
  omega
theorem g_pre {s : State} {H : Heap} {D : g_D} {h : g_H} {av : List Value} (hK : g_K D s) (hR : g_Rep D h H) (hZ : ∀ U : State, U.heap = H → s.WarmedH U.vm → g_Z h U) : ∀ U : State, U.heap = H → s.WarmedH U.vm → (fun (a : Array Value) (U : State) => a = av.toArray ∧ g_Rep D h U.heap ∧ g_K D U ∧ g_Z h U) av.toArray U :=
  fun U hU hW => ⟨rfl, by rw [hU]; exact hR, va_K.moved hW.alike hK, hZ U hU hW⟩
def g_cv (l : Launch) (J' : g_J) (b ci : Nat) (h : g_H) (As : List Value) (P : Option Value → g_H → Prop) : Prop := (∃ fs : List Value, h.1 b = some (.inr (ci, fs))) ∧ g_Run l J' (.ref b :: As) h (fun o hE => ∃ v, o = .inl v ∧ P v hE)
theorem g_cv_i {l : Launch} {J' : g_J} {b ci : Nat} {h : g_H} {As : List Value} {P : Option Value → g_H → Prop} {fs : List Value} {Q : g_P} (h1 : h.1 b = some (.inr (ci, fs))) (h2 : g_Run l J' (.ref b :: As) h Q) (h3 : ∀ o hE, Q o hE → ∃ v, o = .inl v ∧ P v hE) : g_cv l J' b ci h As P := ⟨⟨fs, h1⟩, g_Run_mono h2 h3⟩
def g_cs (l : Launch) (J' : g_J) (h : g_H) (As : List Value) (P : Option Value → g_H → Prop) : Prop := g_Run l J' As h (fun o hE => ∃ v, o = .inl v ∧ P v hE)
theorem g_cs_i {l : Launch} {J' : g_J} {h : g_H} {As : List Value} {P : Option Value → g_H → Prop} {Q : g_P} (h2 : g_Run l J' As h Q) (h3 : ∀ o hE, Q o hE → ∃ v, o = .inl v ∧ P v hE) : g_cs l J' h As P := g_Run_mono h2 h3
def tr_cV (J' : g_J) (ci n nx : Nat) : g_T := fun l L st h K _ => match st.drop n with
  | .ref b :: rest => bif Nat.ble rest.length 4 then g_cv l J' b ci h (st.take n).reverse (fun v hE => K nx L (v.toList ++ rest) hE) else False
  | _ => False
theorem g_split {st rest : List Value} {n b : Nat} (h : st.drop n = .ref b :: rest) : st = (st.take n).reverse.reverse ++ .ref b :: rest ∧ (st.take n).reverse.length = n := by
  have h1 : n < st.length := by
    rcases Nat.lt_or_ge n st.length with q | q
    · exact q
    · rw [List.drop_eq_nil_of_le q] at h
      cases h
  refine ⟨by rw [List.reverse_reverse, ← h, List.take_append_drop], ?_⟩
  rw [List.length_reverse, List.length_take]
  omega
theorem so_cV {J J' : g_J} {pc nx ci n idx N : Nat} {T : u_T} (hgd : ∀ w ∈ g_W, g_Gd w) (hd : decode J.2.1 pc = .ok (.invokevirtual idx, 3)) (hok : g_ok J J' n) (hc : vwCl[ci]? = some (J'.1.cls, T, N)) (hl : Cond.methodLink J.1.cls idx J'.1 ∈ g_W) (hi : Cond.instanceMethod J'.1 ∈ g_W) (hs : Cond.selects J'.1.cls J'.1 J'.1 ∈ g_W) (hn : pc + 3 = nx) : g_S J pc (tr_cV J' ci n nx) := by
  subst hn
  intro l L st h K Post hK hT
  unfold tr_cV at hT
  split at hT
  next b rest hst =>
    cases hr : Nat.ble rest.length 4 with
    | false =>
      rw [hr] at hT
      exact hT.elim
    | true =>
      rw [hr] at hT
      obtain ⟨⟨fs, hb⟩, hT⟩ := hT
      obtain ⟨e1, e2⟩ := g_split hst
      refine g_call (rest := rest) (fun D p e s m args below meth c H locs R cells slots ls v hE C hR hZ hm hc1 hc2 hM => ?_) (g_Run_mono hT (fun o hE hq => by obtain ⟨v, hv, hk⟩ := hq; exact ⟨v, hv, hK _ _ _ _ hk⟩))
      exact va_runV (C := J'.1.cls) ⟨C.1, C.2.1, C.2.2.1, C.2.2.2.1, C.2.2.2.2.1⟩ (g_toMet hM D) ⟨g_okB hok hgd C ⟨hm.1, hm.2.1⟩ hl, C.2.2.2.2.1 _ hi, C.2.2.2.2.1 _ hs⟩ ⟨g_blind, va_recv C.2.2.2.2.2.1 (g_one hR hb) hc (q0 := 0) rfl, g_pre C.2.2.2.2.2.1 hR hZ⟩ rfl e2 hm.2.2 e1 (g_rest hr) hd ⟨hc1, hc2⟩
  next => exact hT.elim
theorem so_cVN {J J' : g_J} {pc nx ci n idx N : Nat} {T : u_T} {host : String} (hgd : ∀ w ∈ g_W, g_Gd w) (hd : decode J.2.1 pc = .ok (.invokevirtual idx, 3)) (hok : g_ok J J' n) (hc : vwCl[ci]? = some (J'.1.cls, T, N)) (hl : Cond.methodLinkNest J.1.cls idx J'.1 host ∈ g_W) (hi : Cond.instanceMethod J'.1 ∈ g_W) (hs : Cond.selects J'.1.cls J'.1 J'.1 ∈ g_W) (hn : pc + 3 = nx) : g_S J pc (tr_cV J' ci n nx) := by
  subst hn
  intro l L st h K Post hK hT
  unfold tr_cV at hT
  split at hT
  next b rest hst =>
    cases hr : Nat.ble rest.length 4 with
    | false =>
      rw [hr] at hT
      exact hT.elim
    | true =>
      rw [hr] at hT
      obtain ⟨⟨fs, hb⟩, hT⟩ := hT
      obtain ⟨e1, e2⟩ := g_split hst
      refine g_call (rest := rest) (fun D p e s m args below meth c H locs R cells slots ls v hE C hR hZ hm hc1 hc2 hM => ?_) (g_Run_mono hT (fun o hE hq => by obtain ⟨v, hv, hk⟩ := hq; exact ⟨v, hv, hK _ _ _ _ hk⟩))
      exact va_runVN (C := J'.1.cls) ⟨C.1, C.2.1, C.2.2.1, C.2.2.2.1, C.2.2.2.2.1⟩ (g_toMet hM D) ⟨g_okN hok hgd C ⟨hm.1, hm.2.1⟩ hl, C.2.2.2.2.1 _ hi, C.2.2.2.2.1 _ hs⟩ ⟨g_blind, va_recv C.2.2.2.2.2.1 (g_one hR hb) hc (q0 := 0) rfl, g_pre C.2.2.2.2.2.1 hR hZ⟩ rfl e2 hm.2.2 e1 (g_rest hr) hd ⟨hc1, hc2⟩
  next => exact hT.elim
def tr_cI (J' : g_J) (n nx : Nat) : g_T := fun l L st h K _ => match st.drop n with
  | .ref b :: rest => bif Nat.ble rest.length 4 then g_cs l J' h (.ref b :: (st.take n).reverse) (fun v hE => K nx L (v.toList ++ rest) hE) else False
  | _ => False
theorem so_cI {J J' : g_J} {pc nx n idx : Nat} (hgd : ∀ w ∈ g_W, g_Gd w) (hd : decode J.2.1 pc = .ok (.invokespecial idx, 3)) (hok : g_ok J J' n) (hret : J'.2.2.2.1 = none) (hnm : J'.1.name = "<init>") (hl : Cond.methodLink J.1.cls idx J'.1 ∈ g_W) (hi : Cond.instanceMethod J'.1 ∈ g_W) (hn : pc + 3 = nx) : g_S J pc (tr_cI J' n nx) := by
  subst hn
  intro l L st h K Post hK hT
  unfold tr_cI at hT
  split at hT
  next b rest hst =>
    cases hr : Nat.ble rest.length 4 with
    | false =>
      rw [hr] at hT
      exact hT.elim
    | true =>
      rw [hr] at hT
      obtain ⟨e1, e2⟩ := g_split hst
      refine g_call (rest := rest) (fun D p e s m args below meth c H locs R cells slots ls v hE C hR hZ hm hc1 hc2 hM => ?_) (g_Run_mono hT (fun o hE hq => by obtain ⟨v, hv, hk⟩ := hq; exact ⟨v, hv, hK _ _ _ _ hk⟩))
      have hB := g_okB (mc := hE.2.1 - h.2.1) (ms := hE.2.2 - h.2.2) hok hgd C ⟨hm.1, hm.2.1⟩ hl
      rw [hret] at hB
      exact va_runI ⟨C.1, C.2.1, C.2.2.1, C.2.2.2.1, C.2.2.2.2.1⟩ (g_toMet hM D) ⟨hB, hnm, C.2.2.2.2.1 _ hi⟩ ⟨g_blind, g_pre C.2.2.2.2.2.1 hR hZ⟩ rfl e2 hm.2.2 e1 (g_rest hr) hd ⟨hc1, hc2⟩
  next => exact hT.elim
theorem so_cIN {J J' : g_J} {pc nx n idx : Nat} {host : String} (hgd : ∀ w ∈ g_W, g_Gd w) (hd : decode J.2.1 pc = .ok (.invokespecial idx, 3)) (hok : g_ok J J' n) (hret : J'.2.2.2.1 = none) (hnm : J'.1.name = "<init>") (hl : Cond.methodLinkNest J.1.cls idx J'.1 host ∈ g_W) (hi : Cond.instanceMethod J'.1 ∈ g_W) (hn : pc + 3 = nx) : g_S J pc (tr_cI J' n nx) := by
  subst hn
  intro l L st h K Post hK hT
  unfold tr_cI at hT
  split at hT
  next b rest hst =>
    cases hr : Nat.ble rest.length 4 with
    | false =>
      rw [hr] at hT
      exact hT.elim
    | true =>
      rw [hr] at hT
      obtain ⟨e1, e2⟩ := g_split hst
      refine g_call (rest := rest) (fun D p e s m args below meth c H locs R cells slots ls v hE C hR hZ hm hc1 hc2 hM => ?_) (g_Run_mono hT (fun o hE hq => by obtain ⟨v, hv, hk⟩ := hq; exact ⟨v, hv, hK _ _ _ _ hk⟩))
      have hB := g_okN (mc := hE.2.1 - h.2.1) (ms := hE.2.2 - h.2.2) hok hgd C ⟨hm.1, hm.2.1⟩ hl
      rw [hret] at hB
      exact va_runIN ⟨C.1, C.2.1, C.2.2.1, C.2.2.2.1, C.2.2.2.2.1⟩ (g_toMet hM D) ⟨hB, hnm, C.2.2.2.2.1 _ hi⟩ ⟨g_blind, g_pre C.2.2.2.2.2.1 hR hZ⟩ rfl e2 hm.2.2 e1 (g_rest hr) hd ⟨hc1, hc2⟩
  next => exact hT.elim
def tr_cS (J' : g_J) (n nx : Nat) : g_T := fun l L st h K _ => bif Nat.ble n st.length && Nat.ble (st.drop n).length 4 then g_cs l J' h (st.take n).reverse (fun v hE => K nx L (v.toList ++ st.drop n) hE) else False
theorem so_cS {J J' : g_J} {pc nx n idx : Nat} (hgd : ∀ w ∈ g_W, g_Gd w) (hd : decode J.2.1 pc = .ok (.invokestatic idx, 3)) (hok : g_ok J J' n) (hl : Cond.methodLink J.1.cls idx J'.1 ∈ g_W) (hi : Cond.static J'.1 ∈ g_W) (hn : pc + 3 = nx) : g_S J pc (tr_cS J' n nx) := by
  subst hn
  intro l L st h K Post hK hT
  unfold tr_cS at hT
  cases hr : Nat.ble n st.length && Nat.ble (st.drop n).length 4 with
  | false =>
    rw [hr] at hT
    exact hT.elim
  | true =>
    rw [hr] at hT
    rw [Bool.and_eq_true] at hr
    have h1 := Nat.le_of_ble_eq_true hr.1
    have e1 : st = (st.take n).reverse.reverse ++ st.drop n := by rw [List.reverse_reverse, List.take_append_drop]
    have e2 : (st.take n).reverse.length = n := by
      rw [List.length_reverse, List.length_take]
      omega
    refine g_call (rest := st.drop n) (fun D p e s m args below meth c H locs R cells slots ls v hE C hR hZ hm hc1 hc2 hM => ?_) (g_Run_mono hT (fun o hE hq => by obtain ⟨v, hv, hk⟩ := hq; exact ⟨v, hv, hK _ _ _ _ hk⟩))
    exact va_runS ⟨C.1, C.2.1, C.2.2.1, C.2.2.2.1, C.2.2.2.2.1⟩ (g_toMet hM D) ⟨g_okB hok hgd C ⟨hm.1, hm.2.1⟩ hl, C.2.2.2.2.1 _ hi⟩ ⟨g_blind, g_pre C.2.2.2.2.2.1 hR hZ⟩ rfl e2 hm.2.2 e1 (g_rest hr.2) hd ⟨hc1, hc2⟩
theorem so_cSN {J J' : g_J} {pc nx n idx : Nat} {host : String} (hgd : ∀ w ∈ g_W, g_Gd w) (hd : decode J.2.1 pc = .ok (.invokestatic idx, 3)) (hok : g_ok J J' n) (hl : Cond.methodLinkNest J.1.cls idx J'.1 host ∈ g_W) (hi : Cond.static J'.1 ∈ g_W) (hn : pc + 3 = nx) : g_S J pc (tr_cS J' n nx) := by
  subst hn
  intro l L st h K Post hK hT
  unfold tr_cS at hT
  cases hr : Nat.ble n st.length && Nat.ble (st.drop n).length 4 with
  | false =>
    rw [hr] at hT
    exact hT.elim
  | true =>
    rw [hr] at hT
    rw [Bool.and_eq_true] at hr
    have h1 := Nat.le_of_ble_eq_true hr.1
    have e1 : st = (st.take n).reverse.reverse ++ st.drop n := by rw [List.reverse_reverse, List.take_append_drop]
    have e2 : (st.take n).reverse.length = n := by
      rw [List.length_reverse, List.length_take]
      omega
    refine g_call (rest := st.drop n) (fun D p e s m args below meth c H locs R cells slots ls v hE C hR hZ hm hc1 hc2 hM => ?_) (g_Run_mono hT (fun o hE hq => by obtain ⟨v, hv, hk⟩ := hq; exact ⟨v, hv, hK _ _ _ _ hk⟩))
    exact va_runSN ⟨C.1, C.2.1, C.2.2.1, C.2.2.2.1, C.2.2.2.2.1⟩ (g_toMet hM D) ⟨g_okN hok hgd C ⟨hm.1, hm.2.1⟩ hl, C.2.2.2.2.1 _ hi, trivial⟩ ⟨g_blind, g_pre C.2.2.2.2.2.1 hR hZ⟩ rfl e2 hm.2.2 e1 (g_rest hr.2) hd ⟨hc1, hc2⟩
/-! Object's own constructor; the greater and the smaller of two -/
def tr_oi (nx : Nat) : g_T := fun _ L st h K _ => match st with
  | .ref _ :: rest => bif Nat.ble rest.length 4 then K nx L rest h else False
  | _ => False
theorem so_oi {J : g_J} {pc nx idx : Nat} (hd : decode J.2.1 pc = .ok (.invokespecial idx, 3)) (hl : Cond.methodLink J.1.cls idx objectInit ∈ g_W) (hi : Cond.instanceMethod objectInit ∈ g_W) (hc : Cond.code objectInit ⟨#[0xb1]⟩ 1 none ∈ g_W) (hdp : 1 ≤ J.2.2.2.2.1.1 ∧ 24 ≤ J.2.2.2.2.1.2) (hn : pc + 3 = nx) : g_S J pc (tr_oi nx) := by
  subst hn
  intro l L st h K Post hK hT
  unfold tr_oi at hT
  split at hT
  next a rest =>
    cases hr : Nat.ble rest.length 4 with
    | false =>
      rw [hr] at hT
      exact hT.elim
    | true =>
      rw [hr] at hT
      refine g_step (fun D p e s m args below meth c H locs R cells slots Q ls C hR hl' hE0 hM kk => ?_) (hK _ _ _ _ hT)
      have h8 := g_rest (m := m) (pc := pc) (ls := ls) (st := .ref a :: rest) hr
      exact W.objInit C.1 C.2.1 C.2.2.2.1 (C.2.2.2.2.1 _ hl) (C.2.2.2.2.1 _ hi) (C.2.2.2.2.1 _ hc) rfl (hl'.1.trans C.2.2.1.symm) rfl hd (by rw [hM.1]; exact hdp.1) (by rw [hM.2.1]; have := hdp.2; omega) (kk ls hl')
  next => exact hT.elim
def tr_mx (nx : Nat) : g_T := fun _ L st h K _ => match st with
  | .int y :: .int x :: rest => bif Nat.ble rest.length 4 then K nx L (.int (if x < y then y else x) :: rest) h else False
  | _ => False
theorem so_mx {J : g_J} {pc nx idx : Nat} (hd : decode J.2.1 pc = .ok (.invokestatic idx, 3)) (hl : Cond.methodLink J.1.cls idx Lib.Math.max.name ∈ g_W) (hi : Cond.static Lib.Math.max.name ∈ g_W) (hini : Cond.initialized "java/lang/Math" ∈ g_W) (hc : Cond.code Lib.Math.max.name Lib.Math.max.code 2 (some .int) ∈ g_W) (hdp : 1 ≤ J.2.2.2.2.1.1 ∧ 24 ≤ J.2.2.2.2.1.2) (hn : pc + 3 = nx) : g_S J pc (tr_mx nx) := by
  subst hn
  intro l L st h K Post hK hT
  unfold tr_mx at hT
  split at hT
  next y x rest =>
    cases hr : Nat.ble rest.length 4 with
    | false =>
      rw [hr] at hT
      exact hT.elim
    | true =>
      rw [hr] at hT
      refine g_step (fun D p e s m args below meth c H locs R cells slots Q ls C hR hl' hE0 hM kk => ?_) (hK _ _ _ _ hT)
      have h8 := g_cats rest
      have h9 := Nat.le_of_ble_eq_true hr
      exact va_mmax C.1 C.2.1 (C.2.2.1.trans hl'.1.symm) C.2.2.2.1 (C.2.2.2.2.1 _ hl) (C.2.2.2.2.1 _ hi) (C.2.2.2.2.1 _ hini) (C.2.2.2.2.1 _ hc) (by rw [hM.1]; exact hdp.1) (by rw [hM.2.1]; have := hdp.2; omega) hM.2.2.1 hM.2.2.2 hd (kk ls hl')
  next => exact hT.elim
def tr_mn (nx : Nat) : g_T := fun _ L st h K _ => match st with
  | .int y :: .int x :: rest => bif Nat.ble rest.length 4 then K nx L (.int (if y < x then y else x) :: rest) h else False
  | _ => False
theorem so_mn {J : g_J} {pc nx idx : Nat} (hd : decode J.2.1 pc = .ok (.invokestatic idx, 3)) (hl : Cond.methodLink J.1.cls idx Lib.Math.min.name ∈ g_W) (hi : Cond.static Lib.Math.min.name ∈ g_W) (hini : Cond.initialized "java/lang/Math" ∈ g_W) (hc : Cond.code Lib.Math.min.name Lib.Math.min.code 2 (some .int) ∈ g_W) (hdp : 1 ≤ J.2.2.2.2.1.1 ∧ 24 ≤ J.2.2.2.2.1.2) (hn : pc + 3 = nx) : g_S J pc (tr_mn nx) := by
  subst hn
  intro l L st h K Post hK hT
  unfold tr_mn at hT
  split at hT
  next y x rest =>
    cases hr : Nat.ble rest.length 4 with
    | false =>
      rw [hr] at hT
      exact hT.elim
    | true =>
      rw [hr] at hT
      refine g_step (fun D p e s m args below meth c H locs R cells slots Q ls C hR hl' hE0 hM kk => ?_) (hK _ _ _ _ hT)
      have h8 := g_cats rest
      have h9 := Nat.le_of_ble_eq_true hr
      exact va_mmin C.1 C.2.1 (C.2.2.1.trans hl'.1.symm) C.2.2.2.1 (C.2.2.2.2.1 _ hl) (C.2.2.2.2.1 _ hi) (C.2.2.2.2.1 _ hini) (C.2.2.2.2.1 _ hc) (by rw [hM.1]; exact hdp.1) (by rw [hM.2.1]; have := hdp.2; omega) hM.2.2.1 hM.2.2.2 hd (kk ls hl')
  next => exact hT.elim
/-! the script -/
theorem g_Ex_of {J : g_J} {h0 : g_H} {s : State} {b : Nat} {xs : List Int32} (hx : J.2.2.2.2.2.2 = some (b, xs)) (h : g_Ex J h0 s) : va_X b xs.length (fun j => xs.getD j 0) s s.heap ∧ b < s.heap.size ∧ ¬ g_A h0 b := by
  unfold g_Ex at h
  rw [hx] at h
  exact h
def tr_sl (b : Nat) (xs : List Int32) (nx : Nat) : g_T := fun _ L st h K _ => match st with
  | .int i :: .ref a :: st' => a = b ∧ vp_in i xs.length ∧ K nx L (.int (xs.getD i.toNatClampNeg 0) :: st') h
  | _ => False
theorem so_sl {J : g_J} {pc nx b : Nat} {xs : List Int32} (hx : J.2.2.2.2.2.2 = some (b, xs)) (hd : decode J.2.1 pc = .ok (.iaload, 1)) (hn : pc + 1 = nx) : g_S J pc (tr_sl b xs nx) := by
  subst hn
  intro l L st h K Post hK hT
  unfold tr_sl at hT
  split at hT
  next i a st' =>
    obtain ⟨rfl, h2, h3⟩ := hT
    refine g_step (fun D p e s m args below meth c H locs R cells slots Q ls C hR hl hE0 hM kk => ?_) (hK _ _ _ _ h3)
    obtain ⟨h0, hex, hS⟩ := hE0
    obtain ⟨hX, hb, hA⟩ := g_Ex_of hx hex
    exact va_sld C.1 C.2.1 hX hb hA hS h2 hd (kk ls hl)
  next => exact hT.elim
def tr_sn (b : Nat) (xs : List Int32) (nx : Nat) : g_T := fun _ L st h K _ => match st with
  | .ref a :: st' => a = b ∧ K nx L (.int (Int32.ofNat xs.length) :: st') h
  | _ => False
theorem so_sn {J : g_J} {pc nx b : Nat} {xs : List Int32} (hx : J.2.2.2.2.2.2 = some (b, xs)) (hd : decode J.2.1 pc = .ok (.arraylength, 1)) (hn : pc + 1 = nx) : g_S J pc (tr_sn b xs nx) := by
  subst hn
  intro l L st h K Post hK hT
  unfold tr_sn at hT
  split at hT
  next a st' =>
    obtain ⟨rfl, h3⟩ := hT
    refine g_step (fun D p e s m args below meth c H locs R cells slots Q ls C hR hl hE0 hM kk => ?_) (hK _ _ _ _ h3)
    obtain ⟨h0, hex, hS⟩ := hE0
    obtain ⟨hX, hb, hA⟩ := g_Ex_of hx hex
    exact va_slen C.1 C.2.1 hX hb hA hS hd (kk ls hl)
  next => exact hT.elim
