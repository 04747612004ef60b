/-! THE G ROWS, second part: what a frame comes to (g_X), a method's contract (g_Met, g_Run), one instruction (g_S) -/
def g_Gr (h0 h : g_H) : Prop := h0.2.1 ≤ h.2.1 ∧ h0.2.2 ≤ h.2.2 ∧ ∀ a : Nat, h.1 a ≠ none → g_A h0 a
theorem g_Gr_rf (h : g_H) : g_Gr h h := ⟨Nat.le_refl _, Nat.le_refl _, fun _ q => Or.inl q⟩
theorem g_A_mono {h0 h : g_H} (hg : g_Gr h0 h) {q : Nat} (hq : g_A h q) : g_A h0 q := by
  rcases hq with hq | hq
  · exact hg.2.2 q hq
  · exact Or.inr (Nat.le_trans hg.1 hq)
theorem g_Gr_tr {h0 h h1 : g_H} (hg : g_Gr h0 h) (hk : g_Gr h h1) : g_Gr h0 h1 := ⟨Nat.le_trans hg.1 hk.1, Nat.le_trans hg.2.1 hk.2.1, fun a q => g_A_mono hg (hk.2.2 a q)⟩
theorem g_Gr_up {h : g_H} {a : Nat} {x0 x : g_E} (ha : h.1 a = some x0) : g_Gr h (g_up h a x) := by
  refine ⟨Nat.le_refl _, Nat.le_refl _, fun b hb => Or.inl ?_⟩
  by_cases hba : b = a
  · subst hba
    rw [ha]
    exact fun z => by cases z
  · simp only [g_up, if_neg hba] at hb
    exact hb
theorem g_Gr_nw {h : g_H} {x : g_E} {n : Nat} : g_Gr h (g_nw h x n) := by
  refine ⟨Nat.le_succ _, Nat.le_add_right _ _, fun b hb => ?_⟩
  by_cases hba : b = h.2.1
  · exact Or.inr (Nat.le_of_eq hba.symm)
  · simp only [g_nw, if_neg hba] at hb
    exact Or.inl hb
def g_Rm (J : g_J) (mc ms : Nat) : Room := { frames := J.2.2.2.2.1.1, cells := mc, slots := ms, locals := J.2.2.2.2.1.2 }
def g_CX (J : g_J) (D : g_D) (p : Program) (s : State) (m : MethodId) (args : Array Value) (meth : Method) (c : Code) : Prop :=
  p.tables.exec = Jvm.exec ∧ c.code = J.2.1 ∧ c.maxLocals = J.2.2.1 ∧ s.vm.findClass J.1.cls = some m.cls ∧ (∀ w ∈ g_W, w.before args s = true) ∧ g_K D s ∧ meth.sig.returnType = J.2.2.2.1 ∧ meth.locks = false ∧ meth.name = J.1.name ∧ c.exceptionTable.toList.map (fun h => (h.startPc, h.endPc, h.handlerPc, h.catchType)) = J.2.2.2.2.2.1
/-- the script, if the method has one: an int array that isn't among the method's cells -/
def g_Ex (J : g_J) (h0 : g_H) (s : State) : Prop := match J.2.2.2.2.2.2 with
  | none => True
  | some q => va_X q.1 q.2.length (fun j => q.2.getD j 0) s s.heap ∧ q.1 < s.heap.size ∧ ¬ g_A h0 q.1
/-- a static of the JDK of which only 'a reference or null' is said: it lies outside of what may be written -/
def z_St (C n d : String) (A : Nat → Prop) (U : State) (H : Heap) : Prop := ∃ (c : ClassId) (k : Class) (i : Nat) (f : Field) (a : Nat) (cell : Cell) (v : Value), U.vm.findClass C = some c ∧ U.fieldFound? C n d = some (c, k, i, f) ∧ f.isStatic = true ∧ k.statics = some a ∧ H[a]? = some cell ∧ cell.vm.isStatics = true ∧ cell.cls = c ∧ f.slot < cell.slots.size ∧ k.staticTypes[f.slot]? = some f.type ∧ cell.slots[f.slot]? = some v ∧ v.isRef = true ∧ ¬ A a
theorem z_St_mv {C n d : String} {A : Nat → Prop} {u U : State} {H : Heap} (hvm : u.vm.Alike U.vm) (h : z_St C n d A u H) : z_St C n d A U H := by
  obtain ⟨c, k, i, f, a, cell, v, h0, h1, h2, h3, h4, h5, h6, h7, h8, h9⟩ := h
  obtain ⟨k', hi', he⟩ := State.fieldFound?_setVm hvm h1
  exact ⟨c, k', i, f, a, cell, v, by rw [hvm.findClass]; exact h0, hi', h2, by rw [he]; exact h3, h4, h5, h6, h7, by rw [he]; exact h8, h9⟩
theorem z_St_kept {C n d : String} {A : Nat → Prop} {U : State} {H H1 : Heap} (h : z_St C n d A U H) (hq : ∀ a : Nat, a < H.size → ¬ A a → H1[a]? = H[a]?) : z_St C n d A U H1 := by
  obtain ⟨c, k, i, f, a, cell, v, h0, h1, h2, h3, h4, h5, h6, h7, h8, h9, h10, h11⟩ := h
  exact ⟨c, k, i, f, a, cell, v, h0, h1, h2, h3, by rw [hq a (Array.getElem?_eq_some_iff.mp h4).1 h11]; exact h4, h5, h6, h7, h8, h9, h10, h11⟩
theorem z_St_nr {C n d : String} {A B : Nat → Prop} {U : State} {H : Heap} (h : z_St C n d A U H) (hAB : ∀ q, B q → A q) : z_St C n d B U H := by
  obtain ⟨c, k, i, f, a, cell, v, h0, h1, h2, h3, h4, h5, h6, h7, h8, h9, h10, h11⟩ := h
  exact ⟨c, k, i, f, a, cell, v, h0, h1, h2, h3, h4, h5, h6, h7, h8, h9, h10, fun z => h11 (hAB a z)⟩
theorem z_St_of {args : Array Value} {s : State} {C n d : String} {A : Nat → Prop} (hl : (Cond.laysStatic C n d).before args s = true) (h : (Cond.isRef (.static C n d)).before args s = true) (hA : ∀ a : Nat, a < s.heap.size → ¬ A a) : z_St C n d A s s.heap := by
  obtain ⟨c, k, i, f, a, cell, hc, hi, hst, ha, hcell, hs, hcls, hlt, hty⟩ := Cond.laysStatic_spec hl
  cases hv : (Term.static C n d).eval args s none [] s with
  | none => simp [Cond.before, Cond.holds, Cond.value, hv] at h
  | some w =>
    obtain ⟨hst', a', cell', ha', hcell', -, hslot⟩ := Term.static_spec hi hv
    cases ha.symm.trans ha'
    cases hcell.symm.trans hcell'
    refine ⟨c, k, i, f, a, cell, w, hc, hi, hst, ha, hcell, hs, hcls, hlt, hty, hslot, ?_, hA a (Array.getElem?_eq_some_iff.mp hcell).1⟩
    simp only [Cond.before, Cond.holds, Cond.value, hv] at h
    cases w with
    | null => rfl
    | ref t => rfl
    | _ => simp at h
theorem z_St_ls {args : Array Value} {s : State} {C n d : String} {A : Nat → Prop} (h : z_St C n d A s s.heap) : (Cond.laysStatic C n d).before args s = true := by
  obtain ⟨c, k, i, f, a, cell, v, h0, h1, h2, h3, h4, h5, h6, h7, h8, h9, h10, h11⟩ := h
  exact Cond.laysStatic_of h0 h1 h2 h3 h4 h5 h6 h7 h8
theorem z_St_rf {args : Array Value} {s : State} {C n d : String} {A : Nat → Prop} (h : z_St C n d A s s.heap) : (Cond.isRef (.static C n d)).before args s = true := by
  obtain ⟨c, k, i, f, a, cell, v, h0, h1, h2, h3, h4, h5, h6, h7, h8, h9, h10, h11⟩ := h
  have hv : (Term.static C n d).eval args s none [] s = some v := by
    simp [Term.eval, State.fieldNamed?, h1, h2, h3, h4, h5, h9]
  simp only [Cond.before, Cond.holds, Cond.value, hv]
  cases v with
  | null => rfl
  | ref t => rfl
  | _ => simp [Value.isRef] at h10
abbrev z_X1 : String := "java/lang/IndexOutOfBoundsException"
abbrev z_X2 : String := "java/lang/IllegalArgumentException"
abbrev z_X3 : String := "java/lang/IllegalStateException"
abbrev z_nm : List String := ["java/lang/RuntimeException", "java/lang/Exception"]
def z_ws : List Cond := [.declares (Bundle.initS "java/lang/RuntimeException"), .declares (Bundle.initS "java/lang/Exception"), .declares (Bundle.initS "java/lang/Throwable"), .castable z_X1 z_X1, .castable z_X2 z_X2, .castable z_X3 z_X3]
def z_nc : List (String × String) := [(z_X3, z_X2), (z_X2, z_X1)]
def z_str : List (Nat × String) := [(52, "no such thread"), (66, "no such row"), (78, "the pack would be too long"), (105, "no such byte"), (107, "the mask is no byte"), (109, "no byte"), (111, "the pack is full"), (113, "the pack has not so many bytes"), (118, "no such kinds or threads"), (120, "no such byte to read from"), (136, "no such row, or nothing of it")]
theorem z_ws_w {w : Cond} (hw : w ∈ z_ws) {s U : State} (hW : s.WarmedH U.vm) (h : va_Nw w s) : va_Nw w U := by
  simp only [z_ws, List.mem_cons, List.not_mem_nil, or_false] at hw
  rcases hw with rfl | rfl | rfl | rfl | rfl | rfl
  · exact va_Nw.warmD hW h
  · exact va_Nw.warmD hW h
  · exact va_Nw.warmD hW h
  · exact va_Nw.warmC hW h
  · exact va_Nw.warmC hW h
  · exact va_Nw.warmC hW h
theorem z_ws_t {w : Cond} (hw : w ∈ z_ws) : w.onTables = true := by
  simp only [z_ws, List.mem_cons, List.not_mem_nil, or_false] at hw
  rcases hw with rfl | rfl | rfl | rfl | rfl | rfl <;> rfl
abbrev z_sD : String := "[Ljava/lang/StackTraceElement;"
abbrev z_lD : String := "Ljava/util/List;"
abbrev z_tN : String := "java/lang/Throwable"
/-- what a throw, and a catch, need of the state: words, the statics of Throwable, the messages -/
def g_Z (h : g_H) (s : State) : Prop := (∀ w ∈ z_ws, va_Nw w s) ∧ (∀ q ∈ z_nc, va_Nc q.1 q.2 s) ∧ z_St z_tN "UNASSIGNED_STACK" z_sD (g_A h) s s.heap ∧ z_St z_tN "SUPPRESSED_SENTINEL" z_lD (g_A h) s s.heap ∧ ∀ q ∈ z_str, ∃ a, vk_R "TracePacks" q.1 q.2 a s
theorem g_Z_mv {h0 h : g_H} {s U : State} {H : Heap} {locs : List Loc} (hz : g_Z h0 s) (hg : g_Gr h0 h) (hS : va_S (g_A h0) s.heap H locs) (hU : U.heap = H) (hW : s.WarmedH U.vm) : g_Z h U := by
  obtain ⟨h1, h2, h3, h4, h5⟩ := hz
  have st : ∀ {C n d : String}, z_St C n d (g_A h0) s s.heap → z_St C n d (g_A h) U U.heap := fun z => by
    rw [hU]
    exact z_St_nr (z_St_mv hW.alike (z_St_kept z (fun a ha hn => hS.2.1 a ha hn))) (fun q hq => g_A_mono hg hq)
  refine ⟨fun w hw => z_ws_w hw hW (h1 w hw), fun q hq => va_Nc.moved hW.alike (h2 q hq), st h3, st h4, fun q hq => ?_⟩
  obtain ⟨a, ha⟩ := h5 q hq
  exact ⟨a, vk_R.warm hW ha⟩
theorem g_Z_blind {h : g_H} {U : State} {g : JFrame} {mk : MethodId} {a : Array Value} (hz : g_Z h U) : g_Z h (U.calling g mk a) := by
  obtain ⟨h1, h2, h3, h4, h5⟩ := hz
  refine ⟨fun w hw => va_Nw.same (u := U) (z_ws_t hw) rfl (h1 w hw), h2, h3, h4, fun q hq => ?_⟩
  obtain ⟨b, hb⟩ := h5 q hq
  exact ⟨b, vk_R.same (u := U) rfl hb⟩
def g_Out (s : State) (hE : g_H) (o : g_R) (oc : Outcome) (t : State) : Prop := match o with
  | .inl v => oc = .returned v
  | .inr X => ∃ cell : Cell, oc = .threw (hE.2.1 - 1) ∧ s.heap.size ≤ hE.2.1 - 1 ∧ t.heap[hE.2.1 - 1]? = some cell ∧ cell.vm = .none ∧ s.vm.findClass X = some cell.cls
def g_Q (below : List Frame) (D : g_D) (h0 hE : g_H) (o : g_R) (s : State) : State → Prop := fun t =>
  ∃ oc : Outcome, t.status = .running ∧ Ended t below oc ∧ g_Out s hE o oc t ∧ g_Rep D hE t.heap ∧ va_F (g_A h0) s t ∧ ∃ L : List Loc, (s.WarmedH t.vm ∧ s.sameButNew ({ t with vm := s.vm } : State) L (hE.2.1 - h0.2.1) (hE.2.2 - h0.2.2)) ∧ ∀ q ∈ L, g_A h0 q.base
abbrev g_P : Type := g_R → g_H → Prop
abbrev g_C : Type := Nat → g_L → List Value → g_H → Prop
/-- method J at pc, with the locals L, the stack st, the heap h, comes to an end that Post allows -/
def g_X (l : Launch) (J : g_J) (pc : Nat) (L : g_L) (st : List Value) (h : g_H) (Post : g_P) : Prop :=
  ∃ (o : g_R) (hE : g_H), Post o hE ∧ g_Gr h hE ∧
    ∀ (D : g_D) (p : Program) (e : Env) (s : State) (m : MethodId) (args : Array Value) (below : List Frame) (meth : Method) (c : Code) (H : Heap) (locs : List Loc) (h0 : g_H) (ls : Array Slot),
      g_CX J D p s m args meth c → (g_Rep D h0 s.heap ∧ g_Ex J h0 s ∧ g_Z h0 s) → g_Gr h0 h → g_Rep D h H → va_S (g_A h0) s.heap H locs → g_Ls ls J.2.2.1 L →
      W p l e (g_Rm J (hE.2.1 - h0.2.1) (hE.2.2 - h0.2.2)) s m args below meth c H locs (h.2.1 - h0.2.1) (h.2.2 - h0.2.2) (g_Q below D h0 hE o s) (F0 m pc ls st)
theorem g_X_mono {l : Launch} {J : g_J} {pc : Nat} {L : g_L} {st : List Value} {h : g_H} {P Q : g_P} (hPQ : ∀ o hE, P o hE → Q o hE) (k : g_X l J pc L st h P) : g_X l J pc L st h Q := by
  obtain ⟨o, hE, h1, h2⟩ := k
  exact ⟨o, hE, hPQ o hE h1, h2⟩
/-- an instruction that leaves the heap alone -/
theorem g_step {l : Launch} {J : g_J} {pc pc' : Nat} {L L' : g_L} {st st' : List Value} {h : g_H} {Post : g_P}
    (hw : ∀ (D : g_D) (p : Program) (e : Env) (s : State) (m : MethodId) (args : Array Value) (below : List Frame) (meth : Method) (c : Code) (H : Heap) (locs : List Loc) (R : Room) (cells slots : Nat) (Q : State → Prop) (ls : Array Slot), g_CX J D p s m args meth c → g_Rep D h H → g_Ls ls J.2.2.1 L → (∃ h0 : g_H, g_Ex J h0 s ∧ va_S (g_A h0) s.heap H locs) → (R.frames = J.2.2.2.2.1.1 ∧ R.locals = J.2.2.2.2.1.2 ∧ cells ≤ R.cells ∧ slots ≤ R.slots) →
      (∀ ls' : Array Slot, g_Ls ls' J.2.2.1 L' → W p l e R s m args below meth c H locs cells slots Q (F0 m pc' ls' st')) → W p l e R s m args below meth c H locs cells slots Q (F0 m pc ls st))
    (k : g_X l J pc' L' st' h Post) : g_X l J pc L st h Post := by
  obtain ⟨o, hE, h1, h2, k⟩ := k
  exact ⟨o, hE, h1, h2, fun D p e s m args below meth c H locs h0 ls C hR0 hG hR hS hl => hw D p e s m args below meth c H locs _ _ _ _ ls C hR hl ⟨h0, hR0.2.1, hS⟩ ⟨rfl, rfl, Nat.sub_le_sub_right h2.1 _, Nat.sub_le_sub_right h2.2.1 _⟩ (fun ls' hl' => k D p e s m args below meth c H locs h0 ls' C hR0 hG hR hS hl')⟩
/-- an instruction that makes of the heap h the heap h1 -/
theorem g_stepH {l : Launch} {J : g_J} {pc pc' : Nat} {L : g_L} {st st' : List Value} {h h1 : g_H} {Post : g_P} (hg : g_Gr h h1)
    (hw : ∀ (D : g_D) (p : Program) (e : Env) (s : State) (m : MethodId) (args : Array Value) (below : List Frame) (meth : Method) (c : Code) (H : Heap) (locs : List Loc) (R : Room) (cells slots : Nat) (Q : State → Prop) (ls : Array Slot) (h0 : g_H), g_CX J D p s m args meth c → g_Gr h0 h → g_Rep D h H → va_S (g_A h0) s.heap H locs → g_Z h0 s →
      (R.frames = J.2.2.2.2.1.1 ∧ R.locals = J.2.2.2.2.1.2 ∧ ls.size = J.2.2.1) → cells + (h1.2.1 - h.2.1) ≤ R.cells → slots + (h1.2.2 - h.2.2) ≤ R.slots →
      (∀ (H1 : Heap) (locs1 : List Loc), g_Rep D h1 H1 → va_S (g_A h0) s.heap H1 locs1 → W p l e R s m args below meth c H1 locs1 (cells + (h1.2.1 - h.2.1)) (slots + (h1.2.2 - h.2.2)) Q (F0 m pc' ls st')) → W p l e R s m args below meth c H locs cells slots Q (F0 m pc ls st))
    (k : g_X l J pc' L st' h1 Post) : g_X l J pc L st h Post := by
  obtain ⟨o, hE, p1, p2, k⟩ := k
  refine ⟨o, hE, p1, g_Gr_tr hg p2, fun D p e s m args below meth c H locs h0 ls C hR0 hG hR hS hl => hw D p e s m args below meth c H locs _ _ _ _ ls h0 C hG hR hS hR0.2.2 ⟨rfl, rfl, hl.1⟩ ?_ ?_ (fun H1 locs1 hR1 hS1 => ?_)⟩
  · have a1 := hG.1
    have a2 := hg.1
    have a3 := p2.1
    show h.2.1 - h0.2.1 + (h1.2.1 - h.2.1) ≤ hE.2.1 - h0.2.1
    omega
  · have a1 := hG.2.1
    have a2 := hg.2.1
    have a3 := p2.2.1
    show h.2.2 - h0.2.2 + (h1.2.2 - h.2.2) ≤ hE.2.2 - h0.2.2
    omega
  · have a1 := hG.1
    have a2 := hg.1
    have b1 := hG.2.1
    have b2 := hg.2.1
    have e1 : h.2.1 - h0.2.1 + (h1.2.1 - h.2.1) = h1.2.1 - h0.2.1 := by omega
    have e2 : h.2.2 - h0.2.2 + (h1.2.2 - h.2.2) = h1.2.2 - h0.2.2 := by omega
    rw [e1, e2]
    exact k D p e s m args below meth c H1 locs1 h0 ls C hR0 (g_Gr_tr hG hg) hR1 hS1 hl
/-- an instruction that writes cells that are there -/
theorem g_stepU {l : Launch} {J : g_J} {pc pc' : Nat} {L : g_L} {st st' : List Value} {h h1 : g_H} {Post : g_P} (hg : g_Gr h h1) (hz : h1.2 = h.2)
    (hw : ∀ (D : g_D) (p : Program) (e : Env) (s : State) (m : MethodId) (args : Array Value) (below : List Frame) (meth : Method) (c : Code) (H : Heap) (locs : List Loc) (R : Room) (cells slots : Nat) (Q : State → Prop) (ls : Array Slot) (h0 : g_H), g_CX J D p s m args meth c → g_Gr h0 h → g_Rep D h H → va_S (g_A h0) s.heap H locs →
      (∀ (H1 : Heap) (locs1 : List Loc), g_Rep D h1 H1 → va_S (g_A h0) s.heap H1 locs1 → W p l e R s m args below meth c H1 locs1 cells slots Q (F0 m pc' ls st')) → W p l e R s m args below meth c H locs cells slots Q (F0 m pc ls st))
    (k : g_X l J pc' L st' h1 Post) : g_X l J pc L st h Post := by
  obtain ⟨o, hE, p1, p2, k⟩ := k
  refine ⟨o, hE, p1, g_Gr_tr hg p2, fun D p e s m args below meth c H locs h0 ls C hR0 hG hR hS hl => hw D p e s m args below meth c H locs _ _ _ _ ls h0 C hG hR hS (fun H1 locs1 hR1 hS1 => ?_)⟩
  have kk := k D p e s m args below meth c H1 locs1 h0 ls C hR0 (g_Gr_tr hG hg) hR1 hS1 hl
  rw [hz] at kk
  exact kk
theorem g_W_mono {p : Program} {l : Launch} {e : Env} {R : Room} {s : State} {m : MethodId} {args : Array Value} {below : List Frame} {meth : Method} {c : Code} {H : Heap} {locs : List Loc} {cells slots : Nat} {Q Q' : State → Prop} {g : JFrame} (hq : ∀ t, Q t → Q' t) (k : W p l e R s m args below meth c H locs cells slots Q g) : W p l e R s m args below meth c H locs cells slots Q' g := by
  intro T hT X
  obtain ⟨t, a, b⟩ := k T hT X
  exact ⟨t, a, hq t b⟩
/-- a method's contract, and its use -/
def g_Met (l : Launch) (J : g_J) (av : List Value) (h : g_H) (o : g_R) (hE : g_H) : Prop :=
  g_Gr h hE ∧ ∀ D : g_D, MetFree l J.1 (headSpec g_W (g_Rm J (hE.2.1 - h.2.1) (hE.2.2 - h.2.2))) (fun a U => a = av.toArray ∧ g_Rep D h U.heap ∧ g_K D U ∧ g_Z h U) (fun _ _ _ _ _ => True)
    (fun _ s oc t => g_Out s hE o oc t ∧ g_Rep D hE t.heap ∧ va_F (g_A h) s t ∧ ∃ L : List Loc, (s.WarmedH t.vm ∧ s.sameButNew ({ t with vm := s.vm } : State) L (hE.2.1 - h.2.1) (hE.2.2 - h.2.2)) ∧ ∀ q ∈ L, g_A h q.base)
def g_Run (l : Launch) (J : g_J) (av : List Value) (h : g_H) (Post : g_P) : Prop := ∃ (o : g_R) (hE : g_H), g_Met l J av h o hE ∧ Post o hE
theorem g_Run_mono {l : Launch} {J : g_J} {av : List Value} {h : g_H} {P Q : g_P} (k : g_Run l J av h P) (hPQ : ∀ o hE, P o hE → Q o hE) : g_Run l J av h Q := by
  obtain ⟨o, hE, h1, h2⟩ := k
  exact ⟨o, hE, h1, hPQ o hE h2⟩
def g_code (J : g_J) : Cond := match J.2.2.2.2.2.1 with
  | [] => .code J.1 J.2.1 J.2.2.1 J.2.2.2.1
  | hs => .codeWith J.1 J.2.1 J.2.2.1 J.2.2.2.1 hs
theorem g_code_spec {J : g_J} {args : Array Value} {s : State} {m : MethodId} (hn : s.methodNamed? J.1 = some m) (h : (g_code J).before args s = true) :
    ∃ (meth : Method) (c : Code), s.vm.method? m = some meth ∧ meth.code = some c ∧ c.code = J.2.1 ∧ c.maxLocals = J.2.2.1 ∧ meth.sig.returnType = J.2.2.2.1 ∧ meth.locks = false ∧ c.exceptionTable.toList.map (fun h => (h.startPc, h.endPc, h.handlerPc, h.catchType)) = J.2.2.2.2.2.1 := by
  obtain ⟨y, cc, n, r, d, hs, ex⟩ := J
  cases hs with
  | nil =>
    obtain ⟨meth, c, h1, h2, h3, h4, h5, h6, h7, -⟩ := Cond.code_spec hn h
    refine ⟨meth, c, h1, h2, h3, h4, h5, h6, ?_⟩
    have h8 : c.exceptionTable = #[] := by simpa using h7
    rw [h8]
    rfl
  | cons a t =>
    obtain ⟨m', meth, c, h0, h1, h2, h3, h4, h5, h6, h7, -⟩ := Cond.codeWith_spec h
    cases hn.symm.trans h0
    exact ⟨meth, c, h1, h2, h3, h4, h6, h7, h5⟩
set_option maxHeartbeats 1000000 in
theorem g_run_of {l : Launch} {J : g_J} {av : List Value} {h : g_H} {Post : g_P} (L0 : g_L) (hy : plainName J.1.cls = true) (hc : g_code J ∈ g_W) (hl : g_prs 0 L0 = lv_args 0 av) (hle : (lg_sl av).length ≤ J.2.2.1) (hex : J.2.2.2.2.2.2 = none) (k : g_X l J 0 L0 [] h Post) : g_Run l J av h Post := by
  obtain ⟨o, hE, hp, hg, k⟩ := k
  refine ⟨o, hE, ⟨hg, fun D => ?_⟩, hp⟩
  refine MetFree.of_bodyS (code := J.2.1) (maxLocals := J.2.2.1) (ret := J.2.2.2.1) hy ?_ ?_
  · intro args s m hpre hn
    obtain ⟨meth, c, h1, h2, h3, h4, h5, h6, -⟩ := g_code_spec hn (atoms_spec (ws := g_W) hpre _ hc)
    exact ⟨meth, c, h1, h2, h3, h4, h5, h6⟩
  · intro p e s m args below meth c s₁ B hml hP _
    obtain ⟨rfl, hR, hK, hZ⟩ := hP
    have hts := atoms_spec (ws := g_W) B.pre
    have hh0 : s₁.heap = s.heap := by rw [B.state]; rfl
    have X₀ : Stand p l e (g_Rm J (hE.2.1 - h.2.1) (hE.2.2 - h.2.2)) s m av.toArray below meth c s₁ [] 0 0 := Stand.of_body B
    obtain ⟨meth', c', h1, h2, h3, h4, h5, h6, h7⟩ := g_code_spec B.named (hts _ hc)
    cases B.method.symm.trans h1
    cases X₀.code.symm.trans h2
    have C : g_CX J D p s m av.toArray meth c := ⟨B.exec, B.bytes, hml, findClass_of_methodNamed B.named, hts, hK, B.returns, B.notSynchronized, (name_of_methodNamed B.named B.method).1, h7⟩
    have hl0 := lv_entry av hle
    rw [← hl] at hl0
    have kk := k D p e s m av.toArray below meth c s.heap [] h _ C ⟨hR, by unfold g_Ex; rw [hex]; trivial, hZ⟩ (g_Gr_rf h) hR va_S.rf hl0
    rw [Nat.sub_self, Nat.sub_self] at kk
    obtain ⟨t, a1, oc, b1, b2, b3⟩ := kk s₁ hh0 X₀
    rw [lg_entry_eq]
    exact ⟨t, oc, a1, b1, b2, b3⟩
theorem g_toMet {l : Launch} {J : g_J} {av : List Value} {h hE : g_H} {v : Option Value} (hM : g_Met l J av h (.inl v) hE) (D : g_D) : Met l J.1 g_W (g_Rm J (hE.2.1 - h.2.1) (hE.2.2 - h.2.2)) (fun a U => a = av.toArray ∧ g_Rep D h U.heap ∧ g_K D U ∧ g_Z h U) (fun _ s oc t => oc = .returned v ∧ g_Rep D hE t.heap ∧ va_F (g_A h) s t) (hE.2.1 - h.2.1) (hE.2.2 - h.2.2) (g_A h) := by
  intro p e ha hc hk s m args below hf happ hP hK
  obtain ⟨n, oc, h1, h2, h3, h4, h5, h6, L, ⟨h7, h8⟩, h9⟩ := hM.2 D p e ha hc hk s m args below hf happ hP hK
  exact ⟨n, oc, h1, h2, h3, ⟨h4, h5, h6⟩, L, ⟨⟨v, h4⟩, h7, h8⟩, h9⟩
theorem g_blind {av : List Value} {D : g_D} {h : g_H} : FrameBlind (fun a U => a = av.toArray ∧ g_Rep D h U.heap ∧ g_K D U ∧ g_Z h U) := fun a U g mk q => ⟨q.1, q.2.1, va_K.moved (u := U) (U := U.calling g mk a) (Vm.Alike.refl U.vm) q.2.2.1, g_Z_blind q.2.2.2⟩
/-- one instruction at pc, said as a transformer of goals -/
abbrev g_T : Type := Launch → g_L → List Value → g_H → g_C → g_P → Prop
def g_S (J : g_J) (pc : Nat) (T : g_T) : Prop := ∀ (l : Launch) (L : g_L) (st : List Value) (h : g_H) (K : g_C) (Post : g_P), (∀ pc L st h, K pc L st h → g_X l J pc L st h Post) → T l L st h K Post → g_X l J pc L st h Post
def tr_no : g_T := fun _ _ _ _ _ _ => False
theorem so_no {J : g_J} {pc : Nat} : g_S J pc tr_no := fun _ _ _ _ _ _ _ h => h.elim
theorem so_leaf {J : g_J} {q : Nat} {T : g_T} (h : g_S J q T) (pc : Nat) : g_S J pc (bif Nat.beq pc q then T else tr_no) := by
  cases hq : Nat.beq pc q with
  | true =>
    have := Nat.eq_of_beq_eq_true hq
    subst this
    exact h
  | false => exact so_no
theorem so_node {J : g_J} {A B : Nat → g_T} {q : Nat} (hA : ∀ pc, g_S J pc (A pc)) (hB : ∀ pc, g_S J pc (B pc)) (pc : Nat) : g_S J pc (bif Nat.ble pc q then A pc else B pc) := by
  cases Nat.ble pc q with
  | true => exact hA pc
  | false => exact hB pc
def g_mem : List Nat → Nat → Bool
  | [], _ => false
  | a :: l, pc => bif Nat.beq a pc then true else g_mem l pc
/-- n instructions, up to the stops S -/
def g_N (l : Launch) (J : g_J) (cd : Nat → g_T) (S : List Nat) (Post : g_P) : Nat → g_C
  | 0, pc, L, st, h => g_X l J pc L st h Post
  | n + 1, pc, L, st, h => bif g_mem S pc then g_X l J pc L st h Post else cd pc l L st h (g_N l J cd S Post n) Post
theorem g_N_sound {l : Launch} {J : g_J} {cd : Nat → g_T} {S : List Nat} {Post : g_P} (hc : ∀ pc, g_S J pc (cd pc)) : ∀ (n pc : Nat) (L : g_L) (st : List Value) (h : g_H), g_N l J cd S Post n pc L st h → g_X l J pc L st h Post
  | 0, pc, L, st, h, k => k
  | n + 1, pc, L, st, h, k => by
    unfold g_N at k
    cases hm : g_mem S pc with
    | true =>
      rw [hm] at k
      exact k
    | false =>
      rw [hm] at k
      exact hc pc l L st h _ Post (fun pc L st h k => g_N_sound hc n pc L st h k) k
theorem g_go {l : Launch} {J : g_J} {cd : Nat → g_T} {Post : g_P} (hc : ∀ pc, g_S J pc (cd pc)) (S : List Nat) (n : Nat) {pc : Nat} {L : g_L} {st : List Value} {h : g_H} (k : cd pc l L st h (g_N l J cd S Post n) Post) : g_X l J pc L st h Post :=
  hc pc l L st h _ Post (fun pc L st h k => g_N_sound hc n pc L st h k) k
