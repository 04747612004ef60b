/-! THE G ROWS, sixth part: throws and catches -/
def z_sts : List Cond := [.laysStatic z_tN "UNASSIGNED_STACK" z_sD, .laysStatic z_tN "SUPPRESSED_SENTINEL" z_lD, .isRef (.static z_tN "UNASSIGNED_STACK" z_sD), .isRef (.static z_tN "SUPPRESSED_SENTINEL" z_lD)]
theorem z_at1 : ∀ a ∈ Bundle.ownAtoms "TracePacks" 54 z_X1 z_nm, (a ∈ tables_1 ∧ g_gw a = true) ∨ a ∈ z_ws ∨ a ∈ z_sts := by decide +kernel
theorem z_at2 : ∀ a ∈ Bundle.ownAtoms "TracePacks" 68 z_X2 z_nm, (a ∈ tables_1 ∧ g_gw a = true) ∨ a ∈ z_ws ∨ a ∈ z_sts := by decide +kernel
theorem z_at3 : ∀ a ∈ Bundle.ownAtoms "TracePacks" 80 z_X3 z_nm, (a ∈ tables_1 ∧ g_gw a = true) ∨ a ∈ z_ws ∨ a ∈ z_sts := by decide +kernel
section
variable {p : Program} {l : Launch} {e : Env} {R : Room} {s : State} {m : MethodId} {args : Array Value} {below : List Frame} {meth : Method} {c : Code} {T : State} {locs : List Loc} {cells slots : Nat}
theorem z_rebase (X : Stand p l e R s m args below meth c T locs cells slots) {R' : Room} (hf : R'.frames = R.frames) (hl : R'.locals = R.locals) (hc : cells + R'.cells ≤ R.cells) (hs : slots + R'.slots ≤ R.slots) :
    Stand p l e R' (T.setFrames (.invoking m args :: below)) m args below meth c T [] 0 0 := by
  obtain ⟨g₀, hr⟩ := X.frames_eq
  obtain ⟨th, hth, -⟩ := State.frames_cons hr
  have hcur : T.cur < T.threads.size := (Array.getElem?_eq_some_iff.mp hth).1
  have hfr : (T.setFrames (.invoking m args :: below)).frames = .invoking m args :: below := State.frames_setFrames _ hcur
  have hme : (T.setFrames (.invoking m args :: below)).me.stackBytes = T.me.stackBytes := by
    simp [State.me, State.setFrames, Array.getElem?_modify, hth]
  have hm' : T.vm.method? m = some meth := X.method'
  have hW := X.warmed.alike
  refine ⟨X.admits, X.cas, X.clock, hfr, ?_, ?_, hm', X.code, X.here, X.tail, State.WarmedH.refl _, (State.stackLimits_setFrames e.platform T _).symm, hme.symm, ?_⟩
  · refine State.hasRoom_ride (s := s) (r := R) ?_ ?_ ?_ ?_ ?_ ?_ X.book X.room
    · rw [hfr, X.frames, hf]
      exact Nat.le_refl _
    · rw [State.localsInUse_invoking (s := T.setFrames (.invoking m args :: below)) hfr hm' X.code, State.localsInUse_invoking X.frames X.method X.code, hl]
      exact Nat.le_refl _
    · rw [State.stackLimits_setFrames]
      exact X.limits
    · rw [hme]
      exact X.bytes
    · have h1 := X.heapSize
      show T.heap.size + R'.cells ≤ _
      omega
    · have h1 := X.used
      show T.slotsUsed + R'.slots ≤ _
      omega
  · have h1 := X.hears
    unfold State.hears at h1 ⊢
    have e1 : ∀ m', (T.setFrames (.invoking m args :: below)).code? m' = s.code? m' := fun m' => by
      rw [State.code?_eq, State.code?_eq]
      show (T.vm.method? m').bind _ = _
      rw [hW.method?]
    have e2 : (T.setFrames (.invoking m args :: below)).vm.method? m = s.vm.method? m := hW.method? m
    cases below with
    | nil =>
      rw [e2]
      exact h1
    | cons f r =>
      cases f with
      | java g =>
        simp only [e1]
        exact h1
      | _ =>
        first
          | rfl
          | (rw [e2]; exact h1)
  · show (T.setFrames (.invoking m args :: below)).sameButNew T [] 0 0
    refine ⟨?_, Nat.le_refl _, Nat.le_refl _, ?_, ?_, fun a c hc => ⟨c, hc, rfl, rfl, fun _ _ => rfl⟩⟩
    · rw [State.setFrames_setFrames]
      show T = { T.setFrames T.frames with heap := T.heap, slotsUsed := T.slotsUsed }
      rw [State.setFrames_self hth]
    · show T.slotsUsed = T.slotsUsed + _
      have : T.heap.toList.drop (T.setFrames (.invoking m args :: below)).heap.size = [] := List.drop_eq_nil_of_le (by show T.heap.toList.length ≤ T.heap.size; simp)
      rw [this]
      rfl
    · have : T.heap.toList.drop (T.setFrames (.invoking m args :: below)).heap.size = [] := List.drop_eq_nil_of_le (by show T.heap.toList.length ≤ T.heap.size; simp)
      rw [this]
      exact Nat.le_refl _
end
theorem z_same {T U : State} {F : List Frame} {k n : Nat} (h : (T.setFrames F).sameButNew ({ U with vm := T.vm } : State) [] k n) : T.sameButNew ({ U with vm := T.vm } : State) [] k n ∧ (∀ q : Nat, q < T.heap.size → U.heap[q]? = T.heap[q]?) := by
  obtain ⟨e1, q2, q3, q4, q5, q6⟩ := h
  refine ⟨⟨?_, q2, q3, q4, q5, q6⟩, fun q hq => ?_⟩
  · rw [State.setFrames_setFrames] at e1
    exact e1
  · have hc : T.heap[q]? = some T.heap[q] := Array.getElem?_eq_getElem hq
    obtain ⟨c', h1, h2, h3, h4⟩ := q6 q _ hc
    have h1 : U.heap[q]? = some c' := h1
    rw [h1, hc]
    have : c'.slots = T.heap[q].slots := by
      apply Array.ext_getElem?
      intro i
      exact h4 i (by simp)
    rw [h2, this]
section
variable {p : Program} {l : Launch} {e : Env} {R : Room} {s : State} {m : MethodId} {args : Array Value} {below : List Frame} {meth : Method} {c : Code} {T : State} {locs : List Loc} {cells slots : Nat}
theorem z_throw (X : Stand p l e R s m args below meth c T locs cells slots) (hexec : p.tables.exec = Jvm.exec) (htr : l.stackTraces = false) {cc : ByteArray} (hb : c.code = cc) {own cls tx : String} {names : List String} {ic idx k pc q : Nat} {ls : Array Slot}
    (hown : s.vm.findClass own = some m.cls) (hcls : Bundle.fit cls = true) (hnames : ∀ n ∈ names, Bundle.fit n = true)
    (h : ∀ a ∈ Bundle.ownAtoms own ic cls names, a.before args (T.setFrames (.invoking m args :: below)) = true)
    (hcl : (Cond.classLink own idx cls).before args (T.setFrames (.invoking m args :: below)) = true) (hini : (Cond.initialized cls).before args (T.setFrames (.invoking m args :: below)) = true)
    (hZ : vk_R own k tx q (T.setFrames (.invoking m args :: below)))
    (hd0 : decode cc pc = .ok (.new idx, 3)) (hd3 : decode cc (pc + 3) = .ok (.dup, 1)) (hd4 : decode cc (pc + 4) = .ok (.ldc k, 2)) (hd6 : decode cc (pc + 6) = .ok (.invokespecial ic, 3)) (hd9 : decode cc (pc + 9) = .ok (.athrow, 1))
    (hout : c.exceptionTable.toList = []) (hsize : ls.size = c.maxLocals) (hlocks : meth.locks = false)
    (hRf : names.length + 3 < R.frames) (hRl : 1 + (13 * (names.length + 1) + 42) ≤ R.locals) (hRc : cells + 1 ≤ R.cells) (hRs : slots + 6 ≤ R.slots) :
    ∃ U : State, Steps p.tables e below (T.setTop (F0 m pc ls [])) U ∧ U.status = .running ∧ Ended U below (.threw T.heap.size) ∧ s.WarmedH U.vm ∧ s.sameButNew ({ U with vm := s.vm } : State) locs (cells + 1) (slots + 6) ∧ (∀ q : Nat, q < T.heap.size → U.heap[q]? = T.heap[q]?) ∧ U.heap.size = T.heap.size + 1 ∧
      ∃ ce : Cell, U.heap[T.heap.size]? = some ce ∧ ce.vm = .none ∧ s.vm.findClass cls = some ce.cls := by
  have X' := z_rebase X (R' := { frames := R.frames, locals := R.locals, cells := 1, slots := 6 }) rfl rfl hRc hRs
  generalize hS : T.setFrames (.invoking m args :: below) = s' at h hcl hini hZ X'
  have hvm : s'.vm = T.vm := by rw [← hS]; rfl
  have hhp : s'.heap = T.heap := by rw [← hS]; rfl
  have hown' : s'.vm.findClass own = some m.cls := by rw [hvm, X.warmed.alike.findClass]; exact hown
  have hins : (Cond.instantiable cls 6).before args s' = true := h _ (by simp [Bundle.ownAtoms])
  obtain ⟨cX, kX, hcX, hkX, -, -, -, hn6⟩ := Cond.instantiable_spec hins
  have w : W p l e { frames := R.frames, locals := R.locals, cells := 1, slots := 6 } s' m args below meth c T.heap [] 0 0 (fun t => t.status = .running ∧ Ended t below (.threw T.heap.size) ∧ s'.WarmedH t.vm ∧ s'.sameButNew ({ t with vm := s'.vm } : State) [] 1 6 ∧ ∃ ce : Cell, t.heap[T.heap.size]? = some ce ∧ ce.vm = .none ∧ s'.vm.findClass cls = some ce.cls) (F0 m pc ls []) := by
    refine W.newcK hexec hb hown' hcl hins hini rfl hd0 (Nat.le_refl _) (Nat.le_refl _) hcX rfl fun H1 kC hkC e1 e2 e3 => ?_
    refine lv_dup hexec hb hd3 rfl ?_
    refine va_ldcS hexec hb hown' hZ hd4 ?_
    intro T2 hT2 X2
    have htr' : e.platform.stackTraces = false := by rw [X.admits.platform]; exact htr
    obtain ⟨U, st, h1, h2, h3, h4, ce, hce, hO⟩ := X2.ctorThrowS hexec htr' hown' hcls hnames h (fun x hx => by cases hx) hcX hkX (a := T.heap.size) (by rw [hT2, e1]; cases hkX.symm.trans hkC; rfl) (by rw [hhp]; exact Nat.le_refl _) (msg := .ref q) rfl (g := F0 m (pc + 6) ls [.ref q, .ref T.heap.size, .ref T.heap.size]) rfl hsize rfl rfl (rest := []) rfl (by rw [hb]; exact hd6) (by rw [hb]; exact hd9) (by rw [hout]; intro x hx; cases hx) hRf (by simpa [Value.category] using hRl) hlocks
    exact ⟨U, st, h1, h2, h3, h4, ce, hce, hO.vm, hO.cls⟩
  obtain ⟨U, st, h1, h2, h3, h4, ce, hce, hv, hc⟩ := w T rfl X'
  subst hS
  obtain ⟨z1, z2⟩ := z_same (T := T) (U := U) h4
  have hsz : U.heap.size = T.heap.size + 1 := by
    have a1 := (Array.getElem?_eq_some_iff.mp hce).1
    have a2 : U.heap.size ≤ T.heap.size + 1 := z1.2.2.1
    omega
  have z3 := X.same.trans (z1.setVm s.vm)
  rw [List.append_nil] at z3
  exact ⟨U, st, h1, h2, State.WarmedH.trans X.warmed h3, z3, z2, hsz, ce, hce, hv, by rw [← X.warmed.alike.findClass]; exact hc⟩
end

/-! a throw: a new exception with a message, and away -/
def tr_thr (cls : String) : g_T := fun l _ st h _ Post => match st with
  | [] => l.stackTraces = false ∧ Post (.inr cls) (h.1, h.2.1 + 1, h.2.2 + 6)
  | _ => False
theorem z_atoms {h : g_H} {s U : State} {args : Array Value} {ic : Nat} {cls : String} (hat : ∀ a ∈ Bundle.ownAtoms "TracePacks" ic cls z_nm, (a ∈ tables_1 ∧ g_gw a = true) ∨ a ∈ z_ws ∨ a ∈ z_sts) (hts : ∀ w ∈ g_W, w.before args s = true) (hW : s.WarmedH U.vm) (hZ : g_Z h U) : ∀ a ∈ Bundle.ownAtoms "TracePacks" ic cls z_nm, a.before args U = true := by
  intro a ha
  rcases hat a ha with ⟨h1, h2⟩ | h1 | h1
  · exact g_good a (w_of h1 h2) args args s U hW (hts a (w_of h1 h2))
  · exact va_Nw.use (z_ws_t h1) (hZ.1 a h1)
  · simp only [z_sts, List.mem_cons, List.not_mem_nil, or_false] at h1
    rcases h1 with rfl | rfl | rfl | rfl
    · exact z_St_ls hZ.2.2.1
    · exact z_St_ls hZ.2.2.2.1
    · exact z_St_rf hZ.2.2.1
    · exact z_St_rf hZ.2.2.2.1
theorem so_thr {J : g_J} {pc idx k ic : Nat} {cls tx : String} (hJ : J.1.cls = "TracePacks") (hd0 : decode J.2.1 pc = .ok (.new idx, 3)) (hd3 : decode J.2.1 (pc + 3) = .ok (.dup, 1)) (hd4 : decode J.2.1 (pc + 4) = .ok (.ldc k, 2)) (hd6 : decode J.2.1 (pc + 6) = .ok (.invokespecial ic, 3)) (hd9 : decode J.2.1 (pc + 9) = .ok (.athrow, 1))
    (hat : ∀ a ∈ Bundle.ownAtoms "TracePacks" ic cls z_nm, (a ∈ tables_1 ∧ g_gw a = true) ∨ a ∈ z_ws ∨ a ∈ z_sts) (hcl : Cond.classLink "TracePacks" idx cls ∈ g_W) (hini : Cond.initialized cls ∈ g_W) (hfit : Bundle.fit cls = true) (hstr : (k, tx) ∈ z_str) (hh : J.2.2.2.2.2.1 = []) (hr1 : 6 ≤ J.2.2.2.2.1.1) (hr2 : 82 ≤ J.2.2.2.2.1.2) : g_S J pc (tr_thr cls) := by
  intro l L st h K Post hK hT
  unfold tr_thr at hT
  split at hT
  next =>
    obtain ⟨htr, hP⟩ := hT
    refine ⟨.inr cls, _, hP, ⟨Nat.le_succ _, Nat.le_add_right _ _, fun a q => Or.inl q⟩, fun D p e s m args below meth c H locs h0 ls C hR0 hG hR hS hl => ?_⟩
    intro T hT X
    have hZ' : g_Z h (T.setFrames (.invoking m args :: below)) := g_Z_mv hR0.2.2 hG hS (by show T.heap = H; exact hT) X.warmed
    obtain ⟨q, hq⟩ := hZ'.2.2.2.2 _ hstr
    have hts := C.2.2.2.2.1
    have hown := C.2.2.2.1
    rw [hJ] at hown
    have ht0 : c.exceptionTable.toList = [] := by
      have := C.2.2.2.2.2.2.2.2.2
      rw [hh] at this
      exact List.map_eq_nil_iff.mp this
    have a1 := hG.1
    have a2 := hG.2.1
    have hWs : s.WarmedH (T.setFrames (.invoking m args :: below)).vm := X.warmed
    obtain ⟨U, st, h1, h2, h3, h4, h5, h6, ce, h7, h8, h9⟩ := z_throw X C.1 htr C.2.1 (own := "TracePacks") (cls := cls) (tx := tx) (names := z_nm) (ic := ic) (idx := idx) (k := k) (pc := pc) (q := q) (ls := ls) hown hfit (by decide) (z_atoms hat hts hWs hZ') (g_good _ hcl args args s _ hWs (hts _ hcl)) (g_good _ hini args args s _ hWs (hts _ hini)) hq hd0 hd3 hd4 hd6 hd9 ht0 (hl.1.trans C.2.2.1.symm) C.2.2.2.2.2.2.2.1 (by show 5 < J.2.2.2.2.1.1; omega) (by show 82 ≤ J.2.2.2.2.1.2; exact hr2) (by show h.2.1 - h0.2.1 + 1 ≤ h.2.1 + 1 - h0.2.1; omega) (by show h.2.2 - h0.2.2 + 6 ≤ h.2.2 + 6 - h0.2.2; omega)
    have hsz : T.heap.size = h.2.1 := by rw [hT]; exact hR.1
    refine ⟨U, st, .threw T.heap.size, h1, h2, ⟨ce, ?_, ?_, ?_, h8, h9⟩, ⟨?_, fun a x hx => ?_⟩, ⟨?_, fun q' hq1 hq2 => ?_⟩, locs, ⟨h3, ?_⟩, hS.2.2⟩
    · rw [hsz]
      rfl
    · show s.heap.size ≤ h.2.1
      rw [← hR.1]
      exact hS.1
    · show U.heap[h.2.1]? = some ce
      rw [← hsz]
      exact h7
    · rw [h6, hsz]
    · have g1 := hR.2 a x hx
      have g2 := g_At_lt g1
      refine g_At_kept g1 ?_
      rw [← hT]
      exact h5 a (by rw [hT]; exact g2)
    · rw [h6, hT]
      exact Nat.le_trans hS.1 (Nat.le_succ _)
    · have hq3 : q' < T.heap.size := by rw [hT]; exact Nat.lt_of_lt_of_le hq1 hS.1
      rw [h5 q' hq3, hT]
      exact hS.2.1 q' hq1 hq2
    · have e1 : h.2.1 - h0.2.1 + 1 = h.2.1 + 1 - h0.2.1 := by omega
      have e2 : h.2.2 - h0.2.2 + 6 = h.2.2 + 6 - h0.2.2 := by omega
      rw [e1, e2] at h4
      exact h4
  next => exact hT.elim
