/-! THE G ROWS, seventh part: a call that may throw, where the throw is caught; a call of a method that catches -/
def g_ct (l : Launch) (J' : g_J) (b ci : Nat) (h : g_H) (As : List Value) (P : Option Value → g_H → Prop) (P2 : String → g_H → Prop) : Prop := (∃ fs : List Value, h.1 b = some (.inr (ci, fs))) ∧ g_Run l J' (.ref b :: As) h (fun o hE => (∃ v, o = .inl v ∧ P v hE) ∨ (∃ X, o = .inr X ∧ P2 X hE))
theorem g_ct_i {l : Launch} {J' : g_J} {b ci : Nat} {h : g_H} {As : List Value} {P : Option Value → g_H → Prop} {P2 : String → g_H → Prop} {fs : List Value} {Q : g_P} (h1 : h.1 b = some (.inr (ci, fs))) (h2 : g_Run l J' (.ref b :: As) h Q) (h3 : ∀ o hE, Q o hE → (∃ v, o = .inl v ∧ P v hE) ∨ (∃ X, o = .inr X ∧ P2 X hE)) : g_ct l J' b ci h As P P2 := ⟨⟨fs, h1⟩, g_Run_mono h2 h3⟩
def tr_cVh (J' : g_J) (ci n nx : Nat) (hs : List (String × Nat)) : g_T := fun l L st h K _ => match st.drop n with
  | .ref b :: rest => bif Nat.ble rest.length 4 then g_ct l J' b ci h (st.take n).reverse (fun v hE => K nx L (v.toList ++ rest) hE) (fun X hE => ∃ t, (X, t) ∈ hs ∧ K t L [.ref (hE.2.1 - 1)] hE) else False
  | _ => False
/-- how the handler table of J catches X at pc, and goes on at t -/
def g_hok (J : g_J) (pc : Nat) (X : String) (t : Nat) : Prop := ∃ (pre : List (Nat × Nat × Nat × Nat)) (x : Nat × Nat × Nat × Nat) (rest : List (Nat × Nat × Nat × Nat)), J.2.2.2.2.2.1 = pre ++ x :: rest ∧ x.2.2.1 = t ∧ x.1 ≤ pc ∧ pc < x.2.1 ∧ x.2.2.2 ≠ 0 ∧ Cond.classLink J.1.cls x.2.2.2 X ∈ g_W ∧ Cond.castable X X ∈ z_ws ∧ ∀ y ∈ pre, y.2.2.2 ≠ 0 ∧ ∃ nm, Cond.classLink J.1.cls y.2.2.2 nm ∈ g_W ∧ (X, nm) ∈ z_nc
def z_Post (Q : Array Value → State → Outcome → State → Prop) (mc ms : Nat) (free : Addr → Prop) : Pt → Array Value → Addr → Pt → Prop := fun A a x B =>
  ∃ (g : JFrame) (mk : MethodId) (t : State) (L : List Loc), B.U.heap = t.heap ∧ B.U.vm = t.vm ∧ Q a (A.U.calling g mk a) (.threw x) t ∧ B.locs = A.locs ++ L ∧ (∀ q ∈ L, free q.base) ∧ B.cells = A.cells + mc ∧ B.slots = A.slots + ms
theorem z_map_split {α β : Type} {f : α → β} {xs : List α} {pre rest : List β} {x : β} (h : xs.map f = pre ++ x :: rest) : ∃ pre' x' rest', xs = pre' ++ x' :: rest' ∧ pre'.map f = pre ∧ f x' = x := by
  obtain ⟨l1, l2, rfl, h1, h2⟩ := List.map_eq_append_iff.mp h
  obtain ⟨a, l3, rfl, h3, h4⟩ := List.map_eq_cons_iff.mp h2
  exact ⟨l1, a, l3, rfl, h1, h3⟩
set_option maxHeartbeats 2000000 in
theorem so_cVh {J J' : g_J} {pc nx ci n idx N : Nat} {T : u_T} {hs : List (String × Nat)} (hd : decode J.2.1 pc = .ok (.invokevirtual idx, 3)) (hok : g_ok J J' n) (hc : vwCl[ci]? = some (J'.1.cls, T, N)) (hl : Cond.methodLink J.1.cls idx J'.1 ∈ g_W) (hi : Cond.instanceMethod J'.1 ∈ g_W) (hsl : Cond.selects J'.1.cls J'.1 J'.1 ∈ g_W) (hhs : ∀ q ∈ hs, g_hok J pc q.1 q.2) (hn : pc + 3 = nx) : g_S J pc (tr_cVh J' ci n nx hs) := by
  intro l L st h K Post hK hT
  unfold tr_cVh at hT
  split at hT
  next b rest hst =>
    cases hr : Nat.ble rest.length 4 with
    | false =>
      rw [hr] at hT
      exact hT.elim
    | true =>
      rw [hr] at hT
      obtain ⟨⟨fs, hb⟩, o, hE, hM, hq⟩ := hT
      rcases hq with ⟨v, rfl, hk⟩ | ⟨X, rfl, t, hmem, hk⟩
      · refine so_cV g_good hd hok hc hl hi hsl hn l L st h K Post hK ?_
        unfold tr_cV
        rw [hst]
        simp only
        rw [hr]
        exact ⟨⟨fs, hb⟩, .inl v, hE, hM, v, rfl, hk⟩
      · obtain ⟨e1, e2⟩ := g_split hst
        obtain ⟨pre, x, rest', htab, hxt, hx1, hx2, hx0, hxl, hxc, hpre⟩ := hhs _ hmem
        obtain ⟨o', hE', p1, p2, kk⟩ := hK _ _ _ _ hk
        refine ⟨o', hE', p1, g_Gr_tr hM.1 p2, fun D p e s m args below meth c H locs h0 ls C hR0 hG hR hS hls => ?_⟩
        intro T0 hT0 X0
        have hts := C.2.2.2.2.1
        have hown := C.2.2.2.1
        have b1 := hG.1
        have b2 := hG.2.1
        have b3 := hM.1.1
        have b4 := hM.1.2.1
        have b5 := p2.1
        have b6 := p2.2.1
        have hZ : ∀ U : State, U.heap = H → s.WarmedH U.vm → g_Z h U := fun U hU hW => g_Z_mv hR0.2.2 hG hS hU hW
        have hB := g_okB (mc := hE.2.1 - h.2.1) (ms := hE.2.2 - h.2.2) (R := g_Rm J (hE'.2.1 - h0.2.1) (hE'.2.2 - h0.2.2)) hok g_good C ⟨rfl, rfl⟩ hl
        obtain ⟨-, -, hfr, hlo, hws, hcw, hcode, hini, hy, hlen, hlk⟩ := hB
        have hBk := BackT.of_free (l := l) (R := g_Rm J (hE'.2.1 - h0.2.1) (hE'.2.2 - h0.2.2)) (p := p) (e := e) (below := below) (s := s) (sargs := args) (y := J'.1) (len := 3) (W := 8) (bytes := J'.2.1) (maxL := J'.2.2.1) (ret := J'.2.2.2.1)
          (Pre := PreOf (g_Rm J (hE'.2.1 - h0.2.1) (hE'.2.2 - h0.2.2)) (hE.2.1 - h.2.1) (hE.2.2 - h.2.2) (fun a U => a = (Value.ref b :: (st.take n).reverse).toArray ∧ g_Rep D h U.heap ∧ g_K D U ∧ g_Z h U))
          (Post := z_Post (fun _ s oc t => g_Out s hE (.inr X) oc t ∧ g_Rep D hE t.heap ∧ va_F (g_A h) s t) (hE.2.1 - h.2.1) (hE.2.2 - h.2.2) (g_A h))
          (E := fun a st o t L k n => k = hE.2.1 - h.2.1 ∧ n = hE.2.2 - h.2.2 ∧ ∀ q ∈ L, g_A h q.base) (hM.2 D) hfr hlo ?_ ?_ (fun _ _ _ _ _ _ _ _ _ => trivial) ?_ ?_
        rotate_left
        · intro m' meth' c' A a' XA hp
          exact ⟨atoms_intro fun w hw => hws w hw _ _ XA.warmed, hws _ hcw _ _ XA.warmed, word_at XA.warmed (Or.inl (by first | rfl | simp [Cond.onTables, Cond.keeps, Cond.steady])) hini, hp.1, hp.2.1⟩
        · intro m' meth' c' A a' g mk XA hp
          exact g_blind _ _ _ _ hp.2.2
        · intro a' st' o2 t2 hq2
          obtain ⟨hq3, hq4, hq5, L2, ⟨hq6, hq7⟩, hq8⟩ := hq2
          obtain ⟨cell, hcl, -⟩ := hq3
          exact ⟨L2, _, _, ⟨⟨_, hcl⟩, hq6, hq7⟩, rfl, rfl, hq8⟩
        · intro m' meth' c' A a' g mk v t2 L2 k n2 XA hp hq2 hF ⟨f1, f2, hL⟩
          subst f1
          subst f2
          exact ⟨g, mk, t2, L2, rfl, rfl, ⟨hq2.1, hq2.2.1, hq2.2.2.1⟩, rfl, hL, rfl, rfl⟩
        obtain ⟨mk, methM, hnamed, hmethM, hstM, habM⟩ := Cond.instanceMethod_spec (hts _ hi)
        obtain ⟨methM', cM, hmethM', -, -, -, -, -, -, hsigM⟩ := Cond.code_spec hnamed hcode
        cases hmethM.symm.trans hmethM'
        obtain ⟨c2, r2, m2, q1, q2, q3, q4, kP, hkP, hkPi⟩ := Cond.selects_spec (hts _ hsl)
        obtain ⟨cellB, hcB, hoB, hclB⟩ := va_recv C.2.2.2.2.2.1 (g_one hR hb) hc (q0 := 0) rfl
        cases hclB.symm.trans q1
        cases (State.methodFound?_of_named hnamed hy).symm.trans q2
        cases hnamed.symm.trans q3
        have hselP : selectMethod e.platform s.vm cellB.cls mk = .method mk := by rw [Launch.admits_selectMethod X0.admits]; exact q4
        have hdc : decode c.code (F0 m pc ls st).pc = .ok (.invokevirtual idx, 3) := by rw [C.2.1]; exact hd
        have hsz : (F0 m pc ls st).locals.size = c.maxLocals := hls.1.trans C.2.2.1.symm
        obtain ⟨vm₁, X₁, hstep₁⟩ := X0.invokevirtual C.1 hown hlk hnamed hmethM hstM hkP hkPi hy (a := b) (cell := cellB) (by rw [hT0]; exact hcB) (fun z h => by rw [h] at hoB; cases hoB) hselP hmethM habM hkP hkPi (g := F0 m pc ls st) rfl (argsL := (st.take n).reverse) (rest := rest) (e2.trans (hlen _ hsigM)) e1 hdc
        obtain ⟨v, B, X', hpost, hsteps⟩ := hBk m meth c ⟨T0.setVm vm₁, locs, _, _⟩ { F0 m pc ls st with stack := rest } (.invokevirtual idx) mk (Value.ref b :: (st.take n).reverse).toArray X₁ rfl hsz hdc (g_rest (m := m) (pc := pc) (ls := ls) (st := st) hr) (X₁.named hnamed) ⟨by show h.2.1 - h0.2.1 + (hE.2.1 - h.2.1) ≤ hE'.2.1 - h0.2.1; omega, by show h.2.2 - h0.2.2 + (hE.2.2 - h.2.2) ≤ hE'.2.2 - h0.2.2; omega, rfl, by show g_Rep D h T0.heap; rw [hT0]; exact hR, va_K.moved X₁.warmed.alike C.2.2.2.2.2.1, hZ _ hT0 X₁.warmed⟩
        obtain ⟨U', l2, c2', s2⟩ := B
        obtain ⟨g', mk', t2, L2, f1, f2, ⟨hq1, hq2, hq3⟩, f3, f4, f5, f6⟩ := hpost
        dsimp only [Pt.U, Pt.locs, Pt.cells, Pt.slots] at X' f1 f2 hq1 hq3 f3 f5 f6 hsteps
        subst f3
        subst f5
        subst f6
        obtain ⟨cell, hx, hle, hcell, hvm, hfc⟩ := hq1
        cases hx
        have hfc' : s.vm.findClass X = some cell.cls := by
          rw [← X₁.warmed.alike.findClass]
          exact hfc
        obtain ⟨c3, c4, w1, w2, w3⟩ := Cond.castable_spec (args := args) (va_Nw.use (z_ws_t hxc) (hR0.2.2.1 _ hxc))
        cases w1.symm.trans hfc'
        cases w2.symm.trans hfc'
        have htb := C.2.2.2.2.2.2.2.2.2
        rw [htab] at htb
        obtain ⟨pre', x', rest'', hsp, hpm, hfx⟩ := z_map_split htb
        subst hfx
        have hpl : e.platform.magicAccessors = ({} : Platform).magicAccessors := by rw [X0.admits.platform]
        obtain ⟨hend, hk0⟩ := X'.catches_of_link hown hx0 (hts _ hxl) hfc' w3
        have hpass : ∀ y ∈ pre', RowPassed e.platform s m.cls pc cell.cls y := fun y hy' => by
          obtain ⟨y0, nm, y1, y2⟩ := hpre (y.startPc, y.endPc, y.handlerPc, y.catchType) (by rw [← hpm]; exact List.mem_map_of_mem hy')
          obtain ⟨d', hd', hdl⟩ := Cond.classLink_spec hown (hts _ y1) e.platform hpl
          obtain ⟨n1, n2, n3, n4, n5⟩ := hR0.2.2.2.1 _ y2
          cases n3.symm.trans hfc'
          cases n4.symm.trans hd'
          exact Or.inr ⟨y0, _, hdl, n5⟩
        obtain ⟨vm', XV, stV⟩ := X'.caughtThrough (hE.2.1 - 1) (g := { F0 m pc ls st with stack := rest }) rfl (cell := cell) (by rw [f1]; exact hcell) (by rw [hvm]; rfl) hk0 pre' x' rest'' hsp hpass (by simp only [covers]; simp only [Bool.and_eq_true, decide_eq_true_eq]; exact ⟨hx1, hx2⟩) hend
        have n1 : h.2.1 - h0.2.1 + (hE.2.1 - h.2.1) = hE.2.1 - h0.2.1 := by omega
        have n2 : h.2.2 - h0.2.2 + (hE.2.2 - h.2.2) = hE.2.2 - h0.2.2 := by omega
        rw [n1, n2] at XV
        obtain ⟨tt, a1, b1'⟩ := kk D p e s m args below meth c U'.heap (locs ++ L2) h0 ls C hR0 (g_Gr_tr hG hM.1) (by rw [f1]; exact hq2) ⟨Nat.le_trans hS.1 (by rw [f1, ← hT0]; exact hq3.1), fun q h1 h2 => by
            rw [f1, hq3.2 q (by show q < T0.heap.size; rw [hT0]; exact Nat.lt_of_lt_of_le h1 hS.1) (fun z => h2 (g_A_mono hG z))]
            show T0.heap[q]? = _
            rw [hT0]
            exact hS.2.1 q h1 h2, fun q hq => by
            rcases List.mem_append.mp hq with z | z
            · exact hS.2.2 q z
            · exact g_A_mono hG (f4 q z)⟩ hls (U'.setVm vm') rfl XV
        subst hxt
        refine ⟨tt, hstep₁ _ (fun acts => ?_), b1'⟩
        rw [doInvoke_state]
        refine hsteps.trans ?_
        rw [X'.pushThrowing_eq]
        exact stV _ a1
  next => exact hT.elim
def g_okW (J J' : g_J) (n : Nat) : Prop := Cond.codeWith J'.1 J'.2.1 J'.2.2.1 J'.2.2.2.1 J'.2.2.2.2.2.1 ∈ g_W ∧ J'.2.2.2.2.1.1 + 1 ≤ J.2.2.2.2.1.1 ∧ 8 + (J'.2.2.1 + 11) + J'.2.2.2.2.1.2 ≤ J.2.2.2.2.1.2 ∧ Cond.initialized J'.1.cls ∈ g_W ∧ (J'.1.cls ≠ "java/lang/invoke/MethodHandle" ∧ J'.1.cls ≠ "java/lang/invoke/VarHandle") ∧ (parseMethodDescriptor J'.1.desc).map (fun d => d.parameters.length) = some n
theorem so_cSW {J J' : g_J} {pc nx n idx : Nat} (hd : decode J.2.1 pc = .ok (.invokestatic idx, 3)) (hok : g_okW J J' n) (hl : Cond.methodLink J.1.cls idx J'.1 ∈ g_W) (hi : Cond.static J'.1 ∈ g_W) (hn : pc + 3 = nx) : g_S J pc (tr_cS J' n nx) := by
  subst hn
  intro l L st h K Post hK hT
  unfold tr_cS at hT
  cases hr : Nat.ble n st.length && Nat.ble (st.drop n).length 4 with
  | false =>
    rw [hr] at hT
    exact hT.elim
  | true =>
    rw [hr] at hT
    rw [Bool.and_eq_true] at hr
    have h1 := Nat.le_of_ble_eq_true hr.1
    have e1 : st = (st.take n).reverse.reverse ++ st.drop n := by rw [List.reverse_reverse, List.take_append_drop]
    have e2 : (st.take n).reverse.length = n := by
      rw [List.length_reverse, List.length_take]
      omega
    refine g_call (rest := st.drop n) (fun D p e s m args below meth c H locs R cells slots ls v hE C hR hZ hm hc1 hc2 hM => ?_) (g_Run_mono hT (fun o hE hq => by obtain ⟨v, hv, hk⟩ := hq; exact ⟨v, hv, hK _ _ _ _ hk⟩))
    obtain ⟨k1, k2, k3, k4, k5, k6⟩ := hok
    have hts := C.2.2.2.2.1
    have hBk : Back l R p e below s args J'.1 3 8 (PreOf R (hE.2.1 - h.2.1) (hE.2.2 - h.2.2) (fun a U => a = ((st.take n).reverse).toArray ∧ g_Rep D h U.heap ∧ g_K D U ∧ g_Z h U)) (PostOf (fun _ s oc t => oc = .returned v ∧ g_Rep D hE t.heap ∧ va_F (g_A h) s t) (hE.2.1 - h.2.1) (hE.2.2 - h.2.2) (g_A h)) :=
      va_backW (hh := J'.2.2.2.2.2.1) (bytes := J'.2.1) (maxL := J'.2.2.1) (ret := J'.2.2.2.1) (g_toMet hM D) g_blind rfl rfl (by show J'.2.2.2.2.1.1 + 1 ≤ R.frames; rw [hm.1]; exact k2) (by show 8 + (J'.2.2.1 + 11) + J'.2.2.2.2.1.2 ≤ R.locals; rw [hm.2.1]; exact k3) (fun w hw a' U hW => g_good w hw args a' s U hW (hts w hw)) k1 (fun a' U hW => g_good _ k4 args a' s U hW (hts _ k4))
    intro T hT X
    obtain ⟨mk, methM, cM, hnamed, hmethM, -, -, -, -, -, -, hsigM⟩ := Cond.codeWith_spec (hts _ k1)
    have hstatic : methM.isStatic = true := Cond.static_spec hnamed hmethM (hts _ hi)
    obtain ⟨kP, hkP, -⟩ := className_of_methodNamed hnamed
    have hinitP : kP.init = .initialized := Cond.initialized_spec (findClass_of_methodNamed hnamed) hkP (hts _ k4)
    have hlen : (st.take n).reverse.length = methM.sig.parameters.length := by
      rw [hsigM] at k6
      exact e2.trans (Option.some.inj k6).symm
    have hdc : decode c.code (F0 m pc ls st).pc = .ok (.invokestatic idx, 3) := by rw [C.2.1]; exact hd
    have hsz : (F0 m pc ls st).locals.size = c.maxLocals := hm.2.2.trans C.2.2.1.symm
    obtain ⟨vm₁, X₁, hstep₁⟩ := X.invokestatic C.1 C.2.2.2.1 (hts _ hl) hnamed hmethM hstatic hkP hinitP k5 (g := F0 m pc ls st) rfl (argsL := (st.take n).reverse) (rest := st.drop n) hlen e1 hdc
    obtain ⟨v', B, X', hpost, hsteps⟩ := hBk m meth c ⟨T.setVm vm₁, locs, cells, slots⟩ { F0 m pc ls st with stack := st.drop n } (.invokestatic idx) mk ((st.take n).reverse).toArray X₁ rfl hsz hdc (g_rest (m := m) (pc := pc) (ls := ls) (st := st) hr.2) (X₁.named hnamed) ⟨hc1, hc2, rfl, by show g_Rep D h T.heap; rw [hT]; exact hR, va_K.moved X₁.warmed.alike C.2.2.2.2.2.1, hZ _ hT X₁.warmed⟩
    obtain ⟨U', l2, c2, s2⟩ := B
    obtain ⟨g', mk', t, L2, f1, f2, hq, f3, hL, f5, f6⟩ := hpost
    dsimp only [Pt.U, Pt.locs, Pt.cells, Pt.slots] at X' f1 f2 f3 f5 f6 hsteps
    subst f3
    subst f5
    subst f6
    exact ⟨v', (T.setVm vm₁).calling g' mk' ((st.take n).reverse).toArray, t, U', L2, hT, X', hL, f1, f2, hq, fun target ht => hstep₁ _ fun acts => by rw [doInvoke_state]; exact hsteps.trans ht⟩
theorem z_c1 : Cond.castable z_X1 z_X1 ∈ z_ws := by decide +kernel
theorem z_c2 : Cond.castable z_X2 z_X2 ∈ z_ws := by decide +kernel
theorem z_c3 : Cond.castable z_X3 z_X3 ∈ z_ws := by decide +kernel
theorem z_n32 : (z_X3, z_X2) ∈ z_nc := by decide +kernel
theorem z_n21 : (z_X2, z_X1) ∈ z_nc := by decide +kernel
