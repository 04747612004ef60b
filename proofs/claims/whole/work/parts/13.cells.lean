/-! THE G ROWS, fourth part: fields, arrays, new cells, ends -/
theorem g_one {D : g_D} {h : g_H} {H : Heap} {a : Nat} {o : Nat × List Value} (hR : g_Rep D h H) (h1 : h.1 a = some (.inr o)) : va_P D.1 vwCl [(a, .inr o)] H := by
  intro k q hk
  cases k with
  | zero =>
    rw [List.getElem?_cons_zero] at hk
    cases hk
    exact hR.2 a _ h1
  | succ n => simp at hk
def g_gt (h : g_H) (a ci k : Nat) (P : Value → Prop) : Prop := ∃ (fs : List Value) (v : Value), h.1 a = some (.inr (ci, fs)) ∧ fs[k]? = some v ∧ P v
theorem g_gt_i {h : g_H} {a ci k : Nat} {P : Value → Prop} {fs : List Value} {v : Value} (h1 : h.1 a = some (.inr (ci, fs))) (h2 : fs[k]? = some v) (h3 : P v) : g_gt h a ci k P := ⟨fs, v, h1, h2, h3⟩
def tr_get (ci k nx : Nat) : g_T := fun _ L st h K _ => match st with
  | .ref a :: st' => g_gt h a ci k (fun v => K nx L (v :: st') h)
  | _ => False
theorem so_get {J : g_J} {pc nx ci k idx N : Nat} {Cn : String} {T : u_T} (hd : decode J.2.1 pc = .ok (.getfield idx, 3)) (hc : vwCl[ci]? = some (Cn, T, N)) (hk : k < N) (hin : ∀ w ∈ u_ws Cn T N, w ∈ g_W) (hl : Cond.fieldLink J.1.cls idx (T k).1 (T k).2.1 (T k).2.2.1 ∈ g_W) (hn : pc + 3 = nx) : g_S J pc (tr_get ci k nx) := by
  subst hn
  intro l L st h K Post hK hT
  unfold tr_get at hT
  split at hT
  next a st' =>
    obtain ⟨fs, v, h1, h2, h3⟩ := hT
    exact g_step (fun D p e s m args below meth c H locs R cells slots Q ls C hR hl' hE0 hM kk => va_get (D := D.1) (cl := vwCl) C.1 C.2.1 C.2.2.2.2.1 hin C.2.2.2.1 C.2.2.2.2.2.1 (g_one hR h1) 0 rfl hc k hk (C.2.2.2.2.1 _ hl) (fun _ z => z) h2 hd (kk ls hl')) (hK _ _ _ _ h3)
  next => exact hT.elim
theorem so_getN {J : g_J} {pc nx ci k idx N : Nat} {Cn host : String} {T : u_T} (hd : decode J.2.1 pc = .ok (.getfield idx, 3)) (hc : vwCl[ci]? = some (Cn, T, N)) (hk : k < N) (hin : ∀ w ∈ u_ws Cn T N, w ∈ g_W) (hl : Cond.fieldLinkNest J.1.cls idx (T k).1 (T k).2.1 (T k).2.2.1 host ∈ g_W) (hn : pc + 3 = nx) : g_S J pc (tr_get ci k nx) := by
  subst hn
  intro l L st h K Post hK hT
  unfold tr_get at hT
  split at hT
  next a st' =>
    obtain ⟨fs, v, h1, h2, h3⟩ := hT
    exact g_step (fun D p e s m args below meth c H locs R cells slots Q ls C hR hl' hE0 hM kk => va_getN (D := D.1) (cl := vwCl) C.1 C.2.1 C.2.2.2.2.1 hin C.2.2.2.1 C.2.2.2.2.2.1 (g_one hR h1) 0 rfl hc k hk (C.2.2.2.2.1 _ hl) (fun _ z => z) h2 hd (kk ls hl')) (hK _ _ _ _ h3)
  next => exact hT.elim
def g_pt (h : g_H) (a ci k : Nat) (ty : FieldType) (v : Value) (P : g_H → Prop) : Prop := ∃ (fs : List Value) (h1 : g_H), h.1 a = some (.inr (ci, fs)) ∧ k < fs.length ∧ (narrow ty v = v ∧ fits ty v = true) ∧ h1 = g_up h a (.inr (ci, fs.set k v)) ∧ P h1
theorem g_pt_i {h : g_H} {a ci k : Nat} {ty : FieldType} {v : Value} {P : g_H → Prop} {fs : List Value} (h1 : h.1 a = some (.inr (ci, fs))) (h2 : k < fs.length) (h3 : narrow ty v = v) (h4 : fits ty v = true) (h5 : P (g_up h a (.inr (ci, fs.set k v)))) : g_pt h a ci k ty v P := ⟨fs, _, h1, h2, ⟨h3, h4⟩, rfl, h5⟩
def tr_put (ci k : Nat) (ty : FieldType) (nx : Nat) : g_T := fun _ L st h K _ => match st with
  | v :: .ref a :: st' => g_pt h a ci k ty v (fun h1 => K nx L st' h1)
  | _ => False
theorem g_put_cell {D : g_D} {H' : Heap} {a ci k N : Nat} {Cn : String} {T : u_T} {fs : List Value} {v : Value} {cell : Cell} (hc : vwCl[ci]? = some (Cn, T, N)) (hk : k < N) (hl : k < fs.length) (hap : ∀ x y, x < N → y < N → x ≠ y → (D.1.2 ci) x ≠ (D.1.2 ci) y) (q2 : cell.cls = D.1.1 ci) (q3 : cell.vm = .none) (q4 : ∀ j, j < N → cell.slots[D.1.2 ci j]? = some (vp_V fs j)) (e1 : H'[a]? = some (cell.setSlot (D.1.2 ci k) v)) : g_At D a (.inr (ci, fs.set k v)) H' :=
  ⟨_, hc, t_OB.to (V := updV (vp_V fs) k v) ⟨_, e1, q2, q3, t_set q4 hap hk v⟩ (fun j _ => vp_updV_set hl v j)⟩
theorem so_put {J : g_J} {pc nx ci k idx N : Nat} {Cn : String} {T : u_T} {ty : FieldType} (ty0 : Nat → FieldType) (hd : decode J.2.1 pc = .ok (.putfield idx, 3)) (hc : vwCl[ci]? = some (Cn, T, N)) (hk : k < N) (hin : ∀ w ∈ u_ws Cn T N, w ∈ g_W) (hl : Cond.fieldLink J.1.cls idx (T k).1 (T k).2.1 (T k).2.2.1 ∈ g_W) (hty : ∀ k, k < N → parseFieldDescriptor (T k).2.2.1 = some (ty0 k)) (hnm : ∀ a, a < N → ∀ b, b < N → a ≠ b → (T a).2.1 ≠ (T b).2.1) (hf : (T k).2.2.2 = false) (ht : ty0 k = ty) (hn : pc + 3 = nx) : g_S J pc (tr_put ci k ty nx) := by
  subst hn
  subst ht
  intro l L st h K Post hK hT
  unfold tr_put at hT
  split at hT
  next v a st' =>
    obtain ⟨fs, _, h1, h2, ⟨h3, h4⟩, rfl, h5⟩ := hT
    refine g_stepU (g_Gr_up h1) rfl (fun D p e s m args below meth c H locs R cells slots Q ls h0 C hG hR hS kk => ?_) (hK _ _ _ _ h5)
    have hts := C.2.2.2.2.1
    have hKs := C.2.2.2.2.2.1
    have hap := va_apart (own := J.1.cls) hts hin ty0 hty hnm hKs hc
    obtain ⟨r, hr, cell, q1, q2, q3, q4⟩ := hR.2 a _ h1
    have hr' : r = (Cn, T, N) := Option.some.inj (hr.symm.trans hc)
    subst hr'
    obtain ⟨hSl, hfc, kC, hkC, hkind⟩ := hKs.1 ci _ hc
    obtain ⟨cf, kf, fi, f, hi, hsl⟩ := hSl k hk
    have hlay := hts _ (hin _ (u_in_lay hk))
    unfold u_lay at hlay
    rw [if_neg (by rw [hf]; decide)] at hlay
    have hst := (u_facts hfc hkC (u_lays hts hin hk) hi).1
    have h6 := u_store hfc hkC hkind hlay hi (hty k hk) h3 h4
    refine W.putK C.1 C.2.1 (f := f) ⟨C.2.2.2.1, hts _ hl, ⟨_, _, _, hi⟩, hst⟩ (by rw [q2]; exact h6) q1 q3 (by rw [hsl]; exact k2_hasslot (q4 k hk)) rfl rfl hd fun H' e1 e2 e3 => ?_
    rw [hsl] at e1 ⊢
    exact kk H' _ (g_Rep_up hR h1 (g_put_cell hc hk h2 hap q2 q3 q4 e1) e2 e3) (hS.put e2 e3 (hG.2.2 a (by rw [h1]; exact fun z => by cases z)))
  next => exact hT.elim
theorem so_putN {J : g_J} {pc nx ci k idx N : Nat} {Cn host : String} {T : u_T} {ty : FieldType} (ty0 : Nat → FieldType) (hd : decode J.2.1 pc = .ok (.putfield idx, 3)) (hc : vwCl[ci]? = some (Cn, T, N)) (hk : k < N) (hin : ∀ w ∈ u_ws Cn T N, w ∈ g_W) (hl : Cond.fieldLinkNest J.1.cls idx (T k).1 (T k).2.1 (T k).2.2.1 host ∈ g_W) (hty : ∀ k, k < N → parseFieldDescriptor (T k).2.2.1 = some (ty0 k)) (hnm : ∀ a, a < N → ∀ b, b < N → a ≠ b → (T a).2.1 ≠ (T b).2.1) (hf : (T k).2.2.2 = false) (ht : ty0 k = ty) (hn : pc + 3 = nx) : g_S J pc (tr_put ci k ty nx) := by
  subst hn
  subst ht
  intro l L st h K Post hK hT
  unfold tr_put at hT
  split at hT
  next v a st' =>
    obtain ⟨fs, _, h1, h2, ⟨h3, h4⟩, rfl, h5⟩ := hT
    refine g_stepU (g_Gr_up h1) rfl (fun D p e s m args below meth c H locs R cells slots Q ls h0 C hG hR hS kk => ?_) (hK _ _ _ _ h5)
    have hts := C.2.2.2.2.1
    have hKs := C.2.2.2.2.2.1
    have hap := va_apart (own := J.1.cls) hts hin ty0 hty hnm hKs hc
    obtain ⟨r, hr, cell, q1, q2, q3, q4⟩ := hR.2 a _ h1
    have hr' : r = (Cn, T, N) := Option.some.inj (hr.symm.trans hc)
    subst hr'
    obtain ⟨hSl, hfc, kC, hkC, hkind⟩ := hKs.1 ci _ hc
    obtain ⟨cf, kf, fi, f, hi, hsl⟩ := hSl k hk
    have hlay := hts _ (hin _ (u_in_lay hk))
    unfold u_lay at hlay
    rw [if_neg (by rw [hf]; decide)] at hlay
    have hst := (u_facts hfc hkC (u_lays hts hin hk) hi).1
    have h6 := u_store hfc hkC hkind hlay hi (hty k hk) h3 h4
    refine va_WputK C.1 C.2.1 (f := f) C.2.2.2.1 (hts _ hl) hi hst (by rw [q2]; exact h6) q1 q3 (by rw [hsl]; exact k2_hasslot (q4 k hk)) rfl rfl hd fun H' e1 e2 e3 => ?_
    rw [hsl] at e1 ⊢
    exact kk H' _ (g_Rep_up hR h1 (g_put_cell hc hk h2 hap q2 q3 q4 e1) e2 e3) (hS.put e2 e3 (hG.2.2 a (by rw [h1]; exact fun z => by cases z)))
  next => exact hT.elim
theorem so_putF {J : g_J} {pc nx ci k idx N : Nat} {Cn : String} {T : u_T} {ty : FieldType} (ty0 : Nat → FieldType) (hd : decode J.2.1 pc = .ok (.putfield idx, 3)) (hc : vwCl[ci]? = some (Cn, T, N)) (hk : k < N) (hin : ∀ w ∈ u_ws Cn T N, w ∈ g_W) (hl : Cond.fieldLink J.1.cls idx (T k).1 (T k).2.1 (T k).2.2.1 ∈ g_W) (hty : ∀ k, k < N → parseFieldDescriptor (T k).2.2.1 = some (ty0 k)) (hnm : ∀ a, a < N → ∀ b, b < N → a ≠ b → (T a).2.1 ≠ (T b).2.1) (hf : (T k).2.2.2 = true) (hin2 : J.1.name = "<init>") (hdecl : (T k).1 = J.1.cls) (ht : ty0 k = ty) (hn : pc + 3 = nx) : g_S J pc (tr_put ci k ty nx) := by
  subst hn
  subst ht
  intro l L st h K Post hK hT
  unfold tr_put at hT
  split at hT
  next v a st' =>
    obtain ⟨fs, _, h1, h2, ⟨h3, h4⟩, rfl, h5⟩ := hT
    refine g_stepU (g_Gr_up h1) rfl (fun D p e s m args below meth c H locs R cells slots Q ls h0 C hG hR hS kk => ?_) (hK _ _ _ _ h5)
    have hts := C.2.2.2.2.1
    have hKs := C.2.2.2.2.2.1
    have hown := C.2.2.2.1
    have hap := va_apart (own := J.1.cls) hts hin ty0 hty hnm hKs hc
    obtain ⟨r, hr, cell, q1, q2, q3, q4⟩ := hR.2 a _ h1
    have hr' : r = (Cn, T, N) := Option.some.inj (hr.symm.trans hc)
    subst hr'
    obtain ⟨hSl, hfc, kC, hkC, hkind⟩ := hKs.1 ci _ hc
    obtain ⟨cf, kf, fi, f, hi, hsl⟩ := hSl k hk
    have hlay := hts _ (hin _ (u_in_lay hk))
    unfold u_lay at hlay
    rw [if_pos hf] at hlay
    have hst := (u_facts hfc hkC (u_lays hts hin hk) hi).1
    have hcf : m.cls = cf := by
      obtain ⟨_, _, c', _, _, _, -, -, hf', -, -, -, hown2, -⟩ := Cond.laysFinal_spec hlay
      have e1 : c' = cf := by have := hi.symm.trans hf'; simp at this; exact this.1.symm
      rw [hdecl] at hown2
      rw [← e1]; exact Option.some.inj (hown.symm.trans hown2)
    have h6 := u_fits hfc hkC hkind (Or.inr hlay) hi (hty k hk) h3 h4
    refine W.putFinK C.1 C.2.1 hown (hts _ hl) hi hst hcf (C.2.2.2.2.2.2.2.2.1.trans hin2) (by rw [q2]; exact h6) q1 q3 (by rw [hsl]; exact k2_hasslot (q4 k hk)) rfl rfl hd fun H' e1 e2 e3 => ?_
    rw [hsl] at e1 ⊢
    exact kk H' _ (g_Rep_up hR h1 (g_put_cell hc hk h2 hap q2 q3 q4 e1) e2 e3) (hS.put e2 e3 (hG.2.2 a (by rw [h1]; exact fun z => by cases z)))
  next => exact hT.elim
/-! arrays -/
def g_al (h : g_H) (a : Nat) (i : Int32) (P : Int32 → Prop) : Prop := ∃ (xs : List Int32) (x : Int32), h.1 a = some (.inl (.inl xs)) ∧ vp_in i xs.length ∧ x = xs.getD i.toNatClampNeg 0 ∧ P x
theorem g_al_i {h : g_H} {a : Nat} {i : Int32} {P : Int32 → Prop} {xs : List Int32} (h1 : h.1 a = some (.inl (.inl xs))) (h2 : vp_in i xs.length) (h3 : P (xs.getD i.toNatClampNeg 0)) : g_al h a i P := ⟨xs, _, h1, h2, rfl, h3⟩
def tr_ial (nx : Nat) : g_T := fun _ L st h K _ => match st with
  | .int i :: .ref a :: st' => g_al h a i (fun x => K nx L (.int x :: st') h)
  | _ => False
theorem so_iaload {J : g_J} {pc nx : Nat} (hd : decode J.2.1 pc = .ok (.iaload, 1)) (hn : pc + 1 = nx) : g_S J pc (tr_ial nx) := by
  subst hn
  intro l L st h K Post hK hT
  unfold tr_ial at hT
  split at hT
  next i a st' =>
    obtain ⟨xs, _, h1, h2, rfl, h3⟩ := hT
    have hlt : i.toNatClampNeg < xs.length := Nat.not_le.mp fun q => h2 (Or.inr q)
    refine g_step (fun D p e s m args below meth c H locs R cells slots Q ls C hR hl hE0 hM kk => ?_) (hK _ _ _ _ h3)
    exact W.iald (v := .int (xs.getD i.toNatClampNeg 0)) C.1 C.2.1 (hR.2 a _ h1) ((C.2.2.2.2.2.1.2 0 _ rfl).1 xs.length (fun j => .int (xs.getD j 0))) (fun q => by cases q) (by show ¬ (i < 0 ∨ (arrV _ _ _).slots.size ≤ _); rw [arrV_size]; exact h2) (by show (arrV _ _ _).slots[_]? = _; rw [arrV_read _ _ hlt]) rfl rfl hd (kk ls hl)
  next => exact hT.elim
theorem g_arr_set (cA : ClassId) (xs : List Int32) (k : Nat) (x : Int32) (hk : k < xs.length) : (arrV cA xs.length (fun j => .int (xs.getD j 0))).setSlot k (.int x) = arrV cA (xs.set k x).length (fun j => .int ((xs.set k x).getD j 0)) := by
  rw [arrV_store, List.length_set]
  congr 1
  funext j
  by_cases hj : j = k
  · subst hj
    simp [updV, hk]
  · simp [updV, hj, List.getElem?_set, Ne.symm hj]
def g_as (h : g_H) (a : Nat) (i x : Int32) (P : g_H → Prop) : Prop := ∃ (xs : List Int32) (h1 : g_H), h.1 a = some (.inl (.inl xs)) ∧ vp_in i xs.length ∧ h1 = g_up h a (.inl (.inl (xs.set i.toNatClampNeg x))) ∧ P h1
theorem g_as_i {h : g_H} {a : Nat} {i x : Int32} {P : g_H → Prop} {xs : List Int32} (h1 : h.1 a = some (.inl (.inl xs))) (h2 : vp_in i xs.length) (h3 : P (g_up h a (.inl (.inl (xs.set i.toNatClampNeg x))))) : g_as h a i x P := ⟨xs, _, h1, h2, rfl, h3⟩
def tr_ias (nx : Nat) : g_T := fun _ L st h K _ => match st with
  | .int x :: .int i :: .ref a :: st' => g_as h a i x (fun h1 => K nx L st' h1)
  | _ => False
theorem so_iastore {J : g_J} {pc nx : Nat} (hd : decode J.2.1 pc = .ok (.iastore, 1)) (hn : pc + 1 = nx) : g_S J pc (tr_ias nx) := by
  subst hn
  intro l L st h K Post hK hT
  unfold tr_ias at hT
  split at hT
  next x i a st' =>
    obtain ⟨xs, _, h1, h2, rfl, h3⟩ := hT
    have hlt : i.toNatClampNeg < xs.length := Nat.not_le.mp fun q => h2 (Or.inr q)
    refine g_stepU (g_Gr_up h1) rfl (fun D p e s m args below meth c H locs R cells slots Q ls h0 C hG hR hS kk => ?_) (hK _ _ _ _ h3)
    refine W.iast C.1 C.2.1 (hR.2 a _ h1) ((C.2.2.2.2.2.1.2 0 _ rfl).1 xs.length (fun j => .int (xs.getD j 0))) (fun q => by cases q) (by show ¬ (i < 0 ∨ (arrV _ _ _).slots.size ≤ _); rw [arrV_size]; exact h2) rfl rfl hd fun H' e1 e2 e3 => ?_
    refine kk H' _ (g_Rep_up hR h1 ?_ e2 e3) (hS.put e2 e3 (hG.2.2 a (by rw [h1]; exact fun z => by cases z)))
    show H'[a]? = some (arrV _ _ _)
    rw [e1, g_arr_set _ _ _ _ hlt]
  next => exact hT.elim
theorem g_arr_setL (cA : ClassId) (xs : List Int64) (k : Nat) (x : Int64) (hk : k < xs.length) : (arrV cA xs.length (fun j => .long (xs.getD j 0))).setSlot k (.long x) = arrV cA (xs.set k x).length (fun j => .long ((xs.set k x).getD j 0)) := by
  rw [arrV_store, List.length_set]
  congr 1
  funext j
  by_cases hj : j = k
  · subst hj
    simp [updV, hk]
  · simp [updV, hj, List.getElem?_set, Ne.symm hj]
def g_asL (h : g_H) (a : Nat) (i : Int32) (x : Int64) (P : g_H → Prop) : Prop := ∃ (xs : List Int64) (h1 : g_H), h.1 a = some (.inl (.inr (.inl xs))) ∧ vp_in i xs.length ∧ h1 = g_up h a (.inl (.inr (.inl (xs.set i.toNatClampNeg x)))) ∧ P h1
theorem g_asL_i {h : g_H} {a : Nat} {i : Int32} {x : Int64} {P : g_H → Prop} {xs : List Int64} (h1 : h.1 a = some (.inl (.inr (.inl xs)))) (h2 : vp_in i xs.length) (h3 : P (g_up h a (.inl (.inr (.inl (xs.set i.toNatClampNeg x)))))) : g_asL h a i x P := ⟨xs, _, h1, h2, rfl, h3⟩
def tr_las (nx : Nat) : g_T := fun _ L st h K _ => match st with
  | .long x :: .int i :: .ref a :: st' => g_asL h a i x (fun h1 => K nx L st' h1)
  | _ => False
theorem so_lastore {J : g_J} {pc nx : Nat} (hd : decode J.2.1 pc = .ok (.lastore, 1)) (hn : pc + 1 = nx) : g_S J pc (tr_las nx) := by
  subst hn
  intro l L st h K Post hK hT
  unfold tr_las at hT
  split at hT
  next x i a st' =>
    obtain ⟨xs, _, h1, h2, rfl, h3⟩ := hT
    have hlt : i.toNatClampNeg < xs.length := Nat.not_le.mp fun q => h2 (Or.inr q)
    refine g_stepU (g_Gr_up h1) rfl (fun D p e s m args below meth c H locs R cells slots Q ls h0 C hG hR hS kk => ?_) (hK _ _ _ _ h3)
    refine W.last C.1 C.2.1 (hR.2 a _ h1) ((C.2.2.2.2.2.1.2 1 _ rfl).1 xs.length (fun j => .long (xs.getD j 0))) (fun q => by cases q) (by show ¬ (i < 0 ∨ (arrV _ _ _).slots.size ≤ _); rw [arrV_size]; exact h2) rfl rfl hd fun H' e1 e2 e3 => ?_
    refine kk H' _ (g_Rep_up hR h1 ?_ e2 e3) (hS.put e2 e3 (hG.2.2 a (by rw [h1]; exact fun z => by cases z)))
    show H'[a]? = some (arrV _ _ _)
    rw [e1, g_arr_setL _ _ _ _ hlt]
  next => exact hT.elim
def g_alL (h : g_H) (a : Nat) (i : Int32) (P : Int64 → Prop) : Prop := ∃ (xs : List Int64) (x : Int64), h.1 a = some (.inl (.inr (.inl xs))) ∧ vp_in i xs.length ∧ x = xs.getD i.toNatClampNeg 0 ∧ P x
theorem g_alL_i {h : g_H} {a : Nat} {i : Int32} {P : Int64 → Prop} {xs : List Int64} (h1 : h.1 a = some (.inl (.inr (.inl xs)))) (h2 : vp_in i xs.length) (h3 : P (xs.getD i.toNatClampNeg 0)) : g_alL h a i P := ⟨xs, _, h1, h2, rfl, h3⟩
def tr_lal (nx : Nat) : g_T := fun _ L st h K _ => match st with
  | .int i :: .ref a :: st' => g_alL h a i (fun x => K nx L (.long x :: st') h)
  | _ => False
theorem so_laload {J : g_J} {pc nx : Nat} (hd : decode J.2.1 pc = .ok (.laload, 1)) (hn : pc + 1 = nx) : g_S J pc (tr_lal nx) := by
  subst hn
  intro l L st h K Post hK hT
  unfold tr_lal at hT
  split at hT
  next i a st' =>
    obtain ⟨xs, _, h1, h2, rfl, h3⟩ := hT
    have hlt : i.toNatClampNeg < xs.length := Nat.not_le.mp fun q => h2 (Or.inr q)
    refine g_step (fun D p e s m args below meth c H locs R cells slots Q ls C hR hl hE0 hM kk => ?_) (hK _ _ _ _ h3)
    exact W.lald (v := .long (xs.getD i.toNatClampNeg 0)) C.1 C.2.1 (hR.2 a _ h1) ((C.2.2.2.2.2.1.2 1 _ rfl).1 xs.length (fun j => .long (xs.getD j 0))) (fun q => by cases q) (by show ¬ (i < 0 ∨ (arrV _ _ _).slots.size ≤ _); rw [arrV_size]; exact h2) (by show (arrV _ _ _).slots[_]? = _; rw [arrV_read _ _ hlt]) rfl rfl hd (kk ls hl)
  next => exact hT.elim
def tr_len (nx : Nat) : g_T := fun _ L st h K _ => match st with
  | .ref a :: st' => ∃ xs : List Int32, h.1 a = some (.inl (.inl xs)) ∧ K nx L (.int (Int32.ofNat xs.length) :: st') h
  | _ => False
theorem so_len {J : g_J} {pc nx : Nat} (hd : decode J.2.1 pc = .ok (.arraylength, 1)) (hn : pc + 1 = nx) : g_S J pc (tr_len nx) := by
  subst hn
  intro l L st h K Post hK hT
  unfold tr_len at hT
  split at hT
  next a st' =>
    obtain ⟨xs, h1, h3⟩ := hT
    refine g_step (fun D p e s m args below meth c H locs R cells slots Q ls C hR hl hE0 hM kk => ?_) (hK _ _ _ _ h3)
    exact W.alen (n := Int32.ofNat xs.length) C.1 C.2.1 (hR.2 a _ h1) ((C.2.2.2.2.2.1.2 0 _ rfl).1 xs.length (fun j => .int (xs.getD j 0))) (by rw [arrV_size] <;> rfl) rfl rfl hd (kk ls hl)
  next => exact hT.elim
/-! byte arrays -/
def g_alB (h : g_H) (a : Nat) (i : Int32) (P : Int32 → Prop) : Prop := ∃ (xs : List Int32) (x : Int32), h.1 a = some (.inl (.inr (.inr xs))) ∧ vp_in i xs.length ∧ x = xs.getD i.toNatClampNeg 0 ∧ P x
theorem g_alB_i {h : g_H} {a : Nat} {i : Int32} {P : Int32 → Prop} {xs : List Int32} (h1 : h.1 a = some (.inl (.inr (.inr xs)))) (h2 : vp_in i xs.length) (h3 : P (xs.getD i.toNatClampNeg 0)) : g_alB h a i P := ⟨xs, _, h1, h2, rfl, h3⟩
def tr_bal (nx : Nat) : g_T := fun _ L st h K _ => match st with
  | .int i :: .ref a :: st' => g_alB h a i (fun x => K nx L (.int x :: st') h)
  | _ => False
theorem so_baload {J : g_J} {pc nx : Nat} (hd : decode J.2.1 pc = .ok (.baload, 1)) (hn : pc + 1 = nx) : g_S J pc (tr_bal nx) := by
  subst hn
  intro l L st h K Post hK hT
  unfold tr_bal at hT
  split at hT
  next i a st' =>
    obtain ⟨xs, _, h1, h2, rfl, h3⟩ := hT
    have hlt : i.toNatClampNeg < xs.length := Nat.not_le.mp fun q => h2 (Or.inr q)
    refine g_step (fun D p e s m args below meth c H locs R cells slots Q ls C hR hl hE0 hM kk => ?_) (hK _ _ _ _ h3)
    exact W.bald (v := .int (xs.getD i.toNatClampNeg 0)) C.1 C.2.1 (hR.2 a _ h1) ((C.2.2.2.2.2.1.2 2 _ rfl).1 xs.length (fun j => .int (xs.getD j 0))) (fun q => by cases q) (by show ¬ (i < 0 ∨ (arrV _ _ _).slots.size ≤ _); rw [arrV_size]; exact h2) (by show (arrV _ _ _).slots[_]? = _; rw [arrV_read _ _ hlt]) rfl rfl hd (kk ls hl)
  next => exact hT.elim
def g_asB (h : g_H) (a : Nat) (i x : Int32) (P : g_H → Prop) : Prop := ∃ (xs : List Int32) (h1 : g_H), h.1 a = some (.inl (.inr (.inr xs))) ∧ vp_in i xs.length ∧ narrow .byte (.int x) = .int x ∧ h1 = g_up h a (.inl (.inr (.inr (xs.set i.toNatClampNeg x)))) ∧ P h1
theorem g_asB_i {h : g_H} {a : Nat} {i x : Int32} {P : g_H → Prop} {xs : List Int32} (h1 : h.1 a = some (.inl (.inr (.inr xs)))) (h2 : vp_in i xs.length) (h4 : narrow .byte (.int x) = .int x) (h3 : P (g_up h a (.inl (.inr (.inr (xs.set i.toNatClampNeg x)))))) : g_asB h a i x P := ⟨xs, _, h1, h2, h4, rfl, h3⟩
def tr_bas (nx : Nat) : g_T := fun _ L st h K _ => match st with
  | .int x :: .int i :: .ref a :: st' => g_asB h a i x (fun h1 => K nx L st' h1)
  | _ => False
theorem so_bastore {J : g_J} {pc nx : Nat} (hd : decode J.2.1 pc = .ok (.bastore, 1)) (hn : pc + 1 = nx) : g_S J pc (tr_bas nx) := by
  subst hn
  intro l L st h K Post hK hT
  unfold tr_bas at hT
  split at hT
  next x i a st' =>
    obtain ⟨xs, _, h1, h2, h4, rfl, h3⟩ := hT
    have hlt : i.toNatClampNeg < xs.length := Nat.not_le.mp fun q => h2 (Or.inr q)
    refine g_stepU (g_Gr_up h1) rfl (fun D p e s m args below meth c H locs R cells slots Q ls h0 C hG hR hS kk => ?_) (hK _ _ _ _ h3)
    refine W.bast C.1 C.2.1 (hR.2 a _ h1) ((C.2.2.2.2.2.1.2 2 _ rfl).1 xs.length (fun j => .int (xs.getD j 0))) (fun q => by cases q) (by show ¬ (i < 0 ∨ (arrV _ _ _).slots.size ≤ _); rw [arrV_size]; exact h2) rfl rfl hd fun H' e1 e2 e3 => ?_
    refine kk H' _ (g_Rep_up hR h1 ?_ e2 e3) (hS.put e2 e3 (hG.2.2 a (by rw [h1]; exact fun z => by cases z)))
    show H'[a]? = some (arrV _ _ _)
    rw [e1, h4, g_arr_set _ _ _ _ hlt]
  next => exact hT.elim
/-! new cells -/
def tr_new (ci N : Nat) (fs : List Value) (nx : Nat) : g_T := fun _ L st h K _ => K nx L (.ref h.2.1 :: st) (g_nw h (.inr (ci, fs)) N)
theorem so_new {J : g_J} {pc nx ci idx N : Nat} {Cn : String} {T : u_T} {fs : List Value} (ty0 : Nat → FieldType) (hd : decode J.2.1 pc = .ok (.new idx, 3)) (hc : vwCl[ci]? = some (Cn, T, N)) (hin : ∀ w ∈ u_ws Cn T N, w ∈ g_W) (hl : Cond.classLink J.1.cls idx Cn ∈ g_W) (hi : Cond.instantiable Cn N ∈ g_W) (hini : Cond.initialized Cn ∈ g_W) (hty : ∀ k, k < N → parseFieldDescriptor (T k).2.2.1 = some (ty0 k)) (hfs : ∀ j, j < N → defaultValue (ty0 j) = vp_V fs j) (hn : pc + 3 = nx) : g_S J pc (tr_new ci N fs nx) := by
  subst hn
  intro l L st h K Post hK hT
  unfold tr_new at hT
  have z1 : (g_nw h (.inr (ci, fs)) N).2.1 - h.2.1 = 1 := Nat.add_sub_cancel_left ..
  have z2 : (g_nw h (.inr (ci, fs)) N).2.2 - h.2.2 = N := Nat.add_sub_cancel_left ..
  refine g_stepH g_Gr_nw (fun D p e s m args below meth c H locs R cells slots Q ls h0 C hG hR hS hZ hM hc1 hc2 kk => ?_) (hK _ _ _ _ hT)
  rw [z1] at hc1 kk
  rw [z2] at hc2 kk
  have hts := C.2.2.2.2.1
  have hKn := C.2.2.2.2.2.1.1 ci _ hc
  refine W.newcK C.1 C.2.1 C.2.2.2.1 (hts _ hl) (hts _ hi) (hts _ hini) rfl hd hc1 hc2 hKn.2.1 hR.1 fun H1 kC hkC e1 e2 e3 => ?_
  have hlt : s.heap.size ≤ h.2.1 := by rw [← hR.1]; exact hS.1
  refine kk H1 locs (g_Rep_nw hR ⟨_, hc, (u_born ty0 hts hin hKn hkC e1 hty).to hfs⟩ e2 e3) ⟨Nat.le_trans hlt (by omega), fun q h1 h2 => (e3 q (Nat.lt_of_lt_of_le h1 hlt)).trans (hS.2.1 q h1 h2), hS.2.2⟩
def tr_nai (nx : Nat) : g_T := fun _ L st h K _ => match st with
  | .int n :: st' => ¬ n < 0 ∧ n.toNatClampNeg * 4 ≤ 536870912 ∧ K nx L (.ref h.2.1 :: st') (g_nw h (.inl (.inl (List.replicate n.toNatClampNeg 0))) n.toNatClampNeg)
  | _ => False
theorem so_newai {J : g_J} {pc nx : Nat} (hd : decode J.2.1 pc = .ok (.newarray .int, 2)) (hw : Cond.arrayClass .int ∈ g_W) (hn : pc + 2 = nx) : g_S J pc (tr_nai nx) := by
  subst hn
  intro l L st h K Post hK hT
  unfold tr_nai at hT
  split at hT
  next n st' =>
    obtain ⟨h1, h2, h3⟩ := hT
    have z1 : (g_nw h (.inl (.inl (List.replicate n.toNatClampNeg 0))) n.toNatClampNeg).2.1 - h.2.1 = 1 := Nat.add_sub_cancel_left ..
    have z2 : (g_nw h (.inl (.inl (List.replicate n.toNatClampNeg 0))) n.toNatClampNeg).2.2 - h.2.2 = n.toNatClampNeg := Nat.add_sub_cancel_left ..
    refine g_stepH g_Gr_nw (fun D p e s m args below meth c H locs R cells slots Q ls h0 C hG hR hS hZ hM hc1 hc2 kk => ?_) (hK _ _ _ _ h3)
    rw [z1] at hc1 kk
    rw [z2] at hc2 kk
    refine va_newaK (atype := .int) C.1 C.2.1 (C.2.2.2.2.1 _ hw) rfl hd rfl h1 rfl h2 hc1 hc2 hR.1 fun H1 cA e1 e2 e3 hAr hNm => ?_
    have hlt : s.heap.size ≤ h.2.1 := by rw [← hR.1]; exact hS.1
    have hcA : cA = D.2.1 := Option.some.inj (hNm.symm.trans (C.2.2.2.2.2.1.2 0 _ rfl).2)
    subst hcA
    refine kk H1 locs (g_Rep_nw hR ?_ e2 e3) ⟨Nat.le_trans hlt (by omega), fun q h1 h2 => (e3 q (Nat.lt_of_lt_of_le h1 hlt)).trans (hS.2.1 q h1 h2), hS.2.2⟩
    show H1[h.2.1]? = some (arrV _ _ _)
    rw [e1, List.length_replicate]
    congr 2
    funext j
    by_cases hj : j < n.toNatClampNeg
    · simp [List.getElem?_replicate, hj] <;> rfl
    · simp [List.getElem?_replicate, hj] <;> rfl
  next => exact hT.elim
def tr_nal (nx : Nat) : g_T := fun _ L st h K _ => match st with
  | .int n :: st' => ¬ n < 0 ∧ n.toNatClampNeg * 8 ≤ 536870912 ∧ K nx L (.ref h.2.1 :: st') (g_nw h (.inl (.inr (.inl (List.replicate n.toNatClampNeg 0)))) n.toNatClampNeg)
  | _ => False
theorem so_newal {J : g_J} {pc nx : Nat} (hd : decode J.2.1 pc = .ok (.newarray .long, 2)) (hw : Cond.arrayClass .long ∈ g_W) (hn : pc + 2 = nx) : g_S J pc (tr_nal nx) := by
  subst hn
  intro l L st h K Post hK hT
  unfold tr_nal at hT
  split at hT
  next n st' =>
    obtain ⟨h1, h2, h3⟩ := hT
    have z1 : (g_nw h (.inl (.inr (.inl (List.replicate n.toNatClampNeg 0)))) n.toNatClampNeg).2.1 - h.2.1 = 1 := Nat.add_sub_cancel_left ..
    have z2 : (g_nw h (.inl (.inr (.inl (List.replicate n.toNatClampNeg 0)))) n.toNatClampNeg).2.2 - h.2.2 = n.toNatClampNeg := Nat.add_sub_cancel_left ..
    refine g_stepH g_Gr_nw (fun D p e s m args below meth c H locs R cells slots Q ls h0 C hG hR hS hZ hM hc1 hc2 kk => ?_) (hK _ _ _ _ h3)
    rw [z1] at hc1 kk
    rw [z2] at hc2 kk
    refine va_newaK (atype := .long) C.1 C.2.1 (C.2.2.2.2.1 _ hw) rfl hd rfl h1 rfl h2 hc1 hc2 hR.1 fun H1 cA e1 e2 e3 hAr hNm => ?_
    have hlt : s.heap.size ≤ h.2.1 := by rw [← hR.1]; exact hS.1
    have hcA : cA = D.2.2.1 := Option.some.inj (hNm.symm.trans (C.2.2.2.2.2.1.2 1 _ rfl).2)
    subst hcA
    refine kk H1 locs (g_Rep_nw hR ?_ e2 e3) ⟨Nat.le_trans hlt (by omega), fun q h1 h2 => (e3 q (Nat.lt_of_lt_of_le h1 hlt)).trans (hS.2.1 q h1 h2), hS.2.2⟩
    show H1[h.2.1]? = some (arrV _ _ _)
    rw [e1, List.length_replicate]
    congr 2
    funext j
    by_cases hj : j < n.toNatClampNeg
    · simp [List.getElem?_replicate, hj] <;> rfl
    · simp [List.getElem?_replicate, hj] <;> rfl
  next => exact hT.elim
def tr_nab (nx : Nat) : g_T := fun _ L st h K _ => match st with
  | .int n :: st' => ¬ n < 0 ∧ n.toNatClampNeg * 1 ≤ 536870912 ∧ K nx L (.ref h.2.1 :: st') (g_nw h (.inl (.inr (.inr (List.replicate n.toNatClampNeg 0)))) n.toNatClampNeg)
  | _ => False
theorem so_newab {J : g_J} {pc nx : Nat} (hd : decode J.2.1 pc = .ok (.newarray .byte, 2)) (hw : Cond.arrayClass .byte ∈ g_W) (hn : pc + 2 = nx) : g_S J pc (tr_nab nx) := by
  subst hn
  intro l L st h K Post hK hT
  unfold tr_nab at hT
  split at hT
  next n st' =>
    obtain ⟨h1, h2, h3⟩ := hT
    have z1 : (g_nw h (.inl (.inr (.inr (List.replicate n.toNatClampNeg 0)))) n.toNatClampNeg).2.1 - h.2.1 = 1 := Nat.add_sub_cancel_left ..
    have z2 : (g_nw h (.inl (.inr (.inr (List.replicate n.toNatClampNeg 0)))) n.toNatClampNeg).2.2 - h.2.2 = n.toNatClampNeg := Nat.add_sub_cancel_left ..
    refine g_stepH g_Gr_nw (fun D p e s m args below meth c H locs R cells slots Q ls h0 C hG hR hS hZ hM hc1 hc2 kk => ?_) (hK _ _ _ _ h3)
    rw [z1] at hc1 kk
    rw [z2] at hc2 kk
    refine va_newaK (atype := .byte) C.1 C.2.1 (C.2.2.2.2.1 _ hw) rfl hd rfl h1 rfl h2 hc1 hc2 hR.1 fun H1 cA e1 e2 e3 hAr hNm => ?_
    have hlt : s.heap.size ≤ h.2.1 := by rw [← hR.1]; exact hS.1
    have hcA : cA = D.2.2.2 := Option.some.inj (hNm.symm.trans (C.2.2.2.2.2.1.2 2 _ rfl).2)
    subst hcA
    refine kk H1 locs (g_Rep_nw hR ?_ e2 e3) ⟨Nat.le_trans hlt (by omega), fun q h1 h2 => (e3 q (Nat.lt_of_lt_of_le h1 hlt)).trans (hS.2.1 q h1 h2), hS.2.2⟩
    show H1[h.2.1]? = some (arrV _ _ _)
    rw [e1, List.length_replicate]
    congr 2
    funext j
    by_cases hj : j < n.toNatClampNeg
    · simp [List.getElem?_replicate, hj] <;> rfl
    · simp [List.getElem?_replicate, hj] <;> rfl
  next => exact hT.elim
/-! ends -/
theorem g_end {l : Launch} {J : g_J} {pc : Nat} {L : g_L} {st : List Value} {h : g_H} {Post : g_P} {v : Option Value} (hp : Post (.inl v) h)
    (hw : ∀ (D : g_D) (p : Program) (e : Env) (s : State) (m : MethodId) (args : Array Value) (below : List Frame) (meth : Method) (c : Code) (H : Heap) (locs : List Loc) (R : Room) (cells slots : Nat) (ls : Array Slot) (Qc : Array Value → State → Outcome → State → Prop) (free : Addr → Prop), g_CX J D p s m args meth c →
      (∀ t : State, t.heap = H → s.WarmedH t.vm → Qc args s (.returned v) t) → (∀ q ∈ locs, free q.base) → W p l e R s m args below meth c H locs cells slots (MQ below Qc args s cells slots free) (F0 m pc ls st)) : g_X l J pc L st h Post := by
  refine ⟨.inl v, h, hp, g_Gr_rf h, fun D p e s m args below meth c H locs h0 ls C hR0 hG hR hS hl => ?_⟩
  refine g_W_mono (fun t ht => ?_) (hw D p e s m args below meth c H locs _ _ _ ls (fun _ s oc t => oc = .returned v ∧ g_Rep D h t.heap ∧ va_F (g_A h0) s t) (g_A h0) C (fun t ht hW => ⟨rfl, by rw [ht]; exact hR, hS.F ht⟩) hS.2.2)
  obtain ⟨oc, a1, a2, ⟨b1, b2, b3⟩, L', ⟨-, c1, c2⟩, d⟩ := ht
  exact ⟨oc, a1, a2, b1, b2, b3, L', ⟨c1, c2⟩, d⟩
def tr_ri : g_T := fun _ _ st h _ Post => match st with
  | [.int v] => Post (.inl (some (.int v))) h
  | _ => False
theorem so_iret {J : g_J} {pc : Nat} (hd : decode J.2.1 pc = .ok (.ireturn, 1)) (hr : J.2.2.2.1 = some .int) : g_S J pc tr_ri := by
  intro l L st h K Post hK hT
  unfold tr_ri at hT
  split at hT
  next v => exact g_end hT (fun D p e s m args below meth c H locs R cells slots ls Qc free C hq hf => W.iret C.1 C.2.1 (C.2.2.2.2.2.2.1.trans hr) hq hf hd C.2.2.2.2.2.2.2.1)
  next => exact hT.elim
def tr_rz : g_T := fun _ _ st h _ Post => match st with
  | [.int v] => narrow .boolean (.int v) = .int v ∧ Post (.inl (some (.int v))) h
  | _ => False
theorem so_zret {J : g_J} {pc : Nat} (hd : decode J.2.1 pc = .ok (.ireturn, 1)) (hr : J.2.2.2.1 = some .boolean) : g_S J pc tr_rz := by
  intro l L st h K Post hK hT
  unfold tr_rz at hT
  split at hT
  next v => exact g_end hT.2 (fun D p e s m args below meth c H locs R cells slots ls Qc free C hq hf => W.zret C.1 C.2.1 (C.2.2.2.2.2.2.1.trans hr) hT.1 hq hf hd C.2.2.2.2.2.2.2.1)
  next => exact hT.elim
def tr_rl : g_T := fun _ _ st h _ Post => match st with
  | [.long v] => Post (.inl (some (.long v))) h
  | _ => False
theorem so_lret {J : g_J} {pc : Nat} (hd : decode J.2.1 pc = .ok (.lreturn, 1)) (hr : J.2.2.2.1 = some .long) : g_S J pc tr_rl := by
  intro l L st h K Post hK hT
  unfold tr_rl at hT
  split at hT
  next v => exact g_end hT (fun D p e s m args below meth c H locs R cells slots ls Qc free C hq hf => W.lret C.1 C.2.1 (C.2.2.2.2.2.2.1.trans hr) hq hf hd C.2.2.2.2.2.2.2.1)
  next => exact hT.elim
def tr_ra : g_T := fun _ _ st h _ Post => match st with
  | [.ref v] => Post (.inl (some (.ref v))) h
  | _ => False
theorem so_aret {J : g_J} {pc : Nat} {Cn : String} (hd : decode J.2.1 pc = .ok (.areturn, 1)) (hr : J.2.2.2.1 = some (.object Cn)) : g_S J pc tr_ra := by
  intro l L st h K Post hK hT
  unfold tr_ra at hT
  split at hT
  next v => exact g_end hT (fun D p e s m args below meth c H locs R cells slots ls Qc free C hq hf => W.aret C.1 C.2.1 (C.2.2.2.2.2.2.1.trans hr) (Or.inl ⟨_, rfl⟩) (Or.inr ⟨_, rfl⟩) hq hf hd C.2.2.2.2.2.2.2.1)
  next => exact hT.elim
def tr_rv : g_T := fun _ _ st h _ Post => match st with
  | [] => Post (.inl none) h
  | _ => False
theorem so_vret {J : g_J} {pc : Nat} (hd : decode J.2.1 pc = .ok (.return_, 1)) (hr : J.2.2.2.1 = none) : g_S J pc tr_rv := by
  intro l L st h K Post hK hT
  unfold tr_rv at hT
  split at hT
  next => exact g_end hT (fun D p e s m args below meth c H locs R cells slots ls Qc free C hq hf => W.vret C.1 C.2.1 (C.2.2.2.2.2.2.1.trans hr) hq hf hd C.2.2.2.2.2.2.2.1)
  next => exact hT.elim
