/-! TracePacksModel: its fields by number, its arrays by number -/
abbrev z_fs (a : Nat) (F : Nat → Int32) : List Value := [.int (F 0), .int (F 1), .ref (a + 1), .int (F 3), .ref (a + 2), .int (F 5), .int (F 6), .int (F 7), .ref (a + 3), .ref (a + 4), .ref (a + 5), .int (F 11), .int (F 12), .int (F 13), .int (F 14), .int (F 15), .ref (a + 6), .int (F 17), .int (F 18), .int (F 19), .ref (a + 7), .int (F 21), .int (F 22), .int (F 23), .int (F 24), .int (F 25), .ref (a + 8), .ref (a + 9), .ref (a + 10), .ref (a + 11), .ref (a + 12), .ref (a + 13), .ref (a + 14), .ref (a + 15), .ref (a + 16), .ref (a + 17), .int (F 36), .int (F 37), .int (F 38), .int (F 39)]
def z_u {α : Type} (F : Nat → α) (k : Nat) (v : α) : Nat → α := fun j => if j = k then v else F j
theorem z_u_eq {α : Type} {F : Nat → α} {k : Nat} {v : α} : z_u F k v k = v := if_pos rfl
theorem z_u_ne {α : Type} {F : Nat → α} {k j : Nat} {v : α} (h : j ≠ k) : z_u F k v j = F j := if_neg h
def z_cap (i : Nat) : Nat := if i = 1 then 16384 else if i = 2 then 4 else if i ≤ 5 then 100 else if i = 6 then 16400 else if i = 7 then 9 else if i ≤ 13 then 2000 else 110
def o_Z (h : g_H) (a : Nat) (F : Nat → Int32) (A : Nat → List Int32) : Prop := h.1 a = some (.inr (10, z_fs a F)) ∧ h.1 (a + 1) = some (.inl (.inr (.inr (A 1)))) ∧ (∀ i, 2 ≤ i → i ≤ 17 → h.1 (a + i) = some (.inl (.inl (A i)))) ∧ ∀ i, 1 ≤ i → i ≤ 17 → (A i).length = z_cap i
theorem o_Z_Fr {h h1 : g_H} {a lo hi : Nat} {F : Nat → Int32} {A : Nat → List Int32} (hZ : o_Z h a F A) (hf : g_Fr lo hi h h1) (hd : a + 18 ≤ lo ∨ hi ≤ a) : o_Z h1 a F A := ⟨(hf.2 a (by omega)).trans hZ.1, (hf.2 (a + 1) (by omega)).trans hZ.2.1, fun i h2 h3 => (hf.2 (a + i) (by omega)).trans (hZ.2.2.1 i h2 h3), hZ.2.2.2⟩
theorem o_Z_rg {h h1 : g_H} {a : Nat} {F : Nat → Int32} {A : Nat → List Int32} (hZ : o_Z h a F A) (e : ∀ x, a ≤ x → x < a + 18 → h1.1 x = h.1 x) : o_Z h1 a F A := ⟨(e a (by omega) (by omega)).trans hZ.1, (e (a + 1) (by omega) (by omega)).trans hZ.2.1, fun i h2 h3 => (e (a + i) (by omega) (by omega)).trans (hZ.2.2.1 i h2 h3), hZ.2.2.2⟩
/-- a field is written -/
theorem z_fld {h : g_H} {a : Nat} {F : Nat → Int32} {A : Nat → List Int32} (hZ : o_Z h a F A) (F' : Nat → Int32) : o_Z (g_up h a (.inr (10, z_fs a F'))) a F' A ∧ g_Fr a (a + 18) h (g_up h a (.inr (10, z_fs a F'))) := by
  have f1 : g_Fr a (a + 1) h (g_up h a (.inr (10, z_fs a F'))) := g_Fr_up (by omega) (by omega)
  exact ⟨⟨g_up_eq, (f1.2 _ (by omega)).trans hZ.2.1, fun i h2 h3 => (f1.2 _ (by omega)).trans (hZ.2.2.1 i h2 h3), hZ.2.2.2⟩, g_Fr_wd f1 (by omega) (by omega)⟩
/-- an element is written -/
theorem z_arr {h : g_H} {a : Nat} {F : Nat → Int32} {A : Nat → List Int32} (hZ : o_Z h a F A) (i n : Nat) (v : Int32) (h2 : 2 ≤ i) (h3 : i ≤ 17) : o_Z (g_up h (a + i) (.inl (.inl ((A i).set n v)))) a F (z_u A i ((A i).set n v)) ∧ g_Fr a (a + 18) h (g_up h (a + i) (.inl (.inl ((A i).set n v)))) := by
  have f1 : g_Fr (a + i) (a + i + 1) h (g_up h (a + i) (.inl (.inl ((A i).set n v)))) := g_Fr_up (by omega) (by omega)
  refine ⟨⟨(f1.2 _ (by omega)).trans hZ.1, ?_, fun j h4 h5 => ?_, fun j h4 h5 => ?_⟩, g_Fr_wd f1 (by omega) (by omega)⟩
  · rw [z_u_ne (by omega)]
    exact (f1.2 _ (by omega)).trans hZ.2.1
  · by_cases e : j = i
    · subst e
      rw [z_u_eq]
      exact g_up_eq
    · rw [z_u_ne e]
      exact (f1.2 _ (by omega)).trans (hZ.2.2.1 j h4 h5)
  · by_cases e : j = i
    · subst e
      rw [z_u_eq, List.length_set]
      exact hZ.2.2.2 j h4 h5
    · rw [z_u_ne e]
      exact hZ.2.2.2 j h4 h5
theorem z_byt {h : g_H} {a : Nat} {F : Nat → Int32} {A : Nat → List Int32} (hZ : o_Z h a F A) (n : Nat) (v : Int32) : o_Z (g_up h (a + 1) (.inl (.inr (.inr ((A 1).set n v))))) a F (z_u A 1 ((A 1).set n v)) ∧ g_Fr a (a + 18) h (g_up h (a + 1) (.inl (.inr (.inr ((A 1).set n v))))) := by
  have f1 : g_Fr (a + 1) (a + 2) h (g_up h (a + 1) (.inl (.inr (.inr ((A 1).set n v))))) := g_Fr_up (by omega) (by omega)
  refine ⟨⟨(f1.2 _ (by omega)).trans hZ.1, ?_, fun j h4 h5 => ?_, fun j h4 h5 => ?_⟩, g_Fr_wd f1 (by omega) (by omega)⟩
  · rw [z_u_eq]
    exact g_up_eq
  · rw [z_u_ne (by omega)]
    exact (f1.2 _ (by omega)).trans (hZ.2.2.1 j h4 h5)
  · by_cases e : j = 1
    · subst e
      rw [z_u_eq, List.length_set]
      exact hZ.2.2.2 1 h4 h5
    · rw [z_u_ne e]
      exact hZ.2.2.2 j h4 h5
/-! the constructor -/
def z_ini (j : Nat) : g_E := if j = 1 then .inl (.inr (.inr (List.replicate 16384 0))) else .inl (.inl (List.replicate (z_cap j) 0))
theorem g_pt_z {h : g_H} {a k i n N w : Nat} {ty : FieldType} {x : g_E} {P : g_H → Prop} {fs : List Value} {f : Nat → Option g_E} (fs' : List Value) (hA : h.1 a = some (.inr (10, fs))) (hC : ∀ j, 1 ≤ j → j ≤ i → h.1 (a + j) = some (z_ini j)) (hL : ∀ q, q < a → h.1 q = f q) (hZ : h.2 = (a + (i + 1), w)) (hx : x = z_ini (i + 1)) (hn : n = N) (h2 : k < fs.length) (h3 : narrow ty (.ref (a + (i + 1))) = .ref (a + (i + 1))) (h4 : fits ty (.ref (a + (i + 1))) = true) (he : fs.set k (.ref (a + (i + 1))) = fs')
    (kk : ∀ h1 : g_H, h1.1 a = some (.inr (10, fs')) → (∀ j, 1 ≤ j → j ≤ i + 1 → h1.1 (a + j) = some (z_ini j)) → (∀ q, q < a → h1.1 q = f q) → h1.2 = (a + (i + 1 + 1), w + N) → P h1) : g_pt (g_nw h x n) a 10 k ty (.ref h.2.1) P := by
  have e1 : h.2.1 = a + (i + 1) := by rw [hZ]
  have e2 : h.2.2 = w := by rw [hZ]
  rw [e1]
  refine ⟨fs, _, ?_, h2, ⟨h3, h4⟩, rfl, kk _ ?_ ?_ ?_ ?_⟩
  · rw [g_nw_ne (by omega)]
    exact hA
  · rw [g_up_eq, he]
  · intro j j1 j2
    rw [g_up_ne (by omega)]
    by_cases e : j = i + 1
    · rw [e, g_nw_eq (by omega), hx]
    · rw [g_nw_ne (by omega)]
      exact hC j j1 (by omega)
  · intro q hq
    rw [g_up_ne (by omega), g_nw_ne (by omega)]
    exact hL q hq
  · show (h.2.1 + 1, h.2.2 + n) = _
    rw [e1, e2, hn]
    rfl
theorem g_pt_y {h : g_H} {a k i w : Nat} {ty : FieldType} {v : Value} {P : g_H → Prop} {fs : List Value} {f : Nat → Option g_E} (fs' : List Value) (hA : h.1 a = some (.inr (10, fs))) (hC : ∀ j, 1 ≤ j → j ≤ i → h.1 (a + j) = some (z_ini j)) (hL : ∀ q, q < a → h.1 q = f q) (hZ : h.2 = (a + (i + 1), w)) (h2 : k < fs.length) (h3 : narrow ty v = v) (h4 : fits ty v = true) (he : fs.set k v = fs')
    (kk : ∀ h1 : g_H, h1.1 a = some (.inr (10, fs')) → (∀ j, 1 ≤ j → j ≤ i → h1.1 (a + j) = some (z_ini j)) → (∀ q, q < a → h1.1 q = f q) → h1.2 = (a + (i + 1), w) → P h1) : g_pt h a 10 k ty v P := by
  refine ⟨fs, _, hA, h2, ⟨h3, h4⟩, rfl, kk _ ?_ ?_ ?_ hZ⟩
  · rw [g_up_eq, he]
  · intro j j1 j2
    rw [g_up_ne (by omega)]
    exact hC j j1 j2
  · intro q hq
    rw [g_up_ne (by omega)]
    exact hL q hq
def z_F0 : Nat → Int32 := fun k => if k = 13 then 31 else if k = 14 then 15 else 0
def z_A0 : Nat → List Int32 := fun i => List.replicate (z_cap i) 0
theorem c_Z_init {l : Launch} {f : Nat → Option g_E} {w a W : Nat} (hW : W = 45537) (h0 : f a = some (.inr (10, [.int 0, .int 0, .null, .int 0, .null, .int 0, .int 0, .int 0, .null, .null, .null, .int 0, .int 0, .int 0, .int 0, .int 0, .null, .int 0, .int 0, .int 0, .null, .int 0, .int 0, .int 0, .int 0, .int 0, .null, .null, .null, .null, .null, .null, .null, .null, .null, .null, .int 0, .int 0, .int 0, .int 0]))) : g_Run l J_Z_init [.ref a] (f, a + 1, w) (fun oc hE => oc = .inl none ∧ o_Z hE a z_F0 z_A0 ∧ g_Nw a (a + 18) W (f, a + 1, w) hE) := by
  refine go_Z_init [] 200 ?_
  have C : ∀ j, 1 ≤ j → j ≤ 0 → ((f, a + 1, w) : g_H).1 (a + j) = some (z_ini j) := fun j j1 j2 => absurd j1 (by omega)
  have L : ∀ q, q < a → ((f, a + 1, w) : g_H).1 q = f q := fun q _ => rfl
  have Z : ((f, a + 1, w) : g_H).2 = (a + (0 + 1), w) := rfl
  refine And.intro (by decide) (And.intro (by decide) ?_)
  refine g_pt_z (N := 16384) [.int 0, .int 0, .ref (a + 1), .int 0, .null, .int 0, .int 0, .int 0, .null, .null, .null, .int 0, .int 0, .int 0, .int 0, .int 0, .null, .int 0, .int 0, .int 0, .null, .int 0, .int 0, .int 0, .int 0, .int 0, .null, .null, .null, .null, .null, .null, .null, .null, .null, .null, .int 0, .int 0, .int 0, .int 0] h0 C L Z (congrArg (fun n => (.inl (.inr (.inr (List.replicate n 0))) : g_E)) (show (16384 : Int32).toNatClampNeg = 16384 by decide)) (by decide) (Nat.le_of_ble_eq_true rfl) rfl rfl rfl (fun h A C L Z => ?_)
  refine And.intro (by decide) (And.intro (by decide) ?_)
  refine g_pt_z (N := 4) [.int 0, .int 0, .ref (a + 1), .int 0, .ref (a + 2), .int 0, .int 0, .int 0, .null, .null, .null, .int 0, .int 0, .int 0, .int 0, .int 0, .null, .int 0, .int 0, .int 0, .null, .int 0, .int 0, .int 0, .int 0, .int 0, .null, .null, .null, .null, .null, .null, .null, .null, .null, .null, .int 0, .int 0, .int 0, .int 0] A C L Z (congrArg (fun n => (.inl (.inl (List.replicate n 0)) : g_E)) (show (4 : Int32).toNatClampNeg = 4 by decide)) (by decide) (Nat.le_of_ble_eq_true rfl) rfl rfl rfl (fun h A C L Z => ?_)
  refine And.intro (by decide) (And.intro (by decide) ?_)
  refine g_pt_z (N := 100) [.int 0, .int 0, .ref (a + 1), .int 0, .ref (a + 2), .int 0, .int 0, .int 0, .ref (a + 3), .null, .null, .int 0, .int 0, .int 0, .int 0, .int 0, .null, .int 0, .int 0, .int 0, .null, .int 0, .int 0, .int 0, .int 0, .int 0, .null, .null, .null, .null, .null, .null, .null, .null, .null, .null, .int 0, .int 0, .int 0, .int 0] A C L Z (congrArg (fun n => (.inl (.inl (List.replicate n 0)) : g_E)) (show (100 : Int32).toNatClampNeg = 100 by decide)) (by decide) (Nat.le_of_ble_eq_true rfl) rfl rfl rfl (fun h A C L Z => ?_)
  refine And.intro (by decide) (And.intro (by decide) ?_)
  refine g_pt_z (N := 100) [.int 0, .int 0, .ref (a + 1), .int 0, .ref (a + 2), .int 0, .int 0, .int 0, .ref (a + 3), .ref (a + 4), .null, .int 0, .int 0, .int 0, .int 0, .int 0, .null, .int 0, .int 0, .int 0, .null, .int 0, .int 0, .int 0, .int 0, .int 0, .null, .null, .null, .null, .null, .null, .null, .null, .null, .null, .int 0, .int 0, .int 0, .int 0] A C L Z (congrArg (fun n => (.inl (.inl (List.replicate n 0)) : g_E)) (show (100 : Int32).toNatClampNeg = 100 by decide)) (by decide) (Nat.le_of_ble_eq_true rfl) rfl rfl rfl (fun h A C L Z => ?_)
  refine And.intro (by decide) (And.intro (by decide) ?_)
  refine g_pt_z (N := 100) [.int 0, .int 0, .ref (a + 1), .int 0, .ref (a + 2), .int 0, .int 0, .int 0, .ref (a + 3), .ref (a + 4), .ref (a + 5), .int 0, .int 0, .int 0, .int 0, .int 0, .null, .int 0, .int 0, .int 0, .null, .int 0, .int 0, .int 0, .int 0, .int 0, .null, .null, .null, .null, .null, .null, .null, .null, .null, .null, .int 0, .int 0, .int 0, .int 0] A C L Z (congrArg (fun n => (.inl (.inl (List.replicate n 0)) : g_E)) (show (100 : Int32).toNatClampNeg = 100 by decide)) (by decide) (Nat.le_of_ble_eq_true rfl) rfl rfl rfl (fun h A C L Z => ?_)
  refine g_pt_y [.int 0, .int 0, .ref (a + 1), .int 0, .ref (a + 2), .int 0, .int 0, .int 0, .ref (a + 3), .ref (a + 4), .ref (a + 5), .int 0, .int 0, .int 31, .int 0, .int 0, .null, .int 0, .int 0, .int 0, .null, .int 0, .int 0, .int 0, .int 0, .int 0, .null, .null, .null, .null, .null, .null, .null, .null, .null, .null, .int 0, .int 0, .int 0, .int 0] A C L Z (Nat.le_of_ble_eq_true rfl) rfl rfl rfl (fun h A C L Z => ?_)
  refine g_pt_y [.int 0, .int 0, .ref (a + 1), .int 0, .ref (a + 2), .int 0, .int 0, .int 0, .ref (a + 3), .ref (a + 4), .ref (a + 5), .int 0, .int 0, .int 31, .int 15, .int 0, .null, .int 0, .int 0, .int 0, .null, .int 0, .int 0, .int 0, .int 0, .int 0, .null, .null, .null, .null, .null, .null, .null, .null, .null, .null, .int 0, .int 0, .int 0, .int 0] A C L Z (Nat.le_of_ble_eq_true rfl) rfl rfl rfl (fun h A C L Z => ?_)
  refine And.intro (by decide) (And.intro (by decide) ?_)
  refine g_pt_z (N := 16400) [.int 0, .int 0, .ref (a + 1), .int 0, .ref (a + 2), .int 0, .int 0, .int 0, .ref (a + 3), .ref (a + 4), .ref (a + 5), .int 0, .int 0, .int 31, .int 15, .int 0, .ref (a + 6), .int 0, .int 0, .int 0, .null, .int 0, .int 0, .int 0, .int 0, .int 0, .null, .null, .null, .null, .null, .null, .null, .null, .null, .null, .int 0, .int 0, .int 0, .int 0] A C L Z (congrArg (fun n => (.inl (.inl (List.replicate n 0)) : g_E)) (show (16400 : Int32).toNatClampNeg = 16400 by decide)) (by decide) (Nat.le_of_ble_eq_true rfl) rfl rfl rfl (fun h A C L Z => ?_)
  refine And.intro (by decide) (And.intro (by decide) ?_)
  refine g_pt_z (N := 9) [.int 0, .int 0, .ref (a + 1), .int 0, .ref (a + 2), .int 0, .int 0, .int 0, .ref (a + 3), .ref (a + 4), .ref (a + 5), .int 0, .int 0, .int 31, .int 15, .int 0, .ref (a + 6), .int 0, .int 0, .int 0, .ref (a + 7), .int 0, .int 0, .int 0, .int 0, .int 0, .null, .null, .null, .null, .null, .null, .null, .null, .null, .null, .int 0, .int 0, .int 0, .int 0] A C L Z (congrArg (fun n => (.inl (.inl (List.replicate n 0)) : g_E)) (show (9 : Int32).toNatClampNeg = 9 by decide)) (by decide) (Nat.le_of_ble_eq_true rfl) rfl rfl rfl (fun h A C L Z => ?_)
  refine And.intro (by decide) (And.intro (by decide) ?_)
  refine g_pt_z (N := 2000) [.int 0, .int 0, .ref (a + 1), .int 0, .ref (a + 2), .int 0, .int 0, .int 0, .ref (a + 3), .ref (a + 4), .ref (a + 5), .int 0, .int 0, .int 31, .int 15, .int 0, .ref (a + 6), .int 0, .int 0, .int 0, .ref (a + 7), .int 0, .int 0, .int 0, .int 0, .int 0, .ref (a + 8), .null, .null, .null, .null, .null, .null, .null, .null, .null, .int 0, .int 0, .int 0, .int 0] A C L Z (congrArg (fun n => (.inl (.inl (List.replicate n 0)) : g_E)) (show (2000 : Int32).toNatClampNeg = 2000 by decide)) (by decide) (Nat.le_of_ble_eq_true rfl) rfl rfl rfl (fun h A C L Z => ?_)
  refine And.intro (by decide) (And.intro (by decide) ?_)
  refine g_pt_z (N := 2000) [.int 0, .int 0, .ref (a + 1), .int 0, .ref (a + 2), .int 0, .int 0, .int 0, .ref (a + 3), .ref (a + 4), .ref (a + 5), .int 0, .int 0, .int 31, .int 15, .int 0, .ref (a + 6), .int 0, .int 0, .int 0, .ref (a + 7), .int 0, .int 0, .int 0, .int 0, .int 0, .ref (a + 8), .ref (a + 9), .null, .null, .null, .null, .null, .null, .null, .null, .int 0, .int 0, .int 0, .int 0] A C L Z (congrArg (fun n => (.inl (.inl (List.replicate n 0)) : g_E)) (show (2000 : Int32).toNatClampNeg = 2000 by decide)) (by decide) (Nat.le_of_ble_eq_true rfl) rfl rfl rfl (fun h A C L Z => ?_)
  refine And.intro (by decide) (And.intro (by decide) ?_)
  refine g_pt_z (N := 2000) [.int 0, .int 0, .ref (a + 1), .int 0, .ref (a + 2), .int 0, .int 0, .int 0, .ref (a + 3), .ref (a + 4), .ref (a + 5), .int 0, .int 0, .int 31, .int 15, .int 0, .ref (a + 6), .int 0, .int 0, .int 0, .ref (a + 7), .int 0, .int 0, .int 0, .int 0, .int 0, .ref (a + 8), .ref (a + 9), .ref (a + 10), .null, .null, .null, .null, .null, .null, .null, .int 0, .int 0, .int 0, .int 0] A C L Z (congrArg (fun n => (.inl (.inl (List.replicate n 0)) : g_E)) (show (2000 : Int32).toNatClampNeg = 2000 by decide)) (by decide) (Nat.le_of_ble_eq_true rfl) rfl rfl rfl (fun h A C L Z => ?_)
  refine And.intro (by decide) (And.intro (by decide) ?_)
  refine g_pt_z (N := 2000) [.int 0, .int 0, .ref (a + 1), .int 0, .ref (a + 2), .int 0, .int 0, .int 0, .ref (a + 3), .ref (a + 4), .ref (a + 5), .int 0, .int 0, .int 31, .int 15, .int 0, .ref (a + 6), .int 0, .int 0, .int 0, .ref (a + 7), .int 0, .int 0, .int 0, .int 0, .int 0, .ref (a + 8), .ref (a + 9), .ref (a + 10), .ref (a + 11), .null, .null, .null, .null, .null, .null, .int 0, .int 0, .int 0, .int 0] A C L Z (congrArg (fun n => (.inl (.inl (List.replicate n 0)) : g_E)) (show (2000 : Int32).toNatClampNeg = 2000 by decide)) (by decide) (Nat.le_of_ble_eq_true rfl) rfl rfl rfl (fun h A C L Z => ?_)
  refine And.intro (by decide) (And.intro (by decide) ?_)
  refine g_pt_z (N := 2000) [.int 0, .int 0, .ref (a + 1), .int 0, .ref (a + 2), .int 0, .int 0, .int 0, .ref (a + 3), .ref (a + 4), .ref (a + 5), .int 0, .int 0, .int 31, .int 15, .int 0, .ref (a + 6), .int 0, .int 0, .int 0, .ref (a + 7), .int 0, .int 0, .int 0, .int 0, .int 0, .ref (a + 8), .ref (a + 9), .ref (a + 10), .ref (a + 11), .ref (a + 12), .null, .null, .null, .null, .null, .int 0, .int 0, .int 0, .int 0] A C L Z (congrArg (fun n => (.inl (.inl (List.replicate n 0)) : g_E)) (show (2000 : Int32).toNatClampNeg = 2000 by decide)) (by decide) (Nat.le_of_ble_eq_true rfl) rfl rfl rfl (fun h A C L Z => ?_)
  refine And.intro (by decide) (And.intro (by decide) ?_)
  refine g_pt_z (N := 2000) [.int 0, .int 0, .ref (a + 1), .int 0, .ref (a + 2), .int 0, .int 0, .int 0, .ref (a + 3), .ref (a + 4), .ref (a + 5), .int 0, .int 0, .int 31, .int 15, .int 0, .ref (a + 6), .int 0, .int 0, .int 0, .ref (a + 7), .int 0, .int 0, .int 0, .int 0, .int 0, .ref (a + 8), .ref (a + 9), .ref (a + 10), .ref (a + 11), .ref (a + 12), .ref (a + 13), .null, .null, .null, .null, .int 0, .int 0, .int 0, .int 0] A C L Z (congrArg (fun n => (.inl (.inl (List.replicate n 0)) : g_E)) (show (2000 : Int32).toNatClampNeg = 2000 by decide)) (by decide) (Nat.le_of_ble_eq_true rfl) rfl rfl rfl (fun h A C L Z => ?_)
  refine And.intro (by decide) (And.intro (by decide) ?_)
  refine g_pt_z (N := 110) [.int 0, .int 0, .ref (a + 1), .int 0, .ref (a + 2), .int 0, .int 0, .int 0, .ref (a + 3), .ref (a + 4), .ref (a + 5), .int 0, .int 0, .int 31, .int 15, .int 0, .ref (a + 6), .int 0, .int 0, .int 0, .ref (a + 7), .int 0, .int 0, .int 0, .int 0, .int 0, .ref (a + 8), .ref (a + 9), .ref (a + 10), .ref (a + 11), .ref (a + 12), .ref (a + 13), .ref (a + 14), .null, .null, .null, .int 0, .int 0, .int 0, .int 0] A C L Z (congrArg (fun n => (.inl (.inl (List.replicate n 0)) : g_E)) (show (110 : Int32).toNatClampNeg = 110 by decide)) (by decide) (Nat.le_of_ble_eq_true rfl) rfl rfl rfl (fun h A C L Z => ?_)
  refine And.intro (by decide) (And.intro (by decide) ?_)
  refine g_pt_z (N := 110) [.int 0, .int 0, .ref (a + 1), .int 0, .ref (a + 2), .int 0, .int 0, .int 0, .ref (a + 3), .ref (a + 4), .ref (a + 5), .int 0, .int 0, .int 31, .int 15, .int 0, .ref (a + 6), .int 0, .int 0, .int 0, .ref (a + 7), .int 0, .int 0, .int 0, .int 0, .int 0, .ref (a + 8), .ref (a + 9), .ref (a + 10), .ref (a + 11), .ref (a + 12), .ref (a + 13), .ref (a + 14), .ref (a + 15), .null, .null, .int 0, .int 0, .int 0, .int 0] A C L Z (congrArg (fun n => (.inl (.inl (List.replicate n 0)) : g_E)) (show (110 : Int32).toNatClampNeg = 110 by decide)) (by decide) (Nat.le_of_ble_eq_true rfl) rfl rfl rfl (fun h A C L Z => ?_)
  refine And.intro (by decide) (And.intro (by decide) ?_)
  refine g_pt_z (N := 110) [.int 0, .int 0, .ref (a + 1), .int 0, .ref (a + 2), .int 0, .int 0, .int 0, .ref (a + 3), .ref (a + 4), .ref (a + 5), .int 0, .int 0, .int 31, .int 15, .int 0, .ref (a + 6), .int 0, .int 0, .int 0, .ref (a + 7), .int 0, .int 0, .int 0, .int 0, .int 0, .ref (a + 8), .ref (a + 9), .ref (a + 10), .ref (a + 11), .ref (a + 12), .ref (a + 13), .ref (a + 14), .ref (a + 15), .ref (a + 16), .null, .int 0, .int 0, .int 0, .int 0] A C L Z (congrArg (fun n => (.inl (.inl (List.replicate n 0)) : g_E)) (show (110 : Int32).toNatClampNeg = 110 by decide)) (by decide) (Nat.le_of_ble_eq_true rfl) rfl rfl rfl (fun h A C L Z => ?_)
  refine And.intro (by decide) (And.intro (by decide) ?_)
  refine g_pt_z (N := 110) [.int 0, .int 0, .ref (a + 1), .int 0, .ref (a + 2), .int 0, .int 0, .int 0, .ref (a + 3), .ref (a + 4), .ref (a + 5), .int 0, .int 0, .int 31, .int 15, .int 0, .ref (a + 6), .int 0, .int 0, .int 0, .ref (a + 7), .int 0, .int 0, .int 0, .int 0, .int 0, .ref (a + 8), .ref (a + 9), .ref (a + 10), .ref (a + 11), .ref (a + 12), .ref (a + 13), .ref (a + 14), .ref (a + 15), .ref (a + 16), .ref (a + 17), .int 0, .int 0, .int 0, .int 0] A C L Z (congrArg (fun n => (.inl (.inl (List.replicate n 0)) : g_E)) (show (110 : Int32).toNatClampNeg = 110 by decide)) (by decide) (Nat.le_of_ble_eq_true rfl) rfl rfl rfl (fun h A C L Z => ?_)
  refine ⟨rfl, ⟨A, C 1 (by omega) (by omega), fun i h2 h3 => ?_, fun i h2 h3 => List.length_replicate⟩, congrArg Prod.fst Z, ?_, L⟩
  · rw [C i (by omega) h3]
    unfold z_ini
    rw [if_neg (by omega)]
    rfl
  · have t2 : h.2.2 = w + 16384 + 4 + 100 + 100 + 100 + 16400 + 9 + 2000 + 2000 + 2000 + 2000 + 2000 + 2000 + 110 + 110 + 110 + 110 := congrArg Prod.snd Z
    show h.2.2 = w + W
    omega
