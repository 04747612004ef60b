/-! THE G ROWS, first part: a heap of cells by address, a method's frame, what it comes to.
g_E: an int array, a long array, a byte array, or an object (its number in vwCl, its fields). g_H: the cells, how many cells there are, how many slots. -/
abbrev g_E : Type := (List Int32 ⊕ (List Int64 ⊕ List Int32)) ⊕ (Nat × List Value)
abbrev g_H : Type := (Nat → Option g_E) × Nat × Nat
abbrev g_D : Type := va_G × ClassId × ClassId × ClassId
abbrev g_R : Type := Option Value ⊕ String
abbrev g_L : Type := List (Option Value)
/-- a method: its name, code, how many locals, answer, (frames, words of the stack that it needs), handlers, the script that it may read -/
abbrev g_J : Type := MethodName × ByteArray × Nat × Option FieldType × (Nat × Nat) × List (Nat × Nat × Nat × Nat) × Option (Nat × List Int32)
def g_At (D : g_D) (a : Nat) (x : g_E) (H : Heap) : Prop := match x with
  | .inl (.inl xs) => H[a]? = some (arrV D.2.1 xs.length (fun j => .int (xs.getD j 0)))
  | .inl (.inr (.inl xs)) => H[a]? = some (arrV D.2.2.1 xs.length (fun j => .long (xs.getD j 0)))
  | .inl (.inr (.inr xs)) => H[a]? = some (arrV D.2.2.2 xs.length (fun j => .int (xs.getD j 0)))
  | .inr o => va_at D.1 vwCl (a, .inr o) H
theorem g_At_kept {D : g_D} {a : Nat} {x : g_E} {H H1 : Heap} (h : g_At D a x H) (hq : H1[a]? = H[a]?) : g_At D a x H1 := by
  rcases x with (xs | xs | xs) | o
  · exact hq.trans h
  · exact hq.trans h
  · exact hq.trans h
  · exact va_at.kept (q := (a, .inr o)) h hq
theorem g_At_lt {D : g_D} {a : Nat} {x : g_E} {H : Heap} (h : g_At D a x H) : a < H.size := by
  rcases x with (xs | xs | xs) | o
  · exact (Array.getElem?_eq_some_iff.mp h).1
  · exact (Array.getElem?_eq_some_iff.mp h).1
  · exact (Array.getElem?_eq_some_iff.mp h).1
  · exact va_at.lt (q := (a, .inr o)) h
def g_Rep (D : g_D) (h : g_H) (H : Heap) : Prop := H.size = h.2.1 ∧ ∀ (a : Nat) (x : g_E), h.1 a = some x → g_At D a x H
def g_K (D : g_D) (U : State) : Prop := va_K D.1 vwCl [(D.2.1, .int), (D.2.2.1, .long), (D.2.2.2, .byte)] U
/-- what a method that begins with h may write: its cells, and new ones -/
def g_A (h : g_H) : Nat → Prop := fun q => h.1 q ≠ none ∨ h.2.1 ≤ q
def g_up (h : g_H) (a : Nat) (x : g_E) : g_H := (fun q => if q = a then some x else h.1 q, h.2.1, h.2.2)
def g_nw (h : g_H) (x : g_E) (n : Nat) : g_H := (fun q => if q = h.2.1 then some x else h.1 q, h.2.1 + 1, h.2.2 + n)
theorem g_Rep_up {D : g_D} {h : g_H} {H H1 : Heap} {a : Nat} {x0 x : g_E} (hR : g_Rep D h H) (_ : h.1 a = some x0) (hx : g_At D a x H1) (hz : H1.size = H.size) (oq : ∀ q : Nat, q ≠ a → H1[q]? = H[q]?) : g_Rep D (g_up h a x) H1 := by
  refine ⟨hz.trans hR.1, fun b y hb => ?_⟩
  by_cases hba : b = a
  · subst hba
    simp only [g_up, if_true] at hb
    cases hb
    exact hx
  · simp only [g_up, if_neg hba] at hb
    exact g_At_kept (hR.2 b y hb) (oq b hba)
theorem g_Rep_nw {D : g_D} {h : g_H} {H H1 : Heap} {x : g_E} {n : Nat} (hR : g_Rep D h H) (hx : g_At D h.2.1 x H1) (hz : H1.size = h.2.1 + 1) (oq : ∀ q : Nat, q < h.2.1 → H1[q]? = H[q]?) : g_Rep D (g_nw h x n) H1 := by
  refine ⟨hz, fun b y hb => ?_⟩
  by_cases hba : b = h.2.1
  · subst hba
    simp only [g_nw, if_true] at hb
    cases hb
    exact hx
  · simp only [g_nw, if_neg hba] at hb
    have h1 := hR.2 b y hb
    have h2 := g_At_lt h1
    exact g_At_kept h1 (oq b (by rw [hR.1] at h2; exact h2))
/-! the locals: by their places -/
def g_prs : Nat → g_L → List (Nat × Value)
  | _, [] => []
  | i, some v :: t => (i, v) :: g_prs (i + 1) t
  | i, none :: t => g_prs (i + 1) t
def g_lk : g_L → Nat → Option Value
  | [], _ => none
  | x :: _, 0 => x
  | _ :: t, i + 1 => g_lk t i
def g_dr (x : Option Value) : Option Value := match x with
  | none => none
  | some (.long _) => none
  | some (.double _) => none
  | some v => some v
def g_st1 : g_L → Nat → Value → g_L
  | [], _, _ => []
  | _ :: t, 0, v => some v :: t
  | x :: t, 1, v => g_dr x :: g_st1 t 0 v
  | x :: t, i + 2, v => x :: g_st1 t (i + 1) v
def g_cl : g_L → Nat → g_L
  | [], _ => []
  | _ :: t, 0 => none :: t
  | x :: t, i + 1 => x :: g_cl t i
def g_Ls (ls : Array Slot) (n : Nat) (L : g_L) : Prop := lv_has ls n (g_prs 0 L)
theorem g_lk_mem : ∀ (L : g_L) (i k : Nat) (v : Value), g_lk L i = some v → (k + i, v) ∈ g_prs k L
  | [], i, k, v, h => by simp [g_lk] at h
  | x :: t, 0, k, v, h => by
    simp only [g_lk] at h
    subst h
    simp [g_prs]
  | x :: t, i + 1, k, v, h => by
    have h1 := g_lk_mem t i (k + 1) v h
    have e : k + 1 + i = k + (i + 1) := by omega
    rw [e] at h1
    cases x with
    | none => exact h1
    | some w => exact List.mem_cons_of_mem _ h1
theorem g_prs_lo : ∀ (L : g_L) (k : Nat) (q : Nat × Value), q ∈ g_prs k L → k ≤ q.1
  | [], k, q, h => by simp [g_prs] at h
  | none :: t, k, q, h => by
    have := g_prs_lo t (k + 1) q h
    omega
  | some v :: t, k, q, h => by
    simp only [g_prs] at h
    rcases List.mem_cons.mp h with rfl | h
    · exact Nat.le_refl _
    · have := g_prs_lo t (k + 1) q h
      omega
theorem g_dr_mem {x : Option Value} {t : g_L} {k : Nat} {q : Nat × Value} (h : q ∈ g_prs k (g_dr x :: t)) : (q ∈ g_prs k (x :: t) ∧ ¬ (q.1 = k ∧ q.2.category = 2)) ∨ q ∈ g_prs (k + 1) t := by
  rcases x with _ | w
  · exact Or.inr h
  · cases w with
    | long z => exact Or.inr h
    | double z => exact Or.inr h
    | _ =>
      simp only [g_dr, g_prs] at h
      rcases List.mem_cons.mp h with rfl | h
      · exact Or.inl ⟨by simp [g_prs], fun q => by simp [Value.category] at q⟩
      · exact Or.inr h
theorem g_st1_mem : ∀ (L : g_L) (i k : Nat) (v : Value) (q : Nat × Value), q ∈ g_prs k (g_st1 L i v) → q = (k + i, v) ∨ (q ∈ g_prs k L ∧ q.1 ≠ k + i ∧ ¬ (q.1 + 1 = k + i ∧ q.2.category = 2))
  | [], i, k, v, q, h => by simp [g_st1, g_prs] at h
  | x :: t, 0, k, v, q, h => by
    simp only [g_st1, g_prs] at h
    rcases List.mem_cons.mp h with rfl | h
    · exact Or.inl rfl
    · have h1 := g_prs_lo t (k + 1) q h
      refine Or.inr ⟨?_, by omega, by omega⟩
      cases x with
      | none => exact h
      | some w => exact List.mem_cons_of_mem _ h
  | x :: t, 1, k, v, q, h => by
    simp only [g_st1] at h
    rcases g_dr_mem h with ⟨h1, h2⟩ | h1
    · have h3 : q ∈ g_prs k (x :: g_st1 t 0 v) := h1
      cases x with
      | none =>
        rcases g_st1_mem t 0 (k + 1) v q h3 with rfl | ⟨a, b, c⟩
        · exact Or.inl (by simp)
        · exact Or.inr ⟨a, by omega, fun z => c ⟨by omega, z.2⟩⟩
      | some w =>
        rcases List.mem_cons.mp h3 with rfl | h3
        · exact Or.inr ⟨List.mem_cons_self, by simp, fun z => h2 ⟨rfl, z.2⟩⟩
        · rcases g_st1_mem t 0 (k + 1) v q h3 with rfl | ⟨a, b, c⟩
          · exact Or.inl (by simp)
          · exact Or.inr ⟨List.mem_cons_of_mem _ a, by omega, fun z => c ⟨by omega, z.2⟩⟩
    · rcases g_st1_mem t 0 (k + 1) v q h1 with rfl | ⟨a, b, c⟩
      · exact Or.inl (by simp)
      · refine Or.inr ⟨?_, by omega, fun z => c ⟨by omega, z.2⟩⟩
        cases x with
        | none => exact a
        | some w => exact List.mem_cons_of_mem _ a
  | x :: t, i + 2, k, v, q, h => by
    have e : k + 1 + (i + 1) = k + (i + 2) := by omega
    cases x with
    | none =>
      rcases g_st1_mem t (i + 1) (k + 1) v q h with h1 | ⟨a, b, c⟩
      · rw [e] at h1
        exact Or.inl h1
      · rw [e] at b c
        exact Or.inr ⟨a, b, c⟩
    | some w =>
      simp only [g_st1, g_prs] at h
      rcases List.mem_cons.mp h with rfl | h
      · exact Or.inr ⟨List.mem_cons_self, by simp, fun z => by have := z.1; simp at this⟩
      · rcases g_st1_mem t (i + 1) (k + 1) v q h with h1 | ⟨a, b, c⟩
        · rw [e] at h1
          exact Or.inl h1
        · rw [e] at b c
          exact Or.inr ⟨List.mem_cons_of_mem _ a, b, c⟩
theorem g_cl_mem : ∀ (L : g_L) (i k : Nat) (q : Nat × Value), q ∈ g_prs k (g_cl L i) → q ∈ g_prs k L ∧ q.1 ≠ k + i
  | [], i, k, q, h => by simp [g_cl, g_prs] at h
  | x :: t, 0, k, q, h => by
    simp only [g_cl, g_prs] at h
    have h1 := g_prs_lo t (k + 1) q h
    refine ⟨?_, by omega⟩
    cases x with
    | none => exact h
    | some w => exact List.mem_cons_of_mem _ h
  | x :: t, i + 1, k, q, h => by
    cases x with
    | none =>
      obtain ⟨a, b⟩ := g_cl_mem t i (k + 1) q h
      exact ⟨a, by omega⟩
    | some w =>
      simp only [g_cl, g_prs] at h
      rcases List.mem_cons.mp h with rfl | h
      · exact ⟨List.mem_cons_self, by simp⟩
      · obtain ⟨a, b⟩ := g_cl_mem t i (k + 1) q h
        exact ⟨List.mem_cons_of_mem _ a, by omega⟩
theorem g_Ls_at {ls : Array Slot} {n : Nat} {L : g_L} {i : Nat} {v : Value} (h : g_Ls ls n L) (hv : g_lk L i = some v) : ls[i]? = some (.val v) := by
  have h1 := g_lk_mem L i 0 v hv
  rw [Nat.zero_add] at h1
  exact h.2.2 _ h1
theorem g_Ls_st1 {ls : Array Slot} {n : Nat} {L : g_L} {i : Nat} {v : Value} (h : lv_has ls n ((i, v) :: (g_prs 0 L).filter (fun q => !(q.1 == i) && !(q.1 + 1 == i && q.2.category == 2)))) : g_Ls ls n (g_st1 L i v) := by
  refine ⟨h.1, h.2.1, fun q hq => h.2.2 q ?_⟩
  rcases g_st1_mem L i 0 v q hq with h1 | ⟨a, b, c⟩
  · rw [Nat.zero_add] at h1
    rw [h1]
    exact List.mem_cons_self
  · rw [Nat.zero_add] at b c
    refine List.mem_cons_of_mem _ (List.mem_filter.mpr ⟨a, ?_⟩)
    simp only [Bool.and_eq_true, Bool.not_eq_true', beq_eq_false_iff_ne, ne_eq, Bool.and_eq_false_iff]
    refine ⟨b, ?_⟩
    by_cases z : q.1 + 1 = i
    · exact Or.inr (fun z2 => c ⟨z, z2⟩)
    · exact Or.inl z
theorem g_Ls_st2 {ls : Array Slot} {n : Nat} {L : g_L} {i : Nat} {v : Value} (h : lv_has ls n ((i, v) :: (g_prs 0 L).filter (fun q => !(q.1 == i) && (!(q.1 == i + 1) && !(q.1 + 1 == i && q.2.category == 2))))) : g_Ls ls n (g_st1 (g_cl L (i + 1)) i v) := by
  refine ⟨h.1, h.2.1, fun q hq => h.2.2 q ?_⟩
  rcases g_st1_mem _ i 0 v q hq with h1 | ⟨a, b, c⟩
  · rw [Nat.zero_add] at h1
    rw [h1]
    exact List.mem_cons_self
  · rw [Nat.zero_add] at b c
    obtain ⟨a1, a2⟩ := g_cl_mem L (i + 1) 0 q a
    rw [Nat.zero_add] at a2
    refine List.mem_cons_of_mem _ (List.mem_filter.mpr ⟨a1, ?_⟩)
    simp only [Bool.and_eq_true, Bool.not_eq_true', beq_eq_false_iff_ne, ne_eq, Bool.and_eq_false_iff]
    refine ⟨b, a2, ?_⟩
    by_cases z : q.1 + 1 = i
    · exact Or.inr (fun z2 => c ⟨z, z2⟩)
    · exact Or.inl z
