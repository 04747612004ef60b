/-! tables of instructions -/
def g_tab : List (Nat × g_T) → Nat → g_T
  | [], _ => tr_no
  | (q, T) :: r, pc => bif Nat.beq pc q then T else g_tab r pc
theorem g_tab_ok {J : g_J} : ∀ {tab : List (Nat × g_T)}, (∀ q ∈ tab, g_S J q.1 q.2) → ∀ pc, g_S J pc (g_tab tab pc)
  | [], _, _ => so_no
  | (q, T) :: r, h, pc => by
    unfold g_tab
    cases hq : Nat.beq pc q with
    | true =>
      have := Nat.eq_of_beq_eq_true hq
      subst this
      exact h (pc, T) List.mem_cons_self
    | false => exact g_tab_ok (fun x hx => h x (List.mem_cons_of_mem _ hx)) pc
def g_chk : List (Nat × (Nat → g_T)) → Nat → g_T
  | [], _ => tr_no
  | (q, f) :: r, pc => bif Nat.ble pc q then f pc else g_chk r pc
theorem g_chk_ok {J : g_J} : ∀ {tab : List (Nat × (Nat → g_T))}, (∀ q ∈ tab, ∀ pc, g_S J pc (q.2 pc)) → ∀ pc, g_S J pc (g_chk tab pc)
  | [], _, _ => so_no
  | (q, f) :: r, h, pc => by
    unfold g_chk
    cases hq : Nat.ble pc q with
    | true => exact h (q, f) List.mem_cons_self pc
    | false => exact g_chk_ok (fun x hx => h x (List.mem_cons_of_mem _ hx)) pc
