/-! THE G ROWS, third part: one instruction a row (written by wip/whole/gen/mk12.py) -/
def tr_cst (v : Value) (nx : Nat) : g_T := fun _ L st h K _ => K nx L (v :: st) h
theorem so_iconst {J : g_J} {pc nx : Nat} {n : Int} {v : Int32} (hv : Int32.ofInt n = v) (hd : decode J.2.1 pc = .ok (.iconst n, 1)) (hn : pc + 1 = nx) : g_S J pc (tr_cst (.int v) nx) := by
  subst hn
  exact fun l L st h K Post hK hT => g_step (fun D p e s m args below meth c H locs R cells slots Q ls C hR hl hE0 hM kk => lv_iconst C.1 C.2.1 hd hv (kk ls hl)) (hK _ _ _ _ hT)
theorem so_bipush {J : g_J} {pc nx : Nat} {n : Int} {v : Int32} (hv : (Int8.ofInt n).toInt32 = v) (hd : decode J.2.1 pc = .ok (.bipush n, 2)) (hn : pc + 2 = nx) : g_S J pc (tr_cst (.int v) nx) := by
  subst hn
  exact fun l L st h K Post hK hT => g_step (fun D p e s m args below meth c H locs R cells slots Q ls C hR hl hE0 hM kk => lv_bipush C.1 C.2.1 hd hv (kk ls hl)) (hK _ _ _ _ hT)
theorem so_sipush {J : g_J} {pc nx : Nat} {n : Int} {v : Int32} (hv : (Int16.ofInt n).toInt32 = v) (hd : decode J.2.1 pc = .ok (.sipush n, 3)) (hn : pc + 3 = nx) : g_S J pc (tr_cst (.int v) nx) := by
  subst hn
  exact fun l L st h K Post hK hT => g_step (fun D p e s m args below meth c H locs R cells slots Q ls C hR hl hE0 hM kk => lv_sipush C.1 C.2.1 hd hv (kk ls hl)) (hK _ _ _ _ hT)
theorem so_lconst {J : g_J} {pc nx : Nat} {n : Fin 2} {v : Int64} (hv : Int64.ofNat (n : Nat) = v) (hd : decode J.2.1 pc = .ok (.lconst n, 1)) (hn : pc + 1 = nx) : g_S J pc (tr_cst (.long v) nx) := by
  subst hn
  exact fun l L st h K Post hK hT => g_step (fun D p e s m args below meth c H locs R cells slots Q ls C hR hl hE0 hM kk => lv_lconst C.1 C.2.1 hd hv (kk ls hl)) (hK _ _ _ _ hT)
theorem so_ldc {J : g_J} {pc nx : Nat} {i : Nat} {v : Int32} (hw : Jvm.Cond.constant J.1.cls i v ∈ g_W) (hd : decode J.2.1 pc = .ok (.ldc i, 2)) (hn : pc + 2 = nx) : g_S J pc (tr_cst (.int v) nx) := by
  subst hn
  exact fun l L st h K Post hK hT => g_step (fun D p e s m args below meth c H locs R cells slots Q ls C hR hl hE0 hM kk => lv_ldc C.1 C.2.1 C.2.2.2.1 (C.2.2.2.2.1 _ hw) hd (kk ls hl)) (hK _ _ _ _ hT)
theorem so_ldcw {J : g_J} {pc nx : Nat} {i : Nat} {v : Int32} (hw : Jvm.Cond.constant J.1.cls i v ∈ g_W) (hd : decode J.2.1 pc = .ok (.ldc_w i, 3)) (hn : pc + 3 = nx) : g_S J pc (tr_cst (.int v) nx) := by
  subst hn
  exact fun l L st h K Post hK hT => g_step (fun D p e s m args below meth c H locs R cells slots Q ls C hR hl hE0 hM kk => lv_ldcw C.1 C.2.1 C.2.2.2.1 (C.2.2.2.2.1 _ hw) hd (kk ls hl)) (hK _ _ _ _ hT)
theorem so_ldc2 {J : g_J} {pc nx : Nat} {i : Nat} {v : Int64} (hw : Jvm.Cond.constantLong J.1.cls i v ∈ g_W) (hd : decode J.2.1 pc = .ok (.ldc2_w i, 3)) (hn : pc + 3 = nx) : g_S J pc (tr_cst (.long v) nx) := by
  subst hn
  exact fun l L st h K Post hK hT => g_step (fun D p e s m args below meth c H locs R cells slots Q ls C hR hl hE0 hM kk => lv_ldc2 C.1 C.2.1 C.2.2.2.1 (C.2.2.2.2.1 _ hw) hd (kk ls hl)) (hK _ _ _ _ hT)
def tr_ild (i nx : Nat) : g_T := fun _ L st h K _ => match g_lk L i with
  | some (.int x) => K nx L (.int x :: st) h
  | _ => False
theorem so_iload_n {J : g_J} {pc nx i : Nat} {k : Fin 4} (hd : decode J.2.1 pc = .ok (.iload_n k, 1)) (hi : (k : Nat) = i) (hn : pc + 1 = nx) : g_S J pc (tr_ild i nx) := by
  subst hn
  intro l L st h K Post hK hT
  unfold tr_ild at hT
  split at hT
  next x hx => exact g_step (fun D p e s m args below meth c H locs R cells slots Q ls C hR hl hE0 hM kk => lv_iload_n C.1 C.2.1 hd hi (g_Ls_at hl hx) (kk ls hl)) (hK _ _ _ _ hT)
  next => exact hT.elim
theorem so_iload {J : g_J} {pc nx i : Nat} (hd : decode J.2.1 pc = .ok (.iload i, 2)) (hn : pc + 2 = nx) : g_S J pc (tr_ild i nx) := by
  subst hn
  intro l L st h K Post hK hT
  unfold tr_ild at hT
  split at hT
  next x hx => exact g_step (fun D p e s m args below meth c H locs R cells slots Q ls C hR hl hE0 hM kk => lv_iload C.1 C.2.1 hd (g_Ls_at hl hx) (kk ls hl)) (hK _ _ _ _ hT)
  next => exact hT.elim
def tr_lld (i nx : Nat) : g_T := fun _ L st h K _ => match g_lk L i with
  | some (.long x) => K nx L (.long x :: st) h
  | _ => False
theorem so_lload_n {J : g_J} {pc nx i : Nat} {k : Fin 4} (hd : decode J.2.1 pc = .ok (.lload_n k, 1)) (hi : (k : Nat) = i) (hn : pc + 1 = nx) : g_S J pc (tr_lld i nx) := by
  subst hn
  intro l L st h K Post hK hT
  unfold tr_lld at hT
  split at hT
  next x hx => exact g_step (fun D p e s m args below meth c H locs R cells slots Q ls C hR hl hE0 hM kk => lv_lload_n C.1 C.2.1 hd hi (g_Ls_at hl hx) (kk ls hl)) (hK _ _ _ _ hT)
  next => exact hT.elim
theorem so_lload {J : g_J} {pc nx i : Nat} (hd : decode J.2.1 pc = .ok (.lload i, 2)) (hn : pc + 2 = nx) : g_S J pc (tr_lld i nx) := by
  subst hn
  intro l L st h K Post hK hT
  unfold tr_lld at hT
  split at hT
  next x hx => exact g_step (fun D p e s m args below meth c H locs R cells slots Q ls C hR hl hE0 hM kk => lv_lload C.1 C.2.1 hd (g_Ls_at hl hx) (kk ls hl)) (hK _ _ _ _ hT)
  next => exact hT.elim
def tr_ald (i nx : Nat) : g_T := fun _ L st h K _ => match g_lk L i with
  | some (.ref x) => K nx L (.ref x :: st) h
  | _ => False
theorem so_aload_n {J : g_J} {pc nx i : Nat} {k : Fin 4} (hd : decode J.2.1 pc = .ok (.aload_n k, 1)) (hi : (k : Nat) = i) (hn : pc + 1 = nx) : g_S J pc (tr_ald i nx) := by
  subst hn
  intro l L st h K Post hK hT
  unfold tr_ald at hT
  split at hT
  next x hx => exact g_step (fun D p e s m args below meth c H locs R cells slots Q ls C hR hl hE0 hM kk => lv_aload_n C.1 C.2.1 hd hi (g_Ls_at hl hx) (kk ls hl)) (hK _ _ _ _ hT)
  next => exact hT.elim
theorem so_aload {J : g_J} {pc nx i : Nat} (hd : decode J.2.1 pc = .ok (.aload i, 2)) (hn : pc + 2 = nx) : g_S J pc (tr_ald i nx) := by
  subst hn
  intro l L st h K Post hK hT
  unfold tr_ald at hT
  split at hT
  next x hx => exact g_step (fun D p e s m args below meth c H locs R cells slots Q ls C hR hl hE0 hM kk => lv_aload C.1 C.2.1 hd (g_Ls_at hl hx) (kk ls hl)) (hK _ _ _ _ hT)
  next => exact hT.elim
def tr_ist (i nx : Nat) : g_T := fun _ L st h K _ => match st with
  | .int x :: st' => K nx (g_st1 L i (.int x)) st' h
  | _ => False
theorem so_istore_n {J : g_J} {pc nx i : Nat} {k : Fin 4} (hd : decode J.2.1 pc = .ok (.istore_n k, 1)) (hi : (k : Nat) = i) (hm : i < J.2.2.1) (hn : pc + 1 = nx) : g_S J pc (tr_ist i nx) := by
  subst hn
  intro l L st h K Post hK hT
  unfold tr_ist at hT
  split at hT
  next x st' => exact g_step (fun D p e s m args below meth c H locs R cells slots Q ls C hR hl hE0 hM kk => lv_istore_n C.1 C.2.1 hd hi hl hm rfl (fun ls' hl' => kk ls' (g_Ls_st1 hl'))) (hK _ _ _ _ hT)
  next => exact hT.elim
theorem so_istore {J : g_J} {pc nx i : Nat} (hd : decode J.2.1 pc = .ok (.istore i, 2)) (hm : i < J.2.2.1) (hn : pc + 2 = nx) : g_S J pc (tr_ist i nx) := by
  subst hn
  intro l L st h K Post hK hT
  unfold tr_ist at hT
  split at hT
  next x st' => exact g_step (fun D p e s m args below meth c H locs R cells slots Q ls C hR hl hE0 hM kk => lv_istore C.1 C.2.1 hd hl hm rfl (fun ls' hl' => kk ls' (g_Ls_st1 hl'))) (hK _ _ _ _ hT)
  next => exact hT.elim
def tr_ast (i nx : Nat) : g_T := fun _ L st h K _ => match st with
  | .ref x :: st' => K nx (g_st1 L i (.ref x)) st' h
  | _ => False
theorem so_astore_n {J : g_J} {pc nx i : Nat} {k : Fin 4} (hd : decode J.2.1 pc = .ok (.astore_n k, 1)) (hi : (k : Nat) = i) (hm : i < J.2.2.1) (hn : pc + 1 = nx) : g_S J pc (tr_ast i nx) := by
  subst hn
  intro l L st h K Post hK hT
  unfold tr_ast at hT
  split at hT
  next x st' => exact g_step (fun D p e s m args below meth c H locs R cells slots Q ls C hR hl hE0 hM kk => lv_astore_n C.1 C.2.1 hd hi hl hm rfl (fun ls' hl' => kk ls' (g_Ls_st1 hl'))) (hK _ _ _ _ hT)
  next => exact hT.elim
theorem so_astore {J : g_J} {pc nx i : Nat} (hd : decode J.2.1 pc = .ok (.astore i, 2)) (hm : i < J.2.2.1) (hn : pc + 2 = nx) : g_S J pc (tr_ast i nx) := by
  subst hn
  intro l L st h K Post hK hT
  unfold tr_ast at hT
  split at hT
  next x st' => exact g_step (fun D p e s m args below meth c H locs R cells slots Q ls C hR hl hE0 hM kk => lv_astore C.1 C.2.1 hd hl hm rfl (fun ls' hl' => kk ls' (g_Ls_st1 hl'))) (hK _ _ _ _ hT)
  next => exact hT.elim
def tr_lst (i nx : Nat) : g_T := fun _ L st h K _ => match st with
  | .long x :: st' => K nx (g_st1 (g_cl L (i + 1)) i (.long x)) st' h
  | _ => False
theorem so_lstore_n {J : g_J} {pc nx i : Nat} {k : Fin 4} (hd : decode J.2.1 pc = .ok (.lstore_n k, 1)) (hi : (k : Nat) = i) (hm : i + 1 < J.2.2.1) (hn : pc + 1 = nx) : g_S J pc (tr_lst i nx) := by
  subst hn
  intro l L st h K Post hK hT
  unfold tr_lst at hT
  split at hT
  next x st' => exact g_step (fun D p e s m args below meth c H locs R cells slots Q ls C hR hl hE0 hM kk => lv_lstore_n C.1 C.2.1 hd hi hl hm rfl (fun ls' hl' => kk ls' (g_Ls_st2 hl'))) (hK _ _ _ _ hT)
  next => exact hT.elim
theorem so_lstore {J : g_J} {pc nx i : Nat} (hd : decode J.2.1 pc = .ok (.lstore i, 2)) (hm : i + 1 < J.2.2.1) (hn : pc + 2 = nx) : g_S J pc (tr_lst i nx) := by
  subst hn
  intro l L st h K Post hK hT
  unfold tr_lst at hT
  split at hT
  next x st' => exact g_step (fun D p e s m args below meth c H locs R cells slots Q ls C hR hl hE0 hM kk => lv_lstore C.1 C.2.1 hd hl hm rfl (fun ls' hl' => kk ls' (g_Ls_st2 hl'))) (hK _ _ _ _ hT)
  next => exact hT.elim
def tr_inc (i : Nat) (n : Int32) (nx : Nat) : g_T := fun _ L st h K _ => match g_lk L i with
  | some (.int x) => K nx (g_st1 L i (.int (x + n))) st h
  | _ => False
theorem so_iinc {J : g_J} {pc nx i : Nat} {n : Int} {v : Int32} (hd : decode J.2.1 pc = .ok (.iinc i n, 3)) (hv : Int32.ofInt n = v) (hm : i < J.2.2.1) (hn : pc + 3 = nx) : g_S J pc (tr_inc i v nx) := by
  subst hn
  subst hv
  intro l L st h K Post hK hT
  unfold tr_inc at hT
  split at hT
  next x hx =>
    obtain ⟨k, hk⟩ := List.getElem?_of_mem (g_lk_mem L i 0 _ hx)
    rw [Nat.zero_add] at hk
    exact g_step (fun D p e s m args below meth c H locs R cells slots Q ls C hR hl hE0 hM kk => lv_iinc C.1 C.2.1 hd hl hk rfl hm rfl (fun ls' hl' => kk ls' (g_Ls_st1 hl'))) (hK _ _ _ _ hT)
  next => exact hT.elim
def tr_ii (f : Int32 → Int32 → Int32) (nx : Nat) : g_T := fun _ L st h K _ => match st with
  | .int y :: .int x :: st' => K nx L (.int (f x y) :: st') h
  | _ => False
def tr_ll (f : Int64 → Int64 → Int64) (nx : Nat) : g_T := fun _ L st h K _ => match st with
  | .long y :: .long x :: st' => K nx L (.long (f x y) :: st') h
  | _ => False
def tr_li (f : Int64 → Int32 → Int64) (nx : Nat) : g_T := fun _ L st h K _ => match st with
  | .int y :: .long x :: st' => K nx L (.long (f x y) :: st') h
  | _ => False
def tr_iz (f : Int32 → Int32 → Int32) (nx : Nat) : g_T := fun _ L st h K _ => match st with
  | .int y :: .int x :: st' => ¬ y = 0 ∧ K nx L (.int (f x y) :: st') h
  | _ => False
def tr_lz (f : Int64 → Int64 → Int64) (nx : Nat) : g_T := fun _ L st h K _ => match st with
  | .long y :: .long x :: st' => ¬ y = 0 ∧ K nx L (.long (f x y) :: st') h
  | _ => False
theorem so_iadd {J : g_J} {pc nx : Nat} (hd : decode J.2.1 pc = .ok (.iadd, 1)) (hn : pc + 1 = nx) : g_S J pc (tr_ii (fun x y => x + y) nx) := by
  subst hn
  intro l L st h K Post hK hT
  unfold tr_ii at hT
  split at hT
  next y x st' => exact g_step (fun D p e s m args below meth c H locs R cells slots Q ls C hR hl hE0 hM kk => lv_iadd C.1 C.2.1 hd (kk ls hl)) (hK _ _ _ _ hT)
  next => exact hT.elim
theorem so_isub {J : g_J} {pc nx : Nat} (hd : decode J.2.1 pc = .ok (.isub, 1)) (hn : pc + 1 = nx) : g_S J pc (tr_ii (fun x y => x - y) nx) := by
  subst hn
  intro l L st h K Post hK hT
  unfold tr_ii at hT
  split at hT
  next y x st' => exact g_step (fun D p e s m args below meth c H locs R cells slots Q ls C hR hl hE0 hM kk => lv_isub C.1 C.2.1 hd (kk ls hl)) (hK _ _ _ _ hT)
  next => exact hT.elim
theorem so_imul {J : g_J} {pc nx : Nat} (hd : decode J.2.1 pc = .ok (.imul, 1)) (hn : pc + 1 = nx) : g_S J pc (tr_ii (fun x y => x * y) nx) := by
  subst hn
  intro l L st h K Post hK hT
  unfold tr_ii at hT
  split at hT
  next y x st' => exact g_step (fun D p e s m args below meth c H locs R cells slots Q ls C hR hl hE0 hM kk => lv_imul C.1 C.2.1 hd (kk ls hl)) (hK _ _ _ _ hT)
  next => exact hT.elim
theorem so_iand {J : g_J} {pc nx : Nat} (hd : decode J.2.1 pc = .ok (.iand, 1)) (hn : pc + 1 = nx) : g_S J pc (tr_ii (fun x y => x &&& y) nx) := by
  subst hn
  intro l L st h K Post hK hT
  unfold tr_ii at hT
  split at hT
  next y x st' => exact g_step (fun D p e s m args below meth c H locs R cells slots Q ls C hR hl hE0 hM kk => lv_iand C.1 C.2.1 hd (kk ls hl)) (hK _ _ _ _ hT)
  next => exact hT.elim
theorem so_ior {J : g_J} {pc nx : Nat} (hd : decode J.2.1 pc = .ok (.ior, 1)) (hn : pc + 1 = nx) : g_S J pc (tr_ii (fun x y => x ||| y) nx) := by
  subst hn
  intro l L st h K Post hK hT
  unfold tr_ii at hT
  split at hT
  next y x st' => exact g_step (fun D p e s m args below meth c H locs R cells slots Q ls C hR hl hE0 hM kk => lv_ior C.1 C.2.1 hd (kk ls hl)) (hK _ _ _ _ hT)
  next => exact hT.elim
theorem so_ixor {J : g_J} {pc nx : Nat} (hd : decode J.2.1 pc = .ok (.ixor, 1)) (hn : pc + 1 = nx) : g_S J pc (tr_ii (fun x y => x ^^^ y) nx) := by
  subst hn
  intro l L st h K Post hK hT
  unfold tr_ii at hT
  split at hT
  next y x st' => exact g_step (fun D p e s m args below meth c H locs R cells slots Q ls C hR hl hE0 hM kk => lv_ixor C.1 C.2.1 hd (kk ls hl)) (hK _ _ _ _ hT)
  next => exact hT.elim
theorem so_ishl {J : g_J} {pc nx : Nat} (hd : decode J.2.1 pc = .ok (.ishl, 1)) (hn : pc + 1 = nx) : g_S J pc (tr_ii (fun x y => x <<< (y &&& 31)) nx) := by
  subst hn
  intro l L st h K Post hK hT
  unfold tr_ii at hT
  split at hT
  next y x st' => exact g_step (fun D p e s m args below meth c H locs R cells slots Q ls C hR hl hE0 hM kk => lv_ishl C.1 C.2.1 hd (kk ls hl)) (hK _ _ _ _ hT)
  next => exact hT.elim
theorem so_ishr {J : g_J} {pc nx : Nat} (hd : decode J.2.1 pc = .ok (.ishr, 1)) (hn : pc + 1 = nx) : g_S J pc (tr_ii (fun x y => x >>> (y &&& 31)) nx) := by
  subst hn
  intro l L st h K Post hK hT
  unfold tr_ii at hT
  split at hT
  next y x st' => exact g_step (fun D p e s m args below meth c H locs R cells slots Q ls C hR hl hE0 hM kk => lv_ishr C.1 C.2.1 hd (kk ls hl)) (hK _ _ _ _ hT)
  next => exact hT.elim
theorem so_iushr {J : g_J} {pc nx : Nat} (hd : decode J.2.1 pc = .ok (.iushr, 1)) (hn : pc + 1 = nx) : g_S J pc (tr_ii (fun x y => (x.toUInt32 >>> (y.toUInt32 &&& Int32.toUInt32 31)).toInt32) nx) := by
  subst hn
  intro l L st h K Post hK hT
  unfold tr_ii at hT
  split at hT
  next y x st' => exact g_step (fun D p e s m args below meth c H locs R cells slots Q ls C hR hl hE0 hM kk => lv_iushr C.1 C.2.1 hd rfl (kk ls hl)) (hK _ _ _ _ hT)
  next => exact hT.elim
theorem so_idiv {J : g_J} {pc nx : Nat} (hd : decode J.2.1 pc = .ok (.idiv, 1)) (hn : pc + 1 = nx) : g_S J pc (tr_iz (fun x y => x / y) nx) := by
  subst hn
  intro l L st h K Post hK hT
  unfold tr_iz at hT
  split at hT
  next y x st' => exact g_step (fun D p e s m args below meth c H locs R cells slots Q ls C hR hl hE0 hM kk => lv_idiv C.1 C.2.1 hd hT.1 (kk ls hl)) (hK _ _ _ _ hT.2)
  next => exact hT.elim
theorem so_irem {J : g_J} {pc nx : Nat} (hd : decode J.2.1 pc = .ok (.irem, 1)) (hn : pc + 1 = nx) : g_S J pc (tr_iz (fun x y => x - x / y * y) nx) := by
  subst hn
  intro l L st h K Post hK hT
  unfold tr_iz at hT
  split at hT
  next y x st' => exact g_step (fun D p e s m args below meth c H locs R cells slots Q ls C hR hl hE0 hM kk => lv_irem C.1 C.2.1 hd hT.1 (kk ls hl)) (hK _ _ _ _ hT.2)
  next => exact hT.elim
theorem so_ladd {J : g_J} {pc nx : Nat} (hd : decode J.2.1 pc = .ok (.ladd, 1)) (hn : pc + 1 = nx) : g_S J pc (tr_ll (fun x y => x + y) nx) := by
  subst hn
  intro l L st h K Post hK hT
  unfold tr_ll at hT
  split at hT
  next y x st' => exact g_step (fun D p e s m args below meth c H locs R cells slots Q ls C hR hl hE0 hM kk => lv_ladd C.1 C.2.1 hd (kk ls hl)) (hK _ _ _ _ hT)
  next => exact hT.elim
theorem so_lsub {J : g_J} {pc nx : Nat} (hd : decode J.2.1 pc = .ok (.lsub, 1)) (hn : pc + 1 = nx) : g_S J pc (tr_ll (fun x y => x - y) nx) := by
  subst hn
  intro l L st h K Post hK hT
  unfold tr_ll at hT
  split at hT
  next y x st' => exact g_step (fun D p e s m args below meth c H locs R cells slots Q ls C hR hl hE0 hM kk => lv_lsub C.1 C.2.1 hd (kk ls hl)) (hK _ _ _ _ hT)
  next => exact hT.elim
theorem so_lmul {J : g_J} {pc nx : Nat} (hd : decode J.2.1 pc = .ok (.lmul, 1)) (hn : pc + 1 = nx) : g_S J pc (tr_ll (fun x y => x * y) nx) := by
  subst hn
  intro l L st h K Post hK hT
  unfold tr_ll at hT
  split at hT
  next y x st' => exact g_step (fun D p e s m args below meth c H locs R cells slots Q ls C hR hl hE0 hM kk => lv_lmul C.1 C.2.1 hd (kk ls hl)) (hK _ _ _ _ hT)
  next => exact hT.elim
theorem so_land {J : g_J} {pc nx : Nat} (hd : decode J.2.1 pc = .ok (.land, 1)) (hn : pc + 1 = nx) : g_S J pc (tr_ll (fun x y => x &&& y) nx) := by
  subst hn
  intro l L st h K Post hK hT
  unfold tr_ll at hT
  split at hT
  next y x st' => exact g_step (fun D p e s m args below meth c H locs R cells slots Q ls C hR hl hE0 hM kk => lv_land C.1 C.2.1 hd (kk ls hl)) (hK _ _ _ _ hT)
  next => exact hT.elim
theorem so_lor {J : g_J} {pc nx : Nat} (hd : decode J.2.1 pc = .ok (.lor, 1)) (hn : pc + 1 = nx) : g_S J pc (tr_ll (fun x y => x ||| y) nx) := by
  subst hn
  intro l L st h K Post hK hT
  unfold tr_ll at hT
  split at hT
  next y x st' => exact g_step (fun D p e s m args below meth c H locs R cells slots Q ls C hR hl hE0 hM kk => lv_lor C.1 C.2.1 hd (kk ls hl)) (hK _ _ _ _ hT)
  next => exact hT.elim
theorem so_lxor {J : g_J} {pc nx : Nat} (hd : decode J.2.1 pc = .ok (.lxor, 1)) (hn : pc + 1 = nx) : g_S J pc (tr_ll (fun x y => x ^^^ y) nx) := by
  subst hn
  intro l L st h K Post hK hT
  unfold tr_ll at hT
  split at hT
  next y x st' => exact g_step (fun D p e s m args below meth c H locs R cells slots Q ls C hR hl hE0 hM kk => lv_lxor C.1 C.2.1 hd (kk ls hl)) (hK _ _ _ _ hT)
  next => exact hT.elim
theorem so_ldiv {J : g_J} {pc nx : Nat} (hd : decode J.2.1 pc = .ok (.ldiv, 1)) (hn : pc + 1 = nx) : g_S J pc (tr_lz (fun x y => x / y) nx) := by
  subst hn
  intro l L st h K Post hK hT
  unfold tr_lz at hT
  split at hT
  next y x st' => exact g_step (fun D p e s m args below meth c H locs R cells slots Q ls C hR hl hE0 hM kk => lv_ldiv C.1 C.2.1 hd hT.1 (kk ls hl)) (hK _ _ _ _ hT.2)
  next => exact hT.elim
theorem so_lrem {J : g_J} {pc nx : Nat} (hd : decode J.2.1 pc = .ok (.lrem, 1)) (hn : pc + 1 = nx) : g_S J pc (tr_lz (fun x y => x - x / y * y) nx) := by
  subst hn
  intro l L st h K Post hK hT
  unfold tr_lz at hT
  split at hT
  next y x st' => exact g_step (fun D p e s m args below meth c H locs R cells slots Q ls C hR hl hE0 hM kk => lv_lrem C.1 C.2.1 hd hT.1 (kk ls hl)) (hK _ _ _ _ hT.2)
  next => exact hT.elim
theorem so_lshl {J : g_J} {pc nx : Nat} (hd : decode J.2.1 pc = .ok (.lshl, 1)) (hn : pc + 1 = nx) : g_S J pc (tr_li (fun x y => x <<< (y.toInt64 &&& 63)) nx) := by
  subst hn
  intro l L st h K Post hK hT
  unfold tr_li at hT
  split at hT
  next y x st' => exact g_step (fun D p e s m args below meth c H locs R cells slots Q ls C hR hl hE0 hM kk => lv_lshl C.1 C.2.1 hd rfl (kk ls hl)) (hK _ _ _ _ hT)
  next => exact hT.elim
theorem so_lshr {J : g_J} {pc nx : Nat} (hd : decode J.2.1 pc = .ok (.lshr, 1)) (hn : pc + 1 = nx) : g_S J pc (tr_li (fun x y => x >>> (y.toInt64 &&& 63)) nx) := by
  subst hn
  intro l L st h K Post hK hT
  unfold tr_li at hT
  split at hT
  next y x st' => exact g_step (fun D p e s m args below meth c H locs R cells slots Q ls C hR hl hE0 hM kk => lv_lshr C.1 C.2.1 hd rfl (kk ls hl)) (hK _ _ _ _ hT)
  next => exact hT.elim
theorem so_lushr {J : g_J} {pc nx : Nat} (hd : decode J.2.1 pc = .ok (.lushr, 1)) (hn : pc + 1 = nx) : g_S J pc (tr_li (fun x y => (x.toUInt64 >>> (y.toInt64.toUInt64 &&& Int64.toUInt64 63)).toInt64) nx) := by
  subst hn
  intro l L st h K Post hK hT
  unfold tr_li at hT
  split at hT
  next y x st' => exact g_step (fun D p e s m args below meth c H locs R cells slots Q ls C hR hl hE0 hM kk => lv_lushr C.1 C.2.1 hd rfl (kk ls hl)) (hK _ _ _ _ hT)
  next => exact hT.elim
def tr_ineg (nx : Nat) : g_T := fun _ L st h K _ => match st with
  | .int x :: st' => K nx L (.int (-x) :: st') h
  | _ => False
theorem so_ineg {J : g_J} {pc nx : Nat} (hd : decode J.2.1 pc = .ok (.ineg, 1)) (hn : pc + 1 = nx) : g_S J pc (tr_ineg nx) := by
  subst hn
  intro l L st h K Post hK hT
  unfold tr_ineg at hT
  split at hT
  next x st' => exact g_step (fun D p e s m args below meth c H locs R cells slots Q ls C hR hl hE0 hM kk => lv_ineg C.1 C.2.1 hd (kk ls hl)) (hK _ _ _ _ hT)
  next => exact hT.elim
def tr_lneg (nx : Nat) : g_T := fun _ L st h K _ => match st with
  | .long x :: st' => K nx L (.long (-x) :: st') h
  | _ => False
theorem so_lneg {J : g_J} {pc nx : Nat} (hd : decode J.2.1 pc = .ok (.lneg, 1)) (hn : pc + 1 = nx) : g_S J pc (tr_lneg nx) := by
  subst hn
  intro l L st h K Post hK hT
  unfold tr_lneg at hT
  split at hT
  next x st' => exact g_step (fun D p e s m args below meth c H locs R cells slots Q ls C hR hl hE0 hM kk => lv_lneg C.1 C.2.1 hd (kk ls hl)) (hK _ _ _ _ hT)
  next => exact hT.elim
def tr_i2l (nx : Nat) : g_T := fun _ L st h K _ => match st with
  | .int x :: st' => K nx L (.long (x.toInt64) :: st') h
  | _ => False
theorem so_i2l {J : g_J} {pc nx : Nat} (hd : decode J.2.1 pc = .ok (.i2l, 1)) (hn : pc + 1 = nx) : g_S J pc (tr_i2l nx) := by
  subst hn
  intro l L st h K Post hK hT
  unfold tr_i2l at hT
  split at hT
  next x st' => exact g_step (fun D p e s m args below meth c H locs R cells slots Q ls C hR hl hE0 hM kk => lv_i2l C.1 C.2.1 hd rfl (kk ls hl)) (hK _ _ _ _ hT)
  next => exact hT.elim
def tr_l2i (nx : Nat) : g_T := fun _ L st h K _ => match st with
  | .long x :: st' => K nx L (.int (x.toInt32) :: st') h
  | _ => False
theorem so_l2i {J : g_J} {pc nx : Nat} (hd : decode J.2.1 pc = .ok (.l2i, 1)) (hn : pc + 1 = nx) : g_S J pc (tr_l2i nx) := by
  subst hn
  intro l L st h K Post hK hT
  unfold tr_l2i at hT
  split at hT
  next x st' => exact g_step (fun D p e s m args below meth c H locs R cells slots Q ls C hR hl hE0 hM kk => lv_l2i C.1 C.2.1 hd rfl (kk ls hl)) (hK _ _ _ _ hT)
  next => exact hT.elim
def tr_i2b (nx : Nat) : g_T := fun _ L st h K _ => match st with
  | .int x :: st' => K nx L (.int (x.toInt8.toInt32) :: st') h
  | _ => False
theorem so_i2b {J : g_J} {pc nx : Nat} (hd : decode J.2.1 pc = .ok (.i2b, 1)) (hn : pc + 1 = nx) : g_S J pc (tr_i2b nx) := by
  subst hn
  intro l L st h K Post hK hT
  unfold tr_i2b at hT
  split at hT
  next x st' => exact g_step (fun D p e s m args below meth c H locs R cells slots Q ls C hR hl hE0 hM kk => lv_i2b C.1 C.2.1 hd rfl (kk ls hl)) (hK _ _ _ _ hT)
  next => exact hT.elim
def tr_lcmp (nx : Nat) : g_T := fun _ L st h K _ => match st with
  | .long y :: .long x :: st' => K nx L (.int (lg_cmp x y) :: st') h
  | _ => False
theorem so_lcmp {J : g_J} {pc nx : Nat} (hd : decode J.2.1 pc = .ok (.lcmp, 1)) (hn : pc + 1 = nx) : g_S J pc (tr_lcmp nx) := by
  subst hn
  intro l L st h K Post hK hT
  unfold tr_lcmp at hT
  split at hT
  next y x st' => exact g_step (fun D p e s m args below meth c H locs R cells slots Q ls C hR hl hE0 hM kk => W.lcmp C.1 C.2.1 hd (kk ls hl)) (hK _ _ _ _ hT)
  next => exact hT.elim
def tr_dup (nx : Nat) : g_T := fun _ L st h K _ => match st with
  | .int x :: st' => K nx L (.int x :: .int x :: st') h
  | .ref x :: st' => K nx L (.ref x :: .ref x :: st') h
  | _ => False
theorem so_dup {J : g_J} {pc nx : Nat} (hd : decode J.2.1 pc = .ok (.dup, 1)) (hn : pc + 1 = nx) : g_S J pc (tr_dup nx) := by
  subst hn
  intro l L st h K Post hK hT
  unfold tr_dup at hT
  split at hT
  next x st' => exact g_step (fun D p e s m args below meth c H locs R cells slots Q ls C hR hl hE0 hM kk => lv_dup C.1 C.2.1 hd rfl (kk ls hl)) (hK _ _ _ _ hT)
  next x st' => exact g_step (fun D p e s m args below meth c H locs R cells slots Q ls C hR hl hE0 hM kk => lv_dup C.1 C.2.1 hd rfl (kk ls hl)) (hK _ _ _ _ hT)
  next => exact hT.elim
def tr_pop (nx : Nat) : g_T := fun _ L st h K _ => match st with
  | .int _ :: st' => K nx L st' h
  | .ref _ :: st' => K nx L st' h
  | _ => False
theorem so_pop {J : g_J} {pc nx : Nat} (hd : decode J.2.1 pc = .ok (.pop, 1)) (hn : pc + 1 = nx) : g_S J pc (tr_pop nx) := by
  subst hn
  intro l L st h K Post hK hT
  unfold tr_pop at hT
  split at hT
  next x st' => exact g_step (fun D p e s m args below meth c H locs R cells slots Q ls C hR hl hE0 hM kk => lv_pop C.1 C.2.1 hd rfl (kk ls hl)) (hK _ _ _ _ hT)
  next x st' => exact g_step (fun D p e s m args below meth c H locs R cells slots Q ls C hR hl hE0 hM kk => lv_pop C.1 C.2.1 hd rfl (kk ls hl)) (hK _ _ _ _ hT)
  next => exact hT.elim
def tr_dupx1 (nx : Nat) : g_T := fun _ L st h K _ => match st with
  | .int x :: .ref y :: st' => K nx L (.int x :: .ref y :: .int x :: st') h
  | _ => False
theorem so_dup_x1 {J : g_J} {pc nx : Nat} (hd : decode J.2.1 pc = .ok (.dup_x1, 1)) (hn : pc + 1 = nx) : g_S J pc (tr_dupx1 nx) := by
  subst hn
  intro l L st h K Post hK hT
  unfold tr_dupx1 at hT
  split at hT
  next x y st' => exact g_step (fun D p e s m args below meth c H locs R cells slots Q ls C hR hl hE0 hM kk => lv_dup_x1 C.1 C.2.1 hd rfl rfl (kk ls hl)) (hK _ _ _ _ hT)
  next => exact hT.elim
def tr_dup2 (nx : Nat) : g_T := fun _ L st h K _ => match st with
  | .int x :: .ref y :: st' => K nx L (.int x :: .ref y :: .int x :: .ref y :: st') h
  | _ => False
theorem so_dup2 {J : g_J} {pc nx : Nat} (hd : decode J.2.1 pc = .ok (.dup2, 1)) (hn : pc + 1 = nx) : g_S J pc (tr_dup2 nx) := by
  subst hn
  intro l L st h K Post hK hT
  unfold tr_dup2 at hT
  split at hT
  next x y st' => exact g_step (fun D p e s m args below meth c H locs R cells slots Q ls C hR hl hE0 hM kk => lv_dup2_11 C.1 C.2.1 hd rfl rfl (kk ls hl)) (hK _ _ _ _ hT)
  next => exact hT.elim
def g_br (c A B : Prop) : Prop := (c → A) ∧ (¬ c → B)
theorem g_br_t {c A B : Prop} (hc : c) (h : A) : g_br c A B := ⟨fun _ => h, fun q => absurd hc q⟩
theorem g_br_f {c A B : Prop} (hc : ¬ c) (h : B) : g_br c A B := ⟨fun q => absurd q hc, fun _ => h⟩
theorem g_br_i {c A B : Prop} (h : c → A) (h2 : ¬ c → B) : g_br c A B := ⟨h, h2⟩
theorem g_br2 {l : Launch} {J : g_J} {pc t1 t2 : Nat} {L : g_L} {st st' : List Value} {h : g_H} {Post : g_P} {q : Prop}
    (hw : ∀ (D : g_D) (p : Program) (e : Env) (s : State) (m : MethodId) (args : Array Value) (below : List Frame) (meth : Method) (c : Code) (H : Heap) (locs : List Loc) (R : Room) (cells slots : Nat) (Q : State → Prop) (ls : Array Slot), g_CX J D p s m args meth c →
      (q → W p l e R s m args below meth c H locs cells slots Q (F0 m t1 ls st')) → (¬ q → W p l e R s m args below meth c H locs cells slots Q (F0 m t2 ls st')) → W p l e R s m args below meth c H locs cells slots Q (F0 m pc ls st))
    (k : g_br q (g_X l J t1 L st' h Post) (g_X l J t2 L st' h Post)) : g_X l J pc L st h Post := by
  by_cases hq : q
  · exact g_step (fun D p e s m args below meth c H locs R cells slots Q ls C hR hl hE0 hM kk => hw D p e s m args below meth c H locs R cells slots Q ls C (fun _ => kk ls hl) (fun z => absurd hq z)) (k.1 hq)
  · exact g_step (fun D p e s m args below meth c H locs R cells slots Q ls C hR hl hE0 hM kk => hw D p e s m args below meth c H locs R cells slots Q ls C (fun z => absurd z hq) (fun _ => kk ls hl)) (k.2 hq)
def tr_if1 (P : Int32 → Prop) (tg nx : Nat) : g_T := fun _ L st h K _ => match st with
  | .int x :: st' => g_br (P x) (K tg L st' h) (K nx L st' h)
  | _ => False
def tr_if2 (P : Int32 → Int32 → Prop) (tg nx : Nat) : g_T := fun _ L st h K _ => match st with
  | .int y :: .int x :: st' => g_br (P x y) (K tg L st' h) (K nx L st' h)
  | _ => False
theorem so_if_eq {J : g_J} {pc tg nx : Nat} {off : Int} (hd : decode J.2.1 pc = .ok (.ifCond .eq off, 3)) (ht : (pc : Int) + off = (tg : Int)) (hn : pc + 3 = nx) : g_S J pc (tr_if1 (fun x => x = 0) tg nx) := by
  subst hn
  intro l L st h K Post hK hT
  unfold tr_if1 at hT
  split at hT
  next x st' => exact g_br2 (fun D p e s m args below meth c H locs R cells slots Q ls C k1 k2 => lv_if_eq C.1 C.2.1 hd ht k1 k2) ⟨fun q => hK _ _ _ _ (hT.1 q), fun q => hK _ _ _ _ (hT.2 q)⟩
  next => exact hT.elim
theorem so_icmp_eq {J : g_J} {pc tg nx : Nat} {off : Int} (hd : decode J.2.1 pc = .ok (.if_icmp .eq off, 3)) (ht : (pc : Int) + off = (tg : Int)) (hn : pc + 3 = nx) : g_S J pc (tr_if2 (fun x y => x = y) tg nx) := by
  subst hn
  intro l L st h K Post hK hT
  unfold tr_if2 at hT
  split at hT
  next y x st' => exact g_br2 (fun D p e s m args below meth c H locs R cells slots Q ls C k1 k2 => lv_icmp_eq C.1 C.2.1 hd ht k1 k2) ⟨fun q => hK _ _ _ _ (hT.1 q), fun q => hK _ _ _ _ (hT.2 q)⟩
  next => exact hT.elim
theorem so_if_ne {J : g_J} {pc tg nx : Nat} {off : Int} (hd : decode J.2.1 pc = .ok (.ifCond .ne off, 3)) (ht : (pc : Int) + off = (tg : Int)) (hn : pc + 3 = nx) : g_S J pc (tr_if1 (fun x => ¬ x = 0) tg nx) := by
  subst hn
  intro l L st h K Post hK hT
  unfold tr_if1 at hT
  split at hT
  next x st' => exact g_br2 (fun D p e s m args below meth c H locs R cells slots Q ls C k1 k2 => lv_if_ne C.1 C.2.1 hd ht k1 (fun z => k2 (fun w => w z))) ⟨fun q => hK _ _ _ _ (hT.1 q), fun q => hK _ _ _ _ (hT.2 q)⟩
  next => exact hT.elim
theorem so_icmp_ne {J : g_J} {pc tg nx : Nat} {off : Int} (hd : decode J.2.1 pc = .ok (.if_icmp .ne off, 3)) (ht : (pc : Int) + off = (tg : Int)) (hn : pc + 3 = nx) : g_S J pc (tr_if2 (fun x y => ¬ x = y) tg nx) := by
  subst hn
  intro l L st h K Post hK hT
  unfold tr_if2 at hT
  split at hT
  next y x st' => exact g_br2 (fun D p e s m args below meth c H locs R cells slots Q ls C k1 k2 => lv_icmp_ne C.1 C.2.1 hd ht k1 (fun z => k2 (fun w => w z))) ⟨fun q => hK _ _ _ _ (hT.1 q), fun q => hK _ _ _ _ (hT.2 q)⟩
  next => exact hT.elim
theorem so_if_lt {J : g_J} {pc tg nx : Nat} {off : Int} (hd : decode J.2.1 pc = .ok (.ifCond .lt off, 3)) (ht : (pc : Int) + off = (tg : Int)) (hn : pc + 3 = nx) : g_S J pc (tr_if1 (fun x => x < 0) tg nx) := by
  subst hn
  intro l L st h K Post hK hT
  unfold tr_if1 at hT
  split at hT
  next x st' => exact g_br2 (fun D p e s m args below meth c H locs R cells slots Q ls C k1 k2 => lv_if_lt C.1 C.2.1 hd ht k1 k2) ⟨fun q => hK _ _ _ _ (hT.1 q), fun q => hK _ _ _ _ (hT.2 q)⟩
  next => exact hT.elim
theorem so_icmp_lt {J : g_J} {pc tg nx : Nat} {off : Int} (hd : decode J.2.1 pc = .ok (.if_icmp .lt off, 3)) (ht : (pc : Int) + off = (tg : Int)) (hn : pc + 3 = nx) : g_S J pc (tr_if2 (fun x y => x < y) tg nx) := by
  subst hn
  intro l L st h K Post hK hT
  unfold tr_if2 at hT
  split at hT
  next y x st' => exact g_br2 (fun D p e s m args below meth c H locs R cells slots Q ls C k1 k2 => lv_icmp_lt C.1 C.2.1 hd ht k1 k2) ⟨fun q => hK _ _ _ _ (hT.1 q), fun q => hK _ _ _ _ (hT.2 q)⟩
  next => exact hT.elim
theorem so_if_ge {J : g_J} {pc tg nx : Nat} {off : Int} (hd : decode J.2.1 pc = .ok (.ifCond .ge off, 3)) (ht : (pc : Int) + off = (tg : Int)) (hn : pc + 3 = nx) : g_S J pc (tr_if1 (fun x => 0 ≤ x) tg nx) := by
  subst hn
  intro l L st h K Post hK hT
  unfold tr_if1 at hT
  split at hT
  next x st' => exact g_br2 (fun D p e s m args below meth c H locs R cells slots Q ls C k1 k2 => lv_if_ge C.1 C.2.1 hd ht k1 k2) ⟨fun q => hK _ _ _ _ (hT.1 q), fun q => hK _ _ _ _ (hT.2 q)⟩
  next => exact hT.elim
theorem so_icmp_ge {J : g_J} {pc tg nx : Nat} {off : Int} (hd : decode J.2.1 pc = .ok (.if_icmp .ge off, 3)) (ht : (pc : Int) + off = (tg : Int)) (hn : pc + 3 = nx) : g_S J pc (tr_if2 (fun x y => y ≤ x) tg nx) := by
  subst hn
  intro l L st h K Post hK hT
  unfold tr_if2 at hT
  split at hT
  next y x st' => exact g_br2 (fun D p e s m args below meth c H locs R cells slots Q ls C k1 k2 => lv_icmp_ge C.1 C.2.1 hd ht k1 k2) ⟨fun q => hK _ _ _ _ (hT.1 q), fun q => hK _ _ _ _ (hT.2 q)⟩
  next => exact hT.elim
theorem so_if_gt {J : g_J} {pc tg nx : Nat} {off : Int} (hd : decode J.2.1 pc = .ok (.ifCond .gt off, 3)) (ht : (pc : Int) + off = (tg : Int)) (hn : pc + 3 = nx) : g_S J pc (tr_if1 (fun x => 0 < x) tg nx) := by
  subst hn
  intro l L st h K Post hK hT
  unfold tr_if1 at hT
  split at hT
  next x st' => exact g_br2 (fun D p e s m args below meth c H locs R cells slots Q ls C k1 k2 => lv_if_gt C.1 C.2.1 hd ht k1 k2) ⟨fun q => hK _ _ _ _ (hT.1 q), fun q => hK _ _ _ _ (hT.2 q)⟩
  next => exact hT.elim
theorem so_icmp_gt {J : g_J} {pc tg nx : Nat} {off : Int} (hd : decode J.2.1 pc = .ok (.if_icmp .gt off, 3)) (ht : (pc : Int) + off = (tg : Int)) (hn : pc + 3 = nx) : g_S J pc (tr_if2 (fun x y => y < x) tg nx) := by
  subst hn
  intro l L st h K Post hK hT
  unfold tr_if2 at hT
  split at hT
  next y x st' => exact g_br2 (fun D p e s m args below meth c H locs R cells slots Q ls C k1 k2 => lv_icmp_gt C.1 C.2.1 hd ht k1 k2) ⟨fun q => hK _ _ _ _ (hT.1 q), fun q => hK _ _ _ _ (hT.2 q)⟩
  next => exact hT.elim
theorem so_if_le {J : g_J} {pc tg nx : Nat} {off : Int} (hd : decode J.2.1 pc = .ok (.ifCond .le off, 3)) (ht : (pc : Int) + off = (tg : Int)) (hn : pc + 3 = nx) : g_S J pc (tr_if1 (fun x => x ≤ 0) tg nx) := by
  subst hn
  intro l L st h K Post hK hT
  unfold tr_if1 at hT
  split at hT
  next x st' => exact g_br2 (fun D p e s m args below meth c H locs R cells slots Q ls C k1 k2 => lv_if_le C.1 C.2.1 hd ht k1 k2) ⟨fun q => hK _ _ _ _ (hT.1 q), fun q => hK _ _ _ _ (hT.2 q)⟩
  next => exact hT.elim
theorem so_icmp_le {J : g_J} {pc tg nx : Nat} {off : Int} (hd : decode J.2.1 pc = .ok (.if_icmp .le off, 3)) (ht : (pc : Int) + off = (tg : Int)) (hn : pc + 3 = nx) : g_S J pc (tr_if2 (fun x y => x ≤ y) tg nx) := by
  subst hn
  intro l L st h K Post hK hT
  unfold tr_if2 at hT
  split at hT
  next y x st' => exact g_br2 (fun D p e s m args below meth c H locs R cells slots Q ls C k1 k2 => lv_icmp_le C.1 C.2.1 hd ht k1 k2) ⟨fun q => hK _ _ _ _ (hT.1 q), fun q => hK _ _ _ _ (hT.2 q)⟩
  next => exact hT.elim
def tr_goto (tg : Nat) : g_T := fun _ L st h K _ => K tg L st h
theorem so_goto {J : g_J} {pc tg : Nat} {off : Int} (hd : decode J.2.1 pc = .ok (.goto off, 3)) (ht : (pc : Int) + off = (tg : Int)) : g_S J pc (tr_goto tg) :=
  fun l L st h K Post hK hT => g_step (fun D p e s m args below meth c H locs R cells slots Q ls C hR hl hE0 hM kk => lv_goto C.1 C.2.1 hd ht (kk ls hl)) (hK _ _ _ _ hT)
def g_ls (x : Int32) (K : Nat → Prop) (d : Nat) : List (Int32 × Nat) → Prop
  | [] => K d
  | (k, t) :: r => g_br (x = k) (K t) (g_ls x K d r)
theorem g_ls_cases {x : Int32} {K : Nat → Prop} {d : Nat} : ∀ (T : List (Int32 × Nat)), g_ls x K d T → (∃ (i : Nat) (t : Nat), T[i]? = some (x, t) ∧ K t) ∨ ((∀ (i : Nat) (q : Int32 × Nat), T[i]? = some q → x ≠ q.1) ∧ K d)
  | [], h => Or.inr ⟨fun i q hq => by simp at hq, h⟩
  | (k, t) :: r, h => by
    by_cases hx : x = k
    · subst hx
      exact Or.inl ⟨0, t, rfl, h.1 rfl⟩
    · rcases g_ls_cases r (h.2 hx) with ⟨i, t', h1, h2⟩ | ⟨h1, h2⟩
      · exact Or.inl ⟨i + 1, t', h1, h2⟩
      · refine Or.inr ⟨fun i q hq => ?_, h2⟩
        cases i with
        | zero =>
          rw [List.getElem?_cons_zero] at hq
          cases hq
          exact hx
        | succ i =>
          rw [List.getElem?_cons_succ] at hq
          exact h1 i q hq
def tr_sw (T : List (Int32 × Nat)) (d : Nat) : g_T := fun _ L st h K _ => match st with
  | .int x :: st' => g_ls x (fun t => K t L st' h) d T
  | _ => False
theorem so_tsw {J : g_J} {pc d : Nat} {dflt lo hi : Int} {offs : Array Int} {len : Nat} {T : List (Int32 × Nat)} (hd : decode J.2.1 pc = .ok (.tableswitch dflt lo hi offs, len)) (hdf : (pc : Int) + dflt = (d : Int)) (ho : offs.toList = T.map (fun q => (q.2 : Int) - (pc : Int))) (hk : T.map (fun q => q.1.toInt) = (List.range T.length).map (fun i : Nat => lo + (i : Int))) (hh : hi = lo + (T.length : Int) - 1) : g_S J pc (tr_sw T d) := by
  intro l L st h K Post hK hT
  unfold tr_sw at hT
  split at hT
  next x st' =>
    have key : ∀ (i : Nat) (q : Int32 × Nat), T[i]? = some q → q.1.toInt = lo + (i : Int) := by
      intro i q hq
      have h1 : (T.map (fun q => q.1.toInt))[i]? = some q.1.toInt := by rw [List.getElem?_map, hq]; rfl
      have hi' : i < T.length := (List.getElem?_eq_some_iff.mp hq).1
      rw [hk, List.getElem?_map, List.getElem?_range hi'] at h1
      exact (Option.some.inj h1).symm
    rcases g_ls_cases T hT with ⟨i, t, h1, h2⟩ | ⟨h1, h2⟩
    · have e1 : x.toInt = lo + (i : Int) := key i _ h1
      have hi' : i < T.length := (List.getElem?_eq_some_iff.mp h1).1
      have e2 : offs[(x.toInt - lo).toNat]? = some ((t : Int) - (pc : Int)) := by
        rw [show (x.toInt - lo).toNat = i by omega, ← Array.getElem?_toList, ho, List.getElem?_map, h1]
        rfl
      exact g_step (fun D p e s m args below meth c H locs R cells slots Q ls C hR hl hE0 hM kk => lv_tableIn C.1 C.2.1 hd (by omega) (by omega) e2 (by omega) (kk ls hl)) (hK _ _ _ _ h2)
    · refine g_step (fun D p e s m args below meth c H locs R cells slots Q ls C hR hl hE0 hM kk => lv_tableOut C.1 C.2.1 hd ?_ hdf (kk ls hl)) (hK _ _ _ _ h2)
      by_cases a : x.toInt < lo
      · exact Or.inl a
      · by_cases b : hi < x.toInt
        · exact Or.inr b
        · exfalso
          have hi' : (x.toInt - lo).toNat < T.length := by omega
          have h3 := List.getElem?_eq_getElem hi'
          have e1 := key _ _ h3
          refine h1 _ _ h3 (Int32.toInt_inj.mp ?_)
          rw [e1]
          omega
  next => exact hT.elim
