/-! rows: one instruction each -/
def pm_D (cc : ByteArray) (pc : Nat) (i : Instr) (len pc' : Nat) : Prop := decode cc pc = .ok (i, len) ∧ pc + len = pc'
def pm_J (cc : ByteArray) (pc : Nat) (mk : Int → Instr) (tgt pc' : Nat) : Prop := ∃ off : Int, decode cc pc = .ok (mk off, 3) ∧ (pc : Int) + off = (tgt : Int) ∧ pc + 3 = pc'
/-- pushes the int v -/
def pm_KI (M : pm_M) (pc : Nat) (v : Int32) (pc' : Nat) : Prop :=
  (∃ n : Int, decode M.2.2.1 pc = .ok (.iconst n, 1) ∧ Int32.ofInt n = v ∧ pc + 1 = pc') ∨ (∃ n : Int, decode M.2.2.1 pc = .ok (.bipush n, 2) ∧ (Int8.ofInt n).toInt32 = v ∧ pc + 2 = pc') ∨
  (∃ n : Int, decode M.2.2.1 pc = .ok (.sipush n, 3) ∧ (Int16.ofInt n).toInt32 = v ∧ pc + 3 = pc') ∨ (∃ i : Nat, decode M.2.2.1 pc = .ok (.ldc i, 2) ∧ Cond.constant M.1 i v ∈ pm_T ∧ pc + 2 = pc') ∨ (∃ i : Nat, decode M.2.2.1 pc = .ok (.ldc_w i, 3) ∧ Cond.constant M.1 i v ∈ pm_T ∧ pc + 3 = pc')
def pm_KL (M : pm_M) (pc : Nat) (v : Int64) (pc' : Nat) : Prop :=
  (∃ n : Fin 2, decode M.2.2.1 pc = .ok (.lconst n, 1) ∧ Int64.ofNat (n : Nat) = v ∧ pc + 1 = pc') ∨ (∃ i : Nat, decode M.2.2.1 pc = .ok (.ldc2_w i, 3) ∧ Cond.constantLong M.1 i v ∈ pm_T ∧ pc + 3 = pc')
def pm_KD (M : pm_M) (pc : Nat) (v : UInt64) (pc' : Nat) : Prop :=
  (decode M.2.2.1 pc = .ok (.dconst 0, 1) ∧ FP.dconst0 = v ∧ pc + 1 = pc') ∨ (decode M.2.2.1 pc = .ok (.dconst 1, 1) ∧ FP.dconst1 = v ∧ pc + 1 = pc') ∨ (∃ i : Nat, decode M.2.2.1 pc = .ok (.ldc2_w i, 3) ∧ Cond.constantDouble M.1 i v ∈ pm_T ∧ pc + 3 = pc')
/-- pushes the String constant number i -/
def pm_KS (M : pm_M) (pc i pc' : Nat) : Prop := ∃ (k : Nat) (tx : String), decode M.2.2.1 pc = .ok (.ldc k, 2) ∧ (M.1, k, tx, i) ∈ pm_str ∧ pc + 2 = pc'

def pm_LDI (cc : ByteArray) (pc i pc' : Nat) : Prop := (decode cc pc = .ok (.iload i, 2) ∧ pc + 2 = pc') ∨ (∃ k : Fin 4, decode cc pc = .ok (.iload_n k, 1) ∧ (k : Nat) = i ∧ pc + 1 = pc')
def pm_STI (cc : ByteArray) (pc i pc' : Nat) : Prop := (decode cc pc = .ok (.istore i, 2) ∧ pc + 2 = pc') ∨ (∃ k : Fin 4, decode cc pc = .ok (.istore_n k, 1) ∧ (k : Nat) = i ∧ pc + 1 = pc')
def pm_LDL (cc : ByteArray) (pc i pc' : Nat) : Prop := (decode cc pc = .ok (.lload i, 2) ∧ pc + 2 = pc') ∨ (∃ k : Fin 4, decode cc pc = .ok (.lload_n k, 1) ∧ (k : Nat) = i ∧ pc + 1 = pc')
def pm_STL (cc : ByteArray) (pc i pc' : Nat) : Prop := (decode cc pc = .ok (.lstore i, 2) ∧ pc + 2 = pc') ∨ (∃ k : Fin 4, decode cc pc = .ok (.lstore_n k, 1) ∧ (k : Nat) = i ∧ pc + 1 = pc')
def pm_LDA (cc : ByteArray) (pc i pc' : Nat) : Prop := (decode cc pc = .ok (.aload i, 2) ∧ pc + 2 = pc') ∨ (∃ k : Fin 4, decode cc pc = .ok (.aload_n k, 1) ∧ (k : Nat) = i ∧ pc + 1 = pc')
def pm_STA (cc : ByteArray) (pc i pc' : Nat) : Prop := (decode cc pc = .ok (.astore i, 2) ∧ pc + 2 = pc') ∨ (∃ k : Fin 4, decode cc pc = .ok (.astore_n k, 1) ∧ (k : Nat) = i ∧ pc + 1 = pc')
def pm_LDD (cc : ByteArray) (pc i pc' : Nat) : Prop := (decode cc pc = .ok (.dload i, 2) ∧ pc + 2 = pc') ∨ (∃ k : Fin 4, decode cc pc = .ok (.dload_n k, 1) ∧ (k : Nat) = i ∧ pc + 1 = pc')
def pm_STD (cc : ByteArray) (pc i pc' : Nat) : Prop := (decode cc pc = .ok (.dstore i, 2) ∧ pc + 2 = pc') ∨ (∃ k : Fin 4, decode cc pc = .ok (.dstore_n k, 1) ∧ (k : Nat) = i ∧ pc + 1 = pc')
def pm_INC (cc : ByteArray) (pc i : Nat) (v : Int32) (pc' : Nat) : Prop := ∃ n : Int, decode cc pc = .ok (.iinc i n, 3) ∧ Int32.ofInt n = v ∧ pc + 3 = pc'
section PMR
variable {g : pm_G} {M : pm_M} {F : pm_F} {cn sn pc pc' : Nat} {ls : List (Option Value)} {st : List Value} {N : Nat} {E : pm_E}
theorem pm_iadd {x y : Int32} (hd : pm_D M.2.2.1 pc (.iadd) 1 pc') (k : pm_W g M F cn sn pc' ls (.int (x + y) :: st) N E) : pm_W g M F cn sn pc ls (.int y :: .int x :: st) N E := by
  obtain ⟨hdg, rfl⟩ := hd
  intro p l e s m args below meth c hC H locs d0 L hd0 hL hWD hS hz
  exact lv_iadd hC.1 hC.2.1 hdg (k p l e s m args below meth c hC H locs d0 L hd0 hL hWD hS hz)
theorem pm_isub {x y : Int32} (hd : pm_D M.2.2.1 pc (.isub) 1 pc') (k : pm_W g M F cn sn pc' ls (.int (x - y) :: st) N E) : pm_W g M F cn sn pc ls (.int y :: .int x :: st) N E := by
  obtain ⟨hdg, rfl⟩ := hd
  intro p l e s m args below meth c hC H locs d0 L hd0 hL hWD hS hz
  exact lv_isub hC.1 hC.2.1 hdg (k p l e s m args below meth c hC H locs d0 L hd0 hL hWD hS hz)
theorem pm_imul {x y : Int32} (hd : pm_D M.2.2.1 pc (.imul) 1 pc') (k : pm_W g M F cn sn pc' ls (.int (x * y) :: st) N E) : pm_W g M F cn sn pc ls (.int y :: .int x :: st) N E := by
  obtain ⟨hdg, rfl⟩ := hd
  intro p l e s m args below meth c hC H locs d0 L hd0 hL hWD hS hz
  exact lv_imul hC.1 hC.2.1 hdg (k p l e s m args below meth c hC H locs d0 L hd0 hL hWD hS hz)
theorem pm_iand {x y : Int32} (hd : pm_D M.2.2.1 pc (.iand) 1 pc') (k : pm_W g M F cn sn pc' ls (.int (x &&& y) :: st) N E) : pm_W g M F cn sn pc ls (.int y :: .int x :: st) N E := by
  obtain ⟨hdg, rfl⟩ := hd
  intro p l e s m args below meth c hC H locs d0 L hd0 hL hWD hS hz
  exact lv_iand hC.1 hC.2.1 hdg (k p l e s m args below meth c hC H locs d0 L hd0 hL hWD hS hz)
theorem pm_ior {x y : Int32} (hd : pm_D M.2.2.1 pc (.ior) 1 pc') (k : pm_W g M F cn sn pc' ls (.int (x ||| y) :: st) N E) : pm_W g M F cn sn pc ls (.int y :: .int x :: st) N E := by
  obtain ⟨hdg, rfl⟩ := hd
  intro p l e s m args below meth c hC H locs d0 L hd0 hL hWD hS hz
  exact lv_ior hC.1 hC.2.1 hdg (k p l e s m args below meth c hC H locs d0 L hd0 hL hWD hS hz)
theorem pm_ishl {x y : Int32} (hd : pm_D M.2.2.1 pc (.ishl) 1 pc') (k : pm_W g M F cn sn pc' ls (.int (x <<< (y &&& 31)) :: st) N E) : pm_W g M F cn sn pc ls (.int y :: .int x :: st) N E := by
  obtain ⟨hdg, rfl⟩ := hd
  intro p l e s m args below meth c hC H locs d0 L hd0 hL hWD hS hz
  exact lv_ishl hC.1 hC.2.1 hdg (k p l e s m args below meth c hC H locs d0 L hd0 hL hWD hS hz)
theorem pm_ishr {x y : Int32} (hd : pm_D M.2.2.1 pc (.ishr) 1 pc') (k : pm_W g M F cn sn pc' ls (.int (x >>> (y &&& 31)) :: st) N E) : pm_W g M F cn sn pc ls (.int y :: .int x :: st) N E := by
  obtain ⟨hdg, rfl⟩ := hd
  intro p l e s m args below meth c hC H locs d0 L hd0 hL hWD hS hz
  exact lv_ishr hC.1 hC.2.1 hdg (k p l e s m args below meth c hC H locs d0 L hd0 hL hWD hS hz)
theorem pm_idiv {x y : Int32} (hd : pm_D M.2.2.1 pc (.idiv) 1 pc') (hne : ¬ y = 0) (k : pm_W g M F cn sn pc' ls (.int (x / y) :: st) N E) : pm_W g M F cn sn pc ls (.int y :: .int x :: st) N E := by
  obtain ⟨hdg, rfl⟩ := hd
  intro p l e s m args below meth c hC H locs d0 L hd0 hL hWD hS hz
  exact lv_idiv hC.1 hC.2.1 hdg hne (k p l e s m args below meth c hC H locs d0 L hd0 hL hWD hS hz)
theorem pm_irem {x y : Int32} (hd : pm_D M.2.2.1 pc (.irem) 1 pc') (hne : ¬ y = 0) (k : pm_W g M F cn sn pc' ls (.int (x - x / y * y) :: st) N E) : pm_W g M F cn sn pc ls (.int y :: .int x :: st) N E := by
  obtain ⟨hdg, rfl⟩ := hd
  intro p l e s m args below meth c hC H locs d0 L hd0 hL hWD hS hz
  exact lv_irem hC.1 hC.2.1 hdg hne (k p l e s m args below meth c hC H locs d0 L hd0 hL hWD hS hz)
theorem pm_ladd {x y : Int64} (hd : pm_D M.2.2.1 pc (.ladd) 1 pc') (k : pm_W g M F cn sn pc' ls (.long (x + y) :: st) N E) : pm_W g M F cn sn pc ls (.long y :: .long x :: st) N E := by
  obtain ⟨hdg, rfl⟩ := hd
  intro p l e s m args below meth c hC H locs d0 L hd0 hL hWD hS hz
  exact lv_ladd hC.1 hC.2.1 hdg (k p l e s m args below meth c hC H locs d0 L hd0 hL hWD hS hz)
theorem pm_lsub {x y : Int64} (hd : pm_D M.2.2.1 pc (.lsub) 1 pc') (k : pm_W g M F cn sn pc' ls (.long (x - y) :: st) N E) : pm_W g M F cn sn pc ls (.long y :: .long x :: st) N E := by
  obtain ⟨hdg, rfl⟩ := hd
  intro p l e s m args below meth c hC H locs d0 L hd0 hL hWD hS hz
  exact lv_lsub hC.1 hC.2.1 hdg (k p l e s m args below meth c hC H locs d0 L hd0 hL hWD hS hz)
theorem pm_lmul {x y : Int64} (hd : pm_D M.2.2.1 pc (.lmul) 1 pc') (k : pm_W g M F cn sn pc' ls (.long (x * y) :: st) N E) : pm_W g M F cn sn pc ls (.long y :: .long x :: st) N E := by
  obtain ⟨hdg, rfl⟩ := hd
  intro p l e s m args below meth c hC H locs d0 L hd0 hL hWD hS hz
  exact lv_lmul hC.1 hC.2.1 hdg (k p l e s m args below meth c hC H locs d0 L hd0 hL hWD hS hz)
theorem pm_land {x y : Int64} (hd : pm_D M.2.2.1 pc (.land) 1 pc') (k : pm_W g M F cn sn pc' ls (.long (x &&& y) :: st) N E) : pm_W g M F cn sn pc ls (.long y :: .long x :: st) N E := by
  obtain ⟨hdg, rfl⟩ := hd
  intro p l e s m args below meth c hC H locs d0 L hd0 hL hWD hS hz
  exact lv_land hC.1 hC.2.1 hdg (k p l e s m args below meth c hC H locs d0 L hd0 hL hWD hS hz)
theorem pm_lor {x y : Int64} (hd : pm_D M.2.2.1 pc (.lor) 1 pc') (k : pm_W g M F cn sn pc' ls (.long (x ||| y) :: st) N E) : pm_W g M F cn sn pc ls (.long y :: .long x :: st) N E := by
  obtain ⟨hdg, rfl⟩ := hd
  intro p l e s m args below meth c hC H locs d0 L hd0 hL hWD hS hz
  exact lv_lor hC.1 hC.2.1 hdg (k p l e s m args below meth c hC H locs d0 L hd0 hL hWD hS hz)
theorem pm_ldiv {x y : Int64} (hd : pm_D M.2.2.1 pc (.ldiv) 1 pc') (hne : ¬ y = 0) (k : pm_W g M F cn sn pc' ls (.long (x / y) :: st) N E) : pm_W g M F cn sn pc ls (.long y :: .long x :: st) N E := by
  obtain ⟨hdg, rfl⟩ := hd
  intro p l e s m args below meth c hC H locs d0 L hd0 hL hWD hS hz
  exact lv_ldiv hC.1 hC.2.1 hdg hne (k p l e s m args below meth c hC H locs d0 L hd0 hL hWD hS hz)
theorem pm_lrem {x y : Int64} (hd : pm_D M.2.2.1 pc (.lrem) 1 pc') (hne : ¬ y = 0) (k : pm_W g M F cn sn pc' ls (.long (x - x / y * y) :: st) N E) : pm_W g M F cn sn pc ls (.long y :: .long x :: st) N E := by
  obtain ⟨hdg, rfl⟩ := hd
  intro p l e s m args below meth c hC H locs d0 L hd0 hL hWD hS hz
  exact lv_lrem hC.1 hC.2.1 hdg hne (k p l e s m args below meth c hC H locs d0 L hd0 hL hWD hS hz)
theorem pm_lcmp {x y : Int64} (hd : pm_D M.2.2.1 pc (.lcmp) 1 pc') (k : pm_W g M F cn sn pc' ls (.int (lg_cmp x y) :: st) N E) : pm_W g M F cn sn pc ls (.long y :: .long x :: st) N E := by
  obtain ⟨hdg, rfl⟩ := hd
  intro p l e s m args below meth c hC H locs d0 L hd0 hL hWD hS hz
  exact W.lcmp hC.1 hC.2.1 hdg (k p l e s m args below meth c hC H locs d0 L hd0 hL hWD hS hz)
theorem pm_i2l {x : Int32} (hd : pm_D M.2.2.1 pc (.i2l) 1 pc') (k : pm_W g M F cn sn pc' ls (.long x.toInt64 :: st) N E) : pm_W g M F cn sn pc ls (.int x :: st) N E := by
  obtain ⟨hdg, rfl⟩ := hd
  intro p l e s m args below meth c hC H locs d0 L hd0 hL hWD hS hz
  exact lv_i2l hC.1 hC.2.1 hdg rfl (k p l e s m args below meth c hC H locs d0 L hd0 hL hWD hS hz)
theorem pm_l2i {x : Int64} (hd : pm_D M.2.2.1 pc (.l2i) 1 pc') (k : pm_W g M F cn sn pc' ls (.int x.toInt32 :: st) N E) : pm_W g M F cn sn pc ls (.long x :: st) N E := by
  obtain ⟨hdg, rfl⟩ := hd
  intro p l e s m args below meth c hC H locs d0 L hd0 hL hWD hS hz
  exact lv_l2i hC.1 hC.2.1 hdg rfl (k p l e s m args below meth c hC H locs d0 L hd0 hL hWD hS hz)
theorem pm_i2b {x : Int32} (hd : pm_D M.2.2.1 pc (.i2b) 1 pc') (k : pm_W g M F cn sn pc' ls (.int x.toInt8.toInt32 :: st) N E) : pm_W g M F cn sn pc ls (.int x :: st) N E := by
  obtain ⟨hdg, rfl⟩ := hd
  intro p l e s m args below meth c hC H locs d0 L hd0 hL hWD hS hz
  exact lv_i2b hC.1 hC.2.1 hdg rfl (k p l e s m args below meth c hC H locs d0 L hd0 hL hWD hS hz)
theorem pm_i2s {x : Int32} (hd : pm_D M.2.2.1 pc (.i2s) 1 pc') (k : pm_W g M F cn sn pc' ls (.int x.toInt16.toInt32 :: st) N E) : pm_W g M F cn sn pc ls (.int x :: st) N E := by
  obtain ⟨hdg, rfl⟩ := hd
  intro p l e s m args below meth c hC H locs d0 L hd0 hL hWD hS hz
  exact lv_i2s hC.1 hC.2.1 hdg rfl (k p l e s m args below meth c hC H locs d0 L hd0 hL hWD hS hz)
theorem pm_i2c {x : Int32} (hd : pm_D M.2.2.1 pc (.i2c) 1 pc') (k : pm_W g M F cn sn pc' ls (.int (x.toUInt32 % 65536).toInt32 :: st) N E) : pm_W g M F cn sn pc ls (.int x :: st) N E := by
  obtain ⟨hdg, rfl⟩ := hd
  intro p l e s m args below meth c hC H locs d0 L hd0 hL hWD hS hz
  exact lv_i2c hC.1 hC.2.1 hdg rfl (k p l e s m args below meth c hC H locs d0 L hd0 hL hWD hS hz)
theorem pm_iushr {x y : Int32} (hd : pm_D M.2.2.1 pc (.iushr) 1 pc') (k : pm_W g M F cn sn pc' ls (.int (x.toUInt32 >>> (y.toUInt32 &&& Int32.toUInt32 31)).toInt32 :: st) N E) : pm_W g M F cn sn pc ls (.int y :: .int x :: st) N E := by
  obtain ⟨hdg, rfl⟩ := hd
  intro p l e s m args below meth c hC H locs d0 L hd0 hL hWD hS hz
  exact lv_iushr hC.1 hC.2.1 hdg rfl (k p l e s m args below meth c hC H locs d0 L hd0 hL hWD hS hz)
theorem pm_lshl {x : Int64} {y : Int32} (hd : pm_D M.2.2.1 pc (.lshl) 1 pc') (k : pm_W g M F cn sn pc' ls (.long (x <<< (y.toInt64 &&& 63)) :: st) N E) : pm_W g M F cn sn pc ls (.int y :: .long x :: st) N E := by
  obtain ⟨hdg, rfl⟩ := hd
  intro p l e s m args below meth c hC H locs d0 L hd0 hL hWD hS hz
  exact lv_lshl hC.1 hC.2.1 hdg rfl (k p l e s m args below meth c hC H locs d0 L hd0 hL hWD hS hz)
theorem pm_lshr {x : Int64} {y : Int32} (hd : pm_D M.2.2.1 pc (.lshr) 1 pc') (k : pm_W g M F cn sn pc' ls (.long (x >>> (y.toInt64 &&& 63)) :: st) N E) : pm_W g M F cn sn pc ls (.int y :: .long x :: st) N E := by
  obtain ⟨hdg, rfl⟩ := hd
  intro p l e s m args below meth c hC H locs d0 L hd0 hL hWD hS hz
  exact lv_lshr hC.1 hC.2.1 hdg rfl (k p l e s m args below meth c hC H locs d0 L hd0 hL hWD hS hz)
theorem pm_dup {v : Value} (hd : pm_D M.2.2.1 pc (.dup) 1 pc') (hv : v.category = 1) (k : pm_W g M F cn sn pc' ls (v :: v :: st) N E) : pm_W g M F cn sn pc ls (v :: st) N E := by
  obtain ⟨hdg, rfl⟩ := hd
  intro p l e s m args below meth c hC H locs d0 L hd0 hL hWD hS hz
  exact lv_dup hC.1 hC.2.1 hdg hv (k p l e s m args below meth c hC H locs d0 L hd0 hL hWD hS hz)
theorem pm_pop {v : Value} (hd : pm_D M.2.2.1 pc (.pop) 1 pc') (hv : v.category = 1) (k : pm_W g M F cn sn pc' ls st N E) : pm_W g M F cn sn pc ls (v :: st) N E := by
  obtain ⟨hdg, rfl⟩ := hd
  intro p l e s m args below meth c hC H locs d0 L hd0 hL hWD hS hz
  exact lv_pop hC.1 hC.2.1 hdg hv (k p l e s m args below meth c hC H locs d0 L hd0 hL hWD hS hz)
theorem pm_dup2 {v w : Value} (hd : pm_D M.2.2.1 pc (.dup2) 1 pc') (hv : v.category = 1) (hw : w.category = 1) (k : pm_W g M F cn sn pc' ls (v :: w :: v :: w :: st) N E) : pm_W g M F cn sn pc ls (v :: w :: st) N E := by
  obtain ⟨hdg, rfl⟩ := hd
  intro p l e s m args below meth c hC H locs d0 L hd0 hL hWD hS hz
  exact lv_dup2_11 hC.1 hC.2.1 hdg hv hw (k p l e s m args below meth c hC H locs d0 L hd0 hL hWD hS hz)
theorem pm_dup2w {v : Value} (hd : pm_D M.2.2.1 pc (.dup2) 1 pc') (hv : v.category = 2) (k : pm_W g M F cn sn pc' ls (v :: v :: st) N E) : pm_W g M F cn sn pc ls (v :: st) N E := by
  obtain ⟨hdg, rfl⟩ := hd
  intro p l e s m args below meth c hC H locs d0 L hd0 hL hWD hS hz
  exact lv_dup2_2 hC.1 hC.2.1 hdg hv (k p l e s m args below meth c hC H locs d0 L hd0 hL hWD hS hz)
theorem pm_dadd {x y : UInt64} (hd : pm_D M.2.2.1 pc (.dadd) 1 pc') (hne : vf_n64 (FP.dadd x y)) (k : pm_W g M F cn sn pc' ls (.double (FP.dadd x y) :: st) N E) : pm_W g M F cn sn pc ls (.double y :: .double x :: st) N E := by
  obtain ⟨hdg, rfl⟩ := hd
  intro p l e s m args below meth c hC H locs d0 L hd0 hL hWD hS hz
  exact lv_dadd hC.1 hC.2.1 hdg hne (k p l e s m args below meth c hC H locs d0 L hd0 hL hWD hS hz)
theorem pm_dsub {x y : UInt64} (hd : pm_D M.2.2.1 pc (.dsub) 1 pc') (hne : vf_n64 (FP.dsub x y)) (k : pm_W g M F cn sn pc' ls (.double (FP.dsub x y) :: st) N E) : pm_W g M F cn sn pc ls (.double y :: .double x :: st) N E := by
  obtain ⟨hdg, rfl⟩ := hd
  intro p l e s m args below meth c hC H locs d0 L hd0 hL hWD hS hz
  exact lv_dsub hC.1 hC.2.1 hdg hne (k p l e s m args below meth c hC H locs d0 L hd0 hL hWD hS hz)
theorem pm_dmul {x y : UInt64} (hd : pm_D M.2.2.1 pc (.dmul) 1 pc') (hne : vf_n64 (FP.dmul x y)) (k : pm_W g M F cn sn pc' ls (.double (FP.dmul x y) :: st) N E) : pm_W g M F cn sn pc ls (.double y :: .double x :: st) N E := by
  obtain ⟨hdg, rfl⟩ := hd
  intro p l e s m args below meth c hC H locs d0 L hd0 hL hWD hS hz
  exact lv_dmul hC.1 hC.2.1 hdg hne (k p l e s m args below meth c hC H locs d0 L hd0 hL hWD hS hz)
theorem pm_ddiv {x y : UInt64} (hd : pm_D M.2.2.1 pc (.ddiv) 1 pc') (hne : vf_n64 (FP.ddiv x y)) (k : pm_W g M F cn sn pc' ls (.double (FP.ddiv x y) :: st) N E) : pm_W g M F cn sn pc ls (.double y :: .double x :: st) N E := by
  obtain ⟨hdg, rfl⟩ := hd
  intro p l e s m args below meth c hC H locs d0 L hd0 hL hWD hS hz
  exact lv_ddiv hC.1 hC.2.1 hdg hne (k p l e s m args below meth c hC H locs d0 L hd0 hL hWD hS hz)
theorem pm_dcmp {x y : UInt64} {op : CmpOp} (hd : pm_D M.2.2.1 pc (.dcmp op) 1 pc') (k : pm_W g M F cn sn pc' ls (.int (Op.cmpValue (FP.dcmp x y) op) :: st) N E) : pm_W g M F cn sn pc ls (.double y :: .double x :: st) N E := by
  obtain ⟨hdg, rfl⟩ := hd
  intro p l e s m args below meth c hC H locs d0 L hd0 hL hWD hS hz
  exact lv_dcmp hC.1 hC.2.1 hdg (k p l e s m args below meth c hC H locs d0 L hd0 hL hWD hS hz)
theorem pm_i2d {x : Int32} (hd : pm_D M.2.2.1 pc (.i2d) 1 pc') (k : pm_W g M F cn sn pc' ls (.double (FP.i2d x) :: st) N E) : pm_W g M F cn sn pc ls (.int x :: st) N E := by
  obtain ⟨hdg, rfl⟩ := hd
  intro p l e s m args below meth c hC H locs d0 L hd0 hL hWD hS hz
  exact lv_i2d hC.1 hC.2.1 hdg (k p l e s m args below meth c hC H locs d0 L hd0 hL hWD hS hz)
theorem pm_d2i {x : UInt64} (hd : pm_D M.2.2.1 pc (.d2i) 1 pc') (k : pm_W g M F cn sn pc' ls (.int (FP.d2i x) :: st) N E) : pm_W g M F cn sn pc ls (.double x :: st) N E := by
  obtain ⟨hdg, rfl⟩ := hd
  intro p l e s m args below meth c hC H locs d0 L hd0 hL hWD hS hz
  exact lv_d2i hC.1 hC.2.1 hdg (k p l e s m args below meth c hC H locs d0 L hd0 hL hWD hS hz)
theorem pm_d2l {x : UInt64} (hd : pm_D M.2.2.1 pc (.d2l) 1 pc') (k : pm_W g M F cn sn pc' ls (.long (FP.d2l x) :: st) N E) : pm_W g M F cn sn pc ls (.double x :: st) N E := by
  obtain ⟨hdg, rfl⟩ := hd
  intro p l e s m args below meth c hC H locs d0 L hd0 hL hWD hS hz
  exact lv_d2l hC.1 hC.2.1 hdg (k p l e s m args below meth c hC H locs d0 L hd0 hL hWD hS hz)
theorem pm_ki {v : Int32} (hd : pm_KI M pc v pc') (k : pm_W g M F cn sn pc' ls (.int v :: st) N E) : pm_W g M F cn sn pc ls st N E := by
  intro p l e s m args below meth c hC H locs d0 L hd0 hL hWD hS hz
  rcases hd with ⟨n, hdg, rfl, rfl⟩ | ⟨n, hdg, rfl, rfl⟩ | ⟨n, hdg, rfl, rfl⟩ | ⟨i, hdg, hw, rfl⟩ | ⟨i, hdg, hw, rfl⟩
  · exact lv_iconst hC.1 hC.2.1 hdg rfl (k p l e s m args below meth c hC H locs d0 L hd0 hL hWD hS hz)
  · exact lv_bipush hC.1 hC.2.1 hdg rfl (k p l e s m args below meth c hC H locs d0 L hd0 hL hWD hS hz)
  · exact lv_sipush hC.1 hC.2.1 hdg rfl (k p l e s m args below meth c hC H locs d0 L hd0 hL hWD hS hz)
  · exact lv_ldc hC.1 hC.2.1 hC.2.2.2.2.2.1 (dr_words hC.2.2.2.2.2.2.2.1 d0 _ hw) hdg (k p l e s m args below meth c hC H locs d0 L hd0 hL hWD hS hz)
  · exact lv_ldcw hC.1 hC.2.1 hC.2.2.2.2.2.1 (dr_words hC.2.2.2.2.2.2.2.1 d0 _ hw) hdg (k p l e s m args below meth c hC H locs d0 L hd0 hL hWD hS hz)
theorem pm_kl {v : Int64} (hd : pm_KL M pc v pc') (k : pm_W g M F cn sn pc' ls (.long v :: st) N E) : pm_W g M F cn sn pc ls st N E := by
  intro p l e s m args below meth c hC H locs d0 L hd0 hL hWD hS hz
  rcases hd with ⟨n, hdg, rfl, rfl⟩ | ⟨i, hdg, hw, rfl⟩
  · exact lv_lconst hC.1 hC.2.1 hdg rfl (k p l e s m args below meth c hC H locs d0 L hd0 hL hWD hS hz)
  · exact lv_ldc2 hC.1 hC.2.1 hC.2.2.2.2.2.1 (dr_words hC.2.2.2.2.2.2.2.1 d0 _ hw) hdg (k p l e s m args below meth c hC H locs d0 L hd0 hL hWD hS hz)
theorem pm_kd {v : UInt64} (hd : pm_KD M pc v pc') (k : pm_W g M F cn sn pc' ls (.double v :: st) N E) : pm_W g M F cn sn pc ls st N E := by
  intro p l e s m args below meth c hC H locs d0 L hd0 hL hWD hS hz
  rcases hd with ⟨hdg, rfl, rfl⟩ | ⟨hdg, rfl, rfl⟩ | ⟨i, hdg, hw, rfl⟩
  · exact lv_dconst0 hC.1 hC.2.1 hdg (k p l e s m args below meth c hC H locs d0 L hd0 hL hWD hS hz)
  · exact lv_dconst1 hC.1 hC.2.1 hdg (k p l e s m args below meth c hC H locs d0 L hd0 hL hWD hS hz)
  · exact lv_ldc2d hC.1 hC.2.1 hC.2.2.2.2.2.1 (dr_words hC.2.2.2.2.2.2.2.1 d0 _ hw) hdg (k p l e s m args below meth c hC H locs d0 L hd0 hL hWD hS hz)
theorem pm_ks {i : Nat} (hd : pm_KS M pc i pc') (k : pm_W g M F cn sn pc' ls (.ref (g.2.2.2.1 i) :: st) N E) : pm_W g M F cn sn pc ls st N E := by
  intro p l e s m args below meth c hC H locs d0 L hd0 hL hWD hS hz
  obtain ⟨q, tx, hdg, hm, rfl⟩ := hd
  exact va_ldcS hC.1 hC.2.1 hC.2.2.2.2.2.1 (vk_R.same (u := s) rfl (hC.2.2.2.2.2.2.2.2.2.1.2.1 _ hm)) hdg (k p l e s m args below meth c hC H locs d0 L hd0 hL hWD hS hz)
theorem pm_ild {i : Nat} {x : Int32} (hd : pm_LDI M.2.2.1 pc i pc') (hl : pm_at ls i = some (.int x)) (k : pm_W g M F cn sn pc' ls (.int x :: st) N E) : pm_W g M F cn sn pc ls st N E := by
  intro p l e s m args below meth c hC H locs d0 L hd0 hL hWD hS hz
  rcases hd with ⟨hdg, rfl⟩ | ⟨n, hdg, hn, rfl⟩
  · exact lv_iload hC.1 hC.2.1 hdg (hL.2.2 _ _ hl) (k p l e s m args below meth c hC H locs d0 L hd0 hL hWD hS hz)
  · exact lv_iload_n hC.1 hC.2.1 hdg hn (hL.2.2 _ _ hl) (k p l e s m args below meth c hC H locs d0 L hd0 hL hWD hS hz)
theorem pm_lld {i : Nat} {x : Int64} (hd : pm_LDL M.2.2.1 pc i pc') (hl : pm_at ls i = some (.long x)) (k : pm_W g M F cn sn pc' ls (.long x :: st) N E) : pm_W g M F cn sn pc ls st N E := by
  intro p l e s m args below meth c hC H locs d0 L hd0 hL hWD hS hz
  rcases hd with ⟨hdg, rfl⟩ | ⟨n, hdg, hn, rfl⟩
  · exact lv_lload hC.1 hC.2.1 hdg (hL.2.2 _ _ hl) (k p l e s m args below meth c hC H locs d0 L hd0 hL hWD hS hz)
  · exact lv_lload_n hC.1 hC.2.1 hdg hn (hL.2.2 _ _ hl) (k p l e s m args below meth c hC H locs d0 L hd0 hL hWD hS hz)
theorem pm_ald {i : Nat} {x : Nat} (hd : pm_LDA M.2.2.1 pc i pc') (hl : pm_at ls i = some (.ref x)) (k : pm_W g M F cn sn pc' ls (.ref x :: st) N E) : pm_W g M F cn sn pc ls st N E := by
  intro p l e s m args below meth c hC H locs d0 L hd0 hL hWD hS hz
  rcases hd with ⟨hdg, rfl⟩ | ⟨n, hdg, hn, rfl⟩
  · exact lv_aload hC.1 hC.2.1 hdg (hL.2.2 _ _ hl) (k p l e s m args below meth c hC H locs d0 L hd0 hL hWD hS hz)
  · exact lv_aload_n hC.1 hC.2.1 hdg hn (hL.2.2 _ _ hl) (k p l e s m args below meth c hC H locs d0 L hd0 hL hWD hS hz)
theorem pm_dld {i : Nat} {x : UInt64} (hd : pm_LDD M.2.2.1 pc i pc') (hl : pm_at ls i = some (.double x)) (k : pm_W g M F cn sn pc' ls (.double x :: st) N E) : pm_W g M F cn sn pc ls st N E := by
  intro p l e s m args below meth c hC H locs d0 L hd0 hL hWD hS hz
  rcases hd with ⟨hdg, rfl⟩ | ⟨n, hdg, hn, rfl⟩
  · exact lv_dload hC.1 hC.2.1 hdg (hL.2.2 _ _ hl) (k p l e s m args below meth c hC H locs d0 L hd0 hL hWD hS hz)
  · exact lv_dload_n hC.1 hC.2.1 hdg hn (hL.2.2 _ _ hl) (k p l e s m args below meth c hC H locs d0 L hd0 hL hWD hS hz)
theorem pm_ist (i : Nat) {x : Int32} (hd : pm_STI M.2.2.1 pc i pc') (hok : pm_ok ls i = true) (hi : i < M.2.2.2.1) (k : pm_W g M F cn sn pc' (pm_set ls i (.int x)) st N E) : pm_W g M F cn sn pc ls (.int x :: st) N E := by
  intro p l e s m args below meth c hC H locs d0 L hd0 hL hWD hS hz
  rcases hd with ⟨hdg, rfl⟩ | ⟨n, hdg, hn, rfl⟩
  · exact lv_istore hC.1 hC.2.1 hdg hL.has hi rfl (fun L' hL' => k p l e s m args below meth c hC H locs d0 L' hd0 (hL.set1 hok hL') hWD hS hz)
  · exact lv_istore_n hC.1 hC.2.1 hdg hn hL.has hi rfl (fun L' hL' => k p l e s m args below meth c hC H locs d0 L' hd0 (hL.set1 hok hL') hWD hS hz)
theorem pm_lst (i : Nat) {x : Int64} (hd : pm_STL M.2.2.1 pc i pc') (hok : pm_ok ls i = true) (hi : i + 1 < M.2.2.2.1) (k : pm_W g M F cn sn pc' (pm_set2 ls i (.long x)) st N E) : pm_W g M F cn sn pc ls (.long x :: st) N E := by
  intro p l e s m args below meth c hC H locs d0 L hd0 hL hWD hS hz
  rcases hd with ⟨hdg, rfl⟩ | ⟨n, hdg, hn, rfl⟩
  · exact lv_lstore hC.1 hC.2.1 hdg hL.has hi rfl (fun L' hL' => k p l e s m args below meth c hC H locs d0 L' hd0 (hL.set2 hok hL') hWD hS hz)
  · exact lv_lstore_n hC.1 hC.2.1 hdg hn hL.has hi rfl (fun L' hL' => k p l e s m args below meth c hC H locs d0 L' hd0 (hL.set2 hok hL') hWD hS hz)
theorem pm_ast (i : Nat) {x : Nat} (hd : pm_STA M.2.2.1 pc i pc') (hok : pm_ok ls i = true) (hi : i < M.2.2.2.1) (k : pm_W g M F cn sn pc' (pm_set ls i (.ref x)) st N E) : pm_W g M F cn sn pc ls (.ref x :: st) N E := by
  intro p l e s m args below meth c hC H locs d0 L hd0 hL hWD hS hz
  rcases hd with ⟨hdg, rfl⟩ | ⟨n, hdg, hn, rfl⟩
  · exact lv_astore hC.1 hC.2.1 hdg hL.has hi rfl (fun L' hL' => k p l e s m args below meth c hC H locs d0 L' hd0 (hL.set1 hok hL') hWD hS hz)
  · exact lv_astore_n hC.1 hC.2.1 hdg hn hL.has hi rfl (fun L' hL' => k p l e s m args below meth c hC H locs d0 L' hd0 (hL.set1 hok hL') hWD hS hz)
theorem pm_dst (i : Nat) {x : UInt64} (hd : pm_STD M.2.2.1 pc i pc') (hok : pm_ok ls i = true) (hi : i + 1 < M.2.2.2.1) (k : pm_W g M F cn sn pc' (pm_set2 ls i (.double x)) st N E) : pm_W g M F cn sn pc ls (.double x :: st) N E := by
  intro p l e s m args below meth c hC H locs d0 L hd0 hL hWD hS hz
  rcases hd with ⟨hdg, rfl⟩ | ⟨n, hdg, hn, rfl⟩
  · exact lv_dstore hC.1 hC.2.1 hdg hL.has hi rfl (fun L' hL' => k p l e s m args below meth c hC H locs d0 L' hd0 (hL.set2 hok hL') hWD hS hz)
  · exact lv_dstore_n hC.1 hC.2.1 hdg hn hL.has hi rfl (fun L' hL' => k p l e s m args below meth c hC H locs d0 L' hd0 (hL.set2 hok hL') hWD hS hz)
theorem pm_inc (i : Nat) {x v : Int32} (hd : pm_INC M.2.2.1 pc i v pc') (hl : pm_at ls i = some (.int x)) (hok : pm_ok ls i = true) (k : pm_W g M F cn sn pc' (pm_set ls i (.int (x + v))) st N E) : pm_W g M F cn sn pc ls st N E := by
  intro p l e s m args below meth c hC H locs d0 L hd0 hL hWD hS hz
  obtain ⟨n, hdg, rfl, rfl⟩ := hd
  obtain ⟨q, hq⟩ := List.getElem?_of_mem (pm_prs_in (n := M.2.2.2.1) (q := (i, .int x)).mpr ⟨hL.lt hl, hl⟩)
  exact lv_iinc hC.1 hC.2.1 hdg hL.has hq rfl (hL.lt hl) rfl (fun L' hL' => k p l e s m args below meth c hC H locs d0 L' hd0 (hL.set1 hok hL') hWD hS hz)
theorem pm_if_eq {x : Int32} {tgt : Nat} (hd : pm_J M.2.2.1 pc (.ifCond .eq) tgt pc') (kt : (x = 0) → pm_W g M F cn sn tgt ls st N E) (kf : ¬ (x = 0) → pm_W g M F cn sn pc' ls st N E) : pm_W g M F cn sn pc ls (.int x :: st) N E := by
  obtain ⟨off, hdg, ht, rfl⟩ := hd
  intro p l e s m args below meth c hC H locs d0 L hd0 hL hWD hS hz
  exact lv_if_eq hC.1 hC.2.1 hdg ht (fun h => kt h p l e s m args below meth c hC H locs d0 L hd0 hL hWD hS hz) (fun h => kf h p l e s m args below meth c hC H locs d0 L hd0 hL hWD hS hz)
theorem pm_icmp_eq {x y : Int32} {tgt : Nat} (hd : pm_J M.2.2.1 pc (.if_icmp .eq) tgt pc') (kt : (x = y) → pm_W g M F cn sn tgt ls st N E) (kf : ¬ (x = y) → pm_W g M F cn sn pc' ls st N E) : pm_W g M F cn sn pc ls (.int y :: .int x :: st) N E := by
  obtain ⟨off, hdg, ht, rfl⟩ := hd
  intro p l e s m args below meth c hC H locs d0 L hd0 hL hWD hS hz
  exact lv_icmp_eq hC.1 hC.2.1 hdg ht (fun h => kt h p l e s m args below meth c hC H locs d0 L hd0 hL hWD hS hz) (fun h => kf h p l e s m args below meth c hC H locs d0 L hd0 hL hWD hS hz)
theorem pm_if_ne {x : Int32} {tgt : Nat} (hd : pm_J M.2.2.1 pc (.ifCond .ne) tgt pc') (kt : (¬ x = 0) → pm_W g M F cn sn tgt ls st N E) (kf : x = 0 → pm_W g M F cn sn pc' ls st N E) : pm_W g M F cn sn pc ls (.int x :: st) N E := by
  obtain ⟨off, hdg, ht, rfl⟩ := hd
  intro p l e s m args below meth c hC H locs d0 L hd0 hL hWD hS hz
  exact lv_if_ne hC.1 hC.2.1 hdg ht (fun h => kt h p l e s m args below meth c hC H locs d0 L hd0 hL hWD hS hz) (fun h => kf h p l e s m args below meth c hC H locs d0 L hd0 hL hWD hS hz)
theorem pm_icmp_ne {x y : Int32} {tgt : Nat} (hd : pm_J M.2.2.1 pc (.if_icmp .ne) tgt pc') (kt : (¬ x = y) → pm_W g M F cn sn tgt ls st N E) (kf : x = y → pm_W g M F cn sn pc' ls st N E) : pm_W g M F cn sn pc ls (.int y :: .int x :: st) N E := by
  obtain ⟨off, hdg, ht, rfl⟩ := hd
  intro p l e s m args below meth c hC H locs d0 L hd0 hL hWD hS hz
  exact lv_icmp_ne hC.1 hC.2.1 hdg ht (fun h => kt h p l e s m args below meth c hC H locs d0 L hd0 hL hWD hS hz) (fun h => kf h p l e s m args below meth c hC H locs d0 L hd0 hL hWD hS hz)
theorem pm_if_lt {x : Int32} {tgt : Nat} (hd : pm_J M.2.2.1 pc (.ifCond .lt) tgt pc') (kt : (x < 0) → pm_W g M F cn sn tgt ls st N E) (kf : ¬ (x < 0) → pm_W g M F cn sn pc' ls st N E) : pm_W g M F cn sn pc ls (.int x :: st) N E := by
  obtain ⟨off, hdg, ht, rfl⟩ := hd
  intro p l e s m args below meth c hC H locs d0 L hd0 hL hWD hS hz
  exact lv_if_lt hC.1 hC.2.1 hdg ht (fun h => kt h p l e s m args below meth c hC H locs d0 L hd0 hL hWD hS hz) (fun h => kf h p l e s m args below meth c hC H locs d0 L hd0 hL hWD hS hz)
theorem pm_icmp_lt {x y : Int32} {tgt : Nat} (hd : pm_J M.2.2.1 pc (.if_icmp .lt) tgt pc') (kt : (x < y) → pm_W g M F cn sn tgt ls st N E) (kf : ¬ (x < y) → pm_W g M F cn sn pc' ls st N E) : pm_W g M F cn sn pc ls (.int y :: .int x :: st) N E := by
  obtain ⟨off, hdg, ht, rfl⟩ := hd
  intro p l e s m args below meth c hC H locs d0 L hd0 hL hWD hS hz
  exact lv_icmp_lt hC.1 hC.2.1 hdg ht (fun h => kt h p l e s m args below meth c hC H locs d0 L hd0 hL hWD hS hz) (fun h => kf h p l e s m args below meth c hC H locs d0 L hd0 hL hWD hS hz)
theorem pm_if_ge {x : Int32} {tgt : Nat} (hd : pm_J M.2.2.1 pc (.ifCond .ge) tgt pc') (kt : (0 ≤ x) → pm_W g M F cn sn tgt ls st N E) (kf : ¬ (0 ≤ x) → pm_W g M F cn sn pc' ls st N E) : pm_W g M F cn sn pc ls (.int x :: st) N E := by
  obtain ⟨off, hdg, ht, rfl⟩ := hd
  intro p l e s m args below meth c hC H locs d0 L hd0 hL hWD hS hz
  exact lv_if_ge hC.1 hC.2.1 hdg ht (fun h => kt h p l e s m args below meth c hC H locs d0 L hd0 hL hWD hS hz) (fun h => kf h p l e s m args below meth c hC H locs d0 L hd0 hL hWD hS hz)
theorem pm_icmp_ge {x y : Int32} {tgt : Nat} (hd : pm_J M.2.2.1 pc (.if_icmp .ge) tgt pc') (kt : (y ≤ x) → pm_W g M F cn sn tgt ls st N E) (kf : ¬ (y ≤ x) → pm_W g M F cn sn pc' ls st N E) : pm_W g M F cn sn pc ls (.int y :: .int x :: st) N E := by
  obtain ⟨off, hdg, ht, rfl⟩ := hd
  intro p l e s m args below meth c hC H locs d0 L hd0 hL hWD hS hz
  exact lv_icmp_ge hC.1 hC.2.1 hdg ht (fun h => kt h p l e s m args below meth c hC H locs d0 L hd0 hL hWD hS hz) (fun h => kf h p l e s m args below meth c hC H locs d0 L hd0 hL hWD hS hz)
theorem pm_if_gt {x : Int32} {tgt : Nat} (hd : pm_J M.2.2.1 pc (.ifCond .gt) tgt pc') (kt : (0 < x) → pm_W g M F cn sn tgt ls st N E) (kf : ¬ (0 < x) → pm_W g M F cn sn pc' ls st N E) : pm_W g M F cn sn pc ls (.int x :: st) N E := by
  obtain ⟨off, hdg, ht, rfl⟩ := hd
  intro p l e s m args below meth c hC H locs d0 L hd0 hL hWD hS hz
  exact lv_if_gt hC.1 hC.2.1 hdg ht (fun h => kt h p l e s m args below meth c hC H locs d0 L hd0 hL hWD hS hz) (fun h => kf h p l e s m args below meth c hC H locs d0 L hd0 hL hWD hS hz)
theorem pm_icmp_gt {x y : Int32} {tgt : Nat} (hd : pm_J M.2.2.1 pc (.if_icmp .gt) tgt pc') (kt : (y < x) → pm_W g M F cn sn tgt ls st N E) (kf : ¬ (y < x) → pm_W g M F cn sn pc' ls st N E) : pm_W g M F cn sn pc ls (.int y :: .int x :: st) N E := by
  obtain ⟨off, hdg, ht, rfl⟩ := hd
  intro p l e s m args below meth c hC H locs d0 L hd0 hL hWD hS hz
  exact lv_icmp_gt hC.1 hC.2.1 hdg ht (fun h => kt h p l e s m args below meth c hC H locs d0 L hd0 hL hWD hS hz) (fun h => kf h p l e s m args below meth c hC H locs d0 L hd0 hL hWD hS hz)
theorem pm_if_le {x : Int32} {tgt : Nat} (hd : pm_J M.2.2.1 pc (.ifCond .le) tgt pc') (kt : (x ≤ 0) → pm_W g M F cn sn tgt ls st N E) (kf : ¬ (x ≤ 0) → pm_W g M F cn sn pc' ls st N E) : pm_W g M F cn sn pc ls (.int x :: st) N E := by
  obtain ⟨off, hdg, ht, rfl⟩ := hd
  intro p l e s m args below meth c hC H locs d0 L hd0 hL hWD hS hz
  exact lv_if_le hC.1 hC.2.1 hdg ht (fun h => kt h p l e s m args below meth c hC H locs d0 L hd0 hL hWD hS hz) (fun h => kf h p l e s m args below meth c hC H locs d0 L hd0 hL hWD hS hz)
theorem pm_icmp_le {x y : Int32} {tgt : Nat} (hd : pm_J M.2.2.1 pc (.if_icmp .le) tgt pc') (kt : (x ≤ y) → pm_W g M F cn sn tgt ls st N E) (kf : ¬ (x ≤ y) → pm_W g M F cn sn pc' ls st N E) : pm_W g M F cn sn pc ls (.int y :: .int x :: st) N E := by
  obtain ⟨off, hdg, ht, rfl⟩ := hd
  intro p l e s m args below meth c hC H locs d0 L hd0 hL hWD hS hz
  exact lv_icmp_le hC.1 hC.2.1 hdg ht (fun h => kt h p l e s m args below meth c hC H locs d0 L hd0 hL hWD hS hz) (fun h => kf h p l e s m args below meth c hC H locs d0 L hd0 hL hWD hS hz)
theorem pm_goto {tgt : Nat} (hd : pm_J M.2.2.1 pc .goto tgt pc') (k : pm_W g M F cn sn tgt ls st N E) : pm_W g M F cn sn pc ls st N E := by
  obtain ⟨off, hdg, ht, -⟩ := hd
  intro p l e s m args below meth c hC H locs d0 L hd0 hL hWD hS hz
  exact lv_goto hC.1 hC.2.1 hdg ht (k p l e s m args below meth c hC H locs d0 L hd0 hL hWD hS hz)
theorem pm_iald (q : Nat) {n : Nat} {f : Nat → Int32} {i : Int32} (hd : pm_D M.2.2.1 pc .iaload 1 pc') (hq : q < N) (hE : E q = .inl (g.2.1 0, n, .inl f)) (hin : vp_in i n) (k : pm_W g M F cn sn pc' ls (.int (f i.toNatClampNeg) :: st) N E) : pm_W g M F cn sn pc ls (.int i :: .ref (g.2.2.1 + q) :: st) N E := by
  obtain ⟨hdg, rfl⟩ := hd
  intro p l e s m args below meth c hC H locs d0 L hd0 hL hWD hS hz
  exact va_iald hC.1 hC.2.1 (va_K.moved (u := s) (U := s.setDrawn d0) (Vm.Alike.refl s.vm) hC.2.2.2.2.2.2.2.2.1) hWD.2 q 0 (by rw [pm_wl_get hq, hE]) rfl hin hdg (k p l e s m args below meth c hC H locs d0 L hd0 hL hWD hS hz)
theorem pm_bald (q : Nat) {n : Nat} {f : Nat → Int32} {i : Int32} (hd : pm_D M.2.2.1 pc .baload 1 pc') (hq : q < N) (hE : E q = .inl (g.2.1 1, n, .inl f)) (hin : vp_in i n) (k : pm_W g M F cn sn pc' ls (.int (f i.toNatClampNeg) :: st) N E) : pm_W g M F cn sn pc ls (.int i :: .ref (g.2.2.1 + q) :: st) N E := by
  obtain ⟨hdg, rfl⟩ := hd
  intro p l e s m args below meth c hC H locs d0 L hd0 hL hWD hS hz
  exact va_bald hC.1 hC.2.1 (va_K.moved (u := s) (U := s.setDrawn d0) (Vm.Alike.refl s.vm) hC.2.2.2.2.2.2.2.2.1) hWD.2 q 1 (by rw [pm_wl_get hq, hE]) rfl hin hdg (k p l e s m args below meth c hC H locs d0 L hd0 hL hWD hS hz)
theorem pm_zald (q : Nat) {n : Nat} {f : Nat → Int32} {i : Int32} (hd : pm_D M.2.2.1 pc .baload 1 pc') (hq : q < N) (hE : E q = .inl (g.2.1 2, n, .inl f)) (hin : vp_in i n) (k : pm_W g M F cn sn pc' ls (.int (f i.toNatClampNeg) :: st) N E) : pm_W g M F cn sn pc ls (.int i :: .ref (g.2.2.1 + q) :: st) N E := by
  obtain ⟨hdg, rfl⟩ := hd
  intro p l e s m args below meth c hC H locs d0 L hd0 hL hWD hS hz
  exact va_zald hC.1 hC.2.1 (va_K.moved (u := s) (U := s.setDrawn d0) (Vm.Alike.refl s.vm) hC.2.2.2.2.2.2.2.2.1) hWD.2 q 2 (by rw [pm_wl_get hq, hE]) rfl hin hdg (k p l e s m args below meth c hC H locs d0 L hd0 hL hWD hS hz)
theorem pm_lald (q : Nat) {n : Nat} {f : Nat → Int64} {i : Int32} (hd : pm_D M.2.2.1 pc .laload 1 pc') (hq : q < N) (hE : E q = .inl (g.2.1 3, n, .inr (.inl f))) (hin : vp_in i n) (k : pm_W g M F cn sn pc' ls (.long (f i.toNatClampNeg) :: st) N E) : pm_W g M F cn sn pc ls (.int i :: .ref (g.2.2.1 + q) :: st) N E := by
  obtain ⟨hdg, rfl⟩ := hd
  intro p l e s m args below meth c hC H locs d0 L hd0 hL hWD hS hz
  exact va_lald hC.1 hC.2.1 (va_K.moved (u := s) (U := s.setDrawn d0) (Vm.Alike.refl s.vm) hC.2.2.2.2.2.2.2.2.1) hWD.2 q 3 (by rw [pm_wl_get hq, hE]) rfl hin hdg (k p l e s m args below meth c hC H locs d0 L hd0 hL hWD hS hz)
theorem pm_dald (q : Nat) {n : Nat} {f : Nat → UInt64} {i : Int32} (hd : pm_D M.2.2.1 pc .daload 1 pc') (hq : q < N) (hE : E q = .inl (g.2.1 4, n, .inr (.inr (.inr (.inl f))))) (hin : vp_in i n) (k : pm_W g M F cn sn pc' ls (.double (f i.toNatClampNeg) :: st) N E) : pm_W g M F cn sn pc ls (.int i :: .ref (g.2.2.1 + q) :: st) N E := by
  obtain ⟨hdg, rfl⟩ := hd
  intro p l e s m args below meth c hC H locs d0 L hd0 hL hWD hS hz
  exact va_dald hC.1 hC.2.1 (va_K.moved (u := s) (U := s.setDrawn d0) (Vm.Alike.refl s.vm) hC.2.2.2.2.2.2.2.2.1) hWD.2 q 4 (by rw [pm_wl_get hq, hE]) rfl hin hdg (k p l e s m args below meth c hC H locs d0 L hd0 hL hWD hS hz)
theorem pm_iast (q : Nat) {n : Nat} {f : Nat → Int32} {i : Int32} {x : Int32} (hd : pm_D M.2.2.1 pc .iastore 1 pc') (hq : q < N) (hE : E q = .inl (g.2.1 0, n, .inl f)) (hin : vp_in i n) (k : pm_W g M F cn sn pc' ls st N (pm_up E q (.inl (g.2.1 0, n, .inl (upd f i.toNatClampNeg x))))) : pm_W g M F cn sn pc ls (.int x :: .int i :: .ref (g.2.2.1 + q) :: st) N E := by
  obtain ⟨hdg, rfl⟩ := hd
  intro p l e s m args below meth c hC H locs d0 L hd0 hL hWD hS hz
  exact va_iast hC.1 hC.2.1 (va_K.moved (u := s) (U := s.setDrawn d0) (Vm.Alike.refl s.vm) hC.2.2.2.2.2.2.2.2.1) hWD.2 (pm_DD g N E) (pm_self hS) q 0 (by rw [pm_wl_get hq, hE]) rfl hin hdg (fun H1 locs1 hP1 _ hS1 => pm_wr hS1 hS hz (fun z hS2 => k p l e s m args below meth c hC H1 locs1 d0 L hd0 hL ⟨z.trans hWD.1, by rw [← pm_wl_set hq]; exact hP1⟩ hS2 (z.trans hz)))
theorem pm_bast (q : Nat) {n : Nat} {f : Nat → Int32} {i : Int32} {x : Int32} (hd : pm_D M.2.2.1 pc .bastore 1 pc') (hq : q < N) (hE : E q = .inl (g.2.1 1, n, .inl f)) (hin : vp_in i n) (k : pm_W g M F cn sn pc' ls st N (pm_up E q (.inl (g.2.1 1, n, .inl (upd f i.toNatClampNeg (vp_nar .byte x)))))) : pm_W g M F cn sn pc ls (.int x :: .int i :: .ref (g.2.2.1 + q) :: st) N E := by
  obtain ⟨hdg, rfl⟩ := hd
  intro p l e s m args below meth c hC H locs d0 L hd0 hL hWD hS hz
  exact va_bast hC.1 hC.2.1 (va_K.moved (u := s) (U := s.setDrawn d0) (Vm.Alike.refl s.vm) hC.2.2.2.2.2.2.2.2.1) hWD.2 (pm_DD g N E) (pm_self hS) q 1 (by rw [pm_wl_get hq, hE]) rfl hin hdg (fun H1 locs1 hP1 _ hS1 => pm_wr hS1 hS hz (fun z hS2 => k p l e s m args below meth c hC H1 locs1 d0 L hd0 hL ⟨z.trans hWD.1, by rw [← pm_wl_set hq]; exact hP1⟩ hS2 (z.trans hz)))
theorem pm_zast (q : Nat) {n : Nat} {f : Nat → Int32} {i : Int32} {x : Int32} (hd : pm_D M.2.2.1 pc .bastore 1 pc') (hq : q < N) (hE : E q = .inl (g.2.1 2, n, .inl f)) (hin : vp_in i n) (k : pm_W g M F cn sn pc' ls st N (pm_up E q (.inl (g.2.1 2, n, .inl (upd f i.toNatClampNeg (vp_nar .boolean x)))))) : pm_W g M F cn sn pc ls (.int x :: .int i :: .ref (g.2.2.1 + q) :: st) N E := by
  obtain ⟨hdg, rfl⟩ := hd
  intro p l e s m args below meth c hC H locs d0 L hd0 hL hWD hS hz
  exact va_zast hC.1 hC.2.1 (va_K.moved (u := s) (U := s.setDrawn d0) (Vm.Alike.refl s.vm) hC.2.2.2.2.2.2.2.2.1) hWD.2 (pm_DD g N E) (pm_self hS) q 2 (by rw [pm_wl_get hq, hE]) rfl hin hdg (fun H1 locs1 hP1 _ hS1 => pm_wr hS1 hS hz (fun z hS2 => k p l e s m args below meth c hC H1 locs1 d0 L hd0 hL ⟨z.trans hWD.1, by rw [← pm_wl_set hq]; exact hP1⟩ hS2 (z.trans hz)))
theorem pm_last (q : Nat) {n : Nat} {f : Nat → Int64} {i : Int32} {x : Int64} (hd : pm_D M.2.2.1 pc .lastore 1 pc') (hq : q < N) (hE : E q = .inl (g.2.1 3, n, .inr (.inl f))) (hin : vp_in i n) (k : pm_W g M F cn sn pc' ls st N (pm_up E q (.inl (g.2.1 3, n, .inr (.inl (vp_updL f i.toNatClampNeg x)))))) : pm_W g M F cn sn pc ls (.long x :: .int i :: .ref (g.2.2.1 + q) :: st) N E := by
  obtain ⟨hdg, rfl⟩ := hd
  intro p l e s m args below meth c hC H locs d0 L hd0 hL hWD hS hz
  exact va_last hC.1 hC.2.1 (va_K.moved (u := s) (U := s.setDrawn d0) (Vm.Alike.refl s.vm) hC.2.2.2.2.2.2.2.2.1) hWD.2 (pm_DD g N E) (pm_self hS) q 3 (by rw [pm_wl_get hq, hE]) rfl hin hdg (fun H1 locs1 hP1 _ hS1 => pm_wr hS1 hS hz (fun z hS2 => k p l e s m args below meth c hC H1 locs1 d0 L hd0 hL ⟨z.trans hWD.1, by rw [← pm_wl_set hq]; exact hP1⟩ hS2 (z.trans hz)))
theorem pm_dast (q : Nat) {n : Nat} {f : Nat → UInt64} {i : Int32} {x : UInt64} (hd : pm_D M.2.2.1 pc .dastore 1 pc') (hq : q < N) (hE : E q = .inl (g.2.1 4, n, .inr (.inr (.inr (.inl f))))) (hin : vp_in i n) (k : pm_W g M F cn sn pc' ls st N (pm_up E q (.inl (g.2.1 4, n, .inr (.inr (.inr (.inl (vf_upd f i.toNatClampNeg x)))))))) : pm_W g M F cn sn pc ls (.double x :: .int i :: .ref (g.2.2.1 + q) :: st) N E := by
  obtain ⟨hdg, rfl⟩ := hd
  intro p l e s m args below meth c hC H locs d0 L hd0 hL hWD hS hz
  exact va_dast hC.1 hC.2.1 (va_K.moved (u := s) (U := s.setDrawn d0) (Vm.Alike.refl s.vm) hC.2.2.2.2.2.2.2.2.1) hWD.2 (pm_DD g N E) (pm_self hS) q 4 (by rw [pm_wl_get hq, hE]) rfl hin hdg (fun H1 locs1 hP1 _ hS1 => pm_wr hS1 hS hz (fun z hS2 => k p l e s m args below meth c hC H1 locs1 d0 L hd0 hL ⟨z.trans hWD.1, by rw [← pm_wl_set hq]; exact hP1⟩ hS2 (z.trans hz)))
theorem pm_qald5 (q : Nat) {n : Nat} {f : Nat → Option Nat} {i : Int32} (hd : pm_D M.2.2.1 pc .aaload 1 pc') (hq : q < N) (hE : E q = .inl (g.2.1 5, n, .inr (.inr (.inr (.inr f))))) (hin : vp_in i n) (k : pm_W g M F cn sn pc' ls (va_rf (f i.toNatClampNeg) :: st) N E) : pm_W g M F cn sn pc ls (.int i :: .ref (g.2.2.1 + q) :: st) N E := by
  obtain ⟨hdg, rfl⟩ := hd
  intro p l e s m args below meth c hC H locs d0 L hd0 hL hWD hS hz
  exact va_aldq (C := RX6) hC.1 hC.2.1 (va_K.moved (u := s) (U := s.setDrawn d0) (Vm.Alike.refl s.vm) hC.2.2.2.2.2.2.2.2.1) hWD.2 q 5 (by rw [pm_wl_get hq, hE]) rfl hin hdg (k p l e s m args below meth c hC H locs d0 L hd0 hL hWD hS hz)
theorem pm_qald6 (q : Nat) {n : Nat} {f : Nat → Option Nat} {i : Int32} (hd : pm_D M.2.2.1 pc .aaload 1 pc') (hq : q < N) (hE : E q = .inl (g.2.1 6, n, .inr (.inr (.inr (.inr f))))) (hin : vp_in i n) (k : pm_W g M F cn sn pc' ls (va_rf (f i.toNatClampNeg) :: st) N E) : pm_W g M F cn sn pc ls (.int i :: .ref (g.2.2.1 + q) :: st) N E := by
  obtain ⟨hdg, rfl⟩ := hd
  intro p l e s m args below meth c hC H locs d0 L hd0 hL hWD hS hz
  exact va_aldq (C := RX7) hC.1 hC.2.1 (va_K.moved (u := s) (U := s.setDrawn d0) (Vm.Alike.refl s.vm) hC.2.2.2.2.2.2.2.2.1) hWD.2 q 6 (by rw [pm_wl_get hq, hE]) rfl hin hdg (k p l e s m args below meth c hC H locs d0 L hd0 hL hWD hS hz)
theorem pm_qald7 (q : Nat) {n : Nat} {f : Nat → Option Nat} {i : Int32} (hd : pm_D M.2.2.1 pc .aaload 1 pc') (hq : q < N) (hE : E q = .inl (g.2.1 7, n, .inr (.inr (.inr (.inr f))))) (hin : vp_in i n) (k : pm_W g M F cn sn pc' ls (va_rf (f i.toNatClampNeg) :: st) N E) : pm_W g M F cn sn pc ls (.int i :: .ref (g.2.2.1 + q) :: st) N E := by
  obtain ⟨hdg, rfl⟩ := hd
  intro p l e s m args below meth c hC H locs d0 L hd0 hL hWD hS hz
  exact va_aldq (C := RX2) hC.1 hC.2.1 (va_K.moved (u := s) (U := s.setDrawn d0) (Vm.Alike.refl s.vm) hC.2.2.2.2.2.2.2.2.1) hWD.2 q 7 (by rw [pm_wl_get hq, hE]) rfl hin hdg (k p l e s m args below meth c hC H locs d0 L hd0 hL hWD hS hz)
theorem pm_alen (q t : Nat) {x : vp_A} {ty : FieldType} {cA : ClassId} {v : Int32} (hd : pm_D M.2.2.1 pc .arraylength 1 pc') (hq : q < N) (hE : E q = .inl (cA, x)) (ht : (pm_tys g)[t]? = some (cA, ty)) (hv : Int32.ofNat x.1 = v) (k : pm_W g M F cn sn pc' ls (.int v :: st) N E) : pm_W g M F cn sn pc ls (.ref (g.2.2.1 + q) :: st) N E := by
  obtain ⟨hdg, rfl⟩ := hd
  intro p l e s m args below meth c hC H locs d0 L hd0 hL hWD hS hz
  exact va_alen hC.1 hC.2.1 (va_K.moved (u := s) (U := s.setDrawn d0) (Vm.Alike.refl s.vm) hC.2.2.2.2.2.2.2.2.1) hWD.2 q t (by rw [pm_wl_get hq, hE]) ht hv hdg (k p l e s m args below meth c hC H locs d0 L hd0 hL hWD hS hz)
/-- field k of class number ci, as class 'own' names it by entry idx -/
def pm_FL (own : String) (idx ci k : Nat) (ty : FieldType) (fin : Bool) (decl : String) : Prop := ∃ (C : String) (T : u_T) (n : Nat) (ty0 : Nat → FieldType), vwCl[ci]? = some (C, T, n) ∧ (∀ w ∈ u_ws C T n, w ∈ pm_T) ∧ (∀ j, j < n → parseFieldDescriptor (T j).2.2.1 = some (ty0 j)) ∧ (∀ a, a < n → ∀ b, b < n → a ≠ b → (T a).2.1 ≠ (T b).2.1) ∧ k < n ∧ ty0 k = ty ∧ (T k).2.2.2 = fin ∧ (T k).1 = decl ∧ Cond.fieldLink own idx (T k).1 (T k).2.1 (T k).2.2.1 ∈ pm_T
def pm_GF (M : pm_M) (pc ci k pc' : Nat) : Prop := ∃ (idx : Nat) (ty : FieldType) (fin : Bool) (decl : String), decode M.2.2.1 pc = .ok (.getfield idx, 3) ∧ pm_FL M.1 idx ci k ty fin decl ∧ pc + 3 = pc'
def pm_PF (M : pm_M) (pc ci k : Nat) (ty : FieldType) (pc' : Nat) : Prop := ∃ (idx : Nat) (decl : String), decode M.2.2.1 pc = .ok (.putfield idx, 3) ∧ pm_FL M.1 idx ci k ty false decl ∧ pc + 3 = pc'
/-- a final field, in its class's constructor -/
def pm_PFF (M : pm_M) (pc ci k : Nat) (ty : FieldType) (pc' : Nat) : Prop := ∃ (idx : Nat), decode M.2.2.1 pc = .ok (.putfield idx, 3) ∧ pm_FL M.1 idx ci k ty true M.1 ∧ pc + 3 = pc' ∧ M.2.1.name = "<init>"
theorem pm_get (q : Nat) {ci j : Nat} {fs : List Value} {v : Value} (hd : pm_GF M pc ci j pc') (hq : q < N) (hE : E q = .inr (ci, fs)) (hv : fs[j]? = some v) (k : pm_W g M F cn sn pc' ls (v :: st) N E) : pm_W g M F cn sn pc ls (.ref (g.2.2.1 + q) :: st) N E := by
  obtain ⟨idx, ty, fin, decl, hdg, ⟨C, T, n, ty0, h1, h2, h3, h4, h5, h6, h7, h8, h9⟩, rfl⟩ := hd
  intro p l e s m args below meth c hC H locs d0 L hd0 hL hWD hS hz
  exact va_get (C := C) (T := T) (N := n) hC.1 hC.2.1 (dr_words hC.2.2.2.2.2.2.2.1 d0) h2 hC.2.2.2.2.2.1 (va_K.moved (u := s) (U := s.setDrawn d0) (Vm.Alike.refl s.vm) hC.2.2.2.2.2.2.2.2.1) hWD.2 q (by rw [pm_wl_get hq, hE]) h1 j h5 (dr_words hC.2.2.2.2.2.2.2.1 d0 _ h9) (fun _ h => h) hv hdg (k p l e s m args below meth c hC H locs d0 L hd0 hL hWD hS hz)
theorem pm_put (q : Nat) {ci j : Nat} {ty : FieldType} {fs : List Value} {v : Value} (hd : pm_PF M pc ci j ty pc') (hq : q < N) (hE : E q = .inr (ci, fs)) (hl : j < fs.length) (hn : narrow ty v = v) (hf : fits ty v = true) (k : pm_W g M F cn sn pc' ls st N (pm_up E q (.inr (ci, fs.set j v)))) : pm_W g M F cn sn pc ls (v :: .ref (g.2.2.1 + q) :: st) N E := by
  obtain ⟨idx, decl, hdg, ⟨C, T, n, ty0, h1, h2, h3, h4, h5, h6, h7, h8, h9⟩, rfl⟩ := hd
  intro p l e s m args below meth c hC H locs d0 L hd0 hL hWD hS hz
  exact va_put (C := C) (T := T) (N := n) hC.1 hC.2.1 (dr_words hC.2.2.2.2.2.2.2.1 d0) h2 ty0 h3 h4 hC.2.2.2.2.2.1 (va_K.moved (u := s) (U := s.setDrawn d0) (Vm.Alike.refl s.vm) hC.2.2.2.2.2.2.2.2.1) hWD.2 (pm_DD g N E) (pm_self hS) q (by rw [pm_wl_get hq, hE]) h1 j h5 (dr_words hC.2.2.2.2.2.2.2.1 d0 _ h9) (fun _ h => h) h7 (by rw [h3 j h5, h6]) hn hf hl hdg (fun H1 locs1 hP1 _ hS1 => pm_wr hS1 hS hz (fun z hS2 => k p l e s m args below meth c hC H1 locs1 d0 L hd0 hL ⟨z.trans hWD.1, by rw [← pm_wl_set hq]; exact hP1⟩ hS2 (z.trans hz)))
theorem pm_putF (q : Nat) {ci j : Nat} {ty : FieldType} {fs : List Value} {v : Value} (hd : pm_PFF M pc ci j ty pc') (hq : q < N) (hE : E q = .inr (ci, fs)) (hl : j < fs.length) (hn : narrow ty v = v) (hf : fits ty v = true) (k : pm_W g M F cn sn pc' ls st N (pm_up E q (.inr (ci, fs.set j v)))) : pm_W g M F cn sn pc ls (v :: .ref (g.2.2.1 + q) :: st) N E := by
  obtain ⟨idx, hdg, ⟨C, T, n, ty0, h1, h2, h3, h4, h5, h6, h7, h8, h9⟩, rfl, hnm⟩ := hd
  intro p l e s m args below meth c hC H locs d0 L hd0 hL hWD hS hz
  exact va_putF (C := C) (T := T) (N := n) hC.1 hC.2.1 (dr_words hC.2.2.2.2.2.2.2.1 d0) h2 ty0 h3 h4 hC.2.2.2.2.2.1 (va_K.moved (u := s) (U := s.setDrawn d0) (Vm.Alike.refl s.vm) hC.2.2.2.2.2.2.2.2.1) hWD.2 (pm_DD g N E) (pm_self hS) q (by rw [pm_wl_get hq, hE]) h1 j h5 (dr_words hC.2.2.2.2.2.2.2.1 d0 _ h9) (fun _ h => h) h7 (by rw [hC.2.2.2.2.2.2.1 hnm, hnm]) h8 (by rw [h3 j h5, h6]) hn hf hl hdg (fun H1 locs1 hP1 _ hS1 => pm_wr hS1 hS hz (fun z hS2 => k p l e s m args below meth c hC H1 locs1 d0 L hd0 hL ⟨z.trans hWD.1, by rw [← pm_wl_set hq]; exact hP1⟩ hS2 (z.trans hz)))
end PMR
