/-! ===== rules: instructions that leave the heap ===== -/
section XR
variable {G : GG} {d : Nat} {M : MM} {pc pc2 : Nat} {lv lv2 : List (Nat × Value)} {st : List Value} {h : HP} {Q : Option Value → HP → Prop}
theorem x_iadd {x y : Int32} (hd : decode M.2.1 pc = .ok (.iadd, 1)) (hp : pc + 1 = pc2) (k : Ex G d M pc2 lv (.int (x + y) :: st) h Q) : Ex G d M pc lv (.int y :: .int x :: st) h Q := by
  subst hp
  exact ex_step (fun p l e R s m args below meth c dC dI dA QF cells slots H locs ls hA hC hl kk => lv_iadd hA.1 hA.2.1 hd (kk ls hl)) k
theorem x_isub {x y : Int32} (hd : decode M.2.1 pc = .ok (.isub, 1)) (hp : pc + 1 = pc2) (k : Ex G d M pc2 lv (.int (x - y) :: st) h Q) : Ex G d M pc lv (.int y :: .int x :: st) h Q := by
  subst hp
  exact ex_step (fun p l e R s m args below meth c dC dI dA QF cells slots H locs ls hA hC hl kk => lv_isub hA.1 hA.2.1 hd (kk ls hl)) k
theorem x_imul {x y : Int32} (hd : decode M.2.1 pc = .ok (.imul, 1)) (hp : pc + 1 = pc2) (k : Ex G d M pc2 lv (.int (x * y) :: st) h Q) : Ex G d M pc lv (.int y :: .int x :: st) h Q := by
  subst hp
  exact ex_step (fun p l e R s m args below meth c dC dI dA QF cells slots H locs ls hA hC hl kk => lv_imul hA.1 hA.2.1 hd (kk ls hl)) k
theorem x_iand {x y : Int32} (hd : decode M.2.1 pc = .ok (.iand, 1)) (hp : pc + 1 = pc2) (k : Ex G d M pc2 lv (.int (x &&& y) :: st) h Q) : Ex G d M pc lv (.int y :: .int x :: st) h Q := by
  subst hp
  exact ex_step (fun p l e R s m args below meth c dC dI dA QF cells slots H locs ls hA hC hl kk => lv_iand hA.1 hA.2.1 hd (kk ls hl)) k
theorem x_ior {x y : Int32} (hd : decode M.2.1 pc = .ok (.ior, 1)) (hp : pc + 1 = pc2) (k : Ex G d M pc2 lv (.int (x ||| y) :: st) h Q) : Ex G d M pc lv (.int y :: .int x :: st) h Q := by
  subst hp
  exact ex_step (fun p l e R s m args below meth c dC dI dA QF cells slots H locs ls hA hC hl kk => lv_ior hA.1 hA.2.1 hd (kk ls hl)) k
theorem x_ixor {x y : Int32} (hd : decode M.2.1 pc = .ok (.ixor, 1)) (hp : pc + 1 = pc2) (k : Ex G d M pc2 lv (.int (x ^^^ y) :: st) h Q) : Ex G d M pc lv (.int y :: .int x :: st) h Q := by
  subst hp
  exact ex_step (fun p l e R s m args below meth c dC dI dA QF cells slots H locs ls hA hC hl kk => lv_ixor hA.1 hA.2.1 hd (kk ls hl)) k
theorem x_ishl {x y : Int32} (hd : decode M.2.1 pc = .ok (.ishl, 1)) (hp : pc + 1 = pc2) (k : Ex G d M pc2 lv (.int (x <<< (y &&& 31)) :: st) h Q) : Ex G d M pc lv (.int y :: .int x :: st) h Q := by
  subst hp
  exact ex_step (fun p l e R s m args below meth c dC dI dA QF cells slots H locs ls hA hC hl kk => lv_ishl hA.1 hA.2.1 hd (kk ls hl)) k
theorem x_ishr {x y : Int32} (hd : decode M.2.1 pc = .ok (.ishr, 1)) (hp : pc + 1 = pc2) (k : Ex G d M pc2 lv (.int (x >>> (y &&& 31)) :: st) h Q) : Ex G d M pc lv (.int y :: .int x :: st) h Q := by
  subst hp
  exact ex_step (fun p l e R s m args below meth c dC dI dA QF cells slots H locs ls hA hC hl kk => lv_ishr hA.1 hA.2.1 hd (kk ls hl)) k
theorem x_idiv {x y : Int32} (hne : ¬ y = 0) (hd : decode M.2.1 pc = .ok (.idiv, 1)) (hp : pc + 1 = pc2) (k : Ex G d M pc2 lv (.int (x / y) :: st) h Q) : Ex G d M pc lv (.int y :: .int x :: st) h Q := by
  subst hp
  exact ex_step (fun p l e R s m args below meth c dC dI dA QF cells slots H locs ls hA hC hl kk => lv_idiv hA.1 hA.2.1 hd hne (kk ls hl)) k
theorem x_irem {x y : Int32} (hne : ¬ y = 0) (hd : decode M.2.1 pc = .ok (.irem, 1)) (hp : pc + 1 = pc2) (k : Ex G d M pc2 lv (.int (x - x / y * y) :: st) h Q) : Ex G d M pc lv (.int y :: .int x :: st) h Q := by
  subst hp
  exact ex_step (fun p l e R s m args below meth c dC dI dA QF cells slots H locs ls hA hC hl kk => lv_irem hA.1 hA.2.1 hd hne (kk ls hl)) k
theorem x_ladd {x y : Int64} (hd : decode M.2.1 pc = .ok (.ladd, 1)) (hp : pc + 1 = pc2) (k : Ex G d M pc2 lv (.long (x + y) :: st) h Q) : Ex G d M pc lv (.long y :: .long x :: st) h Q := by
  subst hp
  exact ex_step (fun p l e R s m args below meth c dC dI dA QF cells slots H locs ls hA hC hl kk => lv_ladd hA.1 hA.2.1 hd (kk ls hl)) k
theorem x_lsub {x y : Int64} (hd : decode M.2.1 pc = .ok (.lsub, 1)) (hp : pc + 1 = pc2) (k : Ex G d M pc2 lv (.long (x - y) :: st) h Q) : Ex G d M pc lv (.long y :: .long x :: st) h Q := by
  subst hp
  exact ex_step (fun p l e R s m args below meth c dC dI dA QF cells slots H locs ls hA hC hl kk => lv_lsub hA.1 hA.2.1 hd (kk ls hl)) k
theorem x_lmul {x y : Int64} (hd : decode M.2.1 pc = .ok (.lmul, 1)) (hp : pc + 1 = pc2) (k : Ex G d M pc2 lv (.long (x * y) :: st) h Q) : Ex G d M pc lv (.long y :: .long x :: st) h Q := by
  subst hp
  exact ex_step (fun p l e R s m args below meth c dC dI dA QF cells slots H locs ls hA hC hl kk => lv_lmul hA.1 hA.2.1 hd (kk ls hl)) k
theorem x_land {x y : Int64} (hd : decode M.2.1 pc = .ok (.land, 1)) (hp : pc + 1 = pc2) (k : Ex G d M pc2 lv (.long (x &&& y) :: st) h Q) : Ex G d M pc lv (.long y :: .long x :: st) h Q := by
  subst hp
  exact ex_step (fun p l e R s m args below meth c dC dI dA QF cells slots H locs ls hA hC hl kk => lv_land hA.1 hA.2.1 hd (kk ls hl)) k
theorem x_lor {x y : Int64} (hd : decode M.2.1 pc = .ok (.lor, 1)) (hp : pc + 1 = pc2) (k : Ex G d M pc2 lv (.long (x ||| y) :: st) h Q) : Ex G d M pc lv (.long y :: .long x :: st) h Q := by
  subst hp
  exact ex_step (fun p l e R s m args below meth c dC dI dA QF cells slots H locs ls hA hC hl kk => lv_lor hA.1 hA.2.1 hd (kk ls hl)) k
theorem x_ldiv {x y : Int64} (hne : ¬ y = 0) (hd : decode M.2.1 pc = .ok (.ldiv, 1)) (hp : pc + 1 = pc2) (k : Ex G d M pc2 lv (.long (x / y) :: st) h Q) : Ex G d M pc lv (.long y :: .long x :: st) h Q := by
  subst hp
  exact ex_step (fun p l e R s m args below meth c dC dI dA QF cells slots H locs ls hA hC hl kk => lv_ldiv hA.1 hA.2.1 hd hne (kk ls hl)) k
theorem x_lrem {x y : Int64} (hne : ¬ y = 0) (hd : decode M.2.1 pc = .ok (.lrem, 1)) (hp : pc + 1 = pc2) (k : Ex G d M pc2 lv (.long (x - x / y * y) :: st) h Q) : Ex G d M pc lv (.long y :: .long x :: st) h Q := by
  subst hp
  exact ex_step (fun p l e R s m args below meth c dC dI dA QF cells slots H locs ls hA hC hl kk => lv_lrem hA.1 hA.2.1 hd hne (kk ls hl)) k
theorem x_lshl {x : Int64} {y : Int32} (hd : decode M.2.1 pc = .ok (.lshl, 1)) (hp : pc + 1 = pc2) (k : Ex G d M pc2 lv (.long (x <<< (y.toInt64 &&& 63)) :: st) h Q) : Ex G d M pc lv (.int y :: .long x :: st) h Q := by
  subst hp
  exact ex_step (fun p l e R s m args below meth c dC dI dA QF cells slots H locs ls hA hC hl kk => lv_lshl hA.1 hA.2.1 hd rfl (kk ls hl)) k
theorem x_lcmp {x y : Int64} (hd : decode M.2.1 pc = .ok (.lcmp, 1)) (hp : pc + 1 = pc2) (k : Ex G d M pc2 lv (.int (lg_cmp x y) :: st) h Q) : Ex G d M pc lv (.long y :: .long x :: st) h Q := by
  subst hp
  exact ex_step (fun p l e R s m args below meth c dC dI dA QF cells slots H locs ls hA hC hl kk => W.lcmp hA.1 hA.2.1 hd (kk ls hl)) k
theorem x_i2l {x : Int32} (hd : decode M.2.1 pc = .ok (.i2l, 1)) (hp : pc + 1 = pc2) (k : Ex G d M pc2 lv (.long x.toInt64 :: st) h Q) : Ex G d M pc lv (.int x :: st) h Q := by
  subst hp
  exact ex_step (fun p l e R s m args below meth c dC dI dA QF cells slots H locs ls hA hC hl kk => lv_i2l hA.1 hA.2.1 hd rfl (kk ls hl)) k
theorem x_l2i {x : Int64} (hd : decode M.2.1 pc = .ok (.l2i, 1)) (hp : pc + 1 = pc2) (k : Ex G d M pc2 lv (.int x.toInt32 :: st) h Q) : Ex G d M pc lv (.long x :: st) h Q := by
  subst hp
  exact ex_step (fun p l e R s m args below meth c dC dI dA QF cells slots H locs ls hA hC hl kk => lv_l2i hA.1 hA.2.1 hd rfl (kk ls hl)) k
theorem x_i2b {x : Int32} (hd : decode M.2.1 pc = .ok (.i2b, 1)) (hp : pc + 1 = pc2) (k : Ex G d M pc2 lv (.int x.toInt8.toInt32 :: st) h Q) : Ex G d M pc lv (.int x :: st) h Q := by
  subst hp
  exact ex_step (fun p l e R s m args below meth c dC dI dA QF cells slots H locs ls hA hC hl kk => lv_i2b hA.1 hA.2.1 hd rfl (kk ls hl)) k
theorem x_iconst {n : Int} {v : Int32} (hv : Int32.ofInt n = v) (hd : decode M.2.1 pc = .ok (.iconst n, 1)) (hp : pc + 1 = pc2) (k : Ex G d M pc2 lv (.int v :: st) h Q) : Ex G d M pc lv (st) h Q := by
  subst hp
  exact ex_step (fun p l e R s m args below meth c dC dI dA QF cells slots H locs ls hA hC hl kk => lv_iconst hA.1 hA.2.1 hd hv (kk ls hl)) k
theorem x_bipush {n : Int} {v : Int32} (hv : (Int8.ofInt n).toInt32 = v) (hd : decode M.2.1 pc = .ok (.bipush n, 2)) (hp : pc + 2 = pc2) (k : Ex G d M pc2 lv (.int v :: st) h Q) : Ex G d M pc lv (st) h Q := by
  subst hp
  exact ex_step (fun p l e R s m args below meth c dC dI dA QF cells slots H locs ls hA hC hl kk => lv_bipush hA.1 hA.2.1 hd hv (kk ls hl)) k
theorem x_sipush {n : Int} {v : Int32} (hv : (Int16.ofInt n).toInt32 = v) (hd : decode M.2.1 pc = .ok (.sipush n, 3)) (hp : pc + 3 = pc2) (k : Ex G d M pc2 lv (.int v :: st) h Q) : Ex G d M pc lv (st) h Q := by
  subst hp
  exact ex_step (fun p l e R s m args below meth c dC dI dA QF cells slots H locs ls hA hC hl kk => lv_sipush hA.1 hA.2.1 hd hv (kk ls hl)) k
theorem x_lconst {n : Fin 2} {v : Int64} (hv : Int64.ofNat (n : Nat) = v) (hd : decode M.2.1 pc = .ok (.lconst n, 1)) (hp : pc + 1 = pc2) (k : Ex G d M pc2 lv (.long v :: st) h Q) : Ex G d M pc lv (st) h Q := by
  subst hp
  exact ex_step (fun p l e R s m args below meth c dC dI dA QF cells slots H locs ls hA hC hl kk => lv_lconst hA.1 hA.2.1 hd hv (kk ls hl)) k
theorem x_ldc {i : Nat} {v : Int32} (hw : Cond.constant M.1.cls i v ∈ tb) (hd : decode M.2.1 pc = .ok (.ldc i, 2)) (hp : pc + 2 = pc2) (k : Ex G d M pc2 lv (.int v :: st) h Q) : Ex G d M pc lv (st) h Q := by
  subst hp
  exact ex_step (fun p l e R s m args below meth c dC dI dA QF cells slots H locs ls hA hC hl kk => lv_ldc hA.1 hA.2.1 hA.2.2.2.2.1 (hA.2.2.2.2.2.1 _ hw) hd (kk ls hl)) k
theorem x_ldcw {i : Nat} {v : Int32} (hw : Cond.constant M.1.cls i v ∈ tb) (hd : decode M.2.1 pc = .ok (.ldc_w i, 3)) (hp : pc + 3 = pc2) (k : Ex G d M pc2 lv (.int v :: st) h Q) : Ex G d M pc lv (st) h Q := by
  subst hp
  exact ex_step (fun p l e R s m args below meth c dC dI dA QF cells slots H locs ls hA hC hl kk => lv_ldcw hA.1 hA.2.1 hA.2.2.2.2.1 (hA.2.2.2.2.2.1 _ hw) hd (kk ls hl)) k
theorem x_ldc2 {i : Nat} {v : Int64} (hw : Cond.constantLong M.1.cls i v ∈ tb) (hd : decode M.2.1 pc = .ok (.ldc2_w i, 3)) (hp : pc + 3 = pc2) (k : Ex G d M pc2 lv (.long v :: st) h Q) : Ex G d M pc lv (st) h Q := by
  subst hp
  exact ex_step (fun p l e R s m args below meth c dC dI dA QF cells slots H locs ls hA hC hl kk => lv_ldc2 hA.1 hA.2.1 hA.2.2.2.2.1 (hA.2.2.2.2.2.1 _ hw) hd (kk ls hl)) k
theorem x_null  (hd : decode M.2.1 pc = .ok (.aconst_null, 1)) (hp : pc + 1 = pc2) (k : Ex G d M pc2 lv (Value.null :: st) h Q) : Ex G d M pc lv (st) h Q := by
  subst hp
  exact ex_step (fun p l e R s m args below meth c dC dI dA QF cells slots H locs ls hA hC hl kk => lv_null hA.1 hA.2.1 hd (kk ls hl)) k
theorem x_iload_n (j : Nat) {n : Fin 4} {x : Int32} (hj : lv[j]? = some ((n : Nat), .int x)) (hd : decode M.2.1 pc = .ok (.iload_n n, 1)) (hp : pc + 1 = pc2) (k : Ex G d M pc2 lv (.int x :: st) h Q) : Ex G d M pc lv (st) h Q := by
  subst hp
  exact ex_step (fun p l e R s m args below meth c dC dI dA QF cells slots H locs ls hA hC hl kk => lv_iload_n hA.1 hA.2.1 hd rfl (lv_at hl j hj) (kk ls hl)) k
theorem x_iload (j : Nat) {n : Nat} {x : Int32} (hj : lv[j]? = some (n, .int x)) (hd : decode M.2.1 pc = .ok (.iload n, 2)) (hp : pc + 2 = pc2) (k : Ex G d M pc2 lv (.int x :: st) h Q) : Ex G d M pc lv (st) h Q := by
  subst hp
  exact ex_step (fun p l e R s m args below meth c dC dI dA QF cells slots H locs ls hA hC hl kk => lv_iload hA.1 hA.2.1 hd (lv_at hl j hj) (kk ls hl)) k
theorem x_lload_n (j : Nat) {n : Fin 4} {x : Int64} (hj : lv[j]? = some ((n : Nat), .long x)) (hd : decode M.2.1 pc = .ok (.lload_n n, 1)) (hp : pc + 1 = pc2) (k : Ex G d M pc2 lv (.long x :: st) h Q) : Ex G d M pc lv (st) h Q := by
  subst hp
  exact ex_step (fun p l e R s m args below meth c dC dI dA QF cells slots H locs ls hA hC hl kk => lv_lload_n hA.1 hA.2.1 hd rfl (lv_at hl j hj) (kk ls hl)) k
theorem x_lload (j : Nat) {n : Nat} {x : Int64} (hj : lv[j]? = some (n, .long x)) (hd : decode M.2.1 pc = .ok (.lload n, 2)) (hp : pc + 2 = pc2) (k : Ex G d M pc2 lv (.long x :: st) h Q) : Ex G d M pc lv (st) h Q := by
  subst hp
  exact ex_step (fun p l e R s m args below meth c dC dI dA QF cells slots H locs ls hA hC hl kk => lv_lload hA.1 hA.2.1 hd (lv_at hl j hj) (kk ls hl)) k
theorem x_aload_n (j : Nat) {n : Fin 4} {x : Nat} (hj : lv[j]? = some ((n : Nat), .ref x)) (hd : decode M.2.1 pc = .ok (.aload_n n, 1)) (hp : pc + 1 = pc2) (k : Ex G d M pc2 lv (.ref x :: st) h Q) : Ex G d M pc lv (st) h Q := by
  subst hp
  exact ex_step (fun p l e R s m args below meth c dC dI dA QF cells slots H locs ls hA hC hl kk => lv_aload_n hA.1 hA.2.1 hd rfl (lv_at hl j hj) (kk ls hl)) k
theorem x_aload (j : Nat) {n : Nat} {x : Nat} (hj : lv[j]? = some (n, .ref x)) (hd : decode M.2.1 pc = .ok (.aload n, 2)) (hp : pc + 2 = pc2) (k : Ex G d M pc2 lv (.ref x :: st) h Q) : Ex G d M pc lv (st) h Q := by
  subst hp
  exact ex_step (fun p l e R s m args below meth c dC dI dA QF cells slots H locs ls hA hC hl kk => lv_aload hA.1 hA.2.1 hd (lv_at hl j hj) (kk ls hl)) k
theorem x_aloadq_n (j : Nat) {n : Fin 4} {x : Option Nat} (hj : lv[j]? = some ((n : Nat), va_rf x)) (hd : decode M.2.1 pc = .ok (.aload_n n, 1)) (hp : pc + 1 = pc2) (k : Ex G d M pc2 lv (va_rf x :: st) h Q) : Ex G d M pc lv st h Q := by
  subst hp
  cases x with
  | none => exact ex_step (fun p l e R s m args below meth c dC dI dA QF cells slots H locs ls hA hC hl kk => lv_aload_nN hA.1 hA.2.1 hd rfl (lv_at hl j hj) (kk ls hl)) k
  | some x => exact ex_step (fun p l e R s m args below meth c dC dI dA QF cells slots H locs ls hA hC hl kk => lv_aload_n hA.1 hA.2.1 hd rfl (lv_at hl j hj) (kk ls hl)) k
theorem x_aloadq (j : Nat) {n : Nat} {x : Option Nat} (hj : lv[j]? = some (n, va_rf x)) (hd : decode M.2.1 pc = .ok (.aload n, 2)) (hp : pc + 2 = pc2) (k : Ex G d M pc2 lv (va_rf x :: st) h Q) : Ex G d M pc lv st h Q := by
  subst hp
  cases x with
  | none => exact ex_step (fun p l e R s m args below meth c dC dI dA QF cells slots H locs ls hA hC hl kk => lv_aloadN hA.1 hA.2.1 hd (lv_at hl j hj) (kk ls hl)) k
  | some x => exact ex_step (fun p l e R s m args below meth c dC dI dA QF cells slots H locs ls hA hC hl kk => lv_aload hA.1 hA.2.1 hd (lv_at hl j hj) (kk ls hl)) k
def stl (lv : List (Nat × Value)) (i : Nat) (v : Value) : List (Nat × Value) := (i, v) :: lv.filter (fun q => !(q.1 == i) && !(q.1 + 1 == i && q.2.category == 2))
def stl2 (lv : List (Nat × Value)) (i : Nat) (v : Value) : List (Nat × Value) := (i, v) :: lv.filter (fun q => !(q.1 == i) && (!(q.1 == i + 1) && !(q.1 + 1 == i && q.2.category == 2)))
theorem x_istore_n (ps : List Nat) {n : Fin 4} {x : Int32} (hn : (n : Nat) < M.2.2.1) (h2 : lv_pick (stl lv (n : Nat) (.int x)) ps = lv2) (hd : decode M.2.1 pc = .ok (.istore_n n, 1)) (hp : pc + 1 = pc2) (k : Ex G d M pc2 lv2 (st) h Q) : Ex G d M pc lv (.int x :: st) h Q := by
  subst hp
  exact ex_step (fun p l e R s m args below meth c dC dI dA QF cells slots H locs ls hA hC hl kk => lv_istore_n hA.1 hA.2.1 hd rfl hl hn rfl (fun ls2 hl2 => kk ls2 (lv_sub hl2 ps h2))) k
theorem x_istore (ps : List Nat) {n : Nat} {x : Int32} (hn : n < M.2.2.1) (h2 : lv_pick (stl lv n (.int x)) ps = lv2) (hd : decode M.2.1 pc = .ok (.istore n, 2)) (hp : pc + 2 = pc2) (k : Ex G d M pc2 lv2 (st) h Q) : Ex G d M pc lv (.int x :: st) h Q := by
  subst hp
  exact ex_step (fun p l e R s m args below meth c dC dI dA QF cells slots H locs ls hA hC hl kk => lv_istore hA.1 hA.2.1 hd hl hn rfl (fun ls2 hl2 => kk ls2 (lv_sub hl2 ps h2))) k
theorem x_lstore_n (ps : List Nat) {n : Fin 4} {x : Int64} (hn : (n : Nat) + 1 < M.2.2.1) (h2 : lv_pick (stl2 lv (n : Nat) (.long x)) ps = lv2) (hd : decode M.2.1 pc = .ok (.lstore_n n, 1)) (hp : pc + 1 = pc2) (k : Ex G d M pc2 lv2 (st) h Q) : Ex G d M pc lv (.long x :: st) h Q := by
  subst hp
  exact ex_step (fun p l e R s m args below meth c dC dI dA QF cells slots H locs ls hA hC hl kk => lv_lstore_n hA.1 hA.2.1 hd rfl hl hn rfl (fun ls2 hl2 => kk ls2 (lv_sub hl2 ps h2))) k
theorem x_lstore (ps : List Nat) {n : Nat} {x : Int64} (hn : n + 1 < M.2.2.1) (h2 : lv_pick (stl2 lv n (.long x)) ps = lv2) (hd : decode M.2.1 pc = .ok (.lstore n, 2)) (hp : pc + 2 = pc2) (k : Ex G d M pc2 lv2 (st) h Q) : Ex G d M pc lv (.long x :: st) h Q := by
  subst hp
  exact ex_step (fun p l e R s m args below meth c dC dI dA QF cells slots H locs ls hA hC hl kk => lv_lstore hA.1 hA.2.1 hd hl hn rfl (fun ls2 hl2 => kk ls2 (lv_sub hl2 ps h2))) k
theorem x_astore_n (ps : List Nat) {n : Fin 4} {x : Nat} (hn : (n : Nat) < M.2.2.1) (h2 : lv_pick (stl lv (n : Nat) (.ref x)) ps = lv2) (hd : decode M.2.1 pc = .ok (.astore_n n, 1)) (hp : pc + 1 = pc2) (k : Ex G d M pc2 lv2 (st) h Q) : Ex G d M pc lv (.ref x :: st) h Q := by
  subst hp
  exact ex_step (fun p l e R s m args below meth c dC dI dA QF cells slots H locs ls hA hC hl kk => lv_astore_n hA.1 hA.2.1 hd rfl hl hn rfl (fun ls2 hl2 => kk ls2 (lv_sub hl2 ps h2))) k
theorem x_astore (ps : List Nat) {n : Nat} {x : Nat} (hn : n < M.2.2.1) (h2 : lv_pick (stl lv n (.ref x)) ps = lv2) (hd : decode M.2.1 pc = .ok (.astore n, 2)) (hp : pc + 2 = pc2) (k : Ex G d M pc2 lv2 (st) h Q) : Ex G d M pc lv (.ref x :: st) h Q := by
  subst hp
  exact ex_step (fun p l e R s m args below meth c dC dI dA QF cells slots H locs ls hA hC hl kk => lv_astore hA.1 hA.2.1 hd hl hn rfl (fun ls2 hl2 => kk ls2 (lv_sub hl2 ps h2))) k
theorem x_astoreq_n (ps : List Nat) {n : Fin 4} {x : Option Nat} (hn : (n : Nat) < M.2.2.1) (h2 : lv_pick (stl lv (n : Nat) (va_rf x)) ps = lv2) (hd : decode M.2.1 pc = .ok (.astore_n n, 1)) (hp : pc + 1 = pc2) (k : Ex G d M pc2 lv2 st h Q) : Ex G d M pc lv (va_rf x :: st) h Q := by
  subst hp
  cases x with
  | none => exact ex_step (fun p l e R s m args below meth c dC dI dA QF cells slots H locs ls hA hC hl kk => lv_astore_nN hA.1 hA.2.1 hd rfl hl hn rfl (fun ls2 hl2 => kk ls2 (lv_sub hl2 ps h2))) k
  | some x => exact ex_step (fun p l e R s m args below meth c dC dI dA QF cells slots H locs ls hA hC hl kk => lv_astore_n hA.1 hA.2.1 hd rfl hl hn rfl (fun ls2 hl2 => kk ls2 (lv_sub hl2 ps h2))) k
theorem x_astoreq (ps : List Nat) {n : Nat} {x : Option Nat} (hn : n < M.2.2.1) (h2 : lv_pick (stl lv n (va_rf x)) ps = lv2) (hd : decode M.2.1 pc = .ok (.astore n, 2)) (hp : pc + 2 = pc2) (k : Ex G d M pc2 lv2 st h Q) : Ex G d M pc lv (va_rf x :: st) h Q := by
  subst hp
  cases x with
  | none => exact ex_step (fun p l e R s m args below meth c dC dI dA QF cells slots H locs ls hA hC hl kk => lv_astoreN hA.1 hA.2.1 hd hl hn rfl (fun ls2 hl2 => kk ls2 (lv_sub hl2 ps h2))) k
  | some x => exact ex_step (fun p l e R s m args below meth c dC dI dA QF cells slots H locs ls hA hC hl kk => lv_astore hA.1 hA.2.1 hd hl hn rfl (fun ls2 hl2 => kk ls2 (lv_sub hl2 ps h2))) k
theorem x_iinc (j : Nat) (ps : List Nat) {i : Nat} {n : Int} {x v : Int32} (hj : lv[j]? = some (i, .int x)) (hv : x + Int32.ofInt n = v) (hn : i < M.2.2.1) (h2 : lv_pick (stl lv i (.int v)) ps = lv2) (hd : decode M.2.1 pc = .ok (.iinc i n, 3)) (hp : pc + 3 = pc2) (k : Ex G d M pc2 lv2 st h Q) : Ex G d M pc lv st h Q := by
  subst hp
  exact ex_step (fun p l e R s m args below meth c dC dI dA QF cells slots H locs ls hA hC hl kk => lv_iinc hA.1 hA.2.1 hd hl hj hv hn rfl (fun ls2 hl2 => kk ls2 (lv_sub hl2 ps h2))) k
theorem x_dup {a : Value} (ha : a.category = 1) (hd : decode M.2.1 pc = .ok (.dup, 1)) (hp : pc + 1 = pc2) (k : Ex G d M pc2 lv (a :: a :: st) h Q) : Ex G d M pc lv (a :: st) h Q := by
  subst hp
  exact ex_step (fun p l e R s m args below meth c dC dI dA QF cells slots H locs ls hA hC hl kk => lv_dup hA.1 hA.2.1 hd ha (kk ls hl)) k
theorem x_pop {a : Value} (ha : a.category = 1) (hd : decode M.2.1 pc = .ok (.pop, 1)) (hp : pc + 1 = pc2) (k : Ex G d M pc2 lv (st) h Q) : Ex G d M pc lv (a :: st) h Q := by
  subst hp
  exact ex_step (fun p l e R s m args below meth c dC dI dA QF cells slots H locs ls hA hC hl kk => lv_pop hA.1 hA.2.1 hd ha (kk ls hl)) k
theorem x_dup_x1 {a b : Value} (ha : a.category = 1) (hb : b.category = 1) (hd : decode M.2.1 pc = .ok (.dup_x1, 1)) (hp : pc + 1 = pc2) (k : Ex G d M pc2 lv (a :: b :: a :: st) h Q) : Ex G d M pc lv (a :: b :: st) h Q := by
  subst hp
  exact ex_step (fun p l e R s m args below meth c dC dI dA QF cells slots H locs ls hA hC hl kk => lv_dup_x1 hA.1 hA.2.1 hd ha hb (kk ls hl)) k
theorem x_dup2 {a b : Value} (ha : a.category = 1) (hb : b.category = 1) (hd : decode M.2.1 pc = .ok (.dup2, 1)) (hp : pc + 1 = pc2) (k : Ex G d M pc2 lv (a :: b :: a :: b :: st) h Q) : Ex G d M pc lv (a :: b :: st) h Q := by
  subst hp
  exact ex_step (fun p l e R s m args below meth c dC dI dA QF cells slots H locs ls hA hC hl kk => lv_dup2_11 hA.1 hA.2.1 hd ha hb (kk ls hl)) k
theorem x_icmp_eq {x y : Int32} {off : Int} (tgt : Nat) (hd : decode M.2.1 pc = .ok (.if_icmp .eq off, 3)) (ht : (pc : Int) + off = (tgt : Int)) (hp : pc + 3 = pc2) (kt : x = y → Ex G d M tgt lv st h Q) (kf : ¬ (x = y) → Ex G d M pc2 lv st h Q) : Ex G d M pc lv (.int y :: .int x :: st) h Q := by
  subst hp
  by_cases hc : x = y
  · exact ex_step (fun p l e R s m args below meth c dC dI dA QF cells slots H locs ls hA hC hl kk => lv_icmp_eq hA.1 hA.2.1 hd ht (fun _ => kk ls hl) (fun q => by first | exact absurd hc q | exact absurd q hc | exact absurd (by simpa using hc) q)) (kt hc)
  · exact ex_step (fun p l e R s m args below meth c dC dI dA QF cells slots H locs ls hA hC hl kk => lv_icmp_eq hA.1 hA.2.1 hd ht (fun q => by first | exact absurd q hc | exact absurd (by simpa using q) hc) (fun _ => kk ls hl)) (kf hc)
theorem x_if_eq {x : Int32} {off : Int} (tgt : Nat) (hd : decode M.2.1 pc = .ok (.ifCond .eq off, 3)) (ht : (pc : Int) + off = (tgt : Int)) (hp : pc + 3 = pc2) (kt : x = 0 → Ex G d M tgt lv st h Q) (kf : ¬ (x = 0) → Ex G d M pc2 lv st h Q) : Ex G d M pc lv (.int x :: st) h Q := by
  subst hp
  by_cases hc : x = 0
  · exact ex_step (fun p l e R s m args below meth c dC dI dA QF cells slots H locs ls hA hC hl kk => lv_if_eq hA.1 hA.2.1 hd ht (fun _ => kk ls hl) (fun q => by first | exact absurd hc q | exact absurd q hc | exact absurd (by simpa using hc) q)) (kt hc)
  · exact ex_step (fun p l e R s m args below meth c dC dI dA QF cells slots H locs ls hA hC hl kk => lv_if_eq hA.1 hA.2.1 hd ht (fun q => by first | exact absurd q hc | exact absurd (by simpa using q) hc) (fun _ => kk ls hl)) (kf hc)
theorem x_icmp_ne {x y : Int32} {off : Int} (tgt : Nat) (hd : decode M.2.1 pc = .ok (.if_icmp .ne off, 3)) (ht : (pc : Int) + off = (tgt : Int)) (hp : pc + 3 = pc2) (kt : ¬ x = y → Ex G d M tgt lv st h Q) (kf : ¬ (¬ x = y) → Ex G d M pc2 lv st h Q) : Ex G d M pc lv (.int y :: .int x :: st) h Q := by
  subst hp
  by_cases hc : ¬ x = y
  · exact ex_step (fun p l e R s m args below meth c dC dI dA QF cells slots H locs ls hA hC hl kk => lv_icmp_ne hA.1 hA.2.1 hd ht (fun _ => kk ls hl) (fun q => by first | exact absurd hc q | exact absurd q hc | exact absurd (by simpa using hc) q)) (kt hc)
  · exact ex_step (fun p l e R s m args below meth c dC dI dA QF cells slots H locs ls hA hC hl kk => lv_icmp_ne hA.1 hA.2.1 hd ht (fun q => by first | exact absurd q hc | exact absurd (by simpa using q) hc) (fun _ => kk ls hl)) (kf hc)
theorem x_if_ne {x : Int32} {off : Int} (tgt : Nat) (hd : decode M.2.1 pc = .ok (.ifCond .ne off, 3)) (ht : (pc : Int) + off = (tgt : Int)) (hp : pc + 3 = pc2) (kt : ¬ x = 0 → Ex G d M tgt lv st h Q) (kf : ¬ (¬ x = 0) → Ex G d M pc2 lv st h Q) : Ex G d M pc lv (.int x :: st) h Q := by
  subst hp
  by_cases hc : ¬ x = 0
  · exact ex_step (fun p l e R s m args below meth c dC dI dA QF cells slots H locs ls hA hC hl kk => lv_if_ne hA.1 hA.2.1 hd ht (fun _ => kk ls hl) (fun q => by first | exact absurd hc q | exact absurd q hc | exact absurd (by simpa using hc) q)) (kt hc)
  · exact ex_step (fun p l e R s m args below meth c dC dI dA QF cells slots H locs ls hA hC hl kk => lv_if_ne hA.1 hA.2.1 hd ht (fun q => by first | exact absurd q hc | exact absurd (by simpa using q) hc) (fun _ => kk ls hl)) (kf hc)
theorem x_icmp_lt {x y : Int32} {off : Int} (tgt : Nat) (hd : decode M.2.1 pc = .ok (.if_icmp .lt off, 3)) (ht : (pc : Int) + off = (tgt : Int)) (hp : pc + 3 = pc2) (kt : x < y → Ex G d M tgt lv st h Q) (kf : ¬ (x < y) → Ex G d M pc2 lv st h Q) : Ex G d M pc lv (.int y :: .int x :: st) h Q := by
  subst hp
  by_cases hc : x < y
  · exact ex_step (fun p l e R s m args below meth c dC dI dA QF cells slots H locs ls hA hC hl kk => lv_icmp_lt hA.1 hA.2.1 hd ht (fun _ => kk ls hl) (fun q => by first | exact absurd hc q | exact absurd q hc | exact absurd (by simpa using hc) q)) (kt hc)
  · exact ex_step (fun p l e R s m args below meth c dC dI dA QF cells slots H locs ls hA hC hl kk => lv_icmp_lt hA.1 hA.2.1 hd ht (fun q => by first | exact absurd q hc | exact absurd (by simpa using q) hc) (fun _ => kk ls hl)) (kf hc)
theorem x_if_lt {x : Int32} {off : Int} (tgt : Nat) (hd : decode M.2.1 pc = .ok (.ifCond .lt off, 3)) (ht : (pc : Int) + off = (tgt : Int)) (hp : pc + 3 = pc2) (kt : x < 0 → Ex G d M tgt lv st h Q) (kf : ¬ (x < 0) → Ex G d M pc2 lv st h Q) : Ex G d M pc lv (.int x :: st) h Q := by
  subst hp
  by_cases hc : x < 0
  · exact ex_step (fun p l e R s m args below meth c dC dI dA QF cells slots H locs ls hA hC hl kk => lv_if_lt hA.1 hA.2.1 hd ht (fun _ => kk ls hl) (fun q => by first | exact absurd hc q | exact absurd q hc | exact absurd (by simpa using hc) q)) (kt hc)
  · exact ex_step (fun p l e R s m args below meth c dC dI dA QF cells slots H locs ls hA hC hl kk => lv_if_lt hA.1 hA.2.1 hd ht (fun q => by first | exact absurd q hc | exact absurd (by simpa using q) hc) (fun _ => kk ls hl)) (kf hc)
theorem x_icmp_ge {x y : Int32} {off : Int} (tgt : Nat) (hd : decode M.2.1 pc = .ok (.if_icmp .ge off, 3)) (ht : (pc : Int) + off = (tgt : Int)) (hp : pc + 3 = pc2) (kt : y ≤ x → Ex G d M tgt lv st h Q) (kf : ¬ (y ≤ x) → Ex G d M pc2 lv st h Q) : Ex G d M pc lv (.int y :: .int x :: st) h Q := by
  subst hp
  by_cases hc : y ≤ x
  · exact ex_step (fun p l e R s m args below meth c dC dI dA QF cells slots H locs ls hA hC hl kk => lv_icmp_ge hA.1 hA.2.1 hd ht (fun _ => kk ls hl) (fun q => by first | exact absurd hc q | exact absurd q hc | exact absurd (by simpa using hc) q)) (kt hc)
  · exact ex_step (fun p l e R s m args below meth c dC dI dA QF cells slots H locs ls hA hC hl kk => lv_icmp_ge hA.1 hA.2.1 hd ht (fun q => by first | exact absurd q hc | exact absurd (by simpa using q) hc) (fun _ => kk ls hl)) (kf hc)
theorem x_if_ge {x : Int32} {off : Int} (tgt : Nat) (hd : decode M.2.1 pc = .ok (.ifCond .ge off, 3)) (ht : (pc : Int) + off = (tgt : Int)) (hp : pc + 3 = pc2) (kt : 0 ≤ x → Ex G d M tgt lv st h Q) (kf : ¬ (0 ≤ x) → Ex G d M pc2 lv st h Q) : Ex G d M pc lv (.int x :: st) h Q := by
  subst hp
  by_cases hc : 0 ≤ x
  · exact ex_step (fun p l e R s m args below meth c dC dI dA QF cells slots H locs ls hA hC hl kk => lv_if_ge hA.1 hA.2.1 hd ht (fun _ => kk ls hl) (fun q => by first | exact absurd hc q | exact absurd q hc | exact absurd (by simpa using hc) q)) (kt hc)
  · exact ex_step (fun p l e R s m args below meth c dC dI dA QF cells slots H locs ls hA hC hl kk => lv_if_ge hA.1 hA.2.1 hd ht (fun q => by first | exact absurd q hc | exact absurd (by simpa using q) hc) (fun _ => kk ls hl)) (kf hc)
theorem x_icmp_gt {x y : Int32} {off : Int} (tgt : Nat) (hd : decode M.2.1 pc = .ok (.if_icmp .gt off, 3)) (ht : (pc : Int) + off = (tgt : Int)) (hp : pc + 3 = pc2) (kt : y < x → Ex G d M tgt lv st h Q) (kf : ¬ (y < x) → Ex G d M pc2 lv st h Q) : Ex G d M pc lv (.int y :: .int x :: st) h Q := by
  subst hp
  by_cases hc : y < x
  · exact ex_step (fun p l e R s m args below meth c dC dI dA QF cells slots H locs ls hA hC hl kk => lv_icmp_gt hA.1 hA.2.1 hd ht (fun _ => kk ls hl) (fun q => by first | exact absurd hc q | exact absurd q hc | exact absurd (by simpa using hc) q)) (kt hc)
  · exact ex_step (fun p l e R s m args below meth c dC dI dA QF cells slots H locs ls hA hC hl kk => lv_icmp_gt hA.1 hA.2.1 hd ht (fun q => by first | exact absurd q hc | exact absurd (by simpa using q) hc) (fun _ => kk ls hl)) (kf hc)
theorem x_if_gt {x : Int32} {off : Int} (tgt : Nat) (hd : decode M.2.1 pc = .ok (.ifCond .gt off, 3)) (ht : (pc : Int) + off = (tgt : Int)) (hp : pc + 3 = pc2) (kt : 0 < x → Ex G d M tgt lv st h Q) (kf : ¬ (0 < x) → Ex G d M pc2 lv st h Q) : Ex G d M pc lv (.int x :: st) h Q := by
  subst hp
  by_cases hc : 0 < x
  · exact ex_step (fun p l e R s m args below meth c dC dI dA QF cells slots H locs ls hA hC hl kk => lv_if_gt hA.1 hA.2.1 hd ht (fun _ => kk ls hl) (fun q => by first | exact absurd hc q | exact absurd q hc | exact absurd (by simpa using hc) q)) (kt hc)
  · exact ex_step (fun p l e R s m args below meth c dC dI dA QF cells slots H locs ls hA hC hl kk => lv_if_gt hA.1 hA.2.1 hd ht (fun q => by first | exact absurd q hc | exact absurd (by simpa using q) hc) (fun _ => kk ls hl)) (kf hc)
theorem x_icmp_le {x y : Int32} {off : Int} (tgt : Nat) (hd : decode M.2.1 pc = .ok (.if_icmp .le off, 3)) (ht : (pc : Int) + off = (tgt : Int)) (hp : pc + 3 = pc2) (kt : x ≤ y → Ex G d M tgt lv st h Q) (kf : ¬ (x ≤ y) → Ex G d M pc2 lv st h Q) : Ex G d M pc lv (.int y :: .int x :: st) h Q := by
  subst hp
  by_cases hc : x ≤ y
  · exact ex_step (fun p l e R s m args below meth c dC dI dA QF cells slots H locs ls hA hC hl kk => lv_icmp_le hA.1 hA.2.1 hd ht (fun _ => kk ls hl) (fun q => by first | exact absurd hc q | exact absurd q hc | exact absurd (by simpa using hc) q)) (kt hc)
  · exact ex_step (fun p l e R s m args below meth c dC dI dA QF cells slots H locs ls hA hC hl kk => lv_icmp_le hA.1 hA.2.1 hd ht (fun q => by first | exact absurd q hc | exact absurd (by simpa using q) hc) (fun _ => kk ls hl)) (kf hc)
theorem x_if_le {x : Int32} {off : Int} (tgt : Nat) (hd : decode M.2.1 pc = .ok (.ifCond .le off, 3)) (ht : (pc : Int) + off = (tgt : Int)) (hp : pc + 3 = pc2) (kt : x ≤ 0 → Ex G d M tgt lv st h Q) (kf : ¬ (x ≤ 0) → Ex G d M pc2 lv st h Q) : Ex G d M pc lv (.int x :: st) h Q := by
  subst hp
  by_cases hc : x ≤ 0
  · exact ex_step (fun p l e R s m args below meth c dC dI dA QF cells slots H locs ls hA hC hl kk => lv_if_le hA.1 hA.2.1 hd ht (fun _ => kk ls hl) (fun q => by first | exact absurd hc q | exact absurd q hc | exact absurd (by simpa using hc) q)) (kt hc)
  · exact ex_step (fun p l e R s m args below meth c dC dI dA QF cells slots H locs ls hA hC hl kk => lv_if_le hA.1 hA.2.1 hd ht (fun q => by first | exact absurd q hc | exact absurd (by simpa using q) hc) (fun _ => kk ls hl)) (kf hc)
theorem x_goto {off : Int} (tgt : Nat) (hd : decode M.2.1 pc = .ok (.goto off, 3)) (ht : (pc : Int) + off = (tgt : Int)) (k : Ex G d M tgt lv st h Q) : Ex G d M pc lv st h Q := ex_step (fun p l e R s m args below meth c dC dI dA QF cells slots H locs ls hA hC hl kk => lv_goto hA.1 hA.2.1 hd ht (kk ls hl)) k
theorem x_ifnull {x : Option Nat} {off : Int} (tgt : Nat) (hd : decode M.2.1 pc = .ok (.ifnull off, 3)) (ht : (pc : Int) + off = (tgt : Int)) (hp : pc + 3 = pc2) (kt : x = none → Ex G d M tgt lv st h Q) (kf : ∀ a, x = some a → Ex G d M pc2 lv st h Q) : Ex G d M pc lv (va_rf x :: st) h Q := by
  subst hp
  cases x with
  | none => exact ex_step (fun p l e R s m args below meth c dC dI dA QF cells slots H locs ls hA hC hl kk => lv_ifnullN hA.1 hA.2.1 hd ht (kk ls hl)) (kt rfl)
  | some x => exact ex_step (fun p l e R s m args below meth c dC dI dA QF cells slots H locs ls hA hC hl kk => lv_ifnull hA.1 hA.2.1 hd (kk ls hl)) (kf x rfl)
theorem x_ifnonnull {x : Option Nat} {off : Int} (tgt : Nat) (hd : decode M.2.1 pc = .ok (.ifnonnull off, 3)) (ht : (pc : Int) + off = (tgt : Int)) (hp : pc + 3 = pc2) (kt : ∀ a, x = some a → Ex G d M tgt lv st h Q) (kf : x = none → Ex G d M pc2 lv st h Q) : Ex G d M pc lv (va_rf x :: st) h Q := by
  subst hp
  cases x with
  | none => exact ex_step (fun p l e R s m args below meth c dC dI dA QF cells slots H locs ls hA hC hl kk => lv_ifnonnullN hA.1 hA.2.1 hd (kk ls hl)) (kf rfl)
  | some x => exact ex_step (fun p l e R s m args below meth c dC dI dA QF cells slots H locs ls hA hC hl kk => lv_ifnonnull hA.1 hA.2.1 hd ht (kk ls hl)) (kt x rfl)
theorem x_tableIn {dflt lo hi : Int} {offs : Array Int} {len : Nat} {x : Int32} {off : Int} (tgt : Nat) (hd : decode M.2.1 pc = .ok (.tableswitch dflt lo hi offs, len)) (h1 : ¬ x.toInt < lo) (h2 : ¬ hi < x.toInt) (ho : offs[(x.toInt - lo).toNat]? = some off) (ht : (pc : Int) + off = (tgt : Int)) (k : Ex G d M tgt lv st h Q) : Ex G d M pc lv (.int x :: st) h Q := ex_step (fun p l e R s m args below meth c dC dI dA QF cells slots H locs ls hA hC hl kk => lv_tableIn hA.1 hA.2.1 hd h1 h2 ho ht (kk ls hl)) k
theorem x_tableOut {dflt lo hi : Int} {offs : Array Int} {len : Nat} {x : Int32} (tgt : Nat) (hd : decode M.2.1 pc = .ok (.tableswitch dflt lo hi offs, len)) (hx : x.toInt < lo ∨ hi < x.toInt) (ht : (pc : Int) + dflt = (tgt : Int)) (k : Ex G d M tgt lv st h Q) : Ex G d M pc lv (.int x :: st) h Q := ex_step (fun p l e R s m args below meth c dC dI dA QF cells slots H locs ls hA hC hl kk => lv_tableOut hA.1 hA.2.1 hd hx ht (kk ls hl)) k
theorem x_lookup {dflt : Int} {ps : Array (Int × Int)} {len : Nat} {x : Int32} {off : Int} (tgt : Nat) (hd : decode M.2.1 pc = .ok (.lookupswitch dflt ps, len)) (hp : (ps.toList.zip (ps.toList.drop 1)).all (fun (a, next) => a.1 < next.1) = true) (ho : Op.lookupswitch.offset ps.toList dflt x.toInt = off) (ht : (pc : Int) + off = (tgt : Int)) (k : Ex G d M tgt lv st h Q) : Ex G d M pc lv (.int x :: st) h Q := ex_step (fun p l e R s m args below meth c dC dI dA QF cells slots H locs ls hA hC hl kk => lv_lookup hA.1 hA.2.1 hd hp ho ht (kk ls hl)) k
theorem x_script {i : Int32} (hin : vp_in i G.2.2.1) (hd : decode M.2.1 pc = .ok (.iaload, 1)) (hp : pc + 1 = pc2) (k : Ex G d M pc2 lv (.int (G.2.2.2 i.toNatClampNeg) :: st) h Q) : Ex G d M pc lv (.int i :: .ref (G.2.1 3) :: st) h Q := by
  subst hp
  refine ex_step (fun p l e R s m args below meth c dC dI dA QF cells slots H locs ls hA hC hl kk => ?_) k
  have hX := hA.2.2.2.2.2.2.2.2.2.2.2.1
  exact va_sld hA.1 hA.2.1 hX.1 (Nat.lt_of_lt_of_le hX.2 hA.2.2.2.2.2.2.2.2.2.2.2.2.2.2.2.2) (A := fun q => G.1 ≤ q) (Nat.not_le.mpr hX.2) hC.2.2 hin hd (kk ls hl)
theorem x_scriptLen (hd : decode M.2.1 pc = .ok (.arraylength, 1)) (hp : pc + 1 = pc2) (k : Ex G d M pc2 lv (.int (Int32.ofNat G.2.2.1) :: st) h Q) : Ex G d M pc lv (.ref (G.2.1 3) :: st) h Q := by
  subst hp
  refine ex_step (fun p l e R s m args below meth c dC dI dA QF cells slots H locs ls hA hC hl kk => ?_) k
  have hX := hA.2.2.2.2.2.2.2.2.2.2.2.1
  exact va_slen hA.1 hA.2.1 hX.1 (Nat.lt_of_lt_of_le hX.2 hA.2.2.2.2.2.2.2.2.2.2.2.2.2.2.2.2) (A := fun q => G.1 ≤ q) (Nat.not_le.mpr hX.2) hC.2.2 hd (kk ls hl)
theorem x_beside {i : Int32} (hin : vp_in i 4) (hd : decode M.2.1 pc = .ok (.iaload, 1)) (hp : pc + 1 = pc2) (k : Ex G d M pc2 lv (.int (bsd i.toNatClampNeg) :: st) h Q) : Ex G d M pc lv (.int i :: .ref (G.2.1 0) :: st) h Q := by
  subst hp
  refine ex_step (fun p l e R s m args below meth c dC dI dA QF cells slots H locs ls hA hC hl kk => ?_) k
  have hX := hA.2.2.2.2.2.2.2.2.2.1
  exact va_ti hA.1 hA.2.1 hX hC.2.2 hin rfl hd (kk ls hl)
theorem x_getBeside {i : Nat} (hw : Cond.fieldLink M.1.cls i "RoundAnothers$Ways" "BESIDE" "[I" ∈ tb) (hd : decode M.2.1 pc = .ok (.getstatic i, 3)) (hp : pc + 3 = pc2) (k : Ex G d M pc2 lv (.ref (G.2.1 0) :: st) h Q) : Ex G d M pc lv st h Q := by
  subst hp
  exact ex_step (fun p l e R s m args below meth c dC dI dA QF cells slots H locs ls hA hC hl kk => va_gets hA.1 hA.2.1 hA.2.2.2.2.2.2.2.2.2.2.1 hC.2.2 hA.2.2.2.2.1 (hA.2.2.2.2.2.1 _ hw) (fun _ q => q) hd (kk ls hl)) k
end XR
