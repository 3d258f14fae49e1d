/-! ===== one instruction of the machine by one step of the small one ===== -/
def qlen (ins : Jvm.ClassFile.Instr) : Nat := match ins with
  | .bipush _ | .ldc _ | .iload _ | .lload _ | .aload _ | .istore _ | .lstore _ | .astore _ | .newarray _ => 2
  | .sipush _ | .ldc_w _ | .ldc2_w _ | .iinc _ _ | .getstatic _ | .getfield _ | .putfield _ | .new _ | .anewarray _ | .goto _ | .ifCond _ _ | .if_icmp _ _ | .ifnull _
  | .invokevirtual _ | .invokestatic _ | .invokespecial _ => 3
  | .multianewarray _ _ => 4
  | .tableswitch _ _ _ _ | .lookupswitch _ _ => 0
  | _ => 1
/-- the walk stands at pc, whatever the heap that holds M -/
def qGo (E : qEnv) (p : Program) (l : Launch) (e : Env) (R : Room) (s : State) (m : MethodId) (args : Array Value) (below : List Frame) (meth : Method) (c : Code) (nL c0 u0 : Nat) (Q : State → Prop) (pc : Nat) (lv : qV) (st : List Value) (M : qM) : Prop :=
  ∀ (H : Heap) (locs : List Loc) (ls : Array Slot), qHR E M H → va_S (qA E) s.heap H locs → qLok E ls nL lv → W p l e R s m args below meth c H locs (qce M - c0) (qus M - u0) Q (F0 m pc ls (st.map (qtv E)))
section QS
variable {E : qEnv} {p : Program} {l : Launch} {e : Env} {R : Room} {s : State} {m : MethodId} {args : Array Value} {below : List Frame} {meth : Method} {c : Code} {nL c0 u0 : Nat} {Q : State → Prop}
variable {cc : ByteArray} {pc : Nat} {lv : qV} {rest : List Value} {M : qM}
theorem qs_iconst (hx : p.tables.exec = Jvm.exec) (hb : c.code = cc) {n : Int} (hd : decode cc pc = .ok (.iconst n, 1)) (k : qGo E p l e R s m args below meth c nL c0 u0 Q (pc + 1) lv (.int (Int32.ofInt n) :: rest) M) : qGo E p l e R s m args below meth c nL c0 u0 Q pc lv rest M :=
  fun H locs ls h1 h2 h3 => lv_iconst hx hb hd rfl (k H locs ls h1 h2 h3)
theorem qs_bipush (hx : p.tables.exec = Jvm.exec) (hb : c.code = cc) {n : Int} (hd : decode cc pc = .ok (.bipush n, 2)) (k : qGo E p l e R s m args below meth c nL c0 u0 Q (pc + 2) lv (.int (Int8.ofInt n).toInt32 :: rest) M) : qGo E p l e R s m args below meth c nL c0 u0 Q pc lv rest M :=
  fun H locs ls h1 h2 h3 => lv_bipush hx hb hd rfl (k H locs ls h1 h2 h3)
theorem qs_sipush (hx : p.tables.exec = Jvm.exec) (hb : c.code = cc) {n : Int} (hd : decode cc pc = .ok (.sipush n, 3)) (k : qGo E p l e R s m args below meth c nL c0 u0 Q (pc + 3) lv (.int (Int16.ofInt n).toInt32 :: rest) M) : qGo E p l e R s m args below meth c nL c0 u0 Q pc lv rest M :=
  fun H locs ls h1 h2 h3 => lv_sipush hx hb hd rfl (k H locs ls h1 h2 h3)
theorem qs_lconst (hx : p.tables.exec = Jvm.exec) (hb : c.code = cc) {n : Fin 2} (hd : decode cc pc = .ok (.lconst n, 1)) (k : qGo E p l e R s m args below meth c nL c0 u0 Q (pc + 1) lv (.long (Int64.ofNat n) :: rest) M) : qGo E p l e R s m args below meth c nL c0 u0 Q pc lv rest M :=
  fun H locs ls h1 h2 h3 => lv_lconst hx hb hd rfl (k H locs ls h1 h2 h3)
theorem qs_iload_n (hx : p.tables.exec = Jvm.exec) (hb : c.code = cc) {n : Fin 4} {v : Int32} (hv : qlk lv n = .int v) (hd : decode cc pc = .ok (.iload_n n, 1)) (k : qGo E p l e R s m args below meth c nL c0 u0 Q (pc + 1) lv (.int v :: rest) M) : qGo E p l e R s m args below meth c nL c0 u0 Q pc lv rest M :=
  fun H locs ls h1 h2 h3 => lv_iload_n hx hb hd rfl (by have := h3.2.2 n (by rw [hv]; trivial); rw [hv] at this; exact this) (k H locs ls h1 h2 h3)
theorem qs_iload (hx : p.tables.exec = Jvm.exec) (hb : c.code = cc) {n : Nat} {v : Int32} (hv : qlk lv n = .int v) (hd : decode cc pc = .ok (.iload n, 2)) (k : qGo E p l e R s m args below meth c nL c0 u0 Q (pc + 2) lv (.int v :: rest) M) : qGo E p l e R s m args below meth c nL c0 u0 Q pc lv rest M :=
  fun H locs ls h1 h2 h3 => lv_iload hx hb hd (by have := h3.2.2 n (by rw [hv]; trivial); rw [hv] at this; exact this) (k H locs ls h1 h2 h3)
theorem qs_lload_n (hx : p.tables.exec = Jvm.exec) (hb : c.code = cc) {n : Fin 4} {v : Int64} (hv : qlk lv n = .long v) (hd : decode cc pc = .ok (.lload_n n, 1)) (k : qGo E p l e R s m args below meth c nL c0 u0 Q (pc + 1) lv (.long v :: rest) M) : qGo E p l e R s m args below meth c nL c0 u0 Q pc lv rest M :=
  fun H locs ls h1 h2 h3 => lv_lload_n hx hb hd rfl (by have := h3.2.2 n (by rw [hv]; trivial); rw [hv] at this; exact this) (k H locs ls h1 h2 h3)
theorem qs_lload (hx : p.tables.exec = Jvm.exec) (hb : c.code = cc) {n : Nat} {v : Int64} (hv : qlk lv n = .long v) (hd : decode cc pc = .ok (.lload n, 2)) (k : qGo E p l e R s m args below meth c nL c0 u0 Q (pc + 2) lv (.long v :: rest) M) : qGo E p l e R s m args below meth c nL c0 u0 Q pc lv rest M :=
  fun H locs ls h1 h2 h3 => lv_lload hx hb hd (by have := h3.2.2 n (by rw [hv]; trivial); rw [hv] at this; exact this) (k H locs ls h1 h2 h3)
theorem qs_aload_n (hx : p.tables.exec = Jvm.exec) (hb : c.code = cc) {n : Fin 4} {v : Nat} (hv : qlk lv n = .ref v) (hd : decode cc pc = .ok (.aload_n n, 1)) (k : qGo E p l e R s m args below meth c nL c0 u0 Q (pc + 1) lv (.ref v :: rest) M) : qGo E p l e R s m args below meth c nL c0 u0 Q pc lv rest M := fun H locs ls h1 h2 h3 => by
  have h4 := h3.2.2 n (by rw [hv]; trivial)
  rw [hv] at h4
  have h5 := k H locs ls h1 h2 h3
  rw [List.map_cons] at h5
  simp only [qtv] at h4 h5
  cases hr : qrf E v with
  | none => rw [hr] at h4 h5; exact lv_aload_nN hx hb hd rfl h4 h5
  | some z => rw [hr] at h4 h5; exact lv_aload_n hx hb hd rfl h4 h5
theorem qs_aload (hx : p.tables.exec = Jvm.exec) (hb : c.code = cc) {n : Nat} {v : Nat} (hv : qlk lv n = .ref v) (hd : decode cc pc = .ok (.aload n, 2)) (k : qGo E p l e R s m args below meth c nL c0 u0 Q (pc + 2) lv (.ref v :: rest) M) : qGo E p l e R s m args below meth c nL c0 u0 Q pc lv rest M := fun H locs ls h1 h2 h3 => by
  have h4 := h3.2.2 n (by rw [hv]; trivial)
  rw [hv] at h4
  have h5 := k H locs ls h1 h2 h3
  rw [List.map_cons] at h5
  simp only [qtv] at h4 h5
  cases hr : qrf E v with
  | none => rw [hr] at h4 h5; exact lv_aloadN hx hb hd h4 h5
  | some z => rw [hr] at h4 h5; exact lv_aload hx hb hd h4 h5
theorem qs_istore_n (hx : p.tables.exec = Jvm.exec) (hb : c.code = cc) {n : Fin 4} {v : Int32} (hn : (n : Nat) < nL) (hd : decode cc pc = .ok (.istore_n n, 1)) (k : qGo E p l e R s m args below meth c nL c0 u0 Q (pc + 1) (qst1 lv n (.int v)) rest M) : qGo E p l e R s m args below meth c nL c0 u0 Q pc lv (.int v :: rest) M :=
  fun H locs ls h1 h2 h3 => lv_istore_n hx hb hd rfl (qLok_has h3) hn rfl (fun ls' h' => k H locs ls' h1 h2 (qLok_st1 h3 hn h'))
theorem qs_istore (hx : p.tables.exec = Jvm.exec) (hb : c.code = cc) {n : Nat} {v : Int32} (hn : n < nL) (hd : decode cc pc = .ok (.istore n, 2)) (k : qGo E p l e R s m args below meth c nL c0 u0 Q (pc + 2) (qst1 lv n (.int v)) rest M) : qGo E p l e R s m args below meth c nL c0 u0 Q pc lv (.int v :: rest) M :=
  fun H locs ls h1 h2 h3 => lv_istore hx hb hd (qLok_has h3) hn rfl (fun ls' h' => k H locs ls' h1 h2 (qLok_st1 h3 hn h'))
theorem qs_lstore_n (hx : p.tables.exec = Jvm.exec) (hb : c.code = cc) {n : Fin 4} {v : Int64} (hn : (n : Nat) + 1 < nL) (hd : decode cc pc = .ok (.lstore_n n, 1)) (k : qGo E p l e R s m args below meth c nL c0 u0 Q (pc + 1) (qst2 lv n (.long v)) rest M) : qGo E p l e R s m args below meth c nL c0 u0 Q pc lv (.long v :: rest) M :=
  fun H locs ls h1 h2 h3 => lv_lstore_n hx hb hd rfl (qLok_has h3) hn rfl (fun ls' h' => k H locs ls' h1 h2 (qLok_st2 h3 hn h'))
theorem qs_lstore (hx : p.tables.exec = Jvm.exec) (hb : c.code = cc) {n : Nat} {v : Int64} (hn : n + 1 < nL) (hd : decode cc pc = .ok (.lstore n, 2)) (k : qGo E p l e R s m args below meth c nL c0 u0 Q (pc + 2) (qst2 lv n (.long v)) rest M) : qGo E p l e R s m args below meth c nL c0 u0 Q pc lv (.long v :: rest) M :=
  fun H locs ls h1 h2 h3 => lv_lstore hx hb hd (qLok_has h3) hn rfl (fun ls' h' => k H locs ls' h1 h2 (qLok_st2 h3 hn h'))
theorem qs_astore_n (hx : p.tables.exec = Jvm.exec) (hb : c.code = cc) {n : Fin 4} {v : Nat} (hn : (n : Nat) < nL) (hd : decode cc pc = .ok (.astore_n n, 1)) (k : qGo E p l e R s m args below meth c nL c0 u0 Q (pc + 1) (qst1 lv n (.ref v)) rest M) : qGo E p l e R s m args below meth c nL c0 u0 Q pc lv (.ref v :: rest) M := fun H locs ls h1 h2 h3 => by
  have key : ∀ ls', lv_has ls' nL (((n : Nat), qtv E (.ref v)) :: (qls E nL lv).filter (fun q => !(q.1 == (n : Nat)) && !(q.1 + 1 == (n : Nat) && q.2.category == 2))) → W p l e R s m args below meth c H locs (qce M - c0) (qus M - u0) Q (F0 m (pc + 1) ls' (rest.map (qtv E))) := fun ls' h' => k H locs ls' h1 h2 (qLok_st1 h3 hn h')
  rw [List.map_cons]
  simp only [qtv] at key ⊢
  cases hr : qrf E v with
  | none => rw [hr] at key; exact lv_astore_nN hx hb hd rfl (qLok_has h3) hn rfl key
  | some z => rw [hr] at key; exact lv_astore_n hx hb hd rfl (qLok_has h3) hn rfl key
theorem qs_astore (hx : p.tables.exec = Jvm.exec) (hb : c.code = cc) {n : Nat} {v : Nat} (hn : n < nL) (hd : decode cc pc = .ok (.astore n, 2)) (k : qGo E p l e R s m args below meth c nL c0 u0 Q (pc + 2) (qst1 lv n (.ref v)) rest M) : qGo E p l e R s m args below meth c nL c0 u0 Q pc lv (.ref v :: rest) M := fun H locs ls h1 h2 h3 => by
  have key : ∀ ls', lv_has ls' nL ((n, qtv E (.ref v)) :: (qls E nL lv).filter (fun q => !(q.1 == n) && !(q.1 + 1 == n && q.2.category == 2))) → W p l e R s m args below meth c H locs (qce M - c0) (qus M - u0) Q (F0 m (pc + 2) ls' (rest.map (qtv E))) := fun ls' h' => k H locs ls' h1 h2 (qLok_st1 h3 hn h')
  rw [List.map_cons]
  simp only [qtv] at key ⊢
  cases hr : qrf E v with
  | none => rw [hr] at key; exact lv_astoreN hx hb hd (qLok_has h3) hn rfl key
  | some z => rw [hr] at key; exact lv_astore hx hb hd (qLok_has h3) hn rfl key
theorem qs_iinc (hx : p.tables.exec = Jvm.exec) (hb : c.code = cc) {n : Nat} {i : Int} {v : Int32} (hv : qlk lv n = .int v) (hd : decode cc pc = .ok (.iinc n i, 3)) (k : qGo E p l e R s m args below meth c nL c0 u0 Q (pc + 3) (qst1 lv n (.int (v + Int32.ofInt i))) rest M) : qGo E p l e R s m args below meth c nL c0 u0 Q pc lv rest M := fun H locs ls h1 h2 h3 => by
  have hq : qdf (qlk lv n) := by rw [hv]; trivial
  have hn := qLok_lt h3 hq
  have hm : (n, Value.int v) ∈ qls E nL lv := qls_mem.mpr ⟨hn, hq, by rw [hv]; rfl⟩
  obtain ⟨j, hj⟩ := List.getElem?_of_mem hm
  exact lv_iinc hx hb hd (qLok_has h3) (k := j) hj rfl hn rfl (fun ls' h' => k H locs ls' h1 h2 (qLok_st1 h3 hn h'))
theorem qs_iadd (hx : p.tables.exec = Jvm.exec) (hb : c.code = cc) {x y : Int32} (hd : decode cc pc = .ok (.iadd, 1)) (k : qGo E p l e R s m args below meth c nL c0 u0 Q (pc + 1) lv (.int (x + y) :: rest) M) : qGo E p l e R s m args below meth c nL c0 u0 Q pc lv (.int y :: .int x :: rest) M :=
  fun H locs ls h1 h2 h3 => lv_iadd hx hb hd (k H locs ls h1 h2 h3)
theorem qs_isub (hx : p.tables.exec = Jvm.exec) (hb : c.code = cc) {x y : Int32} (hd : decode cc pc = .ok (.isub, 1)) (k : qGo E p l e R s m args below meth c nL c0 u0 Q (pc + 1) lv (.int (x - y) :: rest) M) : qGo E p l e R s m args below meth c nL c0 u0 Q pc lv (.int y :: .int x :: rest) M :=
  fun H locs ls h1 h2 h3 => lv_isub hx hb hd (k H locs ls h1 h2 h3)
theorem qs_imul (hx : p.tables.exec = Jvm.exec) (hb : c.code = cc) {x y : Int32} (hd : decode cc pc = .ok (.imul, 1)) (k : qGo E p l e R s m args below meth c nL c0 u0 Q (pc + 1) lv (.int (x * y) :: rest) M) : qGo E p l e R s m args below meth c nL c0 u0 Q pc lv (.int y :: .int x :: rest) M :=
  fun H locs ls h1 h2 h3 => lv_imul hx hb hd (k H locs ls h1 h2 h3)
theorem qs_iand (hx : p.tables.exec = Jvm.exec) (hb : c.code = cc) {x y : Int32} (hd : decode cc pc = .ok (.iand, 1)) (k : qGo E p l e R s m args below meth c nL c0 u0 Q (pc + 1) lv (.int (x &&& y) :: rest) M) : qGo E p l e R s m args below meth c nL c0 u0 Q pc lv (.int y :: .int x :: rest) M :=
  fun H locs ls h1 h2 h3 => lv_iand hx hb hd (k H locs ls h1 h2 h3)
theorem qs_ior (hx : p.tables.exec = Jvm.exec) (hb : c.code = cc) {x y : Int32} (hd : decode cc pc = .ok (.ior, 1)) (k : qGo E p l e R s m args below meth c nL c0 u0 Q (pc + 1) lv (.int (x ||| y) :: rest) M) : qGo E p l e R s m args below meth c nL c0 u0 Q pc lv (.int y :: .int x :: rest) M :=
  fun H locs ls h1 h2 h3 => lv_ior hx hb hd (k H locs ls h1 h2 h3)
theorem qs_ixor (hx : p.tables.exec = Jvm.exec) (hb : c.code = cc) {x y : Int32} (hd : decode cc pc = .ok (.ixor, 1)) (k : qGo E p l e R s m args below meth c nL c0 u0 Q (pc + 1) lv (.int (x ^^^ y) :: rest) M) : qGo E p l e R s m args below meth c nL c0 u0 Q pc lv (.int y :: .int x :: rest) M :=
  fun H locs ls h1 h2 h3 => lv_ixor hx hb hd (k H locs ls h1 h2 h3)
theorem qs_ishl (hx : p.tables.exec = Jvm.exec) (hb : c.code = cc) {x y : Int32} (hd : decode cc pc = .ok (.ishl, 1)) (k : qGo E p l e R s m args below meth c nL c0 u0 Q (pc + 1) lv (.int (x <<< (y &&& 31)) :: rest) M) : qGo E p l e R s m args below meth c nL c0 u0 Q pc lv (.int y :: .int x :: rest) M :=
  fun H locs ls h1 h2 h3 => lv_ishl hx hb hd (k H locs ls h1 h2 h3)
theorem qs_ishr (hx : p.tables.exec = Jvm.exec) (hb : c.code = cc) {x y : Int32} (hd : decode cc pc = .ok (.ishr, 1)) (k : qGo E p l e R s m args below meth c nL c0 u0 Q (pc + 1) lv (.int (x >>> (y &&& 31)) :: rest) M) : qGo E p l e R s m args below meth c nL c0 u0 Q pc lv (.int y :: .int x :: rest) M :=
  fun H locs ls h1 h2 h3 => lv_ishr hx hb hd (k H locs ls h1 h2 h3)
theorem qs_iushr (hx : p.tables.exec = Jvm.exec) (hb : c.code = cc) {x y : Int32} (hd : decode cc pc = .ok (.iushr, 1)) (k : qGo E p l e R s m args below meth c nL c0 u0 Q (pc + 1) lv (.int (x.toUInt32 >>> (y.toUInt32 &&& Int32.toUInt32 31)).toInt32 :: rest) M) : qGo E p l e R s m args below meth c nL c0 u0 Q pc lv (.int y :: .int x :: rest) M :=
  fun H locs ls h1 h2 h3 => lv_iushr hx hb hd rfl (k H locs ls h1 h2 h3)
theorem qs_idiv (hx : p.tables.exec = Jvm.exec) (hb : c.code = cc) {x y : Int32} (hn : ¬ y = 0) (hd : decode cc pc = .ok (.idiv, 1)) (k : qGo E p l e R s m args below meth c nL c0 u0 Q (pc + 1) lv (.int (x / y) :: rest) M) : qGo E p l e R s m args below meth c nL c0 u0 Q pc lv (.int y :: .int x :: rest) M :=
  fun H locs ls h1 h2 h3 => lv_idiv hx hb hd hn (k H locs ls h1 h2 h3)
theorem qs_irem (hx : p.tables.exec = Jvm.exec) (hb : c.code = cc) {x y : Int32} (hn : ¬ y = 0) (hd : decode cc pc = .ok (.irem, 1)) (k : qGo E p l e R s m args below meth c nL c0 u0 Q (pc + 1) lv (.int (x - x / y * y) :: rest) M) : qGo E p l e R s m args below meth c nL c0 u0 Q pc lv (.int y :: .int x :: rest) M :=
  fun H locs ls h1 h2 h3 => lv_irem hx hb hd hn (k H locs ls h1 h2 h3)
theorem qs_ineg (hx : p.tables.exec = Jvm.exec) (hb : c.code = cc) {x : Int32} (hd : decode cc pc = .ok (.ineg, 1)) (k : qGo E p l e R s m args below meth c nL c0 u0 Q (pc + 1) lv (.int (-x) :: rest) M) : qGo E p l e R s m args below meth c nL c0 u0 Q pc lv (.int x :: rest) M :=
  fun H locs ls h1 h2 h3 => lv_ineg hx hb hd (k H locs ls h1 h2 h3)
theorem qs_i2l (hx : p.tables.exec = Jvm.exec) (hb : c.code = cc) {x : Int32} (hd : decode cc pc = .ok (.i2l, 1)) (k : qGo E p l e R s m args below meth c nL c0 u0 Q (pc + 1) lv (.long x.toInt64 :: rest) M) : qGo E p l e R s m args below meth c nL c0 u0 Q pc lv (.int x :: rest) M :=
  fun H locs ls h1 h2 h3 => lv_i2l hx hb hd rfl (k H locs ls h1 h2 h3)
theorem qs_i2c (hx : p.tables.exec = Jvm.exec) (hb : c.code = cc) {x : Int32} (hd : decode cc pc = .ok (.i2c, 1)) (k : qGo E p l e R s m args below meth c nL c0 u0 Q (pc + 1) lv (.int (x.toUInt32 % 65536).toInt32 :: rest) M) : qGo E p l e R s m args below meth c nL c0 u0 Q pc lv (.int x :: rest) M :=
  fun H locs ls h1 h2 h3 => lv_i2c hx hb hd rfl (k H locs ls h1 h2 h3)
theorem qs_ladd (hx : p.tables.exec = Jvm.exec) (hb : c.code = cc) {x y : Int64} (hd : decode cc pc = .ok (.ladd, 1)) (k : qGo E p l e R s m args below meth c nL c0 u0 Q (pc + 1) lv (.long (x + y) :: rest) M) : qGo E p l e R s m args below meth c nL c0 u0 Q pc lv (.long y :: .long x :: rest) M :=
  fun H locs ls h1 h2 h3 => lv_ladd hx hb hd (k H locs ls h1 h2 h3)
theorem qs_lsub (hx : p.tables.exec = Jvm.exec) (hb : c.code = cc) {x y : Int64} (hd : decode cc pc = .ok (.lsub, 1)) (k : qGo E p l e R s m args below meth c nL c0 u0 Q (pc + 1) lv (.long (x - y) :: rest) M) : qGo E p l e R s m args below meth c nL c0 u0 Q pc lv (.long y :: .long x :: rest) M :=
  fun H locs ls h1 h2 h3 => lv_lsub hx hb hd (k H locs ls h1 h2 h3)
theorem qs_lmul (hx : p.tables.exec = Jvm.exec) (hb : c.code = cc) {x y : Int64} (hd : decode cc pc = .ok (.lmul, 1)) (k : qGo E p l e R s m args below meth c nL c0 u0 Q (pc + 1) lv (.long (x * y) :: rest) M) : qGo E p l e R s m args below meth c nL c0 u0 Q pc lv (.long y :: .long x :: rest) M :=
  fun H locs ls h1 h2 h3 => lv_lmul hx hb hd (k H locs ls h1 h2 h3)
theorem qs_lcmp (hx : p.tables.exec = Jvm.exec) (hb : c.code = cc) {x y : Int64} (hd : decode cc pc = .ok (.lcmp, 1)) (k : qGo E p l e R s m args below meth c nL c0 u0 Q (pc + 1) lv (.int (lg_cmp x y) :: rest) M) : qGo E p l e R s m args below meth c nL c0 u0 Q pc lv (.long y :: .long x :: rest) M :=
  fun H locs ls h1 h2 h3 => W.lcmp hx hb hd (k H locs ls h1 h2 h3)
theorem qtv_c1 (a : Nat) : (qtv E (.ref a)).category = 1 := (qtv_cat E (.ref a)).trans rfl
theorem qs_dup (hx : p.tables.exec = Jvm.exec) (hb : c.code = cc) {v : Value} (hv : v.category = 1) (hd : decode cc pc = .ok (.dup, 1)) (k : qGo E p l e R s m args below meth c nL c0 u0 Q (pc + 1) lv (v :: v :: rest) M) : qGo E p l e R s m args below meth c nL c0 u0 Q pc lv (v :: rest) M :=
  fun H locs ls h1 h2 h3 => lv_dup hx hb hd ((qtv_cat E v).trans hv) (k H locs ls h1 h2 h3)
theorem qs_dup2 (hx : p.tables.exec = Jvm.exec) (hb : c.code = cc) {v w : Value} (hv : v.category = 1) (hw : w.category = 1) (hd : decode cc pc = .ok (.dup2, 1)) (k : qGo E p l e R s m args below meth c nL c0 u0 Q (pc + 1) lv (v :: w :: v :: w :: rest) M) : qGo E p l e R s m args below meth c nL c0 u0 Q pc lv (v :: w :: rest) M :=
  fun H locs ls h1 h2 h3 => lv_dup2_11 hx hb hd ((qtv_cat E v).trans hv) ((qtv_cat E w).trans hw) (k H locs ls h1 h2 h3)
theorem qs_pop (hx : p.tables.exec = Jvm.exec) (hb : c.code = cc) {v : Value} (hv : v.category = 1) (hd : decode cc pc = .ok (.pop, 1)) (k : qGo E p l e R s m args below meth c nL c0 u0 Q (pc + 1) lv rest M) : qGo E p l e R s m args below meth c nL c0 u0 Q pc lv (v :: rest) M :=
  fun H locs ls h1 h2 h3 => lv_pop hx hb hd ((qtv_cat E v).trans hv) (k H locs ls h1 h2 h3)
theorem qs_goto (hx : p.tables.exec = Jvm.exec) (hb : c.code = cc) {o : Int} {t : Nat} (ht : (pc : Int) + o = t) (hd : decode cc pc = .ok (.goto o, 3)) (k : qGo E p l e R s m args below meth c nL c0 u0 Q t lv rest M) : qGo E p l e R s m args below meth c nL c0 u0 Q pc lv rest M :=
  fun H locs ls h1 h2 h3 => lv_goto hx hb hd ht (k H locs ls h1 h2 h3)
theorem qs_if (hx : p.tables.exec = Jvm.exec) (hb : c.code = cc) {q : Jvm.ClassFile.Cond} {o : Int} {t : Nat} {x : Int32} (ht : (pc : Int) + o = t) (hd : decode cc pc = .ok (.ifCond q o, 3)) (k1 : qc0 q x → qGo E p l e R s m args below meth c nL c0 u0 Q t lv rest M) (k2 : ¬ qc0 q x → qGo E p l e R s m args below meth c nL c0 u0 Q (pc + 3) lv rest M) : qGo E p l e R s m args below meth c nL c0 u0 Q pc lv (.int x :: rest) M := fun H locs ls h1 h2 h3 => by
  have g1 := fun h => k1 h H locs ls h1 h2 h3
  have g2 := fun h => k2 h H locs ls h1 h2 h3
  cases q
  · exact lv_if_eq hx hb hd ht g1 g2
  · exact lv_if_ne hx hb hd ht g1 (fun h => g2 (fun z => z h))
  · exact lv_if_lt hx hb hd ht g1 g2
  · exact lv_if_ge hx hb hd ht g1 g2
  · exact lv_if_gt hx hb hd ht g1 g2
  · exact lv_if_le hx hb hd ht g1 g2
theorem qs_ific (hx : p.tables.exec = Jvm.exec) (hb : c.code = cc) {q : Jvm.ClassFile.Cond} {o : Int} {t : Nat} {x y : Int32} (ht : (pc : Int) + o = t) (hd : decode cc pc = .ok (.if_icmp q o, 3)) (k1 : qc2 q x y → qGo E p l e R s m args below meth c nL c0 u0 Q t lv rest M) (k2 : ¬ qc2 q x y → qGo E p l e R s m args below meth c nL c0 u0 Q (pc + 3) lv rest M) : qGo E p l e R s m args below meth c nL c0 u0 Q pc lv (.int y :: .int x :: rest) M := fun H locs ls h1 h2 h3 => by
  have g1 := fun h => k1 h H locs ls h1 h2 h3
  have g2 := fun h => k2 h H locs ls h1 h2 h3
  cases q
  · exact lv_icmp_eq hx hb hd ht g1 g2
  · exact lv_icmp_ne hx hb hd ht g1 (fun h => g2 (fun z => z h))
  · exact lv_icmp_lt hx hb hd ht g1 g2
  · exact lv_icmp_ge hx hb hd ht g1 g2
  · exact lv_icmp_gt hx hb hd ht g1 g2
  · exact lv_icmp_le hx hb hd ht g1 g2
theorem qs_ifnull (hx : p.tables.exec = Jvm.exec) (hb : c.code = cc) {o : Int} {t : Nat} {a : Nat} (ht : (pc : Int) + o = t) (hd : decode cc pc = .ok (.ifnull o, 3)) (k1 : a = 0 → qGo E p l e R s m args below meth c nL c0 u0 Q t lv rest M) (k2 : ¬ a = 0 → qGo E p l e R s m args below meth c nL c0 u0 Q (pc + 3) lv rest M) : qGo E p l e R s m args below meth c nL c0 u0 Q pc lv (.ref a :: rest) M := fun H locs ls h1 h2 h3 => by
  rw [List.map_cons]
  simp only [qtv, qrf]
  by_cases h : a = 0
  · rw [if_pos h]
    exact lv_ifnullN hx hb hd ht (k1 h H locs ls h1 h2 h3)
  · rw [if_neg h]
    exact lv_ifnull hx hb hd (k2 h H locs ls h1 h2 h3)
end QS
