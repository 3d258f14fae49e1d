/-! ===== one instruction of the machine by one step of the small one ===== -/
def qlen (ins : Jvm.ClassFile.Instr) : Nat := match ins with
  | .bipush _ | .ldc _ | .iload _ | .lload _ | .aload _ | .istore _ | .lstore _ | .astore _ | .newarray _ => 2
  | .sipush _ | .ldc_w _ | .ldc2_w _ | .iinc _ _ | .getstatic _ | .getfield _ | .putfield _ | .new _ | .anewarray _ | .goto _ | .ifCond _ _ | .if_icmp _ _ | .ifnull _
  | .invokevirtual _ | .invokestatic _ | .invokespecial _ => 3
  | .multianewarray _ _ => 4
  | .tableswitch _ _ _ _ | .lookupswitch _ _ => 0
  | _ => 1
/-- the walk stands at pc, whatever the heap that holds M -/
def qGo (E : qEnv) (p : Program) (l : Launch) (e : Env) (R : Room) (s : State) (m : MethodId) (args : Array Value) (below : List Frame) (meth : Method) (c : Code) (nL c0 u0 : Nat) (Q : State → Prop) (pc : Nat) (lv : qV) (st : List Value) (M : qM) : Prop :=
  ∀ (H : Heap) (locs : List Loc) (ls : Array Slot), qHR E M H → va_S (qA E) s.heap H locs → qLok E ls nL lv → W p l e R s m args below meth c H locs (qce M - c0) (qus M - u0) Q (F0 m pc ls (st.map (qtv E)))
section QS
variable {E : qEnv} {p : Program} {l : Launch} {e : Env} {R : Room} {s : State} {m : MethodId} {args : Array Value} {below : List Frame} {meth : Method} {c : Code} {nL c0 u0 : Nat} {Q : State → Prop}
variable {cc : ByteArray} {pc : Nat} {lv : qV} {rest : List Value} {M : qM}
theorem qs_iconst (hx : p.tables.exec = Jvm.exec) (hb : c.code = cc) {n : Int} (hd : decode cc pc = .ok (.iconst n, 1)) (k : qGo E p l e R s m args below meth c nL c0 u0 Q (pc + 1) lv (.int (Int32.ofInt n) :: rest) M) : qGo E p l e R s m args below meth c nL c0 u0 Q pc lv rest M :=
  fun H locs ls h1 h2 h3 => lv_iconst hx hb hd rfl (k H locs ls h1 h2 h3)
theorem qs_bipush (hx : p.tables.exec = Jvm.exec) (hb : c.code = cc) {n : Int} (hd : decode cc pc = .ok (.bipush n, 2)) (k : qGo E p l e R s m args below meth c nL c0 u0 Q (pc + 2) lv (.int (Int8.ofInt n).toInt32 :: rest) M) : qGo E p l e R s m args below meth c nL c0 u0 Q pc lv rest M :=
  fun H locs ls h1 h2 h3 => lv_bipush hx hb hd rfl (k H locs ls h1 h2 h3)
theorem qs_sipush (hx : p.tables.exec = Jvm.exec) (hb : c.code = cc) {n : Int} (hd : decode cc pc = .ok (.sipush n, 3)) (k : qGo E p l e R s m args below meth c nL c0 u0 Q (pc + 3) lv (.int (Int16.ofInt n).toInt32 :: rest) M) : qGo E p l e R s m args below meth c nL c0 u0 Q pc lv rest M :=
  fun H locs ls h1 h2 h3 => lv_sipush hx hb hd rfl (k H locs ls h1 h2 h3)
theorem qs_lconst (hx : p.tables.exec = Jvm.exec) (hb : c.code = cc) {n : Fin 2} (hd : decode cc pc = .ok (.lconst n, 1)) (k : qGo E p l e R s m args below meth c nL c0 u0 Q (pc + 1) lv (.long (Int64.ofNat n) :: rest) M) : qGo E p l e R s m args below meth c nL c0 u0 Q pc lv rest M :=
  fun H locs ls h1 h2 h3 => lv_lconst hx hb hd rfl (k H locs ls h1 h2 h3)
theorem qs_iload_n (hx : p.tables.exec = Jvm.exec) (hb : c.code = cc) {n : Fin 4} {v : Int32} (hv : qlk lv n = .int v) (hd : decode cc pc = .ok (.iload_n n, 1)) (k : qGo E p l e R s m args below meth c nL c0 u0 Q (pc + 1) lv (.int v :: rest) M) : qGo E p l e R s m args below meth c nL c0 u0 Q pc lv rest M :=
  fun H locs ls h1 h2 h3 => lv_iload_n hx hb hd rfl (by have := h3.2.2 n (by rw [hv]; trivial); rw [hv] at this; exact this) (k H locs ls h1 h2 h3)
theorem qs_iload (hx : p.tables.exec = Jvm.exec) (hb : c.code = cc) {n : Nat} {v : Int32} (hv : qlk lv n = .int v) (hd : decode cc pc = .ok (.iload n, 2)) (k : qGo E p l e R s m args below meth c nL c0 u0 Q (pc + 2) lv (.int v :: rest) M) : qGo E p l e R s m args below meth c nL c0 u0 Q pc lv rest M :=
  fun H locs ls h1 h2 h3 => lv_iload hx hb hd (by have := h3.2.2 n (by rw [hv]; trivial); rw [hv] at this; exact this) (k H locs ls h1 h2 h3)
theorem qs_lload_n (hx : p.tables.exec = Jvm.exec) (hb : c.code = cc) {n : Fin 4} {v : Int64} (hv : qlk lv n = .long v) (hd : decode cc pc = .ok (.lload_n n, 1)) (k : qGo E p l e R s m args below meth c nL c0 u0 Q (pc + 1) lv (.long v :: rest) M) : qGo E p l e R s m args below meth c nL c0 u0 Q pc lv rest M :=
  fun H locs ls h1 h2 h3 => lv_lload_n hx hb hd rfl (by have := h3.2.2 n (by rw [hv]; trivial); rw [hv] at this; exact this) (k H locs ls h1 h2 h3)
theorem qs_lload (hx : p.tables.exec = Jvm.exec) (hb : c.code = cc) {n : Nat} {v : Int64} (hv : qlk lv n = .long v) (hd : decode cc pc = .ok (.lload n, 2)) (k : qGo E p l e R s m args below meth c nL c0 u0 Q (pc + 2) lv (.long v :: rest) M) : qGo E p l e R s m args below meth c nL c0 u0 Q pc lv rest M :=
  fun H locs ls h1 h2 h3 => lv_lload hx hb hd (by have := h3.2.2 n (by rw [hv]; trivial); rw [hv] at this; exact this) (k H locs ls h1 h2 h3)
theorem qs_aload_n (hx : p.tables.exec = Jvm.exec) (hb : c.code = cc) {n : Fin 4} {v : Nat} (hv : qlk lv n = .ref v) (hd : decode cc pc = .ok (.aload_n n, 1)) (k : qGo E p l e R s m args below meth c nL c0 u0 Q (pc + 1) lv (.ref v :: rest) M) : qGo E p l e R s m args below meth c nL c0 u0 Q pc lv rest M := fun H locs ls h1 h2 h3 => by
  have h4 := h3.2.2 n (by rw [hv]; trivial)
  rw [hv] at h4
  have h5 := k H locs ls h1 h2 h3
  rw [List.map_cons] at h5
  simp only [qtv] at h4 h5
  cases hr : qrf E v with
  | none => rw [hr] at h4 h5; exact lv_aload_nN hx hb hd rfl h4 h5
  | some z => rw [hr] at h4 h5; exact lv_aload_n hx hb hd rfl h4 h5
theorem qs_aload (hx : p.tables.exec = Jvm.exec) (hb : c.code = cc) {n : Nat} {v : Nat} (hv : qlk lv n = .ref v) (hd : decode cc pc = .ok (.aload n, 2)) (k : qGo E p l e R s m args below meth c nL c0 u0 Q (pc + 2) lv (.ref v :: rest) M) : qGo E p l e R s m args below meth c nL c0 u0 Q pc lv rest M := fun H locs ls h1 h2 h3 => by
  have h4 := h3.2.2 n (by rw [hv]; trivial)
  rw [hv] at h4
  have h5 := k H locs ls h1 h2 h3
  rw [List.map_cons] at h5
  simp only [qtv] at h4 h5
  cases hr : qrf E v with
  | none => rw [hr] at h4 h5; exact lv_aloadN hx hb hd h4 h5
  | some z => rw [hr] at h4 h5; exact lv_aload hx hb hd h4 h5
theorem qs_istore_n (hx : p.tables.exec = Jvm.exec) (hb : c.code = cc) {n : Fin 4} {v : Int32} (hn : (n : Nat) < nL) (hd : decode cc pc = .ok (.istore_n n, 1)) (k : qGo E p l e R s m args below meth c nL c0 u0 Q (pc + 1) (qst1 lv n (.int v)) rest M) : qGo E p l e R s m args below meth c nL c0 u0 Q pc lv (.int v :: rest) M :=
  fun H locs ls h1 h2 h3 => lv_istore_n hx hb hd rfl (qLok_has h3) hn rfl (fun ls' h' => k H locs ls' h1 h2 (qLok_st1 h3 hn h'))
theorem qs_istore (hx : p.tables.exec = Jvm.exec) (hb : c.code = cc) {n : Nat} {v : Int32} (hn : n < nL) (hd : decode cc pc = .ok (.istore n, 2)) (k : qGo E p l e R s m args below meth c nL c0 u0 Q (pc + 2) (qst1 lv n (.int v)) rest M) : qGo E p l e R s m args below meth c nL c0 u0 Q pc lv (.int v :: rest) M :=
  fun H locs ls h1 h2 h3 => lv_istore hx hb hd (qLok_has h3) hn rfl (fun ls' h' => k H locs ls' h1 h2 (qLok_st1 h3 hn h'))
theorem qs_lstore_n (hx : p.tables.exec = Jvm.exec) (hb : c.code = cc) {n : Fin 4} {v : Int64} (hn : (n : Nat) + 1 < nL) (hd : decode cc pc = .ok (.lstore_n n, 1)) (k : qGo E p l e R s m args below meth c nL c0 u0 Q (pc + 1) (qst2 lv n (.long v)) rest M) : qGo E p l e R s m args below meth c nL c0 u0 Q pc lv (.long v :: rest) M :=
  fun H locs ls h1 h2 h3 => lv_lstore_n hx hb hd rfl (qLok_has h3) hn rfl (fun ls' h' => k H locs ls' h1 h2 (qLok_st2 h3 hn h'))
theorem qs_lstore (hx : p.tables.exec = Jvm.exec) (hb : c.code = cc) {n : Nat} {v : Int64} (hn : n + 1 < nL) (hd : decode cc pc = .ok (.lstore n, 2)) (k : qGo E p l e R s m args below meth c nL c0 u0 Q (pc + 2) (qst2 lv n (.long v)) rest M) : qGo E p l e R s m args below meth c nL c0 u0 Q pc lv (.long v :: rest) M :=
  fun H locs ls h1 h2 h3 => lv_lstore hx hb hd (qLok_has h3) hn rfl (fun ls' h' => k H locs ls' h1 h2 (qLok_st2 h3 hn h'))
theorem qs_astore_n (hx : p.tables.exec = Jvm.exec) (hb : c.code = cc) {n : Fin 4} {v : Nat} (hn : (n : Nat) < nL) (hd : decode cc pc = .ok (.astore_n n, 1)) (k : qGo E p l e R s m args below meth c nL c0 u0 Q (pc + 1) (qst1 lv n (.ref v)) rest M) : qGo E p l e R s m args below meth c nL c0 u0 Q pc lv (.ref v :: rest) M := fun H locs ls h1 h2 h3 => by
  have key : ∀ ls', lv_has ls' nL (((n : Nat), qtv E (.ref v)) :: (qls E nL lv).filter (fun q => !(q.1 == (n : Nat)) && !(q.1 + 1 == (n : Nat) && q.2.category == 2))) → W p l e R s m args below meth c H locs (qce M - c0) (qus M - u0) Q (F0 m (pc + 1) ls' (rest.map (qtv E))) := fun ls' h' => k H locs ls' h1 h2 (qLok_st1 h3 hn h')
  rw [List.map_cons]
  simp only [qtv] at key ⊢
  cases hr : qrf E v with
  | none => rw [hr] at key; exact lv_astore_nN hx hb hd rfl (qLok_has h3) hn rfl key
  | some z => rw [hr] at key; exact lv_astore_n hx hb hd rfl (qLok_has h3) hn rfl key
theorem qs_astore (hx : p.tables.exec = Jvm.exec) (hb : c.code = cc) {n : Nat} {v : Nat} (hn : n < nL) (hd : decode cc pc = .ok (.astore n, 2)) (k : qGo E p l e R s m args below meth c nL c0 u0 Q (pc + 2) (qst1 lv n (.ref v)) rest M) : qGo E p l e R s m args below meth c nL c0 u0 Q pc lv (.ref v :: rest) M := fun H locs ls h1 h2 h3 => by
  have key : ∀ ls', lv_has ls' nL ((n, qtv E (.ref v)) :: (qls E nL lv).filter (fun q => !(q.1 == n) && !(q.1 + 1 == n && q.2.category == 2))) → W p l e R s m args below meth c H locs (qce M - c0) (qus M - u0) Q (F0 m (pc + 2) ls' (rest.map (qtv E))) := fun ls' h' => k H locs ls' h1 h2 (qLok_st1 h3 hn h')
  rw [List.map_cons]
  simp only [qtv] at key ⊢
  cases hr : qrf E v with
  | none => rw [hr] at key; exact lv_astoreN hx hb hd (qLok_has h3) hn rfl key
  | some z => rw [hr] at key; exact lv_astore hx hb hd (qLok_has h3) hn rfl key
theorem qs_iinc (hx : p.tables.exec = Jvm.exec) (hb : c.code = cc) {n : Nat} {i : Int} {v : Int32} (hv : qlk lv n = .int v) (hd : decode cc pc = .ok (.iinc n i, 3)) (k : qGo E p l e R s m args below meth c nL c0 u0 Q (pc + 3) (qst1 lv n (.int (v + Int32.ofInt i))) rest M) : qGo E p l e R s m args below meth c nL c0 u0 Q pc lv rest M := fun H locs ls h1 h2 h3 => by
  have hq : qdf (qlk lv n) := by rw [hv]; trivial
  have hn := qLok_lt h3 hq
  have hm : (n, Value.int v) ∈ qls E nL lv := qls_mem.mpr ⟨hn, hq, by rw [hv]; rfl⟩
  obtain ⟨j, hj⟩ := List.getElem?_of_mem hm
  exact lv_iinc hx hb hd (qLok_has h3) (k := j) hj rfl hn rfl (fun ls' h' => k H locs ls' h1 h2 (qLok_st1 h3 hn h'))
end QS
