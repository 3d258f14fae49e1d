/-! ===== the tables' promise; every step of the small machine is one of the machine ===== -/
def qnp (k : Nat) : Option Nat := (parseMethodDescriptor (qmn k).desc).map (fun d => d.parameters.length)
def qco (k' a z : Nat) (f : Nat) : Bool := Nat.beq z f && (Nat.blt k' 348)
/-- what the code says at a place -/
def qdq (k pc : Nat) (ins : Jvm.ClassFile.Instr) (n : Nat) : Bool := match decode (qcc k) pc with
  | .ok (i, n') => decide (i = ins) && Nat.beq n' n
  | _ => false
theorem qdq_ok {k pc n : Nat} {ins : Jvm.ClassFile.Instr} (h : qdq k pc ins n = true) : decode (qcc k) pc = .ok (ins, n) := by
  unfold qdq at h
  split at h
  · rename_i i n' he
    rw [Bool.and_eq_true] at h
    rw [he, of_decide_eq_true h.1, Nat.eq_of_beq_eq_true h.2]
  · cases h
/-- what a program checks of an instruction -/
def qiok (k pc : Nat) (ins : Jvm.ClassFile.Instr) (nx tg : Nat) : Bool := (Nat.beq (qlen ins) 0 || Nat.beq nx (pc + qlen ins)) && (match ins with
  | .istore_n n => Nat.blt n (qml k)
  | .astore_n n => Nat.blt n (qml k)
  | .istore n => Nat.blt n (qml k)
  | .astore n => Nat.blt n (qml k)
  | .lstore_n n => Nat.blt (n + 1) (qml k)
  | .lstore n => Nat.blt (n + 1) (qml k)
  | .goto o => decide ((pc : Int) + o = tg)
  | .ifCond _ o => decide ((pc : Int) + o = tg)
  | .if_icmp _ o => decide ((pc : Int) + o = tg)
  | .ifnull o => decide ((pc : Int) + o = tg)
  | .tableswitch df lo hi os => decide (0 ≤ (pc : Int) + df) && (os.toList.all (fun o => decide (0 ≤ (pc : Int) + o)) && (decide (lo + os.size = hi + 1) && (decide (-2147483648 ≤ lo) && decide (hi < 2147483648))))
  | .lookupswitch df ps => decide (0 ≤ (pc : Int) + df) && (ps.toList.all (fun q => decide (0 ≤ (pc : Int) + q.2) && (decide (-2147483648 ≤ q.1) && decide (q.1 < 2147483648))) && (ps.toList.zip (ps.toList.drop 1)).all (fun (a, next) => a.1 < next.1))
  | .getfield i => match qcp (qcl k) i with
    | (x, y, z) => bif Nat.beq (x / 100) 9 then (Nat.beq z 10 && ((Nat.beq x 900 && Nat.beq y 1) || (Nat.beq x 901 && Nat.beq y 0)))
      else (Nat.blt (x / 100) 9 && (Nat.blt (x % 100) (qvw (x / 100)).2.2 && ((Nat.beq z 10 || Nat.beq z 11) && ((Nat.beq y 0 && decide (qty (x / 100) (x % 100) = .int)) || (Nat.beq y 1 && (qty (x / 100) (x % 100)).isReference)))))
  | .putfield i => match qcp (qcl k) i with
    | (x, y, z) => Nat.blt (x / 100) 9 && (Nat.blt (x % 100) (qvw (x / 100)).2.2 && (((Nat.beq z 10 && (!((qvw (x / 100)).2.1 (x % 100)).2.2.2 || (decide ((qmn k).name = "<init>") && decide (((qvw (x / 100)).2.1 (x % 100)).1 = (qmn k).cls)))) || (Nat.beq z 11 && !((qvw (x / 100)).2.1 (x % 100)).2.2.2)) && ((Nat.beq y 0 && decide (qty (x / 100) (x % 100) = .int)) || (Nat.beq y 1 && (qty (x / 100) (x % 100)).isReference))))
  | .getstatic i => match qcp (qcl k) i with
    | (x, y, z) => Nat.beq z 20 && ((Nat.beq y 0 && Nat.beq x 1) || ((Nat.beq y 1 && (Nat.beq x 2 || (Nat.beq x 3 || Nat.beq x 4))) || (Nat.beq y 2 && Nat.beq x 6)))
  | .ldc i => match qcp (qcl k) i with
    | (x, y, z) => (Nat.beq z 50 && Nat.beq y 0) || (Nat.beq z 60 && (Nat.beq y 1 && (Nat.blt x 64 && Nat.blt 0 x)))
  | .ldc_w i => match qcp (qcl k) i with
    | (_, y, z) => Nat.beq z 50 && Nat.beq y 0
  | .ldc2_w i => match qcp (qcl k) i with
    | (_, y, z) => Nat.beq z 50 && Nat.beq y 2
  | .new i => match qcp (qcl k) i with
    | (x, y, z) => Nat.beq z 40 && (Nat.beq y 0 && (Nat.blt x 9 || ((Nat.beq x 100 || Nat.beq x 101) && (decide ((qmn k).cls = RX7) && (qdq k (pc + 3) .dup 1 && (qdq k (pc + 4) (.invokespecial (if x = 100 then 360 else 354)) 3 && qdq k (pc + 7) .athrow 1))))))
  | .anewarray i => match qcp (qcl k) i with
    | (x, _, z) => Nat.beq z 40 && Nat.beq x 5
  | .multianewarray i _ => match qcp (qcl k) i with
    | (x, _, z) => Nat.beq z 40 && Nat.beq x 404
  | .invokevirtual i => match qcp (qcl k) i with
    | (x, y, z) => Nat.beq z 30 && (Nat.blt x 348 && (Nat.beq (qfl x) 1 && (decide ((qnp x).map (· + 1) = some y) && (decide (qha x = []) && (Nat.ble y (qml x) && Nat.blt (qcl x) 10)))))
  | .invokestatic i => match qcp (qcl k) i with
    | (x, y, z) => (Nat.beq z 30 || (Nat.beq z 31 && decide (qha x = []))) && (Nat.blt x 348 && (Nat.beq (qfl x) 0 && (decide (qnp x = some y) && Nat.ble y (qml x))))
  | .invokespecial i => match qcp (qcl k) i with
    | (x, y, z) => (Nat.beq x 999 && (Nat.beq z 30 && Nat.blt (qcl k) 9)) || ((Nat.beq z 30 || Nat.beq z 31) && (Nat.blt x 348 && (Nat.beq (qfl x) 2 && (decide ((qnp x).map (· + 1) = some y) && (decide (qha x = []) && (Nat.ble y (qml x) && (decide ((qmn x).name = "<init>") && (decide (qrt x = none) && Nat.blt (qcl x) 9))))))))
  | _ => true)
def qthA (e : Nat) : List Cond := vx_at0 RX7 (if e = 0 then 360 else 354) (qen e) ["java/lang/RuntimeException", "java/lang/Exception"]
def qthW (e : Nat) : List Cond := (.initialized (qen e)) :: (.instantiable (qen e) 6) :: (qthA e).filter goodWord
/-- a declared method, known by two good words -/
def qdcl (w : Cond) : Bool := match w with
  | .declares x => decide (Cond.instanceMethod x ∈ qW) && qW.any (fun c => match c with
    | .code y _ _ _ => decide (y = x)
    | _ => false)
  | _ => false
theorem qdcl_at {args : Array Value} {s : State} {w : Cond} (h : qdcl w = true) (hts : ∀ w ∈ qW, w.before args s = true) : w.before args s = true := by
  unfold qdcl at h
  split at h
  · rename_i x
    rw [Bool.and_eq_true] at h
    obtain ⟨m, meth, h1, h2, h3, h4⟩ := Cond.instanceMethod_spec (hts _ (of_decide_eq_true h.1))
    obtain ⟨c, hc, h5⟩ := List.any_eq_true.mp h.2
    split at h5
    · rename_i y b ml rt
      have := of_decide_eq_true h5
      subst this
      obtain ⟨meth', c', g1, -, -, -, -, -, -, g8⟩ := Cond.code_spec h1 (hts _ hc)
      cases g1.symm.trans h2
      have e : ((s.methodNamed? y).bind s.vm.method?) = some meth := by rw [h1]; exact h2
      unfold Cond.before Cond.holds
      simp only [Cond.value, e, Option.map_some, h3, g8]
      simp
    · cases h5
  · cases h
/-- what a program checks of all of it -/
def qTab : Prop :=
  (∀ k pc ins nx tg, k < 349 → qcd k pc = some (ins, nx, tg) → decode (qcc k) pc = .ok (ins, nx - pc) ∧ qiok k pc ins nx tg = true) ∧
  (∀ cl i x y z, cl < 15 → (i, x, y, z) ∈ qcpl cl → ∀ w ∈ qcpW cl (i, x, y, z), w ∈ qW) ∧
  (∀ k, k < 348 → (∀ w ∈ qmw k, w ∈ qW)) ∧
  (∀ k, k < 349 → qcl k < 15 ∧ qcn (qcl k) = (qmn k).cls ∧ qml k ≤ 21 ∧ (k ≠ 298 → k ≠ 299 → plainName (qmn k).cls = true) ∧ ((qmn k).cls ≠ "java/lang/invoke/MethodHandle" ∧ (qmn k).cls ≠ "java/lang/invoke/VarHandle") ∧
    (∀ h ∈ qha k, h.2.2.2 ≠ 0 ∧ (qcp (qcl k) h.2.2.2).2.2 = 40 ∧ ((qcp (qcl k) h.2.2.2).1 = 100 ∨ (qcp (qcl k) h.2.2.2).1 = 101))) ∧
  (∀ ci, ci < 9 → (∀ w ∈ u_ws (qvw ci).1 (qvw ci).2.1 (qvw ci).2.2, w ∈ qW) ∧ Cond.instantiable (qvw ci).1 (qvw ci).2.2 ∈ qW ∧ Cond.initialized (qvw ci).1 ∈ qW ∧ (qvw ci).2.2 < 2 ^ 31 ∧
    (∀ j, j < (qvw ci).2.2 → parseFieldDescriptor ((qvw ci).2.1 j).2.2.1 = some (qty ci j)) ∧ (∀ a, a < (qvw ci).2.2 → ∀ b, b < (qvw ci).2.2 → a ≠ b → ((qvw ci).2.1 a).2.1 ≠ ((qvw ci).2.1 b).2.1) ∧
    (∀ j, j < (qvw ci).2.2 → (qty ci j = .int ∨ defaultValue (qty ci j) = .null ∧ ¬ qty ci j = .int))) ∧
  Cond.arrayClass .int ∈ qW ∧ Cond.arrayClass .boolean ∈ qW ∧ Cond.arrayClass .long ∈ qW ∧ (∀ e, e < 2 → (∀ w ∈ qthW e, w ∈ qW) ∧ (∀ w ∈ qthA e, vx_ot w = true ∧ (goodWord w = true ∨ w = .castable (qen e) (qen e) ∨ qdcl w = true)))
def qTabO : Prop := Cond.instanceMethod objectInit ∈ qW ∧ Cond.code objectInit ⟨#[0xb1]⟩ 1 none ∈ qW
/-- where a method's walk stands: the machine, the method's code, the words -/
def qCx (E : qEnv) (p : Program) (l : Launch) (s : State) (m : MethodId) (args : Array Value) (meth : Method) (c : Code) (k : Nat) : Prop :=
  p.tables.exec = Jvm.exec ∧ c.code = qcc k ∧ c.maxLocals = qml k ∧ s.vm.findClass (qmn k).cls = some m.cls ∧ (∀ w ∈ qW, w.before args s = true) ∧ meth.sig.returnType = qrt k ∧ meth.locks = false ∧ meth.name = (qmn k).name ∧
  c.exceptionTable.toList = tableOf (qha k) ∧ qSF E s ∧ (∀ q : Nat, q < eB E → s.heap[q]? = (eH E)[q]?) ∧ l.stackTraces = false ∧ eB E ≤ s.heap.size
theorem qvw_at {ci : Nat} (h : ci < 9) : vwCl[ci]? = some (qvw ci) := by
  match ci, h with
  | 0, _ | 1, _ | 2, _ | 3, _ | 4, _ | 5, _ | 6, _ | 7, _ | 8, _ => rfl
theorem qNf_vw {ci : Nat} : qNf ci = (qvw ci).2.2 := rfl
theorem qfd_mem {α : Type} : ∀ (l : List (Nat × α)) (i : Nat) (e : α), qfd l i = some e → (i, e) ∈ l
  | [], _, _, h => by cases h
  | (j, a) :: r, i, e, h => by
    rw [qfd] at h
    cases hb : Nat.beq j i with
    | true =>
      rw [hb] at h
      have := Nat.eq_of_beq_eq_true hb
      subst this
      cases h
      exact List.mem_cons_self
    | false =>
      rw [hb] at h
      exact List.mem_cons_of_mem _ (qfd_mem r i e h)
theorem qcp_mem {cl i x y z : Nat} (h : qcp cl i = (x, y, z)) (hz : 10 ≤ z) : (i, x, y, z) ∈ qcpl cl := by
  unfold qcp at h
  split at h
  · rename_i e he
    subst h
    exact qfd_mem _ _ _ he
  · cases h
    omega
section QLS
variable {E : qEnv} {p : Program} {l : Launch} {e : Env} {R : Room} {s : State} {m : MethodId} {args : Array Value} {below : List Frame} {meth : Method} {c : Code} {c0 u0 : Nat} {Q : State → Prop} {k : Nat}
theorem q_len {pc nx tg : Nat} {ins : Jvm.ClassFile.Instr} (h : decode (qcc k) pc = .ok (ins, nx - pc) ∧ qiok k pc ins nx tg = true) (L : Nat) (hL : qlen ins = L) (h0 : L ≠ 0) : nx = pc + L ∧ decode (qcc k) pc = .ok (ins, L) := by
  obtain ⟨h1, h2⟩ := h
  unfold qiok at h2
  rw [Bool.and_eq_true] at h2
  have h3 := h2.1
  rw [hL, qbF h0, Bool.false_or] at h3
  have h4 := Nat.eq_of_beq_eq_true h3
  subst h4
  rw [Nat.add_sub_cancel_left] at h1
  exact ⟨rfl, h1⟩
theorem q_rest {pc nx tg : Nat} {ins : Jvm.ClassFile.Instr} (h : qiok k pc ins nx tg = true) : ∃ b : Bool, qiok k pc ins nx tg = (b && qiok k pc ins (pc + qlen ins) tg) := by
  refine ⟨true, ?_⟩
  rw [Bool.true_and, h]
  unfold qiok at h ⊢
  rw [Bool.and_eq_true] at h
  rw [h.2, qbT, Bool.or_true, Bool.and_true]
end QLS
