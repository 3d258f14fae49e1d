/-! ===== THE SMALL MACHINE: memory by address and place, one rule an instruction; 'qX' says what is to hold so that a run ends with Q ===== -/
abbrev qS : Type := Nat × Nat
/-- (next address, exact, cells, places), shapes, ints, references, longs -/
abbrev qM : Type := (Nat × Bool × Nat × Nat) × (Nat → qS) × (Nat → Nat → Int32) × (Nat → Nat → Nat) × (Nat → Nat → Int64)
abbrev qR : Type := (Option Value × qM) ⊕ (Nat × qM)
abbrev qV : Type := List (Nat × Value)
def qnx (M : qM) : Nat := M.1.1
def qex (M : qM) : Bool := M.1.2.1
def qce (M : qM) : Nat := M.1.2.2.1
def qus (M : qM) : Nat := M.1.2.2.2
def qsh (M : qM) : Nat → qS := M.2.1
def qI (M : qM) : Nat → Nat → Int32 := M.2.2.1
def qP (M : qM) : Nat → Nat → Nat := M.2.2.2.1
def qL (M : qM) : Nat → Nat → Int64 := M.2.2.2.2
def qup {α : Type} (f : Nat → Nat → α) (a i : Nat) (v : α) : Nat → Nat → α := fun b j => if b = a then (if j = i then v else f b j) else f b j
def qsI (M : qM) (a i : Nat) (v : Int32) : qM := (M.1, M.2.1, qup M.2.2.1 a i v, M.2.2.2)
def qsP (M : qM) (a i : Nat) (v : Nat) : qM := (M.1, M.2.1, M.2.2.1, qup M.2.2.2.1 a i v, M.2.2.2.2)
def qsL (M : qM) (a i : Nat) (v : Int64) : qM := (M.1, M.2.1, M.2.2.1, M.2.2.2.1, qup M.2.2.2.2 a i v)
/-- a new cell of a shape, with so many places, all of them zero -/
def qmk (M : qM) (t n : Nat) : qM :=
  ((M.1.1 + 1, M.1.2.1, M.1.2.2.1 + 1, M.1.2.2.2 + n), (fun a => if a = M.1.1 then (t, n) else M.2.1 a), (fun a j => if a = M.1.1 then 0 else M.2.2.1 a j),
    (fun a j => if a = M.1.1 then 0 else M.2.2.2.1 a j), (fun a j => if a = M.1.1 then 0 else M.2.2.2.2 a j))
/-- new T[n][k]: the outer one, then the n inner ones -/
def qmm (M : qM) (n k : Nat) : qM :=
  ((M.1.1 + 1 + n, M.1.2.1, M.1.2.2.1 + (1 + n), M.1.2.2.2 + (n + n * k)), (fun a => if a = M.1.1 then (4, n) else if M.1.1 < a ∧ a ≤ M.1.1 + n then (1, k) else M.2.1 a),
    (fun a j => if M.1.1 ≤ a ∧ a ≤ M.1.1 + n then 0 else M.2.2.1 a j), (fun a j => if a = M.1.1 then (if j < n then M.1.1 + 1 + j else 0) else if M.1.1 < a ∧ a ≤ M.1.1 + n then 0 else M.2.2.2.1 a j),
    (fun a j => if M.1.1 ≤ a ∧ a ≤ M.1.1 + n then 0 else M.2.2.2.2 a j))
/-- behind a throw -/
def qth (M : qM) : qM := ((M.1.1, false, M.1.2.2.1 + 1, M.1.2.2.2 + 6), M.2)
/-- locals -/
def qlk : qV → Nat → Value
  | [], _ => .retAddr 0
  | (j, v) :: r, i => bif Nat.beq j i then v else qlk r i
/-- kept in the order of the numbers -/
def qins : qV → Nat → Value → qV
  | [], i, v => [(i, v)]
  | (j, w) :: r, i, v => bif Nat.beq j i then (i, v) :: r else bif Nat.blt i j then (i, v) :: (j, w) :: r else (j, w) :: qins r i v
/-- a local is overwritten: a long that lay over it is gone -/
def qcut (lv : qV) (i : Nat) : qV := lv.map (fun q => bif (Nat.beq (q.1 + 1) i && Nat.beq q.2.category 2) then (q.1, .retAddr 0) else q)
def qclr (lv : qV) (i : Nat) : qV := lv.map (fun q => bif Nat.beq q.1 i then (q.1, .retAddr 0) else q)
def qst1 (lv : qV) (i : Nat) (v : Value) : qV := qins (qcut lv i) i v
def qst2 (lv : qV) (i : Nat) (v : Value) : qV := qins (qclr (qcut lv i) (i + 1)) i v
/-- an index within an array of a kind -/
def qin (M : qM) (t a : Nat) (i : Int32) : Prop := (qsh M a).1 = t ∧ 0 ≤ i.toInt ∧ i.toInt < (qsh M a).2
/-- .. of ints, also of one that is only read -/
def qinR (M : qM) (a : Nat) (i : Int32) : Prop := ((qsh M a).1 = 1 ∨ (qsh M a).1 = 11) ∧ 0 ≤ i.toInt ∧ i.toInt < (qsh M a).2
def qarr (M : qM) (a : Nat) : Prop := (qsh M a).1 = 1 ∨ (qsh M a).1 = 2 ∨ (qsh M a).1 = 3 ∨ (qsh M a).1 = 4 ∨ (qsh M a).1 = 5 ∨ (qsh M a).1 = 11 ∨ (qsh M a).1 = 12
def qob (M : qM) (a c : Nat) : Prop := (qsh M a).1 = 20 + c
/-- the number of an object's places -/
def qNf (c : Nat) : Nat := (vwCl.getD c ("", fun _ => ("", "", "", false), 0)).2.2
/-- what a method's answer may be, by its type -/
def qok (rt : Option FieldType) (v : Int32) : Prop := match rt with
  | some .int => True
  | some .boolean => v = 0 ∨ v = 1
  | some .byte => v = 0
  | some .char => 0 ≤ v.toInt ∧ v.toInt < 128
  | _ => False
/-- a condition, where there is one -/
def qand : Option Prop → Prop → Prop
  | none, q => q
  | some p, q => p ∧ q
/-- an instruction that neither branches nor calls nor ends: what must hold, the locals, the stack, the memory -/
def qlo (cl : Nat) (ins : Jvm.ClassFile.Instr) (lv : qV) (st : List Value) (M : qM) : Option (Option Prop × qV × List Value × qM) := match ins with
  | .iconst n => some (none, lv, .int (Int32.ofInt n) :: st, M)
  | .bipush n => some (none, lv, .int (Int8.ofInt n).toInt32 :: st, M)
  | .sipush n => some (none, lv, .int (Int16.ofInt n).toInt32 :: st, M)
  | .lconst n => some (none, lv, .long (Int64.ofNat n) :: st, M)
  | .ldc i => match qcp cl i with
    | (v, 0, _) => some (none, lv, .int (Int32.ofNat v) :: st, M)
    | (a, 1, _) => some (none, lv, .ref a :: st, M)
    | _ => none
  | .ldc_w i => match qcp cl i with
    | (v, 0, _) => some (none, lv, .int (Int32.ofNat v) :: st, M)
    | _ => none
  | .ldc2_w i => match qcp cl i with
    | (v, 2, _) => some (none, lv, .long (Int64.ofInt ((v : Int) - 1)) :: st, M)
    | _ => none
  | .iload_n i => match qlk lv i with | .int v => some (none, lv, .int v :: st, M) | _ => none
  | .iload i => match qlk lv i with | .int v => some (none, lv, .int v :: st, M) | _ => none
  | .lload_n i => match qlk lv i with | .long v => some (none, lv, .long v :: st, M) | _ => none
  | .lload i => match qlk lv i with | .long v => some (none, lv, .long v :: st, M) | _ => none
  | .aload_n i => match qlk lv i with | .ref v => some (none, lv, .ref v :: st, M) | _ => none
  | .aload i => match qlk lv i with | .ref v => some (none, lv, .ref v :: st, M) | _ => none
  | .istore_n i => match st with | .int v :: r => some (none, qst1 lv i (.int v), r, M) | _ => none
  | .istore i => match st with | .int v :: r => some (none, qst1 lv i (.int v), r, M) | _ => none
  | .lstore_n i => match st with | .long v :: r => some (none, qst2 lv i (.long v), r, M) | _ => none
  | .lstore i => match st with | .long v :: r => some (none, qst2 lv i (.long v), r, M) | _ => none
  | .astore_n i => match st with | .ref v :: r => some (none, qst1 lv i (.ref v), r, M) | _ => none
  | .astore i => match st with | .ref v :: r => some (none, qst1 lv i (.ref v), r, M) | _ => none
  | .iinc i n => match qlk lv i with | .int v => some (none, qst1 lv i (.int (v + Int32.ofInt n)), st, M) | _ => none
  | .iadd => match st with | .int y :: .int x :: r => some (none, lv, .int (x + y) :: r, M) | _ => none
  | .isub => match st with | .int y :: .int x :: r => some (none, lv, .int (x - y) :: r, M) | _ => none
  | .imul => match st with | .int y :: .int x :: r => some (none, lv, .int (x * y) :: r, M) | _ => none
  | .iand => match st with | .int y :: .int x :: r => some (none, lv, .int (x &&& y) :: r, M) | _ => none
  | .ior => match st with | .int y :: .int x :: r => some (none, lv, .int (x ||| y) :: r, M) | _ => none
  | .ixor => match st with | .int y :: .int x :: r => some (none, lv, .int (x ^^^ y) :: r, M) | _ => none
  | .ishl => match st with | .int y :: .int x :: r => some (none, lv, .int (x <<< (y &&& 31)) :: r, M) | _ => none
  | .ishr => match st with | .int y :: .int x :: r => some (none, lv, .int (x >>> (y &&& 31)) :: r, M) | _ => none
  | .iushr => match st with | .int y :: .int x :: r => some (none, lv, .int (x.toUInt32 >>> (y.toUInt32 &&& Int32.toUInt32 31)).toInt32 :: r, M) | _ => none
  | .idiv => match st with | .int y :: .int x :: r => some (some (¬ y = 0), lv, .int (x / y) :: r, M) | _ => none
  | .irem => match st with | .int y :: .int x :: r => some (some (¬ y = 0), lv, .int (x - x / y * y) :: r, M) | _ => none
  | .ineg => match st with | .int x :: r => some (none, lv, .int (-x) :: r, M) | _ => none
  | .i2l => match st with | .int x :: r => some (none, lv, .long x.toInt64 :: r, M) | _ => none
  | .i2c => match st with | .int x :: r => some (none, lv, .int (x.toUInt32 % 65536).toInt32 :: r, M) | _ => none
  | .ladd => match st with | .long y :: .long x :: r => some (none, lv, .long (x + y) :: r, M) | _ => none
  | .lsub => match st with | .long y :: .long x :: r => some (none, lv, .long (x - y) :: r, M) | _ => none
  | .lmul => match st with | .long y :: .long x :: r => some (none, lv, .long (x * y) :: r, M) | _ => none
  | .lcmp => match st with | .long y :: .long x :: r => some (none, lv, .int (lg_cmp x y) :: r, M) | _ => none
  | .dup => match st with | .int x :: r => some (none, lv, .int x :: .int x :: r, M) | .ref x :: r => some (none, lv, .ref x :: .ref x :: r, M) | _ => none
  | .dup2 => match st with | .int y :: .ref x :: r => some (none, lv, .int y :: .ref x :: .int y :: .ref x :: r, M) | _ => none
  | .pop => match st with | .int _ :: r => some (none, lv, r, M) | .ref _ :: r => some (none, lv, r, M) | _ => none
  | .getstatic i => match qcp cl i with
    | (v, 0, _) => some (none, lv, .int (Int32.ofNat v) :: st, M)
    | (a, 1, _) => some (none, lv, .ref a :: st, M)
    | (a, 2, _) => some (none, lv, .ref (qP M a 0) :: st, M)
    | _ => none
  | .getfield i => match st with
    | .ref a :: r => match qcp cl i with
      | (f, 0, _) => some (some (qob M a (f / 100)), lv, .int (qI M a (f % 100)) :: r, M)
      | (f, 1, _) => some (some (qob M a (f / 100)), lv, .ref (qP M a (f % 100)) :: r, M)
      | _ => none
    | _ => none
  | .putfield i => match st with
    | .int v :: .ref a :: r => match qcp cl i with
      | (f, 0, _) => some (some (qob M a (f / 100)), lv, r, qsI M a (f % 100) v)
      | _ => none
    | .ref v :: .ref a :: r => match qcp cl i with
      | (f, 1, _) => some (some (qob M a (f / 100)), lv, r, qsP M a (f % 100) v)
      | _ => none
    | _ => none
  | .iaload => match st with | .int i :: .ref a :: r => some (some (qinR M a i), lv, .int (qI M a i.toNatClampNeg) :: r, M) | _ => none
  | .iastore => match st with | .int v :: .int i :: .ref a :: r => some (some (qin M 1 a i), lv, r, qsI M a i.toNatClampNeg v) | _ => none
  | .baload => match st with | .int i :: .ref a :: r => some (some ((qin M 2 a i ∨ qin M 12 a i)), lv, .int (qI M a i.toNatClampNeg) :: r, M) | _ => none
  | .bastore => match st with | .int v :: .int i :: .ref a :: r => some (some (qin M 2 a i ∧ (v = 0 ∨ v = 1)), lv, r, qsI M a i.toNatClampNeg v) | _ => none
  | .laload => match st with | .int i :: .ref a :: r => some (some (qin M 3 a i), lv, .long (qL M a i.toNatClampNeg) :: r, M) | _ => none
  | .lastore => match st with | .long v :: .int i :: .ref a :: r => some (some (qin M 3 a i), lv, r, qsL M a i.toNatClampNeg v) | _ => none
  | .aaload => match st with | .int i :: .ref a :: r => some (some ((qin M 4 a i ∨ qin M 5 a i)), lv, .ref (qP M a i.toNatClampNeg) :: r, M) | _ => none
  | .aastore => match st with | .ref v :: .int i :: .ref a :: r => some (some (qin M 5 a i ∧ qob M v 5), lv, r, qsP M a i.toNatClampNeg v) | _ => none
  | .arraylength => match st with | .ref a :: r => some (some (qarr M a), lv, .int (Int32.ofNat (qsh M a).2) :: r, M) | _ => none
  | .new i => match qcp cl i with
    | (c, 0, _) => some (some (qex M = true), lv, .ref (qnx M) :: st, qmk M (20 + c) (qNf c))
    | _ => none
  | .newarray t => match st with
    | .int n :: r => match t with
      | .int => some (some (qex M = true ∧ 0 ≤ n.toInt ∧ n.toInt ≤ 100000), lv, .ref (qnx M) :: r, qmk M 1 n.toNatClampNeg)
      | .boolean => some (some (qex M = true ∧ 0 ≤ n.toInt ∧ n.toInt ≤ 100000), lv, .ref (qnx M) :: r, qmk M 2 n.toNatClampNeg)
      | .long => some (some (qex M = true ∧ 0 ≤ n.toInt ∧ n.toInt ≤ 100000), lv, .ref (qnx M) :: r, qmk M 3 n.toNatClampNeg)
      | _ => none
    | _ => none
  | .anewarray i => match st with
    | .int n :: r => match qcp cl i with
      | (5, _, _) => some (some (qex M = true ∧ 0 ≤ n.toInt ∧ n.toInt ≤ 100000), lv, .ref (qnx M) :: r, qmk M 5 n.toNatClampNeg)
      | _ => none
    | _ => none
  | .multianewarray i 2 => match st with
    | .int k :: .int n :: r => match qcp cl i with
      | (404, _, _) => some (some (qex M = true ∧ 0 ≤ n.toInt ∧ n.toInt ≤ 1000 ∧ 0 ≤ k.toInt ∧ k.toInt ≤ 1000), lv, .ref (qnx M) :: r, qmm M n.toNatClampNeg k.toNatClampNeg)
      | _ => none
    | _ => none
  | _ => none
/-- a condition against 0, and between two -/
def qc0 (c : Jvm.ClassFile.Cond) (x : Int32) : Prop := match c with
  | .eq => x = 0
  | .ne => ¬ x = 0
  | .lt => x < 0
  | .ge => 0 ≤ x
  | .gt => 0 < x
  | .le => x ≤ 0
def qc2 (c : Jvm.ClassFile.Cond) (x y : Int32) : Prop := match c with
  | .eq => x = y
  | .ne => ¬ x = y
  | .lt => x < y
  | .ge => y ≤ x
  | .gt => y < x
  | .le => x ≤ y
/-- a switch: the cases in their order, then the rest -/
def qsw (x : Int32) (F : Nat → Prop) (d : Nat) : List (Int × Nat) → Prop
  | [] => F d
  | (c, t) :: r => (x = Int32.ofInt c → F t) ∧ (¬ x = Int32.ofInt c → qsw x F d r)
def qtsl (pc : Nat) : Int → List Int → List (Int × Nat)
  | _, [] => []
  | lo, o :: r => (lo, ((pc : Int) + o).toNat) :: qtsl pc (lo + 1) r
/-- who catches: a handler of the table, by the place and the class -/
def qcat (cl : Nat) (pc e : Nat) : List (Nat × Nat × Nat × Nat) → Option Nat
  | [] => none
  | (f, t, h, c) :: r => bif (Nat.ble f pc && Nat.blt pc t && Nat.beq (qcp cl c).1 (100 + e)) then some h else qcat cl pc e r
/-- behind a call's end -/
def qbk (k pc nx : Nat) (lv : qV) (rest : List Value) (F : Nat → qV → List Value → qM → Prop) (Q : qR → Prop) (R : qR) : Prop := match R with
  | .inl (some v, M) => F nx lv (v :: rest) M
  | .inl (none, M) => F nx lv rest M
  | .inr (e, M) => match qha k with
    | [] => Q (.inr (e, M))
    | t => match qcat (qcl k) pc e t with
      | none => False
      | some h => match qcd k h with
        | some (.astore_n i, n2, _) => F n2 (qclr (qcut lv i) i) [] M
        | some (.astore i, n2, _) => F n2 (qclr (qcut lv i) i) [] M
        | _ => False
/-- the receiver -/
def qrc (M : qM) (k' : Nat) : List Value → Prop
  | .ref a :: _ => qob M a (qcl k')
  | _ => False
/-- so many arguments, of one word each, and not much below -/
def qck (a : Nat) (st : List Value) : Bool := Nat.ble a st.length && ((Nat.ble st.length (a + 4) || Nat.ble ((st.drop a).map (fun v => v.category)).sum 8) && (st.take a).all (fun v => Nat.beq v.category 1))
/-- one step: F goes on in the method, C is a call, behind which F or FB go on -/
def qG (F FB : Nat → qV → List Value → qM → Prop) (C : Nat → List Value → qM → (qR → Prop) → (qR → Prop) → Prop) (d k pc : Nat) (lv : qV) (st : List Value) (M : qM) (Q : qR → Prop) : Prop := match qcd k pc with
  | none => False
  | some (ins, nx, tg) => match ins with
    | .goto _ => F tg lv st M
    | .ifCond c _ => match st with
      | .int x :: r => (qc0 c x → F tg lv r M) ∧ (¬ qc0 c x → F nx lv r M)
      | _ => False
    | .if_icmp c _ => match st with
      | .int y :: .int x :: r => (qc2 c x y → F tg lv r M) ∧ (¬ qc2 c x y → F nx lv r M)
      | _ => False
    | .ifnull _ => match st with
      | .ref a :: r => (a = 0 → F tg lv r M) ∧ (¬ a = 0 → F nx lv r M)
      | _ => False
    | .tableswitch df lo _ os => match st with
      | .int x :: r => qsw x (fun t => F t lv r M) ((pc : Int) + df).toNat (qtsl pc lo os.toList)
      | _ => False
    | .lookupswitch df ps => match st with
      | .int x :: r => qsw x (fun t => F t lv r M) ((pc : Int) + df).toNat (ps.toList.map (fun q => (q.1, ((pc : Int) + q.2).toNat)))
      | _ => False
    | .ireturn => match st with
      | [.int v] => qok (qrt k) v ∧ Q (.inl (some (.int v), M))
      | _ => False
    | .lreturn => match st with
      | [.long v] => qrt k = some .long ∧ Q (.inl (some (.long v), M))
      | _ => False
    | .return_ => match st with
      | [] => qrt k = none ∧ Q (.inl (none, M))
      | _ => False
    | .new i => match qcp (qcl k) i with
      | (100, _, _) => match st, qha k with
        | [], [] => 6 ≤ d ∧ Q (.inr (0, qth M))
        | _, _ => False
      | (101, _, _) => match st, qha k with
        | [], [] => 6 ≤ d ∧ Q (.inr (1, qth M))
        | _, _ => False
      | _ => match qlo (qcl k) ins lv st M with
        | some (P, lv', st', M') => qand P (F nx lv' st' M')
        | none => False
    | .invokevirtual i => match qcp (qcl k) i with
      | (k', a, _) => match qck a st with
        | true => 0 < d ∧ qrc M k' (st.take a).reverse ∧ C k' (st.take a).reverse M (qbk k pc nx lv (st.drop a) F Q) (qbk k pc nx lv (st.drop a) FB Q)
        | false => False
    | .invokestatic i => match qcp (qcl k) i with
      | (k', a, _) => match qck a st with
        | true => 0 < d ∧ C k' (st.take a).reverse M (qbk k pc nx lv (st.drop a) F Q) (qbk k pc nx lv (st.drop a) FB Q)
        | false => False
    | .invokespecial i => match qcp (qcl k) i with
      | (999, _, _) => match st with
        | .ref a :: r => match Nat.ble r.length 4 with
          | true => (0 < d ∧ qob M a (qcl k)) ∧ F nx lv r M
          | false => False
        | _ => False
      | (k', a, _) => match qck a st with
        | true => 0 < d ∧ qrc M k' (st.take a).reverse ∧ C k' (st.take a).reverse M (qbk k pc nx lv (st.drop a) F Q) (qbk k pc nx lv (st.drop a) FB Q)
        | false => False
    | _ => match qlo (qcl k) ins lv st M with
      | some (P, lv', st', M') => qand P (F nx lv' st' M')
      | none => False
/-- a run of at most n steps, over at most d frames more, ends with Q -/
def qX : Nat → Nat → Nat → Nat → qV → List Value → qM → (qR → Prop) → Prop
  | 0, _, _, _, _, _, _, _ => False
  | n + 1, d, k, pc, lv, st, M, Q => qG (fun pc' lv' st' M' => qX n d k pc' lv' st' M' Q) (fun _ _ _ _ => True) (fun k' as M' Q' _ => qX n (d - 1) k' 0 (lv_args 0 as) [] M' Q') d k pc lv st M Q
def qwq (d k pc : Nat) (lv : qV) (st : List Value) (M : qM) (Q : qR → Prop) : Prop := ∃ n, qX n d k pc lv st M Q
/-- a call of method k with these arguments ends with Q -/
def qwp (d k : Nat) (as : List Value) (M : qM) (Q : qR → Prop) : Prop := qwq d k 0 (lv_args 0 as) [] M Q
/-- the locals that live on -/
def qkp (ks : List Nat) (lv : qV) : qV := lv.filter (fun q => ks.any (fun k => Nat.beq k q.1))
/-- walks up to n steps; at a stop, and behind a call that 'U' doesn't know, it asks for qwq -/
def qY (U : Nat → List Value → Option Int32) (S : Nat → Option (List Nat)) : Bool → Nat → Nat → Nat → Nat → qV → List Value → qM → (qR → Prop) → Prop
  | _, 0, d, k, pc, lv, st, M, Q => qwq d k pc lv st M Q
  | true, n + 1, d, k, pc, lv, st, M, Q => qG (fun pc' lv' st' M' => qY U S false n d k pc' lv' st' M' Q) (fun pc' lv' st' M' => qwq d k pc' lv' st' M' Q)
      (fun k' as M' Q1 Q2 => match U k' as with | some v => Q1 (.inl (some (.int v), M')) | none => qwp (d - 1) k' as M' Q2) d k pc lv st M Q
  | false, n + 1, d, k, pc, lv, st, M, Q => match S pc with
    | some ks => qwq d k pc (qkp ks lv) st M Q
    | none => qG (fun pc' lv' st' M' => qY U S false n d k pc' lv' st' M' Q) (fun pc' lv' st' M' => qwq d k pc' lv' st' M' Q)
      (fun k' as M' Q1 Q2 => match U k' as with | some v => Q1 (.inl (some (.int v), M')) | none => qwp (d - 1) k' as M' Q2) d k pc lv st M Q
