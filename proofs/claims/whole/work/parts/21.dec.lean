/-! ===== the bytes of an instruction, and that they are read back (wip/whole/gen_dec.py) ===== -/
def qby (cc : ByteArray) (pc n : Nat) : Prop := ∃ h : pc < cc.size, cc[pc].toNat = n
def qbs (cc : ByteArray) : Nat → List Nat → Prop
  | _, [] => True
  | pc, n :: r => qby cc pc n ∧ qbs cc (pc + 1) r
theorem qu1 {cc : ByteArray} {pc n : Nat} (h : qby cc pc n) : (Reader.u1 : Decoder Nat) cc pc = .ok (n, pc + 1) := by
  obtain ⟨h, rfl⟩ := h
  show (if h : pc < cc.size then _ else _ : Reader DecodeError Nat) cc pc = _
  rw [dif_pos h]
  rfl
theorem qrb {α β : Type} {x : Decoder α} {f : α → Decoder β} {cc : ByteArray} {p q : Nat} {a : α} (h : x cc p = .ok (a, q)) : (x >>= f) cc p = f a cc q := by
  show Except.bind (x cc p) (fun (a, s) => f a cc s) = _
  rw [h]
  rfl
theorem qrmp {α β : Type} {x : Decoder α} {f : α → β} {cc : ByteArray} {p q : Nat} {a : α} (h : x cc p = .ok (a, q)) : (f <$> x) cc p = .ok (f a, q) := by
  show Except.map (fun (a, s) => (f a, s)) (x cc p) = _
  rw [h]
  rfl
theorem qdc {cc : ByteArray} {pc q : Nat} {i : Jvm.ClassFile.Instr} (h : Decoder.instr pc cc pc = .ok (i, q)) : decode cc pc = .ok (i, q - pc) := by
  unfold decode Reader.runAt
  show Except.bind (Decoder.instr pc cc pc) (fun (a, s) => .ok (a, s - pc)) = _
  rw [h]
  rfl
theorem qu2 {cc : ByteArray} {pc a b : Nat} (h : qby cc pc a) (h2 : qby cc (pc + 1) b) : (Reader.u2 : Decoder Nat) cc pc = .ok (a * 256 + b, pc + 2) := by
  unfold Reader.u2
  rw [qrb (qu1 h), qrb (qu1 h2)]
  rfl
theorem qs1 {cc : ByteArray} {pc a : Nat} (h : qby cc pc a) : (Reader.s1 : Decoder Int) cc pc = .ok (Reader.signed 8 a, pc + 1) := qrmp (qu1 h)
theorem qs2 {cc : ByteArray} {pc a b : Nat} (h : qby cc pc a) (h2 : qby cc (pc + 1) b) : (Reader.s2 : Decoder Int) cc pc = .ok (Reader.signed 16 (a * 256 + b), pc + 2) := qrmp (qu2 h h2)
def qw2 (op n : Nat) : List Nat := [op, n / 256, n % 256]
theorem qw2_u {cc : ByteArray} {pc op n : Nat} (h : qbs cc pc (qw2 op n)) : qby cc pc op ∧ (Reader.u2 : Decoder Nat) cc (pc + 1) = .ok (n, pc + 3) := by
  refine ⟨h.1, ?_⟩
  have h2 := qu2 h.2.1 h.2.2.1
  rw [show n / 256 * 256 + n % 256 = n by omega] at h2
  exact h2
def qi2 (op : Nat) (o : Int) : Option (List Nat) := bif decide (Reader.signed 16 (o % 65536).toNat = o) then some (qw2 op (o % 65536).toNat) else none
theorem qi2_s {cc : ByteArray} {pc op : Nat} {o : Int} {bs : List Nat} (h : qi2 op o = some bs) (hb : qbs cc pc bs) : bs.length = 3 ∧ qby cc pc op ∧ (Reader.s2 : Decoder Int) cc (pc + 1) = .ok (o, pc + 3) := by
  unfold qi2 at h
  cases hd : decide (Reader.signed 16 (o % 65536).toNat = o) with
  | false => rw [hd] at h; cases h
  | true =>
    rw [hd] at h
    cases h
    have := of_decide_eq_true hd
    refine ⟨rfl, hb.1, ?_⟩
    have h2 := qrmp (f := Reader.signed 16) (qw2_u hb).2
    rw [this] at h2
    exact h2
def qi1 (o : Int) (F : Nat → List Nat) : Option (List Nat) := bif decide (Reader.signed 8 (o % 256).toNat = o) then some (F (o % 256).toNat) else none
theorem qi1_s {o : Int} {F : Nat → List Nat} {bs : List Nat} (h : qi1 o F = some bs) : ∃ n, bs = F n ∧ Reader.signed 8 n = o := by
  unfold qi1 at h
  cases hd : decide (Reader.signed 8 (o % 256).toNat = o) with
  | false => rw [hd] at h; cases h
  | true =>
    rw [hd] at h
    cases h
    exact ⟨_, rfl, of_decide_eq_true hd⟩
section QDC
variable {cc : ByteArray} {pc : Nat}
set_option maxRecDepth 20000
theorem dc_1 (h : qby cc pc 1) : decode cc pc = .ok (.aconst_null, pc + 1 - pc) := by
  refine qdc ?_
  unfold Decoder.instr
  rw [qrb (qu1 h)]
  rfl
theorem dc_46 (h : qby cc pc 46) : decode cc pc = .ok (.iaload, pc + 1 - pc) := by
  refine qdc ?_
  unfold Decoder.instr
  rw [qrb (qu1 h)]
  rfl
theorem dc_47 (h : qby cc pc 47) : decode cc pc = .ok (.laload, pc + 1 - pc) := by
  refine qdc ?_
  unfold Decoder.instr
  rw [qrb (qu1 h)]
  rfl
theorem dc_50 (h : qby cc pc 50) : decode cc pc = .ok (.aaload, pc + 1 - pc) := by
  refine qdc ?_
  unfold Decoder.instr
  rw [qrb (qu1 h)]
  rfl
theorem dc_51 (h : qby cc pc 51) : decode cc pc = .ok (.baload, pc + 1 - pc) := by
  refine qdc ?_
  unfold Decoder.instr
  rw [qrb (qu1 h)]
  rfl
theorem dc_79 (h : qby cc pc 79) : decode cc pc = .ok (.iastore, pc + 1 - pc) := by
  refine qdc ?_
  unfold Decoder.instr
  rw [qrb (qu1 h)]
  rfl
theorem dc_80 (h : qby cc pc 80) : decode cc pc = .ok (.lastore, pc + 1 - pc) := by
  refine qdc ?_
  unfold Decoder.instr
  rw [qrb (qu1 h)]
  rfl
theorem dc_83 (h : qby cc pc 83) : decode cc pc = .ok (.aastore, pc + 1 - pc) := by
  refine qdc ?_
  unfold Decoder.instr
  rw [qrb (qu1 h)]
  rfl
theorem dc_84 (h : qby cc pc 84) : decode cc pc = .ok (.bastore, pc + 1 - pc) := by
  refine qdc ?_
  unfold Decoder.instr
  rw [qrb (qu1 h)]
  rfl
theorem dc_87 (h : qby cc pc 87) : decode cc pc = .ok (.pop, pc + 1 - pc) := by
  refine qdc ?_
  unfold Decoder.instr
  rw [qrb (qu1 h)]
  rfl
theorem dc_89 (h : qby cc pc 89) : decode cc pc = .ok (.dup, pc + 1 - pc) := by
  refine qdc ?_
  unfold Decoder.instr
  rw [qrb (qu1 h)]
  rfl
theorem dc_92 (h : qby cc pc 92) : decode cc pc = .ok (.dup2, pc + 1 - pc) := by
  refine qdc ?_
  unfold Decoder.instr
  rw [qrb (qu1 h)]
  rfl
theorem dc_96 (h : qby cc pc 96) : decode cc pc = .ok (.iadd, pc + 1 - pc) := by
  refine qdc ?_
  unfold Decoder.instr
  rw [qrb (qu1 h)]
  rfl
theorem dc_97 (h : qby cc pc 97) : decode cc pc = .ok (.ladd, pc + 1 - pc) := by
  refine qdc ?_
  unfold Decoder.instr
  rw [qrb (qu1 h)]
  rfl
theorem dc_100 (h : qby cc pc 100) : decode cc pc = .ok (.isub, pc + 1 - pc) := by
  refine qdc ?_
  unfold Decoder.instr
  rw [qrb (qu1 h)]
  rfl
theorem dc_101 (h : qby cc pc 101) : decode cc pc = .ok (.lsub, pc + 1 - pc) := by
  refine qdc ?_
  unfold Decoder.instr
  rw [qrb (qu1 h)]
  rfl
theorem dc_104 (h : qby cc pc 104) : decode cc pc = .ok (.imul, pc + 1 - pc) := by
  refine qdc ?_
  unfold Decoder.instr
  rw [qrb (qu1 h)]
  rfl
theorem dc_105 (h : qby cc pc 105) : decode cc pc = .ok (.lmul, pc + 1 - pc) := by
  refine qdc ?_
  unfold Decoder.instr
  rw [qrb (qu1 h)]
  rfl
theorem dc_108 (h : qby cc pc 108) : decode cc pc = .ok (.idiv, pc + 1 - pc) := by
  refine qdc ?_
  unfold Decoder.instr
  rw [qrb (qu1 h)]
  rfl
theorem dc_112 (h : qby cc pc 112) : decode cc pc = .ok (.irem, pc + 1 - pc) := by
  refine qdc ?_
  unfold Decoder.instr
  rw [qrb (qu1 h)]
  rfl
theorem dc_116 (h : qby cc pc 116) : decode cc pc = .ok (.ineg, pc + 1 - pc) := by
  refine qdc ?_
  unfold Decoder.instr
  rw [qrb (qu1 h)]
  rfl
theorem dc_120 (h : qby cc pc 120) : decode cc pc = .ok (.ishl, pc + 1 - pc) := by
  refine qdc ?_
  unfold Decoder.instr
  rw [qrb (qu1 h)]
  rfl
theorem dc_122 (h : qby cc pc 122) : decode cc pc = .ok (.ishr, pc + 1 - pc) := by
  refine qdc ?_
  unfold Decoder.instr
  rw [qrb (qu1 h)]
  rfl
theorem dc_124 (h : qby cc pc 124) : decode cc pc = .ok (.iushr, pc + 1 - pc) := by
  refine qdc ?_
  unfold Decoder.instr
  rw [qrb (qu1 h)]
  rfl
theorem dc_126 (h : qby cc pc 126) : decode cc pc = .ok (.iand, pc + 1 - pc) := by
  refine qdc ?_
  unfold Decoder.instr
  rw [qrb (qu1 h)]
  rfl
theorem dc_128 (h : qby cc pc 128) : decode cc pc = .ok (.ior, pc + 1 - pc) := by
  refine qdc ?_
  unfold Decoder.instr
  rw [qrb (qu1 h)]
  rfl
theorem dc_130 (h : qby cc pc 130) : decode cc pc = .ok (.ixor, pc + 1 - pc) := by
  refine qdc ?_
  unfold Decoder.instr
  rw [qrb (qu1 h)]
  rfl
theorem dc_133 (h : qby cc pc 133) : decode cc pc = .ok (.i2l, pc + 1 - pc) := by
  refine qdc ?_
  unfold Decoder.instr
  rw [qrb (qu1 h)]
  rfl
theorem dc_146 (h : qby cc pc 146) : decode cc pc = .ok (.i2c, pc + 1 - pc) := by
  refine qdc ?_
  unfold Decoder.instr
  rw [qrb (qu1 h)]
  rfl
theorem dc_148 (h : qby cc pc 148) : decode cc pc = .ok (.lcmp, pc + 1 - pc) := by
  refine qdc ?_
  unfold Decoder.instr
  rw [qrb (qu1 h)]
  rfl
theorem dc_172 (h : qby cc pc 172) : decode cc pc = .ok (.ireturn, pc + 1 - pc) := by
  refine qdc ?_
  unfold Decoder.instr
  rw [qrb (qu1 h)]
  rfl
theorem dc_173 (h : qby cc pc 173) : decode cc pc = .ok (.lreturn, pc + 1 - pc) := by
  refine qdc ?_
  unfold Decoder.instr
  rw [qrb (qu1 h)]
  rfl
theorem dc_177 (h : qby cc pc 177) : decode cc pc = .ok (.return_, pc + 1 - pc) := by
  refine qdc ?_
  unfold Decoder.instr
  rw [qrb (qu1 h)]
  rfl
theorem dc_190 (h : qby cc pc 190) : decode cc pc = .ok (.arraylength, pc + 1 - pc) := by
  refine qdc ?_
  unfold Decoder.instr
  rw [qrb (qu1 h)]
  rfl
theorem dc_191 (h : qby cc pc 191) : decode cc pc = .ok (.athrow, pc + 1 - pc) := by
  refine qdc ?_
  unfold Decoder.instr
  rw [qrb (qu1 h)]
  rfl
theorem dc_42 (h : qby cc pc 42) : decode cc pc = .ok (.aload_n 0, pc + 1 - pc) := by
  refine qdc ?_
  unfold Decoder.instr
  rw [qrb (qu1 h)]
  rfl
theorem dc_43 (h : qby cc pc 43) : decode cc pc = .ok (.aload_n 1, pc + 1 - pc) := by
  refine qdc ?_
  unfold Decoder.instr
  rw [qrb (qu1 h)]
  rfl
theorem dc_44 (h : qby cc pc 44) : decode cc pc = .ok (.aload_n 2, pc + 1 - pc) := by
  refine qdc ?_
  unfold Decoder.instr
  rw [qrb (qu1 h)]
  rfl
theorem dc_45 (h : qby cc pc 45) : decode cc pc = .ok (.aload_n 3, pc + 1 - pc) := by
  refine qdc ?_
  unfold Decoder.instr
  rw [qrb (qu1 h)]
  rfl
theorem dc_26 (h : qby cc pc 26) : decode cc pc = .ok (.iload_n 0, pc + 1 - pc) := by
  refine qdc ?_
  unfold Decoder.instr
  rw [qrb (qu1 h)]
  rfl
theorem dc_27 (h : qby cc pc 27) : decode cc pc = .ok (.iload_n 1, pc + 1 - pc) := by
  refine qdc ?_
  unfold Decoder.instr
  rw [qrb (qu1 h)]
  rfl
theorem dc_28 (h : qby cc pc 28) : decode cc pc = .ok (.iload_n 2, pc + 1 - pc) := by
  refine qdc ?_
  unfold Decoder.instr
  rw [qrb (qu1 h)]
  rfl
theorem dc_29 (h : qby cc pc 29) : decode cc pc = .ok (.iload_n 3, pc + 1 - pc) := by
  refine qdc ?_
  unfold Decoder.instr
  rw [qrb (qu1 h)]
  rfl
theorem dc_30 (h : qby cc pc 30) : decode cc pc = .ok (.lload_n 0, pc + 1 - pc) := by
  refine qdc ?_
  unfold Decoder.instr
  rw [qrb (qu1 h)]
  rfl
theorem dc_31 (h : qby cc pc 31) : decode cc pc = .ok (.lload_n 1, pc + 1 - pc) := by
  refine qdc ?_
  unfold Decoder.instr
  rw [qrb (qu1 h)]
  rfl
theorem dc_32 (h : qby cc pc 32) : decode cc pc = .ok (.lload_n 2, pc + 1 - pc) := by
  refine qdc ?_
  unfold Decoder.instr
  rw [qrb (qu1 h)]
  rfl
theorem dc_33 (h : qby cc pc 33) : decode cc pc = .ok (.lload_n 3, pc + 1 - pc) := by
  refine qdc ?_
  unfold Decoder.instr
  rw [qrb (qu1 h)]
  rfl
theorem dc_59 (h : qby cc pc 59) : decode cc pc = .ok (.istore_n 0, pc + 1 - pc) := by
  refine qdc ?_
  unfold Decoder.instr
  rw [qrb (qu1 h)]
  rfl
theorem dc_60 (h : qby cc pc 60) : decode cc pc = .ok (.istore_n 1, pc + 1 - pc) := by
  refine qdc ?_
  unfold Decoder.instr
  rw [qrb (qu1 h)]
  rfl
theorem dc_61 (h : qby cc pc 61) : decode cc pc = .ok (.istore_n 2, pc + 1 - pc) := by
  refine qdc ?_
  unfold Decoder.instr
  rw [qrb (qu1 h)]
  rfl
theorem dc_62 (h : qby cc pc 62) : decode cc pc = .ok (.istore_n 3, pc + 1 - pc) := by
  refine qdc ?_
  unfold Decoder.instr
  rw [qrb (qu1 h)]
  rfl
theorem dc_63 (h : qby cc pc 63) : decode cc pc = .ok (.lstore_n 0, pc + 1 - pc) := by
  refine qdc ?_
  unfold Decoder.instr
  rw [qrb (qu1 h)]
  rfl
theorem dc_64 (h : qby cc pc 64) : decode cc pc = .ok (.lstore_n 1, pc + 1 - pc) := by
  refine qdc ?_
  unfold Decoder.instr
  rw [qrb (qu1 h)]
  rfl
theorem dc_65 (h : qby cc pc 65) : decode cc pc = .ok (.lstore_n 2, pc + 1 - pc) := by
  refine qdc ?_
  unfold Decoder.instr
  rw [qrb (qu1 h)]
  rfl
theorem dc_66 (h : qby cc pc 66) : decode cc pc = .ok (.lstore_n 3, pc + 1 - pc) := by
  refine qdc ?_
  unfold Decoder.instr
  rw [qrb (qu1 h)]
  rfl
theorem dc_75 (h : qby cc pc 75) : decode cc pc = .ok (.astore_n 0, pc + 1 - pc) := by
  refine qdc ?_
  unfold Decoder.instr
  rw [qrb (qu1 h)]
  rfl
theorem dc_76 (h : qby cc pc 76) : decode cc pc = .ok (.astore_n 1, pc + 1 - pc) := by
  refine qdc ?_
  unfold Decoder.instr
  rw [qrb (qu1 h)]
  rfl
theorem dc_77 (h : qby cc pc 77) : decode cc pc = .ok (.astore_n 2, pc + 1 - pc) := by
  refine qdc ?_
  unfold Decoder.instr
  rw [qrb (qu1 h)]
  rfl
theorem dc_78 (h : qby cc pc 78) : decode cc pc = .ok (.astore_n 3, pc + 1 - pc) := by
  refine qdc ?_
  unfold Decoder.instr
  rw [qrb (qu1 h)]
  rfl
theorem dc_9 (h : qby cc pc 9) : decode cc pc = .ok (.lconst 0, pc + 1 - pc) := by
  refine qdc ?_
  unfold Decoder.instr
  rw [qrb (qu1 h)]
  rfl
theorem dc_10 (h : qby cc pc 10) : decode cc pc = .ok (.lconst 1, pc + 1 - pc) := by
  refine qdc ?_
  unfold Decoder.instr
  rw [qrb (qu1 h)]
  rfl
theorem dc_2 (h : qby cc pc 2) : decode cc pc = .ok (.iconst (-1), pc + 1 - pc) := by
  refine qdc ?_
  unfold Decoder.instr
  rw [qrb (qu1 h)]
  rfl
theorem dc_3 (h : qby cc pc 3) : decode cc pc = .ok (.iconst (0), pc + 1 - pc) := by
  refine qdc ?_
  unfold Decoder.instr
  rw [qrb (qu1 h)]
  rfl
theorem dc_4 (h : qby cc pc 4) : decode cc pc = .ok (.iconst (1), pc + 1 - pc) := by
  refine qdc ?_
  unfold Decoder.instr
  rw [qrb (qu1 h)]
  rfl
theorem dc_5 (h : qby cc pc 5) : decode cc pc = .ok (.iconst (2), pc + 1 - pc) := by
  refine qdc ?_
  unfold Decoder.instr
  rw [qrb (qu1 h)]
  rfl
theorem dc_6 (h : qby cc pc 6) : decode cc pc = .ok (.iconst (3), pc + 1 - pc) := by
  refine qdc ?_
  unfold Decoder.instr
  rw [qrb (qu1 h)]
  rfl
theorem dc_7 (h : qby cc pc 7) : decode cc pc = .ok (.iconst (4), pc + 1 - pc) := by
  refine qdc ?_
  unfold Decoder.instr
  rw [qrb (qu1 h)]
  rfl
theorem dc_8 (h : qby cc pc 8) : decode cc pc = .ok (.iconst (5), pc + 1 - pc) := by
  refine qdc ?_
  unfold Decoder.instr
  rw [qrb (qu1 h)]
  rfl
theorem dc_18 {a : Nat} (h : qby cc pc 18) (h1 : qby cc (pc + 1) a) : decode cc pc = .ok (.ldc a, pc + 2 - pc) := by
  refine qdc ?_
  unfold Decoder.instr
  rw [qrb (qu1 h)]
  show ((Reader.u1 : Decoder Nat) >>= fun a => (Pure.pure (Jvm.ClassFile.Instr.ldc a) : Decoder Jvm.ClassFile.Instr)) cc (pc + 1) = _
  rw [qrb (qu1 h1)]
  rfl
theorem dc_21 {a : Nat} (h : qby cc pc 21) (h1 : qby cc (pc + 1) a) : decode cc pc = .ok (.iload a, pc + 2 - pc) := by
  refine qdc ?_
  unfold Decoder.instr
  rw [qrb (qu1 h)]
  show ((Reader.u1 : Decoder Nat) >>= fun a => (Pure.pure (Jvm.ClassFile.Instr.iload a) : Decoder Jvm.ClassFile.Instr)) cc (pc + 1) = _
  rw [qrb (qu1 h1)]
  rfl
theorem dc_22 {a : Nat} (h : qby cc pc 22) (h1 : qby cc (pc + 1) a) : decode cc pc = .ok (.lload a, pc + 2 - pc) := by
  refine qdc ?_
  unfold Decoder.instr
  rw [qrb (qu1 h)]
  show ((Reader.u1 : Decoder Nat) >>= fun a => (Pure.pure (Jvm.ClassFile.Instr.lload a) : Decoder Jvm.ClassFile.Instr)) cc (pc + 1) = _
  rw [qrb (qu1 h1)]
  rfl
theorem dc_25 {a : Nat} (h : qby cc pc 25) (h1 : qby cc (pc + 1) a) : decode cc pc = .ok (.aload a, pc + 2 - pc) := by
  refine qdc ?_
  unfold Decoder.instr
  rw [qrb (qu1 h)]
  show ((Reader.u1 : Decoder Nat) >>= fun a => (Pure.pure (Jvm.ClassFile.Instr.aload a) : Decoder Jvm.ClassFile.Instr)) cc (pc + 1) = _
  rw [qrb (qu1 h1)]
  rfl
theorem dc_54 {a : Nat} (h : qby cc pc 54) (h1 : qby cc (pc + 1) a) : decode cc pc = .ok (.istore a, pc + 2 - pc) := by
  refine qdc ?_
  unfold Decoder.instr
  rw [qrb (qu1 h)]
  show ((Reader.u1 : Decoder Nat) >>= fun a => (Pure.pure (Jvm.ClassFile.Instr.istore a) : Decoder Jvm.ClassFile.Instr)) cc (pc + 1) = _
  rw [qrb (qu1 h1)]
  rfl
theorem dc_55 {a : Nat} (h : qby cc pc 55) (h1 : qby cc (pc + 1) a) : decode cc pc = .ok (.lstore a, pc + 2 - pc) := by
  refine qdc ?_
  unfold Decoder.instr
  rw [qrb (qu1 h)]
  show ((Reader.u1 : Decoder Nat) >>= fun a => (Pure.pure (Jvm.ClassFile.Instr.lstore a) : Decoder Jvm.ClassFile.Instr)) cc (pc + 1) = _
  rw [qrb (qu1 h1)]
  rfl
theorem dc_58 {a : Nat} (h : qby cc pc 58) (h1 : qby cc (pc + 1) a) : decode cc pc = .ok (.astore a, pc + 2 - pc) := by
  refine qdc ?_
  unfold Decoder.instr
  rw [qrb (qu1 h)]
  show ((Reader.u1 : Decoder Nat) >>= fun a => (Pure.pure (Jvm.ClassFile.Instr.astore a) : Decoder Jvm.ClassFile.Instr)) cc (pc + 1) = _
  rw [qrb (qu1 h1)]
  rfl
theorem dc_19 {a : Nat} (h : qby cc pc 19) (h1 : (Reader.u2 : Decoder Nat) cc (pc + 1) = .ok (a, pc + 3)) : decode cc pc = .ok (.ldc_w a, pc + 3 - pc) := by
  refine qdc ?_
  unfold Decoder.instr
  rw [qrb (qu1 h)]
  show ((Reader.u2 : Decoder Nat) >>= fun a => (Pure.pure (Jvm.ClassFile.Instr.ldc_w a) : Decoder Jvm.ClassFile.Instr)) cc (pc + 1) = _
  rw [qrb h1]
  rfl
theorem dc_20 {a : Nat} (h : qby cc pc 20) (h1 : (Reader.u2 : Decoder Nat) cc (pc + 1) = .ok (a, pc + 3)) : decode cc pc = .ok (.ldc2_w a, pc + 3 - pc) := by
  refine qdc ?_
  unfold Decoder.instr
  rw [qrb (qu1 h)]
  show ((Reader.u2 : Decoder Nat) >>= fun a => (Pure.pure (Jvm.ClassFile.Instr.ldc2_w a) : Decoder Jvm.ClassFile.Instr)) cc (pc + 1) = _
  rw [qrb h1]
  rfl
theorem dc_178 {a : Nat} (h : qby cc pc 178) (h1 : (Reader.u2 : Decoder Nat) cc (pc + 1) = .ok (a, pc + 3)) : decode cc pc = .ok (.getstatic a, pc + 3 - pc) := by
  refine qdc ?_
  unfold Decoder.instr
  rw [qrb (qu1 h)]
  show ((Reader.u2 : Decoder Nat) >>= fun a => (Pure.pure (Jvm.ClassFile.Instr.getstatic a) : Decoder Jvm.ClassFile.Instr)) cc (pc + 1) = _
  rw [qrb h1]
  rfl
theorem dc_180 {a : Nat} (h : qby cc pc 180) (h1 : (Reader.u2 : Decoder Nat) cc (pc + 1) = .ok (a, pc + 3)) : decode cc pc = .ok (.getfield a, pc + 3 - pc) := by
  refine qdc ?_
  unfold Decoder.instr
  rw [qrb (qu1 h)]
  show ((Reader.u2 : Decoder Nat) >>= fun a => (Pure.pure (Jvm.ClassFile.Instr.getfield a) : Decoder Jvm.ClassFile.Instr)) cc (pc + 1) = _
  rw [qrb h1]
  rfl
theorem dc_181 {a : Nat} (h : qby cc pc 181) (h1 : (Reader.u2 : Decoder Nat) cc (pc + 1) = .ok (a, pc + 3)) : decode cc pc = .ok (.putfield a, pc + 3 - pc) := by
  refine qdc ?_
  unfold Decoder.instr
  rw [qrb (qu1 h)]
  show ((Reader.u2 : Decoder Nat) >>= fun a => (Pure.pure (Jvm.ClassFile.Instr.putfield a) : Decoder Jvm.ClassFile.Instr)) cc (pc + 1) = _
  rw [qrb h1]
  rfl
theorem dc_182 {a : Nat} (h : qby cc pc 182) (h1 : (Reader.u2 : Decoder Nat) cc (pc + 1) = .ok (a, pc + 3)) : decode cc pc = .ok (.invokevirtual a, pc + 3 - pc) := by
  refine qdc ?_
  unfold Decoder.instr
  rw [qrb (qu1 h)]
  show ((Reader.u2 : Decoder Nat) >>= fun a => (Pure.pure (Jvm.ClassFile.Instr.invokevirtual a) : Decoder Jvm.ClassFile.Instr)) cc (pc + 1) = _
  rw [qrb h1]
  rfl
theorem dc_183 {a : Nat} (h : qby cc pc 183) (h1 : (Reader.u2 : Decoder Nat) cc (pc + 1) = .ok (a, pc + 3)) : decode cc pc = .ok (.invokespecial a, pc + 3 - pc) := by
  refine qdc ?_
  unfold Decoder.instr
  rw [qrb (qu1 h)]
  show ((Reader.u2 : Decoder Nat) >>= fun a => (Pure.pure (Jvm.ClassFile.Instr.invokespecial a) : Decoder Jvm.ClassFile.Instr)) cc (pc + 1) = _
  rw [qrb h1]
  rfl
theorem dc_184 {a : Nat} (h : qby cc pc 184) (h1 : (Reader.u2 : Decoder Nat) cc (pc + 1) = .ok (a, pc + 3)) : decode cc pc = .ok (.invokestatic a, pc + 3 - pc) := by
  refine qdc ?_
  unfold Decoder.instr
  rw [qrb (qu1 h)]
  show ((Reader.u2 : Decoder Nat) >>= fun a => (Pure.pure (Jvm.ClassFile.Instr.invokestatic a) : Decoder Jvm.ClassFile.Instr)) cc (pc + 1) = _
  rw [qrb h1]
  rfl
theorem dc_187 {a : Nat} (h : qby cc pc 187) (h1 : (Reader.u2 : Decoder Nat) cc (pc + 1) = .ok (a, pc + 3)) : decode cc pc = .ok (.new a, pc + 3 - pc) := by
  refine qdc ?_
  unfold Decoder.instr
  rw [qrb (qu1 h)]
  show ((Reader.u2 : Decoder Nat) >>= fun a => (Pure.pure (Jvm.ClassFile.Instr.new a) : Decoder Jvm.ClassFile.Instr)) cc (pc + 1) = _
  rw [qrb h1]
  rfl
theorem dc_189 {a : Nat} (h : qby cc pc 189) (h1 : (Reader.u2 : Decoder Nat) cc (pc + 1) = .ok (a, pc + 3)) : decode cc pc = .ok (.anewarray a, pc + 3 - pc) := by
  refine qdc ?_
  unfold Decoder.instr
  rw [qrb (qu1 h)]
  show ((Reader.u2 : Decoder Nat) >>= fun a => (Pure.pure (Jvm.ClassFile.Instr.anewarray a) : Decoder Jvm.ClassFile.Instr)) cc (pc + 1) = _
  rw [qrb h1]
  rfl
theorem dc_17 {o : Int} (h : qby cc pc 17) (h1 : (Reader.s2 : Decoder Int) cc (pc + 1) = .ok (o, pc + 3)) : decode cc pc = .ok (.sipush o, pc + 3 - pc) := by
  refine qdc ?_
  unfold Decoder.instr
  rw [qrb (qu1 h)]
  show ((Reader.s2 : Decoder Int) >>= fun o => (Pure.pure (Jvm.ClassFile.Instr.sipush o) : Decoder Jvm.ClassFile.Instr)) cc (pc + 1) = _
  rw [qrb h1]
  rfl
theorem dc_167 {o : Int} (h : qby cc pc 167) (h1 : (Reader.s2 : Decoder Int) cc (pc + 1) = .ok (o, pc + 3)) : decode cc pc = .ok (.goto o, pc + 3 - pc) := by
  refine qdc ?_
  unfold Decoder.instr
  rw [qrb (qu1 h)]
  show ((Reader.s2 : Decoder Int) >>= fun o => (Pure.pure (Jvm.ClassFile.Instr.goto o) : Decoder Jvm.ClassFile.Instr)) cc (pc + 1) = _
  rw [qrb h1]
  rfl
theorem dc_198 {o : Int} (h : qby cc pc 198) (h1 : (Reader.s2 : Decoder Int) cc (pc + 1) = .ok (o, pc + 3)) : decode cc pc = .ok (.ifnull o, pc + 3 - pc) := by
  refine qdc ?_
  unfold Decoder.instr
  rw [qrb (qu1 h)]
  show ((Reader.s2 : Decoder Int) >>= fun o => (Pure.pure (Jvm.ClassFile.Instr.ifnull o) : Decoder Jvm.ClassFile.Instr)) cc (pc + 1) = _
  rw [qrb h1]
  rfl
theorem dc_153 {o : Int} (h : qby cc pc 153) (h1 : (Reader.s2 : Decoder Int) cc (pc + 1) = .ok (o, pc + 3)) : decode cc pc = .ok (.ifCond .eq o, pc + 3 - pc) := by
  refine qdc ?_
  unfold Decoder.instr
  rw [qrb (qu1 h)]
  show ((Reader.s2 : Decoder Int) >>= fun o => (Pure.pure (Jvm.ClassFile.Instr.ifCond .eq o) : Decoder Jvm.ClassFile.Instr)) cc (pc + 1) = _
  rw [qrb h1]
  rfl
theorem dc_154 {o : Int} (h : qby cc pc 154) (h1 : (Reader.s2 : Decoder Int) cc (pc + 1) = .ok (o, pc + 3)) : decode cc pc = .ok (.ifCond .ne o, pc + 3 - pc) := by
  refine qdc ?_
  unfold Decoder.instr
  rw [qrb (qu1 h)]
  show ((Reader.s2 : Decoder Int) >>= fun o => (Pure.pure (Jvm.ClassFile.Instr.ifCond .ne o) : Decoder Jvm.ClassFile.Instr)) cc (pc + 1) = _
  rw [qrb h1]
  rfl
theorem dc_155 {o : Int} (h : qby cc pc 155) (h1 : (Reader.s2 : Decoder Int) cc (pc + 1) = .ok (o, pc + 3)) : decode cc pc = .ok (.ifCond .lt o, pc + 3 - pc) := by
  refine qdc ?_
  unfold Decoder.instr
  rw [qrb (qu1 h)]
  show ((Reader.s2 : Decoder Int) >>= fun o => (Pure.pure (Jvm.ClassFile.Instr.ifCond .lt o) : Decoder Jvm.ClassFile.Instr)) cc (pc + 1) = _
  rw [qrb h1]
  rfl
theorem dc_156 {o : Int} (h : qby cc pc 156) (h1 : (Reader.s2 : Decoder Int) cc (pc + 1) = .ok (o, pc + 3)) : decode cc pc = .ok (.ifCond .ge o, pc + 3 - pc) := by
  refine qdc ?_
  unfold Decoder.instr
  rw [qrb (qu1 h)]
  show ((Reader.s2 : Decoder Int) >>= fun o => (Pure.pure (Jvm.ClassFile.Instr.ifCond .ge o) : Decoder Jvm.ClassFile.Instr)) cc (pc + 1) = _
  rw [qrb h1]
  rfl
theorem dc_157 {o : Int} (h : qby cc pc 157) (h1 : (Reader.s2 : Decoder Int) cc (pc + 1) = .ok (o, pc + 3)) : decode cc pc = .ok (.ifCond .gt o, pc + 3 - pc) := by
  refine qdc ?_
  unfold Decoder.instr
  rw [qrb (qu1 h)]
  show ((Reader.s2 : Decoder Int) >>= fun o => (Pure.pure (Jvm.ClassFile.Instr.ifCond .gt o) : Decoder Jvm.ClassFile.Instr)) cc (pc + 1) = _
  rw [qrb h1]
  rfl
theorem dc_158 {o : Int} (h : qby cc pc 158) (h1 : (Reader.s2 : Decoder Int) cc (pc + 1) = .ok (o, pc + 3)) : decode cc pc = .ok (.ifCond .le o, pc + 3 - pc) := by
  refine qdc ?_
  unfold Decoder.instr
  rw [qrb (qu1 h)]
  show ((Reader.s2 : Decoder Int) >>= fun o => (Pure.pure (Jvm.ClassFile.Instr.ifCond .le o) : Decoder Jvm.ClassFile.Instr)) cc (pc + 1) = _
  rw [qrb h1]
  rfl
theorem dc_159 {o : Int} (h : qby cc pc 159) (h1 : (Reader.s2 : Decoder Int) cc (pc + 1) = .ok (o, pc + 3)) : decode cc pc = .ok (.if_icmp .eq o, pc + 3 - pc) := by
  refine qdc ?_
  unfold Decoder.instr
  rw [qrb (qu1 h)]
  show ((Reader.s2 : Decoder Int) >>= fun o => (Pure.pure (Jvm.ClassFile.Instr.if_icmp .eq o) : Decoder Jvm.ClassFile.Instr)) cc (pc + 1) = _
  rw [qrb h1]
  rfl
theorem dc_160 {o : Int} (h : qby cc pc 160) (h1 : (Reader.s2 : Decoder Int) cc (pc + 1) = .ok (o, pc + 3)) : decode cc pc = .ok (.if_icmp .ne o, pc + 3 - pc) := by
  refine qdc ?_
  unfold Decoder.instr
  rw [qrb (qu1 h)]
  show ((Reader.s2 : Decoder Int) >>= fun o => (Pure.pure (Jvm.ClassFile.Instr.if_icmp .ne o) : Decoder Jvm.ClassFile.Instr)) cc (pc + 1) = _
  rw [qrb h1]
  rfl
theorem dc_161 {o : Int} (h : qby cc pc 161) (h1 : (Reader.s2 : Decoder Int) cc (pc + 1) = .ok (o, pc + 3)) : decode cc pc = .ok (.if_icmp .lt o, pc + 3 - pc) := by
  refine qdc ?_
  unfold Decoder.instr
  rw [qrb (qu1 h)]
  show ((Reader.s2 : Decoder Int) >>= fun o => (Pure.pure (Jvm.ClassFile.Instr.if_icmp .lt o) : Decoder Jvm.ClassFile.Instr)) cc (pc + 1) = _
  rw [qrb h1]
  rfl
theorem dc_162 {o : Int} (h : qby cc pc 162) (h1 : (Reader.s2 : Decoder Int) cc (pc + 1) = .ok (o, pc + 3)) : decode cc pc = .ok (.if_icmp .ge o, pc + 3 - pc) := by
  refine qdc ?_
  unfold Decoder.instr
  rw [qrb (qu1 h)]
  show ((Reader.s2 : Decoder Int) >>= fun o => (Pure.pure (Jvm.ClassFile.Instr.if_icmp .ge o) : Decoder Jvm.ClassFile.Instr)) cc (pc + 1) = _
  rw [qrb h1]
  rfl
theorem dc_163 {o : Int} (h : qby cc pc 163) (h1 : (Reader.s2 : Decoder Int) cc (pc + 1) = .ok (o, pc + 3)) : decode cc pc = .ok (.if_icmp .gt o, pc + 3 - pc) := by
  refine qdc ?_
  unfold Decoder.instr
  rw [qrb (qu1 h)]
  show ((Reader.s2 : Decoder Int) >>= fun o => (Pure.pure (Jvm.ClassFile.Instr.if_icmp .gt o) : Decoder Jvm.ClassFile.Instr)) cc (pc + 1) = _
  rw [qrb h1]
  rfl
theorem dc_164 {o : Int} (h : qby cc pc 164) (h1 : (Reader.s2 : Decoder Int) cc (pc + 1) = .ok (o, pc + 3)) : decode cc pc = .ok (.if_icmp .le o, pc + 3 - pc) := by
  refine qdc ?_
  unfold Decoder.instr
  rw [qrb (qu1 h)]
  show ((Reader.s2 : Decoder Int) >>= fun o => (Pure.pure (Jvm.ClassFile.Instr.if_icmp .le o) : Decoder Jvm.ClassFile.Instr)) cc (pc + 1) = _
  rw [qrb h1]
  rfl
theorem dc_16 {a : Nat} (h : qby cc pc 16) (h1 : qby cc (pc + 1) a) : decode cc pc = .ok (.bipush (Reader.signed 8 a), pc + 2 - pc) := by
  refine qdc ?_
  unfold Decoder.instr
  rw [qrb (qu1 h)]
  show ((Reader.s1 : Decoder Int) >>= fun a => (Pure.pure (Jvm.ClassFile.Instr.bipush a) : Decoder Jvm.ClassFile.Instr)) cc (pc + 1) = _
  rw [qrb (qs1 h1)]
  rfl
theorem dc_132 {a b : Nat} (h : qby cc pc 132) (h1 : qby cc (pc + 1) a) (h2 : qby cc (pc + 1 + 1) b) : decode cc pc = .ok (.iinc a (Reader.signed 8 b), pc + 3 - pc) := by
  refine qdc ?_
  unfold Decoder.instr
  rw [qrb (qu1 h)]
  show ((Reader.u1 : Decoder Nat) >>= fun a => ((Reader.s1 : Decoder Int) >>= fun b => (Pure.pure (Jvm.ClassFile.Instr.iinc a b) : Decoder Jvm.ClassFile.Instr))) cc (pc + 1) = _
  rw [qrb (qu1 h1), qrb (qs1 h2)]
  rfl
theorem dc_188_4 (h : qby cc pc 188) (h1 : qby cc (pc + 1) 4) : decode cc pc = .ok (.newarray .boolean, pc + 2 - pc) := by
  refine qdc ?_
  unfold Decoder.instr
  rw [qrb (qu1 h)]
  show Decoder.newarray pc cc (pc + 1) = _
  unfold Decoder.newarray
  rw [qrb (qu1 h1)]
  rfl
theorem dc_188_10 (h : qby cc pc 188) (h1 : qby cc (pc + 1) 10) : decode cc pc = .ok (.newarray .int, pc + 2 - pc) := by
  refine qdc ?_
  unfold Decoder.instr
  rw [qrb (qu1 h)]
  show Decoder.newarray pc cc (pc + 1) = _
  unfold Decoder.newarray
  rw [qrb (qu1 h1)]
  rfl
theorem dc_188_11 (h : qby cc pc 188) (h1 : qby cc (pc + 1) 11) : decode cc pc = .ok (.newarray .long, pc + 2 - pc) := by
  refine qdc ?_
  unfold Decoder.instr
  rw [qrb (qu1 h)]
  show Decoder.newarray pc cc (pc + 1) = _
  unfold Decoder.newarray
  rw [qrb (qu1 h1)]
  rfl
theorem dc_197 {a : Nat} (h : qby cc pc 197) (h1 : (Reader.u2 : Decoder Nat) cc (pc + 1) = .ok (a, pc + 3)) (h2 : qby cc (pc + 3) 2) : decode cc pc = .ok (.multianewarray a 2, pc + 4 - pc) := by
  refine qdc ?_
  unfold Decoder.instr
  rw [qrb (qu1 h)]
  show Decoder.multianewarray pc cc (pc + 1) = _
  unfold Decoder.multianewarray
  rw [qrb h1, qrb (qu1 h2)]
  rfl
def qasm (ins : Jvm.ClassFile.Instr) : Option (List Nat) := match ins with
  | .aconst_null => some [1]
  | .iaload => some [46]
  | .laload => some [47]
  | .aaload => some [50]
  | .baload => some [51]
  | .iastore => some [79]
  | .lastore => some [80]
  | .aastore => some [83]
  | .bastore => some [84]
  | .pop => some [87]
  | .dup => some [89]
  | .dup2 => some [92]
  | .iadd => some [96]
  | .ladd => some [97]
  | .isub => some [100]
  | .lsub => some [101]
  | .imul => some [104]
  | .lmul => some [105]
  | .idiv => some [108]
  | .irem => some [112]
  | .ineg => some [116]
  | .ishl => some [120]
  | .ishr => some [122]
  | .iushr => some [124]
  | .iand => some [126]
  | .ior => some [128]
  | .ixor => some [130]
  | .i2l => some [133]
  | .i2c => some [146]
  | .lcmp => some [148]
  | .ireturn => some [172]
  | .lreturn => some [173]
  | .return_ => some [177]
  | .arraylength => some [190]
  | .athrow => some [191]
  | .aload_n n => some [42 + n.val]
  | .iload_n n => some [26 + n.val]
  | .lload_n n => some [30 + n.val]
  | .istore_n n => some [59 + n.val]
  | .lstore_n n => some [63 + n.val]
  | .astore_n n => some [75 + n.val]
  | .lconst n => some [9 + n.val]
  | .iconst k => bif decide (-1 ≤ k) && decide (k ≤ 5) then some [(k + 3).toNat] else none
  | .ldc a => some [18, a]
  | .iload a => some [21, a]
  | .lload a => some [22, a]
  | .aload a => some [25, a]
  | .istore a => some [54, a]
  | .lstore a => some [55, a]
  | .astore a => some [58, a]
  | .ldc_w a => some (qw2 19 a)
  | .ldc2_w a => some (qw2 20 a)
  | .getstatic a => some (qw2 178 a)
  | .getfield a => some (qw2 180 a)
  | .putfield a => some (qw2 181 a)
  | .invokevirtual a => some (qw2 182 a)
  | .invokespecial a => some (qw2 183 a)
  | .invokestatic a => some (qw2 184 a)
  | .new a => some (qw2 187 a)
  | .anewarray a => some (qw2 189 a)
  | .sipush o => qi2 17 o
  | .goto o => qi2 167 o
  | .ifnull o => qi2 198 o
  | .ifCond c o => qi2 (match c with | .eq => 153 | .ne => 154 | .lt => 155 | .ge => 156 | .gt => 157 | .le => 158) o
  | .if_icmp c o => qi2 (match c with | .eq => 159 | .ne => 160 | .lt => 161 | .ge => 162 | .gt => 163 | .le => 164) o
  | .bipush o => qi1 o (fun n => [16, n])
  | .iinc a o => qi1 o (fun n => [132, a, n])
  | .newarray t => match t with | .boolean => some [188, 4] | .int => some [188, 10] | .long => some [188, 11] | _ => none
  | .multianewarray a d => bif Nat.beq d 2 then some (qw2 197 a ++ [2]) else none
  | _ => none
theorem qlok {i : Jvm.ClassFile.Instr} {n : Nat} (h : decode cc pc = .ok (i, pc + n - pc)) : decode cc pc = .ok (i, n) := by
  rw [Nat.add_sub_cancel_left] at h
  exact h
theorem qasm_ok {ins : Jvm.ClassFile.Instr} {bs : List Nat} (h : qasm ins = some bs) (hb : qbs cc pc bs) : decode cc pc = .ok (ins, bs.length) := by
  unfold qasm at h
  split at h
  · cases h; exact qlok (dc_1 hb.1)
  · cases h; exact qlok (dc_46 hb.1)
  · cases h; exact qlok (dc_47 hb.1)
  · cases h; exact qlok (dc_50 hb.1)
  · cases h; exact qlok (dc_51 hb.1)
  · cases h; exact qlok (dc_79 hb.1)
  · cases h; exact qlok (dc_80 hb.1)
  · cases h; exact qlok (dc_83 hb.1)
  · cases h; exact qlok (dc_84 hb.1)
  · cases h; exact qlok (dc_87 hb.1)
  · cases h; exact qlok (dc_89 hb.1)
  · cases h; exact qlok (dc_92 hb.1)
  · cases h; exact qlok (dc_96 hb.1)
  · cases h; exact qlok (dc_97 hb.1)
  · cases h; exact qlok (dc_100 hb.1)
  · cases h; exact qlok (dc_101 hb.1)
  · cases h; exact qlok (dc_104 hb.1)
  · cases h; exact qlok (dc_105 hb.1)
  · cases h; exact qlok (dc_108 hb.1)
  · cases h; exact qlok (dc_112 hb.1)
  · cases h; exact qlok (dc_116 hb.1)
  · cases h; exact qlok (dc_120 hb.1)
  · cases h; exact qlok (dc_122 hb.1)
  · cases h; exact qlok (dc_124 hb.1)
  · cases h; exact qlok (dc_126 hb.1)
  · cases h; exact qlok (dc_128 hb.1)
  · cases h; exact qlok (dc_130 hb.1)
  · cases h; exact qlok (dc_133 hb.1)
  · cases h; exact qlok (dc_146 hb.1)
  · cases h; exact qlok (dc_148 hb.1)
  · cases h; exact qlok (dc_172 hb.1)
  · cases h; exact qlok (dc_173 hb.1)
  · cases h; exact qlok (dc_177 hb.1)
  · cases h; exact qlok (dc_190 hb.1)
  · cases h; exact qlok (dc_191 hb.1)
  · rename_i n
    cases h
    match n, hb with
    | 0, hb => exact qlok (dc_42 hb.1)
    | 1, hb => exact qlok (dc_43 hb.1)
    | 2, hb => exact qlok (dc_44 hb.1)
    | 3, hb => exact qlok (dc_45 hb.1)
  · rename_i n
    cases h
    match n, hb with
    | 0, hb => exact qlok (dc_26 hb.1)
    | 1, hb => exact qlok (dc_27 hb.1)
    | 2, hb => exact qlok (dc_28 hb.1)
    | 3, hb => exact qlok (dc_29 hb.1)
  · rename_i n
    cases h
    match n, hb with
    | 0, hb => exact qlok (dc_30 hb.1)
    | 1, hb => exact qlok (dc_31 hb.1)
    | 2, hb => exact qlok (dc_32 hb.1)
    | 3, hb => exact qlok (dc_33 hb.1)
  · rename_i n
    cases h
    match n, hb with
    | 0, hb => exact qlok (dc_59 hb.1)
    | 1, hb => exact qlok (dc_60 hb.1)
    | 2, hb => exact qlok (dc_61 hb.1)
    | 3, hb => exact qlok (dc_62 hb.1)
  · rename_i n
    cases h
    match n, hb with
    | 0, hb => exact qlok (dc_63 hb.1)
    | 1, hb => exact qlok (dc_64 hb.1)
    | 2, hb => exact qlok (dc_65 hb.1)
    | 3, hb => exact qlok (dc_66 hb.1)
  · rename_i n
    cases h
    match n, hb with
    | 0, hb => exact qlok (dc_75 hb.1)
    | 1, hb => exact qlok (dc_76 hb.1)
    | 2, hb => exact qlok (dc_77 hb.1)
    | 3, hb => exact qlok (dc_78 hb.1)
  · rename_i n
    cases h
    match n, hb with
    | 0, hb => exact qlok (dc_9 hb.1)
    | 1, hb => exact qlok (dc_10 hb.1)
  · rename_i k
    cases hd : (decide (-1 ≤ k) && decide (k ≤ 5)) with
    | false => rw [hd] at h; cases h
    | true =>
      rw [hd] at h
      cases h
      simp only [Bool.and_eq_true, decide_eq_true_eq] at hd
      rcases (by omega : k = -1 ∨ k = 0 ∨ k = 1 ∨ k = 2 ∨ k = 3 ∨ k = 4 ∨ k = 5) with rfl | rfl | rfl | rfl | rfl | rfl | rfl
      · exact qlok (dc_2 hb.1)
      · exact qlok (dc_3 hb.1)
      · exact qlok (dc_4 hb.1)
      · exact qlok (dc_5 hb.1)
      · exact qlok (dc_6 hb.1)
      · exact qlok (dc_7 hb.1)
      · exact qlok (dc_8 hb.1)
  · cases h; exact qlok (dc_18 hb.1 hb.2.1)
  · cases h; exact qlok (dc_21 hb.1 hb.2.1)
  · cases h; exact qlok (dc_22 hb.1 hb.2.1)
  · cases h; exact qlok (dc_25 hb.1 hb.2.1)
  · cases h; exact qlok (dc_54 hb.1 hb.2.1)
  · cases h; exact qlok (dc_55 hb.1 hb.2.1)
  · cases h; exact qlok (dc_58 hb.1 hb.2.1)
  · cases h; exact qlok (dc_19 (qw2_u hb).1 (qw2_u hb).2)
  · cases h; exact qlok (dc_20 (qw2_u hb).1 (qw2_u hb).2)
  · cases h; exact qlok (dc_178 (qw2_u hb).1 (qw2_u hb).2)
  · cases h; exact qlok (dc_180 (qw2_u hb).1 (qw2_u hb).2)
  · cases h; exact qlok (dc_181 (qw2_u hb).1 (qw2_u hb).2)
  · cases h; exact qlok (dc_182 (qw2_u hb).1 (qw2_u hb).2)
  · cases h; exact qlok (dc_183 (qw2_u hb).1 (qw2_u hb).2)
  · cases h; exact qlok (dc_184 (qw2_u hb).1 (qw2_u hb).2)
  · cases h; exact qlok (dc_187 (qw2_u hb).1 (qw2_u hb).2)
  · cases h; exact qlok (dc_189 (qw2_u hb).1 (qw2_u hb).2)
  · obtain ⟨e, h1, h2⟩ := qi2_s h hb; rw [e]; exact qlok (dc_17 h1 h2)
  · obtain ⟨e, h1, h2⟩ := qi2_s h hb; rw [e]; exact qlok (dc_167 h1 h2)
  · obtain ⟨e, h1, h2⟩ := qi2_s h hb; rw [e]; exact qlok (dc_198 h1 h2)
  · obtain ⟨e, h1, h2⟩ := qi2_s h hb
    rw [e]
    rename_i c o
    cases c
    · exact qlok (dc_153 h1 h2)
    · exact qlok (dc_154 h1 h2)
    · exact qlok (dc_155 h1 h2)
    · exact qlok (dc_156 h1 h2)
    · exact qlok (dc_157 h1 h2)
    · exact qlok (dc_158 h1 h2)
  · obtain ⟨e, h1, h2⟩ := qi2_s h hb
    rw [e]
    rename_i c o
    cases c
    · exact qlok (dc_159 h1 h2)
    · exact qlok (dc_160 h1 h2)
    · exact qlok (dc_161 h1 h2)
    · exact qlok (dc_162 h1 h2)
    · exact qlok (dc_163 h1 h2)
    · exact qlok (dc_164 h1 h2)
  · obtain ⟨n, rfl, rfl⟩ := qi1_s h; exact qlok (dc_16 hb.1 hb.2.1)
  · obtain ⟨n, rfl, rfl⟩ := qi1_s h; exact qlok (dc_132 hb.1 hb.2.1 hb.2.2.1)
  · split at h
    · cases h; exact qlok (dc_188_4 hb.1 hb.2.1)
    · cases h; exact qlok (dc_188_10 hb.1 hb.2.1)
    · cases h; exact qlok (dc_188_11 hb.1 hb.2.1)
    · cases h
  · rename_i a d
    cases hd : Nat.beq d 2 with
    | false => rw [hd] at h; cases h
    | true =>
      rw [hd] at h
      have := Nat.eq_of_beq_eq_true hd
      subst this
      cases h
      have h3 : qbs cc pc (qw2 197 a) := ⟨hb.1, hb.2.1, hb.2.2.1, trivial⟩
      exact qlok (dc_197 (qw2_u h3).1 (qw2_u h3).2 hb.2.2.2.1)
  · cases h
end QDC
def qpre : List Nat → List UInt8 → Bool
  | [], _ => true
  | n :: r, b :: l => Nat.beq b.toNat n && qpre r l
  | _ :: _, [] => false
/-- the table, held against the bytes, from place p on -/
def qscan (cc : ByteArray) : List (Nat × qE0) → Nat → List UInt8 → Bool
  | [], _, _ => true
  | (pc, ins, nx, _) :: r, p, l => Nat.ble p pc && ((match qasm ins with
    | some bs => qpre bs (l.drop (pc - p)) && Nat.beq nx (pc + bs.length)
    | none => match decode cc pc with
      | .ok (i, n) => decide (i = ins) && (Nat.beq n (nx - pc))
      | _ => false) && qscan cc r pc (l.drop (pc - p)))
theorem qpre_ok {cc : ByteArray} : ∀ (bs : List Nat) (pc : Nat) (l : List UInt8), l = cc.data.toList.drop pc → qpre bs l = true → qbs cc pc bs
  | [], _, _, _, _ => trivial
  | _ :: _, _, [], _, h => by cases h
  | n :: r, pc, b :: l, hl, h => by
    unfold qpre at h
    rw [Bool.and_eq_true] at h
    have h1 : pc < cc.data.toList.length := by
      rcases Nat.lt_or_ge pc cc.data.toList.length with g | g
      · exact g
      · rw [List.drop_eq_nil_of_le g] at hl; cases hl
    rw [List.drop_eq_getElem_cons h1] at hl
    injection hl with e1 e2
    refine ⟨⟨h1, ?_⟩, qpre_ok r (pc + 1) l e2 h.2⟩
    rw [← Nat.eq_of_beq_eq_true h.1, e1]
    rfl
theorem qscan_ok {cc : ByteArray} : ∀ (tb : List (Nat × qE0)) (p : Nat) (l : List UInt8), l = cc.data.toList.drop p → qscan cc tb p l = true → ∀ e ∈ tb, decode cc e.1 = .ok (e.2.1, e.2.2.1 - e.1)
  | [], _, _, _, _, _, he => by cases he
  | (pc, ins, nx, tg) :: r, p, l, hl, h, e, he => by
    unfold qscan at h
    simp only [Bool.and_eq_true] at h
    obtain ⟨h0, h1, h2⟩ := h
    have h0 := Nat.le_of_ble_eq_true h0
    have hd : l.drop (pc - p) = cc.data.toList.drop pc := by rw [hl, List.drop_drop]; congr 1; omega
    rcases List.mem_cons.mp he with rfl | he
    · dsimp only
      split at h1
      · rename_i bs hbs
        rw [Bool.and_eq_true] at h1
        rw [qasm_ok hbs (qpre_ok bs pc _ hd h1.1), Nat.eq_of_beq_eq_true h1.2, Nat.add_sub_cancel_left]
      · split at h1
        · rename_i i n hi
          rw [Bool.and_eq_true] at h1
          rw [hi, of_decide_eq_true h1.1, Nat.eq_of_beq_eq_true h1.2]
        · cases h1
    · exact qscan_ok r pc _ hd h2 e he
