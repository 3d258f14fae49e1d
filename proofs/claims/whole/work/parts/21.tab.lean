/-! ===== the tables, checked by the kernel ===== -/
def qch1 (k : Nat) (e : Nat × qE0) : Bool := (match decode (qcc k) e.1 with
  | .ok (i, n) => decide (i = e.2.1) && Nat.beq n (e.2.2.1 - e.1)
  | _ => false) && qiok k e.1 e.2.1 e.2.2.1 e.2.2.2
def qch (k : Nat) : Bool := (qtab k).all (fun l => l.all (qch1 k))
theorem qch_use {k : Nat} (h : qch k = true) {pc nx tg : Nat} {ins : Jvm.ClassFile.Instr} (h1 : qcd k pc = some (ins, nx, tg)) : decode (qcc k) pc = .ok (ins, nx - pc) ∧ qiok k pc ins nx tg = true := by
  unfold qcd at h1
  cases h2 : (qtab k)[pc / 32]? with
  | none => rw [h2] at h1; cases h1
  | some l =>
    rw [h2] at h1
    have h3 := List.all_eq_true.mp (List.all_eq_true.mp h l (List.mem_of_getElem? h2)) _ (qfd_mem _ _ _ h1)
    unfold qch1 at h3
    rw [Bool.and_eq_true] at h3
    refine ⟨?_, h3.2⟩
    have h4 := h3.1
    dsimp only at h4
    split at h4
    · rename_i i n he
      rw [Bool.and_eq_true] at h4
      rw [he, of_decide_eq_true h4.1, Nat.eq_of_beq_eq_true h4.2]
    · cases h4
theorem qch_0 : qch 0 = true := by decide +kernel
theorem qch_193 : qch 193 = true := by decide +kernel
theorem qch_348 : qch 348 = true := by decide +kernel
