/-! ===== the law begins ===== -/
set_option maxRecDepth 100000
section QLB
variable {s : State} {args : Array Value}
theorem qk_start {b L : Nat} {xs : Nat → Int32} (hts : ∀ w ∈ lw_tbl, w.before args s = true) (hf : ∀ c ∈ qfl1, c.before args s = true) (hX : va_X b L xs s s.heap) :
    ∃ (E : qEnv) (r6 : Nat), eB E = s.heap.size ∧ eM E = qM0 L xs r6 ∧ qSF E s ∧ qEok E ∧ qHR E (qM0 L xs r6) s.heap ∧ qtv E (.ref 1) = .ref b ∧ (∀ q : Nat, q < eB E → s.heap[q]? = (eH E)[q]?) := by
  have hA : ∀ a : Nat, a < s.heap.size → ¬ (fun q => s.heap.size ≤ q) a := fun a h => Nat.not_le.mpr h
  obtain ⟨D, hD⟩ := qk_K hts
  obtain ⟨cs, hcs⟩ := qk_cs hts
  obtain ⟨z0, ⟨o6, z6⟩, z1, zu, zs⟩ := qk_Z hts hf hA
  obtain ⟨t2, e2, a2⟩ := qk_arr hf hA (x := 2) (Or.inl rfl)
  obtain ⟨t3, e3, a3⟩ := qk_arr hf hA (x := 3) (Or.inr (Or.inl rfl))
  obtain ⟨t4, e4, a4⟩ := qk_arr hf hA (x := 4) (Or.inr (Or.inr rfl))
  have hst : ∀ n : Nat, ∃ p : Nat × Nat, n < 20 → (va_O "java/lang/String" p.1 (fun q => s.heap.size ≤ q) s s.heap ∧ va_OF "java/lang/String" "coder" "B" (.int 0) p.1 (fun q => s.heap.size ≤ q) s s.heap ∧ va_OF "java/lang/String" "value" "[B" (.ref p.2) p.1 (fun q => s.heap.size ≤ q) s s.heap ∧
      va_T .byte p.2 (qsb n).length (fun j => .int ((qsb n).getD j 0)) (fun q => s.heap.size ≤ q) s s.heap ∧ (qst n).eval args s none [] s = some (.ref p.1)) := fun n => by
    by_cases h : n < 20
    · obtain ⟨p, hp⟩ := qk_str hf hA h
      exact ⟨p, fun _ => hp⟩
    · exact ⟨(0, 0), fun g => absurd g h⟩
  obtain ⟨st, hsp⟩ : ∃ st : Nat → Nat × Nat, ∀ n, n < 20 → (va_O "java/lang/String" (st n).1 (fun q => s.heap.size ≤ q) s s.heap ∧ va_OF "java/lang/String" "coder" "B" (.int 0) (st n).1 (fun q => s.heap.size ≤ q) s s.heap ∧ va_OF "java/lang/String" "value" "[B" (.ref (st n).2) (st n).1 (fun q => s.heap.size ≤ q) s s.heap ∧
      va_T .byte (st n).2 (qsb n).length (fun j => .int ((qsb n).getD j 0)) (fun q => s.heap.size ≤ q) s s.heap ∧ (qst n).eval args s none [] s = some (.ref (st n).1)) := ⟨fun n => Classical.choose (hst n), fun n hn => Classical.choose_spec (hst n) hn⟩
  have hX1 := qk_X hX
  let ta : Nat → Nat := fun x => if x = 2 then t2 else if x = 3 then t3 else t4
  have hta : ∀ x, (x = 2 ∨ x = 3 ∨ x = 4) → (qat x).eval args s none [] s = some (.ref (ta x)) ∧ va_T .int (ta x) (qar x).length (fun j => .int ((qar x).getD j 0)) (fun q => s.heap.size ≤ q) s s.heap := fun x hx => by
    rcases hx with rfl | rfl | rfl
    · exact ⟨e2, a2⟩
    · exact ⟨e3, a3⟩
    · exact ⟨e4, a4⟩
  let r6 : Nat := match o6 with | none => 0 | some _ => 7
  let tf : Nat := match o6 with | none => 0 | some t => t
  refine ⟨qE0v D s b tf L r6 xs ta st cs, r6, rfl, rfl, ?_, qE0_ok, qE0_hr, rfl, fun q _ => rfl⟩
  refine ⟨⟨hD, hcs⟩, qE0_ro hX1 (fun x hx => (hta x hx).2) (fun n hn => ⟨(hsp n hn).1, (hsp n hn).2.1, (hsp n hn).2.2.1, (hsp n hn).2.2.2.1⟩), qk_NW hts, ?_, ?_, (qk_AO hts).1, (qk_AO hts).2, ⟨qk_Nc (qow_at hf (i := 4) rfl), qk_Nc (qow_at hf (i := 5) rfl)⟩, zu, zs⟩
  · intro q hq
    rw [qSR_eq] at hq
    obtain ⟨n, hn, rfl⟩ := List.mem_map.mp hq
    have hn := List.mem_range.mp hn
    have e : qtr (qE0v D s b tf L r6 xs ta st cs) (10 + n) = (st n).1 := by
      unfold qtr
      rw [if_pos (by omega)]
      show qT0 b tf ta st (10 + n) = _
      unfold qT0
      rw [if_neg (by omega), if_neg (by omega), if_neg (by omega), if_pos (by omega), Nat.add_sub_cancel_left]
    show vk_R (qsc n).1 (qsc n).2 (qstx (10 + n)) (qtr _ (10 + n)) s
    rw [e]
    exact qk_SR hts hn (hsp n hn).2.2.2.2
  · intro x y hxy
    rcases hxy with rfl | ⟨rfl, hx⟩ | rfl
    · exact z0
    · have h1 := z1 x hx (ta x) (hta x hx).1
      have e : qsv (qE0v D s b tf L r6 xs ta st cs) x 1 = .ref (ta x) := by
        rcases hx with rfl | rfl | rfl <;> rfl
      rw [e]
      exact h1
    · have e : qsv (qE0v D s b tf L r6 xs ta st cs) x 2 = va_rf o6 := by
        cases o6 <;> rfl
      rw [e]
      exact z6
end QLB
