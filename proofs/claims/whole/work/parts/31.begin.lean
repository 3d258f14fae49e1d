/-! ===== the law begins ===== -/
set_option maxRecDepth 100000
section QLB
variable {s : State} {args : Array Value}
theorem qk_start {b L : Nat} {xs : Nat → Int32} (hts : ∀ w ∈ lw_tbl, w.before args s = true) (hf : ∀ c ∈ qfl1, c.before args s = true) (hX : va_X b L xs s s.heap) :
    ∃ (E : qEnv) (r6 : Nat), eB E = s.heap.size ∧ eM E = qM0 L xs r6 ∧ qSF E s ∧ qEok E ∧ qHR E (qM0 L xs r6) s.heap ∧ qtv E (.ref 1) = .ref b ∧ (∀ q : Nat, q < eB E → s.heap[q]? = (eH E)[q]?) := by
  have hA : ∀ a : Nat, a < s.heap.size → ¬ (fun q => s.heap.size ≤ q) a := fun a h => Nat.not_le.mpr h
  obtain ⟨D, hD⟩ := qk_K hts
  obtain ⟨cs, hcs⟩ := qk_cs hts
  obtain ⟨z0, ⟨o6, z6⟩, z1, zu, zs⟩ := qk_Z hts hf hA
  obtain ⟨t2, e2, a2⟩ := qk_arr hf hA (x := 2) (Or.inl rfl)
  obtain ⟨t3, e3, a3⟩ := qk_arr hf hA (x := 3) (Or.inr (Or.inl rfl))
  obtain ⟨t4, e4, a4⟩ := qk_arr hf hA (x := 4) (Or.inr (Or.inr rfl))
  have hst : ∀ n : Nat, ∃ p : Nat × Nat, n < 20 → (va_O "java/lang/String" p.1 (fun q => s.heap.size ≤ q) s s.heap ∧ va_OF "java/lang/String" "coder" "B" (.int 0) p.1 (fun q => s.heap.size ≤ q) s s.heap ∧ va_OF "java/lang/String" "value" "[B" (.ref p.2) p.1 (fun q => s.heap.size ≤ q) s s.heap ∧
      va_T .byte p.2 (qsb n).length (fun j => .int ((qsb n).getD j 0)) (fun q => s.heap.size ≤ q) s s.heap ∧ (qst n).eval args s none [] s = some (.ref p.1)) := fun n => by
    by_cases h : n < 20
    · obtain ⟨p, hp⟩ := qk_str hf hA h
      exact ⟨p, fun _ => hp⟩
    · exact ⟨(0, 0), fun g => absurd g h⟩
  have hsp := fun n => Classical.choose_spec (hst n)
  generalize (fun n => Classical.choose (hst n)) = st at hsp
  sorry
end QLB
