/-! ===== the first memory, and what it stands for ===== -/
def qM0 (L : Nat) (xs : Nat → Int32) (r6 : Nat) : qM := ((64, true, 0, 0),
  (fun a => if a = 1 then (11, L) else if a = 2 ∨ a = 3 ∨ a = 4 then (11, (qar a).length) else if 10 ≤ a ∧ a < 30 then (29, 2) else if 30 ≤ a ∧ a < 50 then (12, (qsb (a - 30)).length) else (0, 0)),
  (fun a j => if a = 1 then xs j else if a = 2 ∨ a = 3 ∨ a = 4 then (qar a).getD j 0 else if 30 ≤ a ∧ a < 50 then (qsb (a - 30)).getD j 0 else 0),
  (fun a j => if a = 6 ∧ j = 0 then r6 else if 10 ≤ a ∧ a < 30 ∧ j = 0 then a + 20 else 0),
  fun _ _ => 0)
def qT0 (b tf : Nat) (ta : Nat → Nat) (st : Nat → Nat × Nat) (a : Nat) : Nat := if a = 1 then b else if a = 2 ∨ a = 3 ∨ a = 4 then ta a else if a = 7 then tf else if a < 30 then (st (a - 10)).1 else (st (a - 30)).2
def qC0 (c : Nat → ClassId) : Nat → ClassId := c
def qE0v (D : va_G) (s : State) (b tf L r6 : Nat) (xs : Nat → Int32) (ta : Nat → Nat) (st : Nat → Nat × Nat) (cs : Nat → ClassId) : qEnv := (D, s.heap.size, s.heap, qT0 b tf ta st, cs, qM0 L xs r6)
theorem qM0_at {L r6 : Nat} {xs : Nat → Int32} (a : Nat) : (a = 1 ∧ qsh (qM0 L xs r6) a = (11, L)) ∨ ((a = 2 ∨ a = 3 ∨ a = 4) ∧ qsh (qM0 L xs r6) a = (11, (qar a).length)) ∨ ((10 ≤ a ∧ a < 30) ∧ qsh (qM0 L xs r6) a = (29, 2)) ∨ ((30 ≤ a ∧ a < 50) ∧ qsh (qM0 L xs r6) a = (12, (qsb (a - 30)).length)) ∨ qsh (qM0 L xs r6) a = (0, 0) := by
  have e : qsh (qM0 L xs r6) a = (if a = 1 then (11, L) else if a = 2 ∨ a = 3 ∨ a = 4 then (11, (qar a).length) else if 10 ≤ a ∧ a < 30 then (29, 2) else if 30 ≤ a ∧ a < 50 then (12, (qsb (a - 30)).length) else (0, 0)) := rfl
  by_cases h1 : a = 1
  · exact Or.inl ⟨h1, by rw [e, if_pos h1]⟩
  by_cases h2 : a = 2 ∨ a = 3 ∨ a = 4
  · exact Or.inr (Or.inl ⟨h2, by rw [e, if_neg h1, if_pos h2]⟩)
  by_cases h3 : 10 ≤ a ∧ a < 30
  · exact Or.inr (Or.inr (Or.inl ⟨h3, by rw [e, if_neg h1, if_neg h2, if_pos h3]⟩))
  by_cases h4 : 30 ≤ a ∧ a < 50
  · exact Or.inr (Or.inr (Or.inr (Or.inl ⟨h4, by rw [e, if_neg h1, if_neg h2, if_neg h3, if_pos h4]⟩)))
  · exact Or.inr (Or.inr (Or.inr (Or.inr (by rw [e, if_neg h1, if_neg h2, if_neg h3, if_neg h4]))))
section QE0
variable {D : va_G} {s : State} {b tf L r6 : Nat} {xs : Nat → Int32} {ta : Nat → Nat} {st : Nat → Nat × Nat} {cs : Nat → ClassId}
theorem qE0_ok : qEok (qE0v D s b tf L r6 xs ta st cs) := by
  refine ⟨fun a ha => ?_, rfl, rfl⟩
  show (qsh (qM0 L xs r6) a).1 = 0 ∨ (qsh (qM0 L xs r6) a).1 = 11 ∨ (qsh (qM0 L xs r6) a).1 = 12 ∨ (qsh (qM0 L xs r6) a).1 = 29
  rcases qM0_at (L := L) (r6 := r6) (xs := xs) a with ⟨-, e⟩ | ⟨-, e⟩ | ⟨-, e⟩ | ⟨-, e⟩ | e <;> rw [e] <;> simp
theorem qE0_hr : qHR (qE0v D s b tf L r6 xs ta st cs) (qM0 L xs r6) s.heap := by
  refine ⟨fun _ => rfl, Nat.le_refl _, Nat.le_refl _, fun q hq => rfl, fun a ha => ⟨rfl, rfl, rfl⟩, fun a ha ht => ?_⟩
  rcases qM0_at (L := L) (r6 := r6) (xs := xs) a with ⟨h, e⟩ | ⟨h, e⟩ | ⟨h, e⟩ | ⟨h, e⟩ | e
  · omega
  · omega
  · omega
  · omega
  · rw [e] at ht; exact absurd rfl ht
end QE0
