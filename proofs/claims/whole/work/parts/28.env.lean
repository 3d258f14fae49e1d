/-! ===== the first memory, and what it stands for ===== -/
def qM0 (L : Nat) (xs : Nat → Int32) (r6 : Nat) : qM := ((64, true, 0, 0),
  (fun a => if a = 1 then (11, L) else if a = 2 ∨ a = 3 ∨ a = 4 then (11, (qar a).length) else if 10 ≤ a ∧ a < 30 then (29, 2) else if 30 ≤ a ∧ a < 50 then (12, (qsb (a - 30)).length) else (0, 0)),
  (fun a j => if a = 1 then xs j else if a = 2 ∨ a = 3 ∨ a = 4 then (qar a).getD j 0 else if 30 ≤ a ∧ a < 50 then (qsb (a - 30)).getD j 0 else 0),
  (fun a j => if a = 6 ∧ j = 0 then r6 else if 10 ≤ a ∧ a < 30 ∧ j = 0 then a + 20 else 0),
  fun _ _ => 0)
def qT0 (b tf : Nat) (ta : Nat → Nat) (st : Nat → Nat × Nat) (a : Nat) : Nat := if a = 1 then b else if a = 2 ∨ a = 3 ∨ a = 4 then ta a else if a = 7 then tf else if a < 30 then (st (a - 10)).1 else (st (a - 30)).2
def qC0 (c : Nat → ClassId) : Nat → ClassId := c
def qE0v (D : va_G) (s : State) (b tf L r6 : Nat) (xs : Nat → Int32) (ta : Nat → Nat) (st : Nat → Nat × Nat) (cs : Nat → ClassId) : qEnv := (D, s.heap.size, s.heap, qT0 b tf ta st, cs, qM0 L xs r6)
theorem qM0_at {L r6 : Nat} {xs : Nat → Int32} (a : Nat) : (a = 1 ∧ qsh (qM0 L xs r6) a = (11, L)) ∨ ((a = 2 ∨ a = 3 ∨ a = 4) ∧ qsh (qM0 L xs r6) a = (11, (qar a).length)) ∨ ((10 ≤ a ∧ a < 30) ∧ qsh (qM0 L xs r6) a = (29, 2)) ∨ ((30 ≤ a ∧ a < 50) ∧ qsh (qM0 L xs r6) a = (12, (qsb (a - 30)).length)) ∨ qsh (qM0 L xs r6) a = (0, 0) := by
  have e : qsh (qM0 L xs r6) a = (if a = 1 then (11, L) else if a = 2 ∨ a = 3 ∨ a = 4 then (11, (qar a).length) else if 10 ≤ a ∧ a < 30 then (29, 2) else if 30 ≤ a ∧ a < 50 then (12, (qsb (a - 30)).length) else (0, 0)) := rfl
  by_cases h1 : a = 1
  · exact Or.inl ⟨h1, by rw [e, if_pos h1]⟩
  by_cases h2 : a = 2 ∨ a = 3 ∨ a = 4
  · exact Or.inr (Or.inl ⟨h2, by rw [e, if_neg h1, if_pos h2]⟩)
  by_cases h3 : 10 ≤ a ∧ a < 30
  · exact Or.inr (Or.inr (Or.inl ⟨h3, by rw [e, if_neg h1, if_neg h2, if_pos h3]⟩))
  by_cases h4 : 30 ≤ a ∧ a < 50
  · exact Or.inr (Or.inr (Or.inr (Or.inl ⟨h4, by rw [e, if_neg h1, if_neg h2, if_neg h3, if_pos h4]⟩)))
  · exact Or.inr (Or.inr (Or.inr (Or.inr (by rw [e, if_neg h1, if_neg h2, if_neg h3, if_neg h4]))))
section QE0
variable {D : va_G} {s : State} {b tf L r6 : Nat} {xs : Nat → Int32} {ta : Nat → Nat} {st : Nat → Nat × Nat} {cs : Nat → ClassId}
theorem qE0_ok : qEok (qE0v D s b tf L r6 xs ta st cs) := by
  refine ⟨fun a ha => ?_, rfl, rfl⟩
  show (qsh (qM0 L xs r6) a).1 = 0 ∨ (qsh (qM0 L xs r6) a).1 = 11 ∨ (qsh (qM0 L xs r6) a).1 = 12 ∨ (qsh (qM0 L xs r6) a).1 = 29
  rcases qM0_at (L := L) (r6 := r6) (xs := xs) a with ⟨-, e⟩ | ⟨-, e⟩ | ⟨-, e⟩ | ⟨-, e⟩ | e <;> rw [e] <;> simp
theorem qE0_hr : qHR (qE0v D s b tf L r6 xs ta st cs) (qM0 L xs r6) s.heap := by
  refine ⟨fun _ => rfl, Nat.le_refl _, Nat.le_refl _, fun q hq => rfl, fun a ha => ⟨rfl, rfl, rfl⟩, fun a ha ht => ?_⟩
  rcases qM0_at (L := L) (r6 := r6) (xs := xs) a with ⟨h, e⟩ | ⟨h, e⟩ | ⟨h, e⟩ | ⟨h, e⟩ | e
  · omega
  · omega
  · omega
  · omega
  · rw [e] at ht; exact absurd rfl ht
theorem qE0_ro (h1 : va_T .int b L (fun j => .int (xs j)) (fun q => s.heap.size ≤ q) s s.heap) (h2 : ∀ x, (x = 2 ∨ x = 3 ∨ x = 4) → va_T .int (ta x) (qar x).length (fun j => .int ((qar x).getD j 0)) (fun q => s.heap.size ≤ q) s s.heap)
    (h3 : ∀ n, n < 20 → va_O "java/lang/String" (st n).1 (fun q => s.heap.size ≤ q) s s.heap ∧ va_OF "java/lang/String" "coder" "B" (.int 0) (st n).1 (fun q => s.heap.size ≤ q) s s.heap ∧ va_OF "java/lang/String" "value" "[B" (.ref (st n).2) (st n).1 (fun q => s.heap.size ≤ q) s s.heap ∧ va_T .byte (st n).2 (qsb n).length (fun j => .int ((qsb n).getD j 0)) (fun q => s.heap.size ≤ q) s s.heap) :
    qRO (qE0v D s b tf L r6 xs ta st cs) s := by
  intro a ha
  show match (qsh (qM0 L xs r6) a).1 with
    | 0 => True
    | 11 => va_T .int (qT0 b tf ta st a) (qsh (qM0 L xs r6) a).2 (fun j => .int (qI (qM0 L xs r6) a j)) (fun q => s.heap.size ≤ q) s s.heap
    | 12 => va_T .byte (qT0 b tf ta st a) (qsh (qM0 L xs r6) a).2 (fun j => .int (qI (qM0 L xs r6) a j)) (fun q => s.heap.size ≤ q) s s.heap
    | 29 => va_O "java/lang/String" (qT0 b tf ta st a) (fun q => s.heap.size ≤ q) s s.heap ∧ va_OF "java/lang/String" "coder" "B" (.int (qI (qM0 L xs r6) a 1)) (qT0 b tf ta st a) (fun q => s.heap.size ≤ q) s s.heap ∧ va_OF "java/lang/String" "value" "[B" (va_rf (qrf (qE0v D s b tf L r6 xs ta st cs) (qP (qM0 L xs r6) a 0))) (qT0 b tf ta st a) (fun q => s.heap.size ≤ q) s s.heap
    | _ => False
  rcases qM0_at (L := L) (r6 := r6) (xs := xs) a with ⟨rfl, e⟩ | ⟨h, e⟩ | ⟨h, e⟩ | ⟨h, e⟩ | e
  · rw [e]
    exact h1
  · rw [e]
    have g := h2 a h
    rcases h with rfl | rfl | rfl <;> exact g
  · rw [e]
    obtain ⟨g1, g2, g3, -⟩ := h3 (a - 10) (by omega)
    have e1 : qT0 b tf ta st a = (st (a - 10)).1 := by
      unfold qT0
      rw [if_neg (by omega), if_neg (by omega), if_neg (by omega), if_pos h.2]
    have e2 : qI (qM0 L xs r6) a 1 = 0 := by
      show (if a = 1 then xs 1 else if a = 2 ∨ a = 3 ∨ a = 4 then (qar a).getD 1 0 else if 30 ≤ a ∧ a < 50 then (qsb (a - 30)).getD 1 0 else 0) = 0
      rw [if_neg (by omega), if_neg (by omega), if_neg (by omega)]
    have e3 : qP (qM0 L xs r6) a 0 = a + 20 := by
      show (if a = 6 ∧ 0 = 0 then r6 else if 10 ≤ a ∧ a < 30 ∧ 0 = 0 then a + 20 else 0) = a + 20
      rw [if_neg (by omega), if_pos ⟨h.1, h.2, rfl⟩]
    have e4 : qrf (qE0v D s b tf L r6 xs ta st cs) (a + 20) = some (st (a - 10)).2 := by
      unfold qrf qtr
      rw [if_neg (by omega), if_pos (by omega)]
      show some (qT0 b tf ta st (a + 20)) = _
      unfold qT0
      rw [if_neg (by omega), if_neg (by omega), if_neg (by omega), if_neg (by omega), show a + 20 - 30 = a - 10 by omega]
    dsimp only
    rw [e1, e2, e3, e4]
    exact ⟨g1, g2, g3⟩
  · rw [e]
    obtain ⟨-, -, -, g4⟩ := h3 (a - 30) (by omega)
    have e1 : qT0 b tf ta st a = (st (a - 30)).2 := by
      unfold qT0
      rw [if_neg (by omega), if_neg (by omega), if_neg (by omega), if_neg (by omega)]
    have e2 : (fun j => Value.int (qI (qM0 L xs r6) a j)) = fun j => Value.int ((qsb (a - 30)).getD j 0) := by
      funext j
      show Value.int (if a = 1 then xs j else if a = 2 ∨ a = 3 ∨ a = 4 then (qar a).getD j 0 else if 30 ≤ a ∧ a < 50 then (qsb (a - 30)).getD j 0 else 0) = _
      rw [if_neg (by omega), if_neg (by omega), if_pos h]
    dsimp only
    rw [e1, e2]
    exact g4
  · rw [e]
    trivial
end QE0
