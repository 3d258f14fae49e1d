/-! ===== what lies there at the start ===== -/
theorem qk_eqi {s : State} {args : Array Value} {t : Term} {v : Int32} (h : (Cond.eq t (.int v)).before args s = true) : t.eval args s none [] s = some (.int v) := by
  unfold Cond.before Cond.holds at h
  simp only [Cond.value, Term.eval] at h
  cases hx : t.eval args s none [] s with
  | none => rw [hx] at h; simp at h
  | some w =>
    rw [hx] at h
    cases w <;> simp at h
    rw [h]
theorem qsw_at {s : State} {args : Array Value} (hf : ∀ c ∈ qfl1, c.before args s = true) {n : Nat} (hn : n < 20) :
    (Cond.exactly (qst n) "java/lang/String").before args s = true ∧ (Cond.eq (.field (qst n) "java/lang/String" "coder" "B") (.int 0)).before args s = true ∧ (Cond.arrayOf (.field (qst n) "java/lang/String" "value" "[B") .byte).before args s = true ∧
    (Cond.eq (.length (.field (qst n) "java/lang/String" "value" "[B")) (.int (Int32.ofNat (qsb n).length))).before args s = true ∧
    ∀ j, j < (qsb n).length → (Cond.eq (.elem (.field (qst n) "java/lang/String" "value" "[B") (.int (Int32.ofNat j))) (.int ((qsb n).getD j 0))).before args s = true := by
  have h := fun w hw => hf w (qsw_in n hn w hw)
  refine ⟨h _ (List.mem_append_left _ List.mem_cons_self), h _ (List.mem_append_left _ (List.mem_cons_of_mem _ List.mem_cons_self)), h _ (List.mem_append_left _ (List.mem_cons_of_mem _ (List.mem_cons_of_mem _ List.mem_cons_self))), h _ (List.mem_append_left _ (List.mem_cons_of_mem _ (List.mem_cons_of_mem _ (List.mem_cons_of_mem _ List.mem_cons_self)))), fun j hj => ?_⟩
  exact h _ (List.mem_append_right _ (List.mem_map.mpr ⟨j, List.mem_range.mpr hj, rfl⟩))
theorem qk_str {s : State} {args : Array Value} {A : Nat → Prop} (hf : ∀ c ∈ qfl1, c.before args s = true) (hA : ∀ a : Nat, a < s.heap.size → ¬ A a) {n : Nat} (hn : n < 20) : ∃ p : Nat × Nat,
    va_O "java/lang/String" p.1 A s s.heap ∧ va_OF "java/lang/String" "coder" "B" (.int 0) p.1 A s s.heap ∧ va_OF "java/lang/String" "value" "[B" (.ref p.2) p.1 A s s.heap ∧
    va_T .byte p.2 (qsb n).length (fun j => .int ((qsb n).getD j 0)) A s s.heap ∧ (qst n).eval args s none [] s = some (.ref p.1) := by
  obtain ⟨h1, h2, h3, h4, h5⟩ := qsw_at hf hn
  have hlen : (qsb n).length < 2 ^ 31 := by
    match n, hn with
    | 0, _ | 1, _ | 2, _ | 3, _ | 4, _ | 5, _ | 6, _ | 7, _ | 8, _ | 9, _ | 10, _ | 11, _ | 12, _ | 13, _ | 14, _ | 15, _ | 16, _ | 17, _ | 18, _ | 19, _ => decide
    | m + 20, h => omega
  have z : ∀ i : Nat, i < 1 → i = 0 := fun i h => by omega
  obtain ⟨aK, aV, ⟨hS, -⟩, hev⟩ := vk_Sof (N := 1) (tm := fun _ => qst n) (len := [(qsb n).length]) (byt := [qsb n]) (A := A) (fun i hi => by rw [z i hi]; exact hlen) (fun i hi => h1) (fun i hi => h2) (fun i hi => h3) (fun i hi => by rw [z i hi]; exact h4) (fun i hi j hj => by rw [z i hi] at hj ⊢; exact h5 j hj) (fun i j hi hj hne => absurd ((z i hi).trans (z j hj).symm) hne) hA
  obtain ⟨g1, g2, g3, g4⟩ := hS 0 (by decide)
  exact ⟨(aK 0, aV 0), g1, g2, g3, g4, hev 0 (by decide)⟩
theorem qaw_at {x : Nat} (hx : x = 2 ∨ x = 3 ∨ x = 4) : ∀ w ∈ qaw0 x ++ qaw1 x, w ∈ qfl1 := by
  rcases hx with rfl | rfl | rfl
  · exact qfl_sub qaw_2
  · exact qfl_sub qaw_3
  · exact qfl_sub qaw_4
theorem qk_arr {s : State} {args : Array Value} {A : Nat → Prop} (hf : ∀ c ∈ qfl1, c.before args s = true) (hA : ∀ a : Nat, a < s.heap.size → ¬ A a) {x : Nat} (hx : x = 2 ∨ x = 3 ∨ x = 4) : ∃ t : Nat,
    (qat x).eval args s none [] s = some (.ref t) ∧ va_T .int t (qar x).length (fun j => .int ((qar x).getD j 0)) A s s.heap := by
  have h := fun w hw => hf w (qaw_at hx w hw)
  refine va_Tof (by rcases hx with rfl | rfl | rfl <;> decide) (h _ (List.mem_append_left _ List.mem_cons_self)) (qk_eqi (h _ (List.mem_append_left _ (List.mem_cons_of_mem _ List.mem_cons_self)))) (fun j hj => qk_eqi (h _ (List.mem_append_right _ (List.mem_map.mpr ⟨j, List.mem_range.mpr hj, rfl⟩)))) hA
