/-! ===== the law's environment ===== -/
set_option maxRecDepth 100000
section QLE
variable {s : State} {args : Array Value}
theorem qk_ref {t : Term} (h : (Cond.isRef t).before args s = true) : ∃ o : Option Nat, t.eval args s none [] s = some (va_rf o) := by
  unfold Cond.before Cond.holds at h
  simp only [Cond.value] at h
  cases hx : t.eval args s none [] s with
  | none => rw [hx] at h; simp at h
  | some w =>
    rw [hx] at h
    cases w with
    | null => exact ⟨none, rfl⟩
    | ref a => exact ⟨some a, rfl⟩
    | _ => simp at h
theorem qow_at (hf : ∀ c ∈ qfl1, c.before args s = true) {i : Nat} {w : Cond} (h : qow[i]? = some w) : w.before args s = true := hf w (qow_mem w (List.mem_of_getElem? h))
theorem qk_Z (hts : ∀ w ∈ lw_tbl, w.before args s = true) (hf : ∀ c ∈ qfl1, c.before args s = true) {A : Nat → Prop} (hA : ∀ a : Nat, a < s.heap.size → ¬ A a) :
    va_Z (qsn 0 0).1 (qsn 0 0).2.1 (qsn 0 0).2.2 (.int 1) A s s.heap ∧ (∃ o : Option Nat, va_Z (qsn 0 2).1 (qsn 0 2).2.1 (qsn 0 2).2.2 (va_rf o) A s s.heap) ∧
    (∀ x, (x = 2 ∨ x = 3 ∨ x = 4) → ∀ t : Nat, (qat x).eval args s none [] s = some (.ref t) → va_Z (qsn x 1).1 (qsn x 1).2.1 (qsn x 1).2.2 (.ref t) A s s.heap) ∧
    vx_Zq Bundle.tN "UNASSIGNED_STACK" Bundle.steD A s s.heap ∧ vx_Zq Bundle.tN "SUPPRESSED_SENTINEL" Bundle.listD A s s.heap := by
  refine ⟨va_Zof (hts _ (qtc_in (j := 4) (List.mem_of_getElem? (i := 17) rfl))) (hts _ (qtc_in (j := 1) (List.mem_of_getElem? (i := 15) rfl))) (qk_eqi (qow_at hf (i := 1) rfl)) hA, ?_, fun x hx t ht => ?_, vx_Zqof (hts _ (qtc_in (j := 3) (List.mem_of_getElem? (i := 165) rfl))) (hts _ (qtc_in (j := 1) (List.mem_of_getElem? (i := 10) rfl))) (qow_at hf (i := 2) rfl) hA, vx_Zqof (hts _ (qtc_in (j := 3) (List.mem_of_getElem? (i := 167) rfl))) (hts _ (qtc_in (j := 1) (List.mem_of_getElem? (i := 10) rfl))) (qow_at hf (i := 3) rfl) hA⟩
  · obtain ⟨o, ho⟩ := qk_ref (qow_at hf (i := 0) rfl)
    exact ⟨o, va_Zof (hts _ (qtc_in (j := 4) (List.mem_of_getElem? (i := 33) rfl))) (hts _ (qtc_in (j := 1) (List.mem_of_getElem? (i := 17) rfl))) ho hA⟩
  · rcases hx with rfl | rfl | rfl
    · exact va_Zof (hts _ (qtc_in (j := 2) (List.mem_of_getElem? (i := 74) rfl))) (hts _ (qtc_in (j := 1) (List.mem_of_getElem? (i := 4) rfl))) ht hA
    · exact va_Zof (hts _ (qtc_in (j := 2) (List.mem_of_getElem? (i := 217) rfl))) (hts _ (qtc_in (j := 1) (List.mem_of_getElem? (i := 7) rfl))) ht hA
    · exact va_Zof (hts _ (qtc_in (j := 2) (List.mem_of_getElem? (i := 219) rfl))) (hts _ (qtc_in (j := 1) (List.mem_of_getElem? (i := 7) rfl))) ht hA
theorem qk_X {b L : Nat} {xs : Nat → Int32} (hX : va_X b L xs s s.heap) : va_T .int b L (fun j => .int (xs j)) (fun q => s.heap.size ≤ q) s s.heap := by
  obtain ⟨scr, h1, h2, h3, h4, h5⟩ := hX
  refine ⟨scr, h1, h2, h3, by omega, by rw [h4], h5, ?_⟩
  have := (Array.getElem?_eq_some_iff.mp h1).1
  exact Nat.not_le.mpr this
theorem qk_cs (hts : ∀ w ∈ lw_tbl, w.before args s = true) : ∃ cs : Nat → ClassId, ∀ (k : Nat) (q : ClassId × FieldType), ([(cs 1, .int), (cs 2, .boolean), (cs 3, .long), (cs 4, .array .int), (cs 5, .object RX5)] : List (ClassId × FieldType))[k]? = some q → ArrOfT s q.1 q.2 ∧ va_RA s q.1 q.2 := by
  obtain ⟨-, -, -, -, -, t6, t7, t8, -⟩ := q_Tab
  obtain ⟨a5, a4⟩ := qk_AO hts
  obtain ⟨c1, h1⟩ := qk_arr1 (fun C => by simp) (hts _ (List.mem_filter.mp t6).1)
  obtain ⟨c2, h2⟩ := qk_arr1 (fun C => by simp) (hts _ (List.mem_filter.mp t7).1)
  obtain ⟨c3, h3⟩ := qk_arr1 (fun C => by simp) (hts _ (List.mem_filter.mp t8).1)
  obtain ⟨c4, h4⟩ := qk_arr3 a4
  obtain ⟨c5, h5⟩ := qk_arr2 a5
  refine ⟨fun n => match n with | 1 => c1 | 2 => c2 | 3 => c3 | 4 => c4 | _ => c5, fun k q hq => ?_⟩
  match k, hq with
  | 0, hq => cases hq; exact h1
  | 1, hq => cases hq; exact h2
  | 2, hq => cases hq; exact h3
  | 3, hq => cases hq; exact h4
  | 4, hq => cases hq; exact h5
  | k + 5, hq => cases hq
end QLE
