/-! ===== the law's start ===== -/
theorem qk_arr1 {s : State} {args : Array Value} {ty : FieldType} (hty : ∀ C, ty ≠ .object C) (h : (Cond.arrayClass ty).before args s = true) : ∃ cA, ArrOfT s cA ty ∧ va_RA s cA ty := by
  obtain ⟨c, k, comp, h1, h2, h3⟩ := Cond.arrayClass_spec h
  refine ⟨c, fun n z => ⟨fun k' e => (by cases e), k, h2, comp, h3⟩, ?_⟩
  unfold va_RA
  split
  · rename_i C
    exact absurd rfl (hty C)
  · exact h1
theorem qk_arr2 {s : State} {C : String} (h : va_AO C s) : ∃ cA, ArrOfT s cA (.object C) ∧ va_RA s cA (.object C) := by
  obtain ⟨comp, c, k, h1, h2, h3, h4, h5⟩ := Cond.arrayOver_spec h
  exact ⟨c, fun n z => ⟨fun k' e => (by cases e), k, h3, comp, h4⟩, k, comp, h3, h4, h1, h5⟩
theorem qk_arr3 {s : State} (h : qAA s) : ∃ cA, ArrOfT s cA (.array .int) ∧ va_RA s cA (.array .int) := by
  unfold qAA Cond.before Cond.holds at h
  simp only [Cond.value, beq_iff_eq, Option.bind_eq_some_iff, Option.map_eq_some_iff] at h
  obtain ⟨comp, -, c, -, k, hk, hb⟩ := h
  cases hkind : k.kind with
  | array component ty =>
    rw [hkind] at hb
    simp only [Bool.and_eq_true, decide_eq_true_eq] at hb
    refine ⟨c, fun n z => ⟨fun k' e => (by cases e), k, hk, component, by rw [hkind, hb.1]⟩, ?_⟩
    exact hb.2
  | _ => rw [hkind] at hb; cases hb
/-- the classes -/
theorem qk_K {s : State} {args : Array Value} (hts : ∀ w ∈ lw_tbl, w.before args s = true) : ∃ D : va_G, ∀ c q, vwCl[c]? = some q → u_Kn s q.1 q.2.1 q.2.2 (D.1 c) (D.2 c) := by
  have h1 : ∀ ci : Nat, ∃ p : ClassId × (Nat → Nat), ci < 9 → u_Kn s (qvw ci).1 (qvw ci).2.1 (qvw ci).2.2 p.1 p.2 := fun ci => by
    by_cases h : ci < 9
    · obtain ⟨a1, a2, -⟩ := qt5_ok ci h
      obtain ⟨cC, iS, h9⟩ := u_known (ws := lw_tbl) hts (fun w hw => (List.mem_filter.mp (a1 w hw)).1) (hts _ (List.mem_filter.mp a2).1)
      exact ⟨(cC, iS), fun _ => h9⟩
    · exact ⟨(0, fun _ => 0), fun g => absurd g h⟩
  refine ⟨(fun c => (Classical.choose (h1 c)).1, fun c => (Classical.choose (h1 c)).2), fun c q hq => ?_⟩
  have h2 : c < 9 := by
    have := (List.getElem?_eq_some_iff.mp hq).1
    exact this
  have h3 := Classical.choose_spec (h1 c) h2
  have h4 := qvw_at h2
  rw [hq] at h4
  cases h4
  exact h3
theorem qk_thr {XC : String → State → State → Prop} {s t : State} {q : Addr} {mc ms : Nat} {free : Addr → Prop} {P : Prop} (h : vx_T XC s q t mc ms free) (hP : ∀ N t, XC N s t → P) : P := by
  obtain ⟨N, ce, L, hx, -⟩ := h
  exact hP N t hx
/-- the end of the law's run is the end that is owed -/
theorem qk_end {E : qEnv} {below : List Frame} {args : Array Value} {s t : State} {M' : qM} (hB : eB E = s.heap.size) (h1 : qce M' ≤ 601024) (h2 : qus M' ≤ 7293034) (h : qEnd E below args s 0 0 (.inl (some (.int 1), M')) t) : lw_Z below args s t := by
  obtain ⟨o, a1, a2, ⟨⟨⟨v, M1, e1, e2, -⟩, -⟩, L, ⟨a4, a5, a6⟩, a7⟩ | ⟨q, -, g⟩⟩ := h
  · cases e1
    refine ⟨o, a1, a2, e2, a4, a5, a6.weaken (fun x hx hlt => ?_) h1 h2⟩
    have := a7 x hx
    have : eB E ≤ x.base := this
    rw [hB] at this
    exact absurd hlt (Nat.not_lt.mpr this)
  · exact (qk_thr g (fun N t hx => by obtain ⟨⟨e, M1, e1, -⟩, -⟩ := hx; cases e1))
