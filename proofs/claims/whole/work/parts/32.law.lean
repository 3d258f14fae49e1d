/-! ===== the law out of a run of the small machine ===== -/
set_option maxRecDepth 100000
theorem qk_law_facts : code = qcc 348 ∧ qml 348 = 7 ∧ ret = qrt 348 ∧ (qmn 348).cls = R_law ∧ qha 348 = [] ∧ (qmn 348).name = x.name := ⟨rfl, rfl, rfl, rfl, rfl, rfl⟩
theorem law_start {p : Program} {e : Env} {s : State} {m : MethodId} {below : List Frame} {meth : Method} {c : Code} (l : Launch) (hflags : l.flags = flags0) {b L : Nat} {xs : Nat → Int32} (hL : L ≤ 3584) (C0 : lw_At p s m meth c b L xs) (hnm : meth.name = x.name) (hex : c.exceptionTable.toList = [])
    (hrun : ∀ r6, ∃ n M', qX n 2000 348 0 (lv_args 0 [.ref 1]) [] (qM0 L xs r6) (fun R => R = .inl (some (.int 1), M')) ∧ qce M' ≤ 601024 ∧ qus M' ≤ 7293034) :
    W p l e room_1 s m #[Value.ref b] below meth c s.heap [] 0 0 (lw_Z below #[Value.ref b] s) (entryFrame m ([Value.ref b] : List Value).toArray 7) := by
  obtain ⟨h1, h2, h3, h4, h5, h6, h7, h8, h9, h10⟩ := C0
  have hf : ∀ c ∈ qfl1, c.before #[Value.ref b] s = true := flat_of_before _ h10
  obtain ⟨E, r6, g1, g2, g3, g4, g5, g6, g7⟩ := qk_start h6 hf h7
  obtain ⟨n, M', k1, k2, k3⟩ := hrun r6
  have hst : l.stackTraces = false := by
    unfold Launch.stackTraces
    rw [hflags]
    decide
  have hC : qCx E p l s m #[Value.ref b] meth c 348 := ⟨h1, h2.trans qk_law_facts.1, h4, h5, fun w hw => h6 w (List.mem_filter.mp hw).1, h3.trans qk_law_facts.2.2.1, h9, hnm, hex, g3, g7, hst, by rw [g1]; exact Nat.le_refl _⟩
  have hgo := q_sound q_Tab q_TabO g4 hst n 2000 348 0 (lv_args 0 [.ref 1]) [] (qM0 L xs r6) _ (by decide) k1 p e room_1 s m #[Value.ref b] below meth c 0 0 hC (by decide) (by decide) (Nat.zero_le _) (Nat.zero_le _) k2 k3
  have e9 : List.map (qtv E) [Value.ref 1] = [Value.ref b] := by rw [List.map_cons, g6]; rfl
  have hw := hgo s.heap [] _ g5 va_S.rf (qLok_entry (E := E) (vs := [.ref 1]) (n := qml 348) (by rw [e9]; exact (show 1 ≤ 7 by decide)))
  rw [e9] at hw
  intro T hT X
  have hw2 : W p l e room_1 s m #[Value.ref b] below meth c s.heap [] 0 0 (qEnd E below #[Value.ref b] s 0 0 (Sum.inl (some (Value.int 1), M'))) (entryFrame m ([Value.ref b] : List Value).toArray 7) := by
    rw [lg_entry_eq]
    exact hw
  obtain ⟨t, k5, k6⟩ := hw2 T hT X
  exact ⟨t, k5, qk_end g1 k2 k3 k6⟩
