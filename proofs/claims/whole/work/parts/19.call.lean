/-! ===== the four kinds of call ===== -/
theorem qcw_nil {k : Nat} (h : qha k = []) : qcw k = Cond.code (qmn k) (qcc k) (qml k) (qrt k) := by
  unfold qcw
  rw [h]
section QCK
variable {E : qEnv} {p : Program} {l : Launch} {e : Env} {R : Room} {s : State} {m : MethodId} {args : Array Value} {below : List Frame} {meth : Method} {c : Code} {c0 u0 : Nat} {Q : State → Prop} {k : Nat}
theorem q_ws (hts : ∀ w ∈ qW, w.before args s = true) {k' : Nat} (h : qcw k' ∈ qW) : ∀ w ∈ qcw k' :: qW, ∀ (a' : Array Value) (U : State), s.WarmedH U.vm → w.before a' U = true := fun w hw a' U hW => by
  have hw' : w ∈ qW := by
    rcases List.mem_cons.mp hw with rfl | hw
    · exact h
    · exact hw
  exact word_at hW (good_of_word (qW_good hw')) (hts w hw')
/-- the parts of a call that all kinds share -/
theorem q_callB (hT : qTab) (C0 : qCx E p l s m args meth c k) {k' i n mc ms : Nat} {rm : Room} (hk' : k' < 348) (hha : qha k' = []) (hn : qnp k' = some n) (hl : (Cond.methodLink (qmn k).cls i (qmn k')).before args s = true) (h1 : rm.cells = mc) (h2 : rm.slots = ms) (h3 : rm.frames + 1 ≤ R.frames) (h4 : rm.locals + 40 ≤ R.locals) :
    CallB R s args (qmn k).cls i (qmn k') (qcc k') (qml k') (qrt k') (qcw k' :: qW) rm mc ms n := by
  obtain ⟨hx, hb, hml, hown, hts, -⟩ := C0
  obtain ⟨t1, t2, t3, t4, -⟩ := hT
  have hw := t3 k' hk'
  obtain ⟨-, -, u3, -, u5, -⟩ := t4 k' (by omega)
  have hcw : qcw k' ∈ qW := hw _ List.mem_cons_self
  refine ⟨h1, h2, h3, by omega, q_ws hts hcw, by rw [qcw_nil hha]; exact List.mem_cons_self, by rw [← qcw_nil hha]; exact hts _ hcw, hts _ (hw _ (List.mem_cons_of_mem _ List.mem_cons_self)), u5, fun sig h => ?_, hl⟩
  unfold qnp at hn
  rw [h] at hn
  exact (Option.some.inj hn).symm
theorem q_callN (hT : qTab) (C0 : qCx E p l s m args meth c k) {k' i n mc ms : Nat} {rm : Room} (hk' : k' < 348) (hha : qha k' = []) (hn : qnp k' = some n) (hl : (Cond.methodLinkNest (qmn k).cls i (qmn k') "PuppetHeirs").before args s = true) (h1 : rm.cells = mc) (h2 : rm.slots = ms) (h3 : rm.frames + 1 ≤ R.frames) (h4 : rm.locals + 40 ≤ R.locals) :
    va_CN R s args (qmn k).cls i (qmn k') "PuppetHeirs" (qcc k') (qml k') (qrt k') (qcw k' :: qW) rm mc ms n := by
  obtain ⟨hx, hb, hml, hown, hts, -⟩ := C0
  obtain ⟨t1, t2, t3, t4, -⟩ := hT
  have hw := t3 k' hk'
  obtain ⟨-, -, u3, -, u5, -⟩ := t4 k' (by omega)
  have hcw : qcw k' ∈ qW := hw _ List.mem_cons_self
  refine ⟨⟨h1, h2, h3, by omega, q_ws hts hcw, by rw [qcw_nil hha]; exact List.mem_cons_self⟩, by rw [← qcw_nil hha]; exact hts _ hcw, hts _ (hw _ (List.mem_cons_of_mem _ List.mem_cons_self)), u5, fun sig h => ?_, hl⟩
  unfold qnp at hn
  rw [h] at hn
  exact (Option.some.inj hn).symm
theorem q_callW (hT : qTab) (C0 : qCx E p l s m args meth c k) {k' i n mc ms : Nat} {rm : Room} (hk' : k' < 348) (hha : qcw k' = Cond.codeWith (qmn k') (qcc k') (qml k') (qrt k') (qha k')) (hn : qnp k' = some n) (hl : (Cond.methodLink (qmn k).cls i (qmn k')).before args s = true) (hs : (Cond.static (qmn k')).before args s = true) (h1 : rm.cells = mc) (h2 : rm.slots = ms) (h3 : rm.frames + 1 ≤ R.frames) (h4 : rm.locals + 40 ≤ R.locals) :
    vx_CSW R s args (qmn k).cls i (qmn k') (qcc k') (qml k') (qrt k') (qha k') (qcw k' :: qW) rm mc ms n := by
  obtain ⟨hx, hb, hml, hown, hts, -⟩ := C0
  obtain ⟨t1, t2, t3, t4, -⟩ := hT
  have hw := t3 k' hk'
  obtain ⟨-, -, u3, -, u5, -⟩ := t4 k' (by omega)
  have hcw : qcw k' ∈ qW := hw _ List.mem_cons_self
  refine ⟨⟨h1, h2, h3, by omega, q_ws hts hcw, by rw [hha]; exact List.mem_cons_self⟩, by rw [← hha]; exact hts _ hcw, hts _ (hw _ (List.mem_cons_of_mem _ List.mem_cons_self)), u5, fun sig h => ?_, hl, hs⟩
  unfold qnp at hn
  rw [h] at hn
  exact (Option.some.inj hn).symm
theorem q_fix (C0 : qCx E p l s m args meth c k) : CallFix p m c (qcc k) (qml k) s args qW (qmn k).cls := ⟨C0.1, C0.2.1, C0.2.2.1, C0.2.2.2.1, C0.2.2.2.2.1⟩
theorem q_preS {H : Heap} {locs : List Loc} {M : qM} (hsf : qSF E s) (h1 : qHR E M H) (as : List Value) : PreS s H (qPc E as M) (as.map (qtv E)) :=
  ⟨qPc_blind, fun U hU hW => ⟨rfl, by rw [hU]; exact h1, qSF_warm hW hsf⟩⟩
set_option maxHeartbeats 2000000 in
/-- a call, of any kind, runs -/
theorem q_run (hT : qTab) (hE : qEok E) (C0 : qCx E p l s m args meth c k) (hk : k < 349) {pc nx tg i k' a z : Nat} {ins : Jvm.ClassFile.Instr} (hcd : qcd k pc = some (ins, nx, tg)) (hins : ins = .invokevirtual i ∨ ins = .invokestatic i ∨ ins = .invokespecial i) (hcp : qcp (qcl k) i = (k', a, z)) (h999 : k' ≠ 999) {st : List Value} (hck : qck a st = true) {M : qM}
    (hrc : ins ≠ .invokestatic i → qrc M k' (st.take a).reverse) {H : Heap} {locs : List Loc} {ls : Array Slot} (h1 : qHR E M H) (h2 : va_S (qA E) s.heap H locs) (hls : ls.size = qml k) {cells slots mc ms : Nat} {rm : Room} {Qc : Array Value → State → Outcome → State → Prop} {XC : String → State → State → Prop}
    (hM : k' < 348 → (∀ v ∈ (st.take a).reverse, v.category = 1) → (st.take a).reverse.length ≤ qml k' → vx_Met l (qmn k') (qcw k' :: qW) rm (qPc E (st.take a).reverse M) Qc XC mc ms (qA E)) (r1 : rm.cells = mc) (r2 : rm.slots = ms) (r3 : rm.frames + 1 ≤ R.frames) (r4 : rm.locals + 40 ≤ R.locals) (hf : cells + mc ≤ R.cells ∧ slots + ms ≤ R.slots) :
    nx = pc + 3 ∧ k' < 348 ∧ vx_Run p l e R s m args below meth c H locs cells slots mc ms (F0 m pc ls (st.map (qtv E))) ((st.drop a).map (qtv E)) (Qc ((st.take a).reverse.map (qtv E)).toArray) XC (qA E) := by
  have hq := hT.1 k pc ins nx tg hk hcd
  obtain ⟨s1, s2, s3, s4⟩ := qck_spec hck
  have hsp := q_split (E := E) a st
  have hroom := q_room (E := E) (m := m) hck pc ls (st.map (qtv E))
  have hcl := (hT.2.2.2.1 k hk).1
  have hqn : qcn (qcl k) = (qmn k).cls := (hT.2.2.2.1 k hk).2.1
  have hts := C0.2.2.2.2.1
  have hsf : qSF E s := C0.2.2.2.2.2.2.2.2.2.1
  have hs : ∀ q : Nat, q < eB E → s.heap[q]? = (eH E)[q]? := C0.2.2.2.2.2.2.2.2.2.2.1
  have lnk : z = 30 → k' < 348 → (Cond.methodLink (qmn k).cls i (qmn k')).before args s = true := fun hz hk' => by
    subst hz
    rw [← hqn]
    refine hts _ (hT.2.1 _ _ _ _ _ hcl (qcp_mem hcp (by decide)) _ ?_)
    show _ ∈ (if k' = 999 then _ else [Cond.methodLink (qcn (qcl k)) i (qmn k')])
    rw [if_neg (by omega)]
    exact List.mem_cons_self
  have lnkN : z = 31 → (Cond.methodLinkNest (qmn k).cls i (qmn k') "PuppetHeirs").before args s = true := fun hz => by
    subst hz
    rw [← hqn]
    exact va_Nw.use rfl (hsf.2.2.1 _ (List.mem_flatMap.mpr ⟨qcl k, List.mem_range.mpr hcl, List.mem_flatMap.mpr ⟨_, qcp_mem hcp (by decide), List.mem_cons_self⟩⟩))
  have h2' := hq.2
  unfold qiok at h2'
  rw [Bool.and_eq_true] at h2'
  have h3 := h2'.2
  rcases hins with rfl | rfl | rfl
  · obtain ⟨rfl, hd⟩ := q_len hq 3 rfl (by decide)
    dsimp only at h3
    rw [hcp] at h3
    simp only [Bool.and_eq_true, decide_eq_true_eq] at h3
    obtain ⟨g1, g2, g3, g4, g5, g6, g7⟩ := h3
    have g2 := nlT g2
    have hM := hM g2 s3 (by rw [s4]; exact Nat.le_of_ble_eq_true g6)
    refine ⟨rfl, g2, ?_⟩
    have hrc := hrc (fun h => by cases h)
    have hw := hT.2.2.1 k' g2
    unfold qmw at hw
    rw [nbT g3] at hw
    generalize hAs : (st.take a).reverse = as at *
    match as, hrc, s4 with
    | .ref b :: as', hrc, s4 =>
      obtain ⟨hb0, hrcv⟩ := q_recv hE hsf hs h1 h2 (nlT g7) hrc
      rw [(hT.2.2.2.1 k' (by omega)).2.1] at hrcv
      obtain ⟨n, hn, hn1⟩ : ∃ n, qnp k' = some n ∧ n + 1 = a := by
        cases hz : qnp k' with
        | none => rw [hz] at g4; cases g4
        | some n => rw [hz] at g4; exact ⟨n, rfl, Option.some.inj g4⟩
      have hv : qtv E (.ref b) = .ref (qtr E b) := by show va_rf (qrf E b) = _; rw [hb0]; rfl
      have hPre : PreV s H (qmn k').cls (qtr E b) (qPc E (.ref b :: as') M) (as'.map (qtv E)) := by
        refine ⟨qPc_blind, hrcv, fun U hU hW => ⟨?_, by rw [hU]; exact h1, qSF_warm hW hsf⟩⟩
        rw [List.map_cons, hv]
      have h9 := vx_runV (rest := (st.drop a).map (qtv E)) (e := e) (below := below) (meth := meth) (locs := locs) (cells := cells) (slots := slots) (g := F0 m pc ls (st.map (qtv E))) (q_fix C0) hM ⟨q_callB hT C0 g2 g5 hn (lnk (nbT g1) g2) r1 r2 r3 r4, hts _ (hw _ (List.mem_cons_of_mem _ (List.mem_cons_of_mem _ List.mem_cons_self))), hts _ (hw _ (List.mem_cons_of_mem _ (List.mem_cons_of_mem _ (List.mem_cons_of_mem _ List.mem_cons_self))))⟩ hPre rfl (by rw [List.length_map]; rw [List.length_cons] at s4; omega) hls ?_ hroom hd hf
      · rw [List.map_cons, hv]
        exact h9
      · show st.map (qtv E) = _
        rw [hsp, List.map_cons, List.reverse_cons, List.append_assoc, hv]
        rfl
  · obtain ⟨rfl, hd⟩ := q_len hq 3 rfl (by decide)
    dsimp only at h3
    rw [hcp] at h3
    simp only [Bool.and_eq_true, Bool.or_eq_true, decide_eq_true_eq] at h3
    obtain ⟨g1, g2, g3, g4, g6⟩ := h3
    have g2 := nlT g2
    have hM := hM g2 s3 (by rw [s4]; exact Nat.le_of_ble_eq_true g6)
    refine ⟨rfl, g2, ?_⟩
    have hw := hT.2.2.1 k' g2
    unfold qmw at hw
    rw [nbT g3] at hw
    have hsta : (Cond.static (qmn k')).before args s = true := hts _ (hw _ (List.mem_cons_of_mem _ (List.mem_cons_of_mem _ List.mem_cons_self)))
    have hlen : ((st.take a).reverse.map (qtv E)).length = a := by rw [List.length_map]; exact s4
    rcases g1 with g1 | ⟨g1, g5⟩
    · rcases qcw_cls (k := k') with ⟨-, -, hha⟩ | hha
      · exact vx_runS (q_fix C0) hM ⟨q_callB hT C0 g2 hha g4 (lnk (nbT g1) g2) r1 r2 r3 r4, hsta⟩ (q_preS (locs := locs) hsf h1 _) rfl hlen hls hsp hroom hd hf
      · exact vx_runSX (q_fix C0) hM (q_callW hT C0 g2 hha g4 (lnk (nbT g1) g2) hsta r1 r2 r3 r4) (q_preS (locs := locs) hsf h1 _) rfl hlen hls hsp hroom hd hf
    · exact vx_runSN (q_fix C0) hM ⟨q_callN hT C0 g2 g5 g4 (lnkN (nbT g1)) r1 r2 r3 r4, hsta, trivial⟩ (q_preS (locs := locs) hsf h1 _) rfl hlen hls hsp hroom hd hf
  · obtain ⟨rfl, hd⟩ := q_len hq 3 rfl (by decide)
    dsimp only at h3
    rw [hcp] at h3
    simp only [Bool.and_eq_true, Bool.or_eq_true, decide_eq_true_eq] at h3
    rcases h3 with ⟨g0, -⟩ | ⟨g1, g2, g3, g4, g5, g6, g7, g8, g9⟩
    · exact absurd (nbT g0) h999
    · have g2 := nlT g2
      have hM := hM g2 s3 (by rw [s4]; exact Nat.le_of_ble_eq_true g6)
      refine ⟨rfl, g2, ?_⟩
      have hrc := hrc (fun h => by cases h)
      have hw := hT.2.2.1 k' g2
      unfold qmw at hw
      rw [nbT g3] at hw
      have hinst : (Cond.instanceMethod (qmn k')).before args s = true := hts _ (hw _ (List.mem_cons_of_mem _ (List.mem_cons_of_mem _ List.mem_cons_self)))
      generalize hAs : (st.take a).reverse = as at *
      match as, hrc, s4 with
      | .ref b :: as', hrc, s4 =>
        obtain ⟨hb0, hrcv⟩ := q_recv hE hsf hs h1 h2 (by have := nlT g9; omega) hrc
        obtain ⟨n, hn, hn1⟩ : ∃ n, qnp k' = some n ∧ n + 1 = a := by
          cases hz : qnp k' with
          | none => rw [hz] at g4; cases g4
          | some n => rw [hz] at g4; exact ⟨n, rfl, Option.some.inj g4⟩
        have hv : qtv E (.ref b) = .ref (qtr E b) := by show va_rf (qrf E b) = _; rw [hb0]; rfl
        have hPre : PreS s H (qPc E (.ref b :: as') M) (.ref (qtr E b) :: as'.map (qtv E)) := by
          have := q_preS (locs := locs) hsf h1 (.ref b :: as')
          rw [List.map_cons, hv] at this
          exact this
        have hst9 : st.map (qtv E) = (as'.map (qtv E)).reverse ++ .ref (qtr E b) :: (st.drop a).map (qtv E) := by
          rw [hsp, List.map_cons, List.reverse_cons, List.append_assoc, hv]
          rfl
        have hlen : (as'.map (qtv E)).length = n := by rw [List.length_map]; rw [List.length_cons] at s4; omega
        rw [List.map_cons, hv]
        rcases g1 with g1 | g1
        · have hB := q_callB (rm := rm) hT C0 g2 g5 hn (lnk (nbT g1) g2) r1 r2 r3 r4
          rw [g8] at hB
          exact vx_runI (rest := (st.drop a).map (qtv E)) (q_fix C0) hM ⟨hB, g7, hinst⟩ hPre rfl hlen hls hst9 hroom hd hf
        · have hB := q_callN (rm := rm) hT C0 g2 g5 hn (lnkN (nbT g1)) r1 r2 r3 r4
          rw [g8] at hB
          exact vx_runIN (rest := (st.drop a).map (qtv E)) (q_fix C0) hM ⟨hB, g7, hinst⟩ hPre rfl hlen hls hst9 hroom hd hf
end QCK
