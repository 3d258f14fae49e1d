/-! ===== Math.max, Math.min: by the library's contracts ===== -/
section QMT
variable {E : qEnv} {p : Program} {l : Launch} {e : Env} {R : Room} {s : State} {m : MethodId} {args : Array Value} {below : List Frame} {meth : Method} {c : Code} {c0 u0 : Nat} {Q : State → Prop} {k : Nat}
theorem q_maxV {T : State} {locs : List Loc} {cells slots : Nat} (X : Stand p l e R s m args below meth c T locs cells slots) (hexec : p.tables.exec = Jvm.exec) {own : String} {index : Nat} (hown : s.vm.findClass own = some m.cls)
    (hlink : (Cond.methodLink own index Lib.Math.max.name).before args s = true) (hstat : (Cond.static Lib.Math.max.name).before args s = true) (hinit : (Cond.initialized "java/lang/Math").before args s = true)
    (hcode : (Cond.code Lib.Math.max.name Lib.Math.max.code 2 (some .int)).before args s = true) {g : JFrame} (hg : g.method = m) (hsize : g.locals.size = c.maxLocals) {a b : Int32} {rest : List Value} (hstack : g.stack = .int b :: .int a :: rest)
    (hdg : decode c.code g.pc = .ok (.invokestatic index, 3)) (hframes : 1 ≤ R.frames) (hlocals : 2 * g.monitorRoom + (rest.map fun v => v.category).sum + 13 ≤ R.locals) (hcells : cells ≤ R.cells) (hslots : slots ≤ R.slots) :
    ∃ vm', Stand p l e R s m args below meth c (T.setVm vm') locs cells slots ∧
      ∀ target, Steps p.tables e below ((T.setVm vm').setTop { g with pc := g.pc + 3, stack := .int (if a < b then b else a) :: rest }) target → Steps p.tables e below (T.setTop g) target := by
  obtain ⟨v, T', X', ⟨first, t, hp⟩, hstep⟩ := X.staticByContractV hexec hown hlink hstat hinit hcode (by decide)
    (Meets.loose_of_no_refs (Lib.Math.max.meets l) fun as s' h => by
      simp only [Lib.Math.max.spec, Cond.before_and, Bool.and_eq_true] at h
      obtain ⟨x, y, rfl⟩ := Cond.two_ints h.2.1 h.2.2.1 h.2.2.2
      intro r hr
      simp at hr)
    rfl rfl rfl rfl
    (fun as first o s₂ h => by
      simp only [Lib.Math.max.spec, Cond.after_and, Bool.and_eq_true] at h
      cases o with
      | returned r => exact ⟨r, rfl⟩
      | threw y => simp [Cond.after, Cond.holds, Cond.value] at h)
    hg hsize (argsL := [.int a, .int b]) (rest := rest)
    (fun sig hs => by
      have h9 : (parseMethodDescriptor "(II)I").map (fun d => d.parameters.length) = some 2 := by decide +kernel
      rw [show "(II)I" = Lib.Math.max.name.desc from rfl, hs] at h9
      exact (Option.some.inj h9).symm)
    hstack hdg
    (fun vm' hW => by
      simp only [Lib.Math.max.spec, Cond.before_and, Bool.and_eq_true]
      refine ⟨?_, rfl, rfl, rfl⟩
      have q := (Cond.code_setVm hW.alike).trans hcode
      simp only [Cond.before, Cond.holds, Cond.value, State.methodNamed?, State.vm_setVm] at q ⊢
      exact q)
    (by show 0 + 1 ≤ R.frames; omega) (by show 2 * g.monitorRoom + (rest.map fun v => v.category).sum + (2 + 11) + 0 ≤ R.locals; omega) (by show cells + 0 ≤ R.cells; omega) (by show slots + 0 ≤ R.slots; omega)
  have hv : v = some (.int (if a < b then b else a)) := by
    rcases v with _ | w
    · by_cases h1 : a < b <;> simp [Lib.Math.max.spec, Cond.after, Cond.holds, Cond.value, Term.eval, h1] at hp
    · cases w <;> by_cases h1 : a < b <;> simp [Lib.Math.max.spec, Cond.after, Cond.holds, Cond.value, Term.eval, h1] at hp
      · rename_i r
        by_cases hr : r = b <;> simp [hr, h1] at hp ⊢
      · rename_i r
        by_cases hr : r = a <;> simp [hr, h1] at hp ⊢
  rw [hv] at hstep
  exact ⟨T', X', hstep⟩
theorem q_mpool : ∀ cl, cl < 15 → ∀ e ∈ qcpl cl, (e.2.1 = 298 ∨ e.2.1 = 299) → e.2.2.1 = 2 ∧ e.2.2.2 = 30 := by decide +kernel
theorem q_mfl : qfl 298 = 0 ∧ qfl 299 = 0 := by decide +kernel
set_option maxRecDepth 4096 in
theorem qX_298 : ∀ {n d : Nat} {a b : Value} {M : qM} {Q : qR → Prop}, qX n d 298 0 (lv_args 0 [a, b]) [] M Q → ∃ x y, a = .int x ∧ b = .int y ∧ Q (.inl (some (.int (if x < y then y else x)), M))
  | 0, _, _, _, _, _, h => h.elim
  | n + 1, d, a, b, M, Q, h => by
    cases a with
    | int x =>
      have h : qX n d 298 1 (lv_args 0 [.int x, b]) [.int x] M Q := h
      match n, h with
      | n + 1, h =>
        cases b with
        | int y =>
          have h : qX n d 298 2 (lv_args 0 [.int x, .int y]) [.int y, .int x] M Q := h
          match n, h with
          | n + 1, h =>
            have h : (x < y → qX n d 298 9 (lv_args 0 [.int x, .int y]) [] M Q) ∧ (¬ x < y → qX n d 298 5 (lv_args 0 [.int x, .int y]) [] M Q) := h
            refine ⟨x, y, rfl, rfl, ?_⟩
            by_cases g : x < y
            · have h := h.1 g
              rw [if_pos g]
              match n, h with
              | n + 1, h =>
                have h : qX n d 298 10 (lv_args 0 [.int x, .int y]) [.int y] M Q := h
                match n, h with
                | n + 1, h => exact (show qok (qrt 298) y ∧ Q _ from h).2
            · have h := h.2 g
              rw [if_neg g]
              match n, h with
              | n + 1, h =>
                have h : qX n d 298 6 (lv_args 0 [.int x, .int y]) [.int x] M Q := h
                match n, h with
                | n + 1, h =>
                  have h : qX n d 298 10 (lv_args 0 [.int x, .int y]) [.int x] M Q := h
                  match n, h with
                  | n + 1, h => exact (show qok (qrt 298) x ∧ Q _ from h).2
        | _ => exact False.elim h
    | _ => exact False.elim h
set_option maxRecDepth 4096 in
theorem qX_299 : ∀ {n d : Nat} {a b : Value} {M : qM} {Q : qR → Prop}, qX n d 299 0 (lv_args 0 [a, b]) [] M Q → ∃ x y, a = .int x ∧ b = .int y ∧ Q (.inl (some (.int (if y < x then y else x)), M))
  | 0, _, _, _, _, _, h => h.elim
  | n + 1, d, a, b, M, Q, h => by
    cases a with
    | int x =>
      have h : qX n d 299 1 (lv_args 0 [.int x, b]) [.int x] M Q := h
      match n, h with
      | n + 1, h =>
        cases b with
        | int y =>
          have h : qX n d 299 2 (lv_args 0 [.int x, .int y]) [.int y, .int x] M Q := h
          match n, h with
          | n + 1, h =>
            have h : (y < x → qX n d 299 9 (lv_args 0 [.int x, .int y]) [] M Q) ∧ (¬ y < x → qX n d 299 5 (lv_args 0 [.int x, .int y]) [] M Q) := h
            refine ⟨x, y, rfl, rfl, ?_⟩
            by_cases g : y < x
            · have h := h.1 g
              rw [if_pos g]
              match n, h with
              | n + 1, h =>
                have h : qX n d 299 10 (lv_args 0 [.int x, .int y]) [.int y] M Q := h
                match n, h with
                | n + 1, h => exact (show qok (qrt 299) y ∧ Q _ from h).2
            · have h := h.2 g
              rw [if_neg g]
              match n, h with
              | n + 1, h =>
                have h : qX n d 299 6 (lv_args 0 [.int x, .int y]) [.int x] M Q := h
                match n, h with
                | n + 1, h =>
                  have h : qX n d 299 10 (lv_args 0 [.int x, .int y]) [.int x] M Q := h
                  match n, h with
                  | n + 1, h => exact (show qok (qrt 299) x ∧ Q _ from h).2
        | _ => exact False.elim h
    | _ => exact False.elim h
set_option maxHeartbeats 1000000 in
theorem q_math (hT : qTab) (C0 : qCx E p l s m args meth c k) (hk : k < 349) {pc nx tg i k' a z : Nat} {ins : Jvm.ClassFile.Instr} (hcd : qcd k pc = some (ins, nx, tg)) (hins : ins = .invokevirtual i ∨ ins = .invokestatic i ∨ ins = .invokespecial i) (hcp : qcp (qcl k) i = (k', a, z)) {st : List Value} (hck : qck a st = true) (hm8 : k' = 298 ∨ k' = 299)
    {n d : Nat} {M : qM} {R1 : qR} {lv : qV} (h : qX n (d - 1) k' 0 (lv_args 0 (st.take a).reverse) [] M (qbk k pc nx lv (st.drop a) (fun pc' lv' st' M' => qX n d k pc' lv' st' M' (fun r => r = R1)) (fun r => r = R1))) (hf1 : 1 ≤ R.frames) (hl1 : 40 ≤ R.locals) (hb1 : qce M - c0 ≤ R.cells) (hb2 : qus M - u0 ≤ R.slots)
    (go : ∀ st', qX n d k nx lv st' M (fun r => r = R1) → qGo E p l e R s m args below meth c (qml k) c0 u0 Q nx lv st' M) : qGo E p l e R s m args below meth c (qml k) c0 u0 Q pc lv st M := by
  have hq := hT.1 k pc ins nx tg hk hcd
  obtain ⟨s1, s2, s3, s4⟩ := qck_spec hck
  have hcl := (hT.2.2.2.1 k hk).1
  have hqn : qcn (qcl k) = (qmn k).cls := (hT.2.2.2.1 k hk).2.1
  have hts := C0.2.2.2.2.1
  have h2' := hq.2
  unfold qiok at h2'
  rw [Bool.and_eq_true] at h2'
  have h3 := h2'.2
  have hfl : qfl k' = 0 := by rcases hm8 with rfl | rfl; exact q_mfl.1; exact q_mfl.2
  have h999 : k' ≠ 999 := by rcases hm8 with rfl | rfl <;> decide
  rcases hins with rfl | rfl | rfl
  · dsimp only at h3
    rw [hcp] at h3
    simp only [Bool.and_eq_true, hfl] at h3
    exact absurd (nbT h3.2.2.1) (by decide)
  · obtain ⟨rfl, hd⟩ := q_len hq 3 rfl (by decide)
    dsimp only at h3
    rw [hcp] at h3
    simp only [Bool.and_eq_true, Bool.or_eq_true, decide_eq_true_eq] at h3
    obtain ⟨g1, g2, g3, g4, g6⟩ := h3
    have g2 := nlT g2
    have hz : 10 ≤ z := by
      rcases g1 with g1 | ⟨g1, -⟩
      · have := nbT g1; omega
      · have := nbT g1; omega
    have hmem := qcp_mem hcp hz
    obtain ⟨ha2, hz30⟩ := q_mpool _ hcl _ hmem hm8
    have ha2 : a = 2 := ha2
    have hz30 : z = 30 := hz30
    subst ha2
    subst hz30
    have hlnk : (Cond.methodLink (qmn k).cls i (qmn k')).before args s = true := by
      rw [← hqn]
      refine hts _ (hT.2.1 _ _ _ _ _ hcl hmem _ ?_)
      show _ ∈ (if k' = 999 then _ else [Cond.methodLink (qcn (qcl k)) i (qmn k')])
      rw [if_neg h999]
      exact List.mem_cons_self
    have hw := hT.2.2.1 k' g2
    unfold qmw at hw
    rw [hfl] at hw
    have hcode := hts _ (hw _ List.mem_cons_self)
    have hini := hts _ (hw _ (List.mem_cons_of_mem _ List.mem_cons_self))
    have hsta : (Cond.static (qmn k')).before args s = true := hts _ (hw _ (List.mem_cons_of_mem _ (List.mem_cons_of_mem _ List.mem_cons_self)))
    match st, s1, s2, h with
    | v1 :: v2 :: r, s1, s2, h =>
      have s2 : (r.map (fun v => v.category)).sum ≤ 8 := s2
      intro H locs ls i1 i2 i3
      have hroom : ((r.map (qtv E)).map fun v => v.category).sum ≤ 8 := by
        rw [q_mcat]
        exact s2
      rcases hm8 with rfl | rfl
      · obtain ⟨x, y, rfl, rfl, hQ⟩ := qX_298 h
        have k9 := go _ hQ H locs ls i1 i2 i3
        intro T hT9 X
        obtain ⟨vm', X', st'⟩ := q_maxV X C0.1 C0.2.2.2.1 hlnk hsta hini hcode (g := F0 m pc ls (.int y :: .int x :: r.map (qtv E))) rfl (by show ls.size = _; rw [i3.1, C0.2.2.1]) rfl (by rw [C0.2.1]; exact hd) hf1 (by show 2 * 0 + _ + 13 ≤ _; omega) hb1 hb2
        obtain ⟨t, a1, b1⟩ := k9 (T.setVm vm') hT9 X'
        exact ⟨t, st' t a1, b1⟩
      · obtain ⟨x, y, rfl, rfl, hQ⟩ := qX_299 h
        have k9 := go _ hQ H locs ls i1 i2 i3
        intro T hT9 X
        obtain ⟨vm', X', st'⟩ := X.mathMinV C0.1 C0.2.2.2.1 hlnk hsta hini hcode (g := F0 m pc ls (.int y :: .int x :: r.map (qtv E))) rfl (by show ls.size = _; rw [i3.1, C0.2.2.1]) (a := x) (b := y) (rest := r.map (qtv E)) rfl (by rw [C0.2.1]; exact hd) hf1 (by show 2 * 0 + _ + 13 ≤ _; omega) hb1 hb2
        obtain ⟨t, a1, b1⟩ := k9 (T.setVm vm') hT9 X'
        exact ⟨t, st' t a1, b1⟩
  · dsimp only at h3
    rw [hcp] at h3
    simp only [Bool.and_eq_true, Bool.or_eq_true, hfl] at h3
    rcases h3 with ⟨g0, -⟩ | ⟨g1, g2, g3, g4⟩
    · exact absurd (nbT g0) h999
    · exact absurd (nbT g3) (by decide)
end QMT
