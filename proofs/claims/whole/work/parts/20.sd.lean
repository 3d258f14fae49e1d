/-! ===== the induction on the number of steps ===== -/
section QIN
variable {E : qEnv} {p : Program} {l : Launch} {e : Env} {Rm : Room} {s : State} {m : MethodId} {args : Array Value} {below : List Frame} {meth : Method} {c : Code} {c0 u0 : Nat} {k : Nat}
theorem q_link {hT : qTab} (C0 : qCx E p l s m args meth c k) (hk : k < 349) {i ex : Nat} (hex : ex < 2) (hz : (qcp (qcl k) i).2.2 = 40) (hx : (qcp (qcl k) i).1 = 100 + ex) : (Cond.classLink (qmn k).cls i (qen ex)).before args s = true := by
  have hcl := (hT.2.2.2.1 k hk).1
  have hqn : qcn (qcl k) = (qmn k).cls := (hT.2.2.2.1 k hk).2.1
  generalize hq : qcp (qcl k) i = t at hz hx
  obtain ⟨x, y, z⟩ := t
  have hz : z = 40 := hz
  have hx : x = 100 + ex := hx
  subst hz
  subst hx
  rw [← hqn]
  refine C0.2.2.2.2.1 _ (hT.2.1 _ _ _ _ _ hcl (qcp_mem hq (by decide)) _ ?_)
  rcases (by omega : ex = 0 ∨ ex = 1) with rfl | rfl
  · exact List.mem_cons_self
  · exact List.mem_cons_self
set_option maxHeartbeats 2000000 in
/-- what a callee has thrown: caught here, or it goes on -/
theorem q_thrown (hT : qTab) (C0 : qCx E p l s m args meth c k) (hk : k < 349) {pc nx ex : Nat} (hex : ex < 2) {lv : qV} {rest : List Value} {M1 : qM} {R : qR} {F : Nat → qV → List Value → qM → Prop} (h : qbk k pc nx lv rest F (fun r => r = R) (.inr (ex, M1)))
    (go : ∀ a b d, F a b d M1 → qGo E p l e Rm s m args below meth c (qml k) c0 u0 (qEnd E below args s c0 u0 R) a b d M1) {H : Heap} {locs : List Loc} {ls : Array Slot} {q : Addr} {ce : Cell} (h1 : qHR E M1 H) (h2 : va_S (qA E) s.heap H locs) (h3 : qLok E ls (qml k) lv) (hce : H[q]? = some ce) (hcv : ce.vm = .none) (hcl : s.vm.findClass (qen ex) = some ce.cls) {rest' : List Value} :
    vx_W p l e Rm s m args below meth c H locs (qce M1 - c0) (qus M1 - u0) (qEnd E below args s c0 u0 R) (F0 m pc ls rest') q := by
  obtain ⟨hx, hb, hml, hown, hts, hret, hlk, hnm, hexc, hsf, hs, hst, hsz⟩ := id C0
  have hct := (hT.2.2.2.1 k hk).2.2.2.2.2
  have hcpk := hT.2.2.2.1 k hk
  unfold qbk at h
  dsimp only at h
  generalize hha : qha k = t at h
  match t with
  | [] =>
    dsimp only at h
    subst h
    refine vx_out (fun x hx => ?_) hlk hce hcv hcl (fun t ht _ => ⟨⟨_, _, rfl, rfl, by rw [ht]; exact h1⟩, h2.F ht⟩) h2.2.2 (Nat.le_refl _) (Nat.le_refl _)
    rw [hexc, hha] at hx
    cases hx
  | t0 :: tr =>
    dsimp only at h
    generalize hca : qcat (qcl k) pc ex (t0 :: tr) = o at h
    match o with
    | none => exact h.elim
    | some hh =>
      obtain ⟨pre, x, suf, e1, e2, e3, e4, e5⟩ := qcat_spec _ hca
      rw [hha] at hct
      have hxm : x ∈ t0 :: tr := by rw [e1]; exact List.mem_append_right _ List.mem_cons_self
      obtain ⟨x1, x2, x3⟩ := hct x hxm
      have ins : (Cond.instantiable (qen ex) 6).before args s = true := hts _ ((hT.2.2.2.2.2.2.2.2 ex hex).1 _ (List.mem_cons_of_mem _ List.mem_cons_self))
      have tab : c.exceptionTable.toList = tableOf pre ++ (⟨x.1, x.2.1, x.2.2.1, x.2.2.2⟩ : ExceptionTableEntry) :: tableOf suf := by
        rw [hexc, hha, e1]
        unfold tableOf
        rw [List.map_append, List.map_cons]
      refine vx_catch hown (tableOf pre) _ (tableOf suf) tab ?_ (by show (decide (x.1 ≤ pc) && decide (pc < x.2.1)) = true; rw [decide_eq_true e3.1, decide_eq_true e3.2]; rfl) x1 (q_link (hT := hT) C0 hk hex x2 e4) (qcastable ins) hce hcv hcl ?_
      · intro z hz
        unfold tableOf at hz
        obtain ⟨w, hw, rfl⟩ := List.mem_map.mp hz
        obtain ⟨w1, w2, w3⟩ := hct w (by rw [e1]; exact List.mem_append_left _ hw)
        rcases e5 w hw with g | g
        · refine Or.inl ?_
          show (decide (w.1 ≤ pc) && decide (pc < w.2.1)) = false
          cases hd : (decide (w.1 ≤ pc) && decide (pc < w.2.1)) with
          | false => rfl
          | true =>
            simp only [Bool.and_eq_true, decide_eq_true_eq] at hd
            exact absurd hd g
        · refine Or.inr ⟨w1, qen (1 - ex), q_link (hT := hT) C0 hk (by omega) w2 (by show (qcp (qcl k) w.2.2.2).1 = 100 + (1 - ex); have g : (qcp (qcl k) w.2.2.2).1 ≠ 100 + ex := g; omega), ?_⟩
          rcases (by omega : ex = 0 ∨ ex = 1) with rfl | rfl
          · exact hsf.2.2.2.2.2.2.2.1.2
          · exact hsf.2.2.2.2.2.2.2.1.1
      · show W p l e Rm s m args below meth c H locs _ _ _ (F0 m x.2.2.1 ls [.ref q])
        rw [e2]
        dsimp only at h
        generalize hcd : qcd k hh = o2 at h
        split at h
        · rename_i i n2 tg
          obtain ⟨rfl, hd⟩ := q_len (hT.1 k _ _ _ _ hk hcd) 1 rfl (by decide)
          have hq := (hT.1 k _ _ _ _ hk hcd).2
          unfold qiok at hq
          rw [Bool.and_eq_true] at hq
          exact lv_astore_n hx hb hd rfl (qLok_has h3) (nlT hq.2) rfl (fun ls' h' => go _ _ _ h H locs ls' h1 h2 (qLok_catch h3 h'))
        · rename_i i n2 tg
          obtain ⟨rfl, hd⟩ := q_len (hT.1 k _ _ _ _ hk hcd) 2 rfl (by decide)
          have hq := (hT.1 k _ _ _ _ hk hcd).2
          unfold qiok at hq
          rw [Bool.and_eq_true] at hq
          exact lv_astore hx hb hd (qLok_has h3) (nlT hq.2) rfl (fun ls' h' => go _ _ _ h H locs ls' h1 h2 (qLok_catch h3 h'))
        · exact h.elim
end QIN
theorem qnw {P : Prop} {st : List Value} {t : List (Nat × Nat × Nat × Nat)} (h : match st, t with | [], [] => P | _, _ => False) : st = [] ∧ t = [] ∧ P := by
  match st, t, h with
  | [], [], h => exact ⟨rfl, rfl, h⟩
theorem qcsum {E : qEnv} : ∀ r : List Value, ((r.map (qtv E)).map fun v => v.category).sum ≤ 2 * r.length
  | [] => Nat.le_refl _
  | v :: r => by
    have := qcsum (E := E) r
    have h2 : (qtv E v).category ≤ 2 := by cases (qtv E v) <;> first | exact Nat.le_refl 2 | exact Nat.le_succ 1
    simp only [List.map_cons, List.sum_cons, List.length_cons]
    omega
theorem nleT {a b : Nat} (h : Nat.ble a b = true) : a ≤ b := Nat.le_of_ble_eq_true h
set_option maxHeartbeats 4000000 in
theorem q_sound {E : qEnv} {l : Launch} (hT : qTab) (hO : qTabO) (hE : qEok E) (hst : l.stackTraces = false) : ∀ n, qSd E l n
  | 0 => fun _ _ _ _ _ _ _ _ h => h.elim
  | n + 1 => by
    have ih := q_sound (E := E) (l := l) hT hO hE hst n
    intro d k pc lv st M R hk h p e Rm s m args below meth c c0 u0 C0 hfr hlo hc0 hu0 hb1 hb2
    have hle := qX_leR h
    have go : ∀ a b f M', qX n d k a b f M' (fun r => r = R) → qleM M M' → qGo E p l e Rm s m args below meth c (qml k) c0 u0 (qEnd E below args s c0 u0 R) a b f M' := fun a b f M' h hl =>
      ih d k a b f M' R hk h p e Rm s m args below meth c c0 u0 C0 hfr hlo (Nat.le_trans hc0 hl.1) (Nat.le_trans hu0 hl.2) hb1 hb2
    have go0 : ∀ a b f, qX n d k a b f M (fun r => r = R) → qGo E p l e Rm s m args below meth c (qml k) c0 u0 (qEnd E below args s c0 u0 R) a b f M := fun a b f h => go a b f M h (qleM_rf M)
    have hx := C0.1
    have hb := C0.2.1
    have hr := C0.2.2.2.2.2.1
    have hlk := C0.2.2.2.2.2.2.1
    have hsf : qSF E s := C0.2.2.2.2.2.2.2.2.2.1
    have loc : ∀ {ins : Jvm.ClassFile.Instr} {nx tg : Nat}, qcd k pc = some (ins, nx, tg) → (∀ i, ins = .new i → (qcp (qcl k) i).1 < 9) → (match qlo (qcl k) ins lv st M with | some (P, lv', st', M') => qand P (qX n d k nx lv' st' M' (fun r => r = R)) | none => False) →
        qGo E p l e Rm s m args below meth c (qml k) c0 u0 (qEnd E below args s c0 u0 R) pc lv st M := by
      intro ins nx tg hcd hnew h
      generalize hq : qlo (qcl k) ins lv st M = q at h
      match q with
      | none => exact h.elim
      | some (P, lv', st', M') =>
        have h9 : qX n d k nx lv' st' M' (fun r => r = R) := (qand_det h).1
        have hl := qlo_le hq
        have hl2 := qX_leR h9
        have hP : qholds P := match P, h with
          | none, _ => trivial
          | some _, h => h.1
        exact qlo_sound hT hE C0 hk hcd hq hP hnew hc0 hu0 (Nat.le_trans (Nat.sub_le_sub_right hl2.1 _) hb1) (Nat.le_trans (Nat.sub_le_sub_right hl2.2 _) hb2) (go _ _ _ _ h9 hl)
    have call : ∀ {ins : Jvm.ClassFile.Instr} {i nx tg k' a z : Nat}, qcd k pc = some (ins, nx, tg) → (ins = .invokevirtual i ∨ ins = .invokestatic i ∨ ins = .invokespecial i) → qcp (qcl k) i = (k', a, z) → k' ≠ 999 → qck a st = true → 0 < d → (ins ≠ .invokestatic i → qrc M k' (st.take a).reverse) →
        qX n (d - 1) k' 0 (lv_args 0 (st.take a).reverse) [] M (qbk k pc nx lv (st.drop a) (fun pc' lv' st' M' => qX n d k pc' lv' st' M' (fun r => r = R)) (fun r => r = R)) →
        qGo E p l e Rm s m args below meth c (qml k) c0 u0 (qEnd E below args s c0 u0 R) pc lv st M := by
      intro ins i nx tg k' a z hcd hins hcp h999 hck hd0 hrc h
      by_cases hm8 : k' = 298 ∨ k' = 299
      · exact q_math (e := e) hT C0 hk hcd hins hcp hck hm8 h (by omega) (by omega) (Nat.le_trans (Nat.sub_le_sub_right hle.1 _) hb1) (Nat.le_trans (Nat.sub_le_sub_right hle.2 _) hb2) (fun v g => go _ _ _ _ g (qleM_rf M))
      obtain ⟨R1, hbk, h9⟩ := qX_det n h
      have hl1 := qX_leR h9
      have hl2 : qleM (qRM R1) (qRM R) := by
        rcases qbk_le hbk with ⟨a, b, f, g⟩ | g
        · exact qX_leR g
        · rw [g]; exact qleM_rf _
      intro H locs ls h1 h2 h3
      have e1 : qce M ≤ qce (qRM R1) := hl1.1
      have e2 : qus M ≤ qus (qRM R1) := hl1.2
      have e3 : qce (qRM R1) ≤ qce (qRM R) := hl2.1
      have e4 : qus (qRM R1) ≤ qus (qRM R) := hl2.2
      obtain ⟨hnx, hk', hrun⟩ := q_run (rm := qrm (d - 1) M R1) (mc := qce (qRM R1) - qce M) (ms := qus (qRM R1) - qus M) (Qc := qQc E R1) (XC := qXc E R1) (p := p) (l := l) (e := e) (R := Rm) (below := below) (cells := qce M - c0) (slots := qus M - u0) hT hE C0 hk hcd hins hcp h999 hck hrc h1 h2 h3.1
        (fun hk' hcat hlen => q_met hT hst ih hk' h9 hlen hcat (fun g => hm8 (Or.inl g)) (fun g => hm8 (Or.inr g))) rfl rfl (by show d - 1 + 1 ≤ _; omega) (by show 40 * (d - 1) + 40 ≤ _; omega) ⟨by omega, by omega⟩
      subst hnx
      have f1 : qce M - c0 + (qce (qRM R1) - qce M) = qce (qRM R1) - c0 := by omega
      have f2 : qus M - u0 + (qus (qRM R1) - qus M) = qus (qRM R1) - u0 := by omega
      refine q_after hrun h2 ?_ ?_
      · intro v M1 hR H1 locs1 i1 i2
        rw [f1, f2]
        subst hR
        match v, hbk with
        | some v, hbk => exact go _ _ _ _ hbk hl1 H1 locs1 ls i1 i2 h3
        | none, hbk => exact go _ _ _ _ hbk hl1 H1 locs1 ls i1 i2 h3
      · intro ex M1 hR H1 locs1 q ce i1 i2 i3 i4 i5
        rw [f1, f2]
        have hex := qX_ex2 h9
        subst hR
        exact q_thrown hT C0 hk hex hbk (fun a b f g => go a b f M1 g hl1) i1 i2 h3 i3 i4 i5
    have h : qG (fun pc' lv' st' M' => qX n d k pc' lv' st' M' (fun r => r = R)) (fun _ _ _ _ => True) (fun k' as M' Q' _ => qX n (d - 1) k' 0 (lv_args 0 as) [] M' Q') d k pc lv st M (fun r => r = R) := h
    unfold qG at h
    generalize hcd : qcd k pc = o at h
    match o with
    | none => exact h.elim
    | some (ins, nx, tg) =>
      have hq := hT.1 k pc ins nx tg hk hcd
      have h2 := hq.2
      unfold qiok at h2
      rw [Bool.and_eq_true] at h2
      have h3 := h2.2
      clear h2
      dsimp only at h
      split at h
      · obtain ⟨rfl, hd⟩ := q_len hq 3 rfl (by decide)
        exact qs_goto hx hb (of_decide_eq_true h3) hd (go0 _ _ _ h)
      · obtain ⟨rfl, hd⟩ := q_len hq 3 rfl (by decide)
        split at h
        · exact qs_if hx hb (of_decide_eq_true h3) hd (fun g => go0 _ _ _ (h.1 g)) (fun g => go0 _ _ _ (h.2 g))
        · exact h.elim
      · obtain ⟨rfl, hd⟩ := q_len hq 3 rfl (by decide)
        split at h
        · exact qs_ific hx hb (of_decide_eq_true h3) hd (fun g => go0 _ _ _ (h.1 g)) (fun g => go0 _ _ _ (h.2 g))
        · exact h.elim
      · obtain ⟨rfl, hd⟩ := q_len hq 3 rfl (by decide)
        split at h
        · exact qs_ifnull hx hb (of_decide_eq_true h3) hd (fun g => go0 _ _ _ (h.1 g)) (fun g => go0 _ _ _ (h.2 g))
        · exact h.elim
      · split at h
        · simp only [Bool.and_eq_true, decide_eq_true_eq] at h3
          obtain ⟨b0, b1, b2, b3, b4⟩ := h3
          exact qs_tsw hx hb hq.1 b0 (fun o ho => of_decide_eq_true (List.all_eq_true.mp b1 o ho)) b2 b3 b4 (qsw_mono (fun t g => go0 _ _ _ g) _ h)
        · exact h.elim
      · split at h
        · simp only [Bool.and_eq_true, decide_eq_true_eq] at h3
          obtain ⟨b0, b1, b2⟩ := h3
          refine qs_lsw hx hb hq.1 b0 (fun q hq9 => ?_) b2 (qsw_mono (fun t g => go0 _ _ _ g) _ h)
          have := List.all_eq_true.mp b1 q hq9
          simp only [Bool.and_eq_true, decide_eq_true_eq] at this
          exact this
        · exact h.elim
      · obtain ⟨rfl, hd⟩ := q_len hq 1 rfl (by decide)
        split at h
        · obtain ⟨hv, rfl⟩ := h
          exact qs_ret1 hx hb hr hlk hv hd
        · exact h.elim
      · obtain ⟨rfl, hd⟩ := q_len hq 1 rfl (by decide)
        split at h
        · obtain ⟨hv, rfl⟩ := h
          exact qs_ret2 hx hb (hr.trans hv) hlk hd
        · exact h.elim
      · obtain ⟨rfl, hd⟩ := q_len hq 1 rfl (by decide)
        split at h
        · obtain ⟨hv, rfl⟩ := h
          exact qs_ret0 hx hb (hr.trans hv) hlk hd
        · exact h.elim
      · rename_i i
        split at h
        · rename_i y z hz
          obtain ⟨rfl, hha, g1, rfl⟩ := qnw h
          exact qs_throw (ex := 0) hT hE C0 hk hcd hz rfl (by decide) hha (by omega) (by omega) hc0 hu0 hb1 hb2
        · rename_i y z hz
          obtain ⟨rfl, hha, g1, rfl⟩ := qnw h
          exact qs_throw (ex := 1) hT hE C0 hk hcd hz rfl (by decide) hha (by omega) (by omega) hc0 hu0 hb1 hb2
        · rename_i n1 n2
          refine loc hcd (fun i' hi' => ?_) h
          cases hi'
          dsimp only at h3
          generalize hz : qcp (qcl k) i = t at h3 n1 n2 ⊢
          obtain ⟨x, y, z⟩ := t
          dsimp only at h3
          simp only [Bool.and_eq_true, Bool.or_eq_true] at h3
          obtain ⟨-, -, g | ⟨g | g, -⟩⟩ := h3
          · exact nlT g
          · have := nbT g
            subst this
            exact (n1 _ _ rfl).elim
          · have := nbT g
            subst this
            exact (n2 _ _ rfl).elim
      · rename_i i
        generalize hz : qcp (qcl k) i = t at h
        obtain ⟨k', a, z⟩ := t
        dsimp only at h
        split at h
        · rename_i hck
          refine call hcd (Or.inl rfl) hz (fun g => ?_) hck h.1 (fun _ => h.2.1) h.2.2
          subst g
          dsimp only at h3
          rw [hz] at h3
          dsimp only at h3
          simp only [Bool.and_eq_true] at h3
          have := nlT h3.2.1
          omega
        · exact h.elim
      · rename_i i
        generalize hz : qcp (qcl k) i = t at h
        obtain ⟨k', a, z⟩ := t
        dsimp only at h
        split at h
        · rename_i hck
          refine call hcd (Or.inr (Or.inl rfl)) hz (fun g => ?_) hck h.1 (fun g => absurd rfl g) h.2
          subst g
          dsimp only at h3
          rw [hz] at h3
          dsimp only at h3
          simp only [Bool.and_eq_true] at h3
          have := nlT h3.2.1
          omega
        · exact h.elim
      · rename_i i
        generalize hz : qcp (qcl k) i = t at h
        obtain ⟨k', a, z⟩ := t
        split at h
        · rename_i y9 z9 heq
          cases heq
          split at h
          · rename_i a9 r9 _
            split at h
            · rename_i hle9
              obtain ⟨⟨hd0, hob⟩, h⟩ := h
              dsimp only at h3
              rw [hz] at h3
              dsimp only at h3
              simp only [Bool.or_eq_true, Bool.and_eq_true] at h3
              have h30 : Nat.beq z 30 = true ∧ Nat.blt (qcl k) 9 = true := by
                rcases h3 with h3 | h3
                · exact h3.2
                · exact absurd (nlT h3.2.1) (by decide)
              have z30 := nbT h30.1
              subst z30
              have hcl9 := nlT h30.2
              have hlink : (Cond.methodLink (qmn k).cls i objectInit).before args s = true := by
                rw [← (hT.2.2.2.1 k hk).2.1]
                refine C0.2.2.2.2.1 _ (hT.2.1 _ _ _ _ _ (hT.2.2.2.1 k hk).1 (qcp_mem hz (by decide)) _ ?_)
                exact List.mem_cons_self
              obtain ⟨rfl, hd⟩ := q_len hq 3 rfl (by decide)
              intro H locs ls i1 i2 i3
              have ht := qob_tag hcl9 hob
              have hg := qHR_ge hE.1 i1 ht
              have h0 : qrf E a9 = some (qtr E a9) := if_neg (by omega)
              rw [List.map_cons]
              simp only [qtv, h0]
              exact W.objInit hx hb C0.2.2.2.1 hlink (C0.2.2.2.2.1 _ hO.1) (C0.2.2.2.2.1 _ hO.2) rfl (by show ls.size = _; rw [i3.1, C0.2.2.1]) rfl hd (by omega) (by have := qcsum (E := E) r9; have := nleT hle9; show 2 * 0 + _ + 12 ≤ _; omega) (go0 _ _ _ h H locs ls i1 i2 i3)
            · exact h.elim
          · exact h.elim
        · rename_i k9 b9 z9 n1 heq
          cases heq
          split at h
          · rename_i hck
            refine call hcd (Or.inr (Or.inr rfl)) hz (fun g => ?_) hck h.1 (fun _ => h.2.1) h.2.2
            subst g
            exact n1 rfl
          · exact h.elim
      · rename_i n1 _ _ _
        exact loc hcd (fun i hi => absurd hi (n1 i)) h
