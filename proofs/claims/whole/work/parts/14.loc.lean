/-! ===== the instructions that neither branch nor call nor end ===== -/
section QLC
variable {E : qEnv} {p : Program} {l : Launch} {e : Env} {R : Room} {s : State} {m : MethodId} {args : Array Value} {below : List Frame} {meth : Method} {c : Code} {c0 u0 : Nat} {Q : State → Prop} {k : Nat}
def qholds : Option Prop → Prop
  | none => True
  | some p => p
theorem nbT {a b : Nat} (h : Nat.beq a b = true) : a = b := Nat.eq_of_beq_eq_true h
theorem nlT {a b : Nat} (h : Nat.blt a b = true) : a < b := Nat.ble_eq.mp h
set_option maxHeartbeats 8000000 in
set_option maxRecDepth 20000 in
theorem qlo_sound (hT : qTab) (hE : qEok E) (C0 : qCx E p l s m args meth c k) (hk : k < 349) {pc nx tg : Nat} {ins : Jvm.ClassFile.Instr} (hcd : qcd k pc = some (ins, nx, tg)) {lv lv' : qV} {st st' : List Value} {M M' : qM} {P : Option Prop}
    (h : qlo (qcl k) ins lv st M = some (P, lv', st', M')) (hP : qholds P) (hnew : ∀ i, ins = .new i → (qcp (qcl k) i).1 < 9) (hc0 : c0 ≤ qce M) (hu0 : u0 ≤ qus M) (hb1 : qce M' - c0 ≤ R.cells) (hb2 : qus M' - u0 ≤ R.slots)
    (kk : qGo E p l e R s m args below meth c (qml k) c0 u0 Q nx lv' st' M') : qGo E p l e R s m args below meth c (qml k) c0 u0 Q pc lv st M := by
  have hq := hT.1 k pc ins nx tg hk hcd
  have hn := q_len hq
  have h2 := hq.2
  unfold qiok at h2
  rw [Bool.and_eq_true] at h2
  have h3 := h2.2
  clear h2 hq hcd
  obtain ⟨hx, hb, hml, hown, hts, hret, hlk, hnm, hexc, hsf, hs, hst, hsz⟩ := C0
  obtain ⟨t1, t2, t3, t4, t5, tI, tZ, tL, tX⟩ := hT
  obtain ⟨hK, hro, hNW, hSR, hST, hAO, hAA, -⟩ := hsf
  have hcl := (t4 k hk).1
  have hqn : qcn (qcl k) = (qmn k).cls := (t4 k hk).2.1
  have cpw : ∀ {i x y z : Nat}, qcp (qcl k) i = (x, y, z) → 10 ≤ z → ∀ w ∈ qcpW (qcl k) (i, x, y, z), w.before args s = true := fun h9 hz w hw => hts w (t2 _ _ _ _ _ hcl (qcp_mem h9 hz) w hw)
  have nstw : ∀ {i x y z : Nat}, qcp (qcl k) i = (x, y, z) → 10 ≤ z → ∀ w ∈ qcpN (qcl k) (i, x, y, z), va_Nw w s := fun h9 hz w hw => hNW w (List.mem_flatMap.mpr ⟨qcl k, List.mem_range.mpr hcl, List.mem_flatMap.mpr ⟨_, qcp_mem h9 hz, hw⟩⟩)
  unfold qlo at h
  split at h
  · cases h; obtain ⟨rfl, hd⟩ := hn 1 rfl (by decide); exact qs_iconst hx hb hd kk
  · cases h; obtain ⟨rfl, hd⟩ := hn 2 rfl (by decide); exact qs_bipush hx hb hd kk
  · cases h; obtain ⟨rfl, hd⟩ := hn 3 rfl (by decide); exact qs_sipush hx hb hd kk
  · cases h; obtain ⟨rfl, hd⟩ := hn 1 rfl (by decide); exact qs_lconst hx hb hd kk
  · obtain ⟨rfl, hd⟩ := hn 2 rfl (by decide)
    rename_i i
    split at h
    · rename_i v z hz
      cases h
      dsimp only at h3
      rw [hz] at h3
      simp only [Bool.or_eq_true, Bool.and_eq_true] at h3
      rcases h3 with ⟨g1, -⟩ | ⟨-, g2, -⟩
      · have g1 := nbT g1
        subst g1
        refine qs_ldc hx hb hown ?_ hd kk
        rw [← hqn]
        exact cpw hz (by decide) _ List.mem_cons_self
      · cases g2
    · rename_i a z hz
      cases h
      dsimp only at h3
      rw [hz] at h3
      simp only [Bool.or_eq_true, Bool.and_eq_true] at h3
      rcases h3 with ⟨-, g2⟩ | ⟨g1, -, g3, g4⟩
      · cases g2
      · have g1 := nbT g1
        subst g1
        have g4 := nlT g4
        refine qs_ldcS hx hb hown (by omega) (tx := qstx a) ?_ hd kk
        have h9 := hSR (qcn (qcl k), i, qstx a, a) (List.mem_flatMap.mpr ⟨qcl k, List.mem_range.mpr hcl, List.mem_filterMap.mpr ⟨_, qcp_mem hz (by decide), rfl⟩⟩)
        rw [hqn] at h9
        exact h9
    · cases h
  · obtain ⟨rfl, hd⟩ := hn 3 rfl (by decide)
    rename_i i
    split at h
    · rename_i v z hz
      cases h
      dsimp only at h3
      rw [hz] at h3
      simp only [Bool.and_eq_true] at h3
      have g1 := nbT h3.1
      subst g1
      refine qs_ldcw hx hb hown ?_ hd kk
      rw [← hqn]
      exact cpw hz (by decide) _ List.mem_cons_self
    · cases h
  · obtain ⟨rfl, hd⟩ := hn 3 rfl (by decide)
    rename_i i
    split at h
    · rename_i v z hz
      cases h
      dsimp only at h3
      rw [hz] at h3
      simp only [Bool.and_eq_true] at h3
      have g1 := nbT h3.1
      subst g1
      refine qs_ldc2 hx hb hown ?_ hd kk
      rw [← hqn]
      exact cpw hz (by decide) _ List.mem_cons_self
    · cases h
  · obtain ⟨rfl, hd⟩ := hn 1 rfl (by decide); split at h; · (rename_i hv; cases h; exact qs_iload_n hx hb hv hd kk)
    · cases h
  · obtain ⟨rfl, hd⟩ := hn 2 rfl (by decide); split at h; · (rename_i hv; cases h; exact qs_iload hx hb hv hd kk)
    · cases h
  · obtain ⟨rfl, hd⟩ := hn 1 rfl (by decide); split at h; · (rename_i hv; cases h; exact qs_lload_n hx hb hv hd kk)
    · cases h
  · obtain ⟨rfl, hd⟩ := hn 2 rfl (by decide); split at h; · (rename_i hv; cases h; exact qs_lload hx hb hv hd kk)
    · cases h
  · obtain ⟨rfl, hd⟩ := hn 1 rfl (by decide); split at h; · (rename_i hv; cases h; exact qs_aload_n hx hb hv hd kk)
    · cases h
  · obtain ⟨rfl, hd⟩ := hn 2 rfl (by decide); split at h; · (rename_i hv; cases h; exact qs_aload hx hb hv hd kk)
    · cases h
  · obtain ⟨rfl, hd⟩ := hn 1 rfl (by decide); split at h; · (cases h; exact qs_istore_n hx hb (nlT h3) hd kk)
    · cases h
  · obtain ⟨rfl, hd⟩ := hn 2 rfl (by decide); split at h; · (cases h; exact qs_istore hx hb (nlT h3) hd kk)
    · cases h
  · obtain ⟨rfl, hd⟩ := hn 1 rfl (by decide); split at h; · (cases h; exact qs_lstore_n hx hb (nlT h3) hd kk)
    · cases h
  · obtain ⟨rfl, hd⟩ := hn 2 rfl (by decide); split at h; · (cases h; exact qs_lstore hx hb (nlT h3) hd kk)
    · cases h
  · obtain ⟨rfl, hd⟩ := hn 1 rfl (by decide); split at h; · (cases h; exact qs_astore_n hx hb (nlT h3) hd kk)
    · cases h
  · obtain ⟨rfl, hd⟩ := hn 2 rfl (by decide); split at h; · (cases h; exact qs_astore hx hb (nlT h3) hd kk)
    · cases h
  · obtain ⟨rfl, hd⟩ := hn 3 rfl (by decide); split at h; · (rename_i hv; cases h; exact qs_iinc hx hb hv hd kk)
    · cases h
  · obtain ⟨rfl, hd⟩ := hn 1 rfl (by decide); split at h; · (cases h; exact qs_iadd hx hb hd kk)
    · cases h
  · obtain ⟨rfl, hd⟩ := hn 1 rfl (by decide); split at h; · (cases h; exact qs_isub hx hb hd kk)
    · cases h
  · obtain ⟨rfl, hd⟩ := hn 1 rfl (by decide); split at h; · (cases h; exact qs_imul hx hb hd kk)
    · cases h
  · obtain ⟨rfl, hd⟩ := hn 1 rfl (by decide); split at h; · (cases h; exact qs_iand hx hb hd kk)
    · cases h
  · obtain ⟨rfl, hd⟩ := hn 1 rfl (by decide); split at h; · (cases h; exact qs_ior hx hb hd kk)
    · cases h
  · obtain ⟨rfl, hd⟩ := hn 1 rfl (by decide); split at h; · (cases h; exact qs_ixor hx hb hd kk)
    · cases h
  · obtain ⟨rfl, hd⟩ := hn 1 rfl (by decide); split at h; · (cases h; exact qs_ishl hx hb hd kk)
    · cases h
  · obtain ⟨rfl, hd⟩ := hn 1 rfl (by decide); split at h; · (cases h; exact qs_ishr hx hb hd kk)
    · cases h
  · obtain ⟨rfl, hd⟩ := hn 1 rfl (by decide); split at h; · (cases h; exact qs_iushr hx hb hd kk)
    · cases h
  · obtain ⟨rfl, hd⟩ := hn 1 rfl (by decide); split at h; · (cases h; exact qs_idiv hx hb hP hd kk)
    · cases h
  · obtain ⟨rfl, hd⟩ := hn 1 rfl (by decide); split at h; · (cases h; exact qs_irem hx hb hP hd kk)
    · cases h
  · obtain ⟨rfl, hd⟩ := hn 1 rfl (by decide); split at h; · (cases h; exact qs_ineg hx hb hd kk)
    · cases h
  · obtain ⟨rfl, hd⟩ := hn 1 rfl (by decide); split at h; · (cases h; exact qs_i2l hx hb hd kk)
    · cases h
  · obtain ⟨rfl, hd⟩ := hn 1 rfl (by decide); split at h; · (cases h; exact qs_i2c hx hb hd kk)
    · cases h
  · obtain ⟨rfl, hd⟩ := hn 1 rfl (by decide); split at h; · (cases h; exact qs_ladd hx hb hd kk)
    · cases h
  · obtain ⟨rfl, hd⟩ := hn 1 rfl (by decide); split at h; · (cases h; exact qs_lsub hx hb hd kk)
    · cases h
  · obtain ⟨rfl, hd⟩ := hn 1 rfl (by decide); split at h; · (cases h; exact qs_lmul hx hb hd kk)
    · cases h
  · obtain ⟨rfl, hd⟩ := hn 1 rfl (by decide); split at h; · (cases h; exact qs_lcmp hx hb hd kk)
    · cases h
  · obtain ⟨rfl, hd⟩ := hn 1 rfl (by decide); split at h; · (cases h; exact qs_dup hx hb rfl hd kk)
    · (cases h; exact qs_dup hx hb rfl hd kk)
    · cases h
  · obtain ⟨rfl, hd⟩ := hn 1 rfl (by decide); split at h; · (cases h; exact qs_dup2 hx hb rfl rfl hd kk)
    · cases h
  · obtain ⟨rfl, hd⟩ := hn 1 rfl (by decide); split at h; · (cases h; exact qs_pop hx hb rfl hd kk)
    · (cases h; exact qs_pop hx hb rfl hd kk)
    · cases h
  · -- getstatic
    obtain ⟨rfl, hd⟩ := hn 3 rfl (by decide)
    rename_i i
    have stw : ∀ {x y z : Nat}, qcp (qcl k) i = (x, y, z) → z = 20 → (Cond.fieldLink (qmn k).cls i (qsn x y).1 (qsn x y).2.1 (qsn x y).2.2).before args s = true := fun h9 hz => by
      subst hz
      rw [← hqn]
      exact cpw h9 (by decide) _ List.mem_cons_self
    split at h
    · rename_i v z hz
      cases h
      dsimp only at h3
      rw [hz] at h3
      simp only [Bool.or_eq_true, Bool.and_eq_true] at h3
      obtain ⟨g1, ⟨-, g2⟩ | ⟨⟨g2, -⟩ | ⟨g2, -⟩⟩⟩ := h3
      · have g2 := nbT g2
        subst g2
        exact qs_getst (v := .int 1) hx hb hE hs hown (hST 1 0 (Or.inl rfl)) (stw hz (nbT g1)) hd kk
      · cases g2
      · cases g2
    · rename_i a z hz
      cases h
      dsimp only at h3
      rw [hz] at h3
      simp only [Bool.or_eq_true, Bool.and_eq_true] at h3
      obtain ⟨g1, ⟨g2, -⟩ | ⟨⟨-, g2⟩ | ⟨g2, -⟩⟩⟩ := h3
      · cases g2
      · refine qs_getst (v := .ref a) hx hb hE hs hown (hST a 1 (Or.inr (Or.inl ⟨rfl, ?_⟩))) (stw hz (nbT g1)) hd kk
        rcases g2 with g2 | g2 | g2
        · exact Or.inl (nbT g2)
        · exact Or.inr (Or.inl (nbT g2))
        · exact Or.inr (Or.inr (nbT g2))
      · cases g2
    · rename_i a z hz
      cases h
      dsimp only at h3
      rw [hz] at h3
      simp only [Bool.or_eq_true, Bool.and_eq_true] at h3
      obtain ⟨g1, ⟨g2, -⟩ | ⟨⟨g2, -⟩ | ⟨-, g2⟩⟩⟩ := h3
      · cases g2
      · cases g2
      · have g2 := nbT g2
        subst g2
        intro H locs ls h1 i2 i3
        refine qs_getst (v := .ref (qP M 6 0)) hx hb hE hs hown ?_ (stw hz (nbT g1)) hd kk H locs ls h1 i2 i3
        have e3 := (h1.2.2.2.2.1 6 (by decide)).2.2
        rw [e3]
        exact hST 6 2 (Or.inr (Or.inr rfl))
    · cases h
  · -- getfield
    obtain ⟨rfl, hd⟩ := hn 3 rfl (by decide)
    rename_i i
    split at h
    · rename_i a r
      have gen : ∀ {f y z : Nat} {v : Value}, qcp (qcl k) i = (f, y, z) → Nat.beq (f / 100) 9 = false → (Nat.blt (f / 100) 9 && (Nat.blt (f % 100) (qvw (f / 100)).2.2 && ((Nat.beq z 10 || Nat.beq z 11) && ((Nat.beq y 0 && decide (qty (f / 100) (f % 100) = .int)) || (Nat.beq y 1 && (qty (f / 100) (f % 100)).isReference))))) = true →
          qob M a (f / 100) → qfv E M (f / 100) a (f % 100) = qtv E v → qGo E p l e R s m args below meth c (qml k) c0 u0 Q (pc + 3) lv (v :: r) M → qGo E p l e R s m args below meth c (qml k) c0 u0 Q pc lv (.ref a :: r) M := by
        intro f y z v hz h8 g0 hi hv kk
        simp only [Bool.or_eq_true, Bool.and_eq_true] at g0
        obtain ⟨g1, g2, g3, -⟩ := g0
        have g1 := nlT g1
        obtain ⟨u1, -, -, -, -, -, -⟩ := t5 _ g1
        rcases g3 with g3 | g3
        · have g3 := nbT g3
          subst g3
          refine qs_getf hx hb hE hK hts u1 hown g1 (qvw_at g1) (nlT g2) ?_ hi hv hd kk
          have h9 := cpw hz (by decide)
          unfold qcpW at h9
          dsimp only at h9
          rw [if_neg (by omega), if_pos rfl, hqn] at h9
          exact h9 _ List.mem_cons_self
        · have g3 := nbT g3
          subst g3
          refine qs_getfN hx hb hE hK hts u1 hown g1 (qvw_at g1) (nlT g2) ?_ hi hv hd kk
          have h9 := nstw hz (by decide)
          unfold qcpN at h9
          dsimp only at h9
          rw [hqn] at h9
          exact va_Nw.use rfl (h9 _ List.mem_cons_self)
      split at h
      · rename_i f z hz
        cases h
        dsimp only at h3
        rw [hz] at h3
        dsimp only at h3
        cases h9 : Nat.beq (f / 100) 9 with
        | true =>
          rw [h9, cond_true] at h3
          simp only [Bool.or_eq_true, Bool.and_eq_true] at h3
          obtain ⟨g1, ⟨-, g2⟩ | ⟨g2, -⟩⟩ := h3
          · cases g2
          · have g2 := nbT g2
            have g1 := nbT g1
            subst g2
            subst g1
            refine qs_getfS hx hb hE hro hs hown hP (v := .int (qI M a 1)) (Or.inl ⟨rfl, rfl, rfl⟩) ?_ hd kk
            have h8 := cpw hz (by decide)
            unfold qcpW at h8
            dsimp only at h8
            rw [if_pos (by decide), if_neg (by decide), if_neg (by decide), hqn] at h8
            exact h8 _ List.mem_cons_self
        | false =>
          rw [h9, cond_false] at h3
          refine gen hz h9 h3 hP ?_ kk
          simp only [Bool.or_eq_true, Bool.and_eq_true] at h3
          obtain ⟨-, -, -, ⟨-, g⟩ | ⟨g, -⟩⟩ := h3
          · exact qfv_i (of_decide_eq_true g)
          · cases g
      · rename_i f z hz
        cases h
        dsimp only at h3
        rw [hz] at h3
        dsimp only at h3
        cases h9 : Nat.beq (f / 100) 9 with
        | true =>
          rw [h9, cond_true] at h3
          simp only [Bool.or_eq_true, Bool.and_eq_true] at h3
          obtain ⟨g1, ⟨g2, -⟩ | ⟨-, g2⟩⟩ := h3
          · have g2 := nbT g2
            have g1 := nbT g1
            subst g2
            subst g1
            refine qs_getfS hx hb hE hro hs hown hP (v := .ref (qP M a 0)) (Or.inr ⟨rfl, rfl, rfl⟩) ?_ hd kk
            have h8 := cpw hz (by decide)
            unfold qcpW at h8
            dsimp only at h8
            rw [if_pos (by decide), if_pos rfl, if_pos rfl, hqn] at h8
            exact h8 _ List.mem_cons_self
          · cases g2
        | false =>
          rw [h9, cond_false] at h3
          refine gen hz h9 h3 hP ?_ kk
          simp only [Bool.or_eq_true, Bool.and_eq_true] at h3
          obtain ⟨-, -, -, ⟨g, -⟩ | ⟨-, g⟩⟩ := h3
          · cases g
          · exact qfv_r (fun z => by rw [z] at g; cases g)
      · cases h
    · cases h
  · -- putfield
    obtain ⟨rfl, hd⟩ := hn 3 rfl (by decide)
    rename_i i
    have lnk : ∀ {f y z : Nat}, qcp (qcl k) i = (f, y, z) → f / 100 < 9 → z = 10 → (Cond.fieldLink (qmn k).cls i ((qvw (f / 100)).2.1 (f % 100)).1 ((qvw (f / 100)).2.1 (f % 100)).2.1 ((qvw (f / 100)).2.1 (f % 100)).2.2.1).before args s = true := by
      intro f y z hz g1 g3
      subst g3
      have h9 := cpw hz (by decide)
      unfold qcpW at h9
      dsimp only at h9
      rw [if_neg (by omega), if_pos rfl, hqn] at h9
      exact h9 _ List.mem_cons_self
    have lnkN : ∀ {f y z : Nat}, qcp (qcl k) i = (f, y, z) → z = 11 → (Cond.fieldLinkNest (qmn k).cls i ((qvw (f / 100)).2.1 (f % 100)).1 ((qvw (f / 100)).2.1 (f % 100)).2.1 ((qvw (f / 100)).2.1 (f % 100)).2.2.1 "PuppetHeirs").before args s = true := by
      intro f y z hz g3
      subst g3
      have h9 := nstw hz (by decide)
      unfold qcpN at h9
      dsimp only at h9
      rw [hqn] at h9
      exact va_Nw.use rfl (h9 _ List.mem_cons_self)
    split at h
    · split at h
      · rename_i f z hz
        cases h
        dsimp only at h3
        rw [hz] at h3
        simp only [Bool.or_eq_true, Bool.and_eq_true, Bool.not_eq_true'] at h3
        obtain ⟨g1, g2, g3, ⟨-, g4⟩ | ⟨g4, -⟩⟩ := h3
        · have g1 := nlT g1
          have g4 : qty (f / 100) (f % 100) = .int := of_decide_eq_true g4
          obtain ⟨u1, -, -, -, u5, u6, -⟩ := t5 _ g1
          rcases g3 with ⟨g5, g6 | ⟨g6, g7⟩⟩ | ⟨g5, g6⟩
          · exact qs_puti hx hb hE hK hts u1 hown g1 (qvw_at g1) (nlT g2) u5 u6 (lnk hz g1 (nbT g5)) g6 hP g4 hd kk
          · by_cases g8 : ((qvw (f / 100)).2.1 (f % 100)).2.2.2 = true
            · exact qs_putiF hx hb hE hK hts u1 hown g1 (qvw_at g1) (nlT g2) u5 u6 (lnk hz g1 (nbT g5)) g8 (hnm.trans (of_decide_eq_true g6)) (of_decide_eq_true g7) hP g4 hd kk
            · exact qs_puti hx hb hE hK hts u1 hown g1 (qvw_at g1) (nlT g2) u5 u6 (lnk hz g1 (nbT g5)) (Bool.eq_false_iff.mpr g8) hP g4 hd kk
          · exact qs_putiN hx hb hE hK hts u1 hown g1 (qvw_at g1) (nlT g2) u5 u6 (lnkN hz (nbT g5)) g6 hP g4 hd kk
        · cases g4
      · cases h
    · split at h
      · rename_i f z hz
        cases h
        dsimp only at h3
        rw [hz] at h3
        simp only [Bool.or_eq_true, Bool.and_eq_true, Bool.not_eq_true'] at h3
        obtain ⟨g1, g2, g3, ⟨g4, -⟩ | ⟨-, g4⟩⟩ := h3
        · cases g4
        · have g1 := nlT g1
          obtain ⟨u1, -, -, -, u5, u6, -⟩ := t5 _ g1
          rcases g3 with ⟨g5, g6 | ⟨g6, g7⟩⟩ | ⟨g5, g6⟩
          · exact qs_putr hx hb hE hK hts u1 hown g1 (qvw_at g1) (nlT g2) u5 u6 (lnk hz g1 (nbT g5)) g6 hP g4 hd kk
          · by_cases g8 : ((qvw (f / 100)).2.1 (f % 100)).2.2.2 = true
            · exact qs_putrF hx hb hE hK hts u1 hown g1 (qvw_at g1) (nlT g2) u5 u6 (lnk hz g1 (nbT g5)) g8 (hnm.trans (of_decide_eq_true g6)) (of_decide_eq_true g7) hP g4 hd kk
            · exact qs_putr hx hb hE hK hts u1 hown g1 (qvw_at g1) (nlT g2) u5 u6 (lnk hz g1 (nbT g5)) (Bool.eq_false_iff.mpr g8) hP g4 hd kk
          · exact qs_putrN hx hb hE hK hts u1 hown g1 (qvw_at g1) (nlT g2) u5 u6 (lnkN hz (nbT g5)) g6 hP g4 hd kk
      · cases h
    · cases h
  · obtain ⟨rfl, hd⟩ := hn 1 rfl (by decide); split at h
    · cases h
      obtain ⟨g1 | g1, g2⟩ := hP
      · exact qs_iald hx hb hE hK ⟨g1, g2⟩ hd kk
      · exact qs_iald_ro hx hb hE hro hs ⟨g1, g2⟩ hd kk
    · cases h
  · obtain ⟨rfl, hd⟩ := hn 1 rfl (by decide); split at h; · (cases h; exact qs_iast hx hb hE hK hP hd kk)
    · cases h
  · obtain ⟨rfl, hd⟩ := hn 1 rfl (by decide); split at h
    · cases h
      rcases hP with g | g
      · exact qs_zald hx hb hE hK g hd kk
      · exact qs_bald_ro hx hb hE hro hs g hd kk
    · cases h
  · obtain ⟨rfl, hd⟩ := hn 1 rfl (by decide); split at h; · (cases h; exact qs_zast hx hb hE hK hP.1 hP.2 hd kk)
    · cases h
  · obtain ⟨rfl, hd⟩ := hn 1 rfl (by decide); split at h; · (cases h; exact qs_lald hx hb hE hK hP hd kk)
    · cases h
  · obtain ⟨rfl, hd⟩ := hn 1 rfl (by decide); split at h; · (cases h; exact qs_last hx hb hE hK hP hd kk)
    · cases h
  · obtain ⟨rfl, hd⟩ := hn 1 rfl (by decide); split at h
    · cases h
      rcases hP with g | g
      · exact qs_aald4 hx hb hE hK g hd kk
      · exact qs_aald5 hx hb hE hK g hd kk
    · cases h
  · obtain ⟨rfl, hd⟩ := hn 1 rfl (by decide); split at h; · (cases h; exact qs_aast hx hb hE hK hP.1 hP.2 hd kk)
    · cases h
  · obtain ⟨rfl, hd⟩ := hn 1 rfl (by decide); split at h; · (cases h; exact qs_alen hx hb hE hK hro hs hP hd kk)
    · cases h
  · -- new
    obtain ⟨rfl, hd⟩ := hn 3 rfl (by decide)
    rename_i i
    split at h
    · rename_i x z hz
      cases h
      dsimp only at h3
      rw [hz] at h3
      simp only [Bool.or_eq_true, Bool.and_eq_true] at h3
      obtain ⟨g1, -, g2⟩ := h3
      have g1 := nbT g1
      subst g1
      have g3 := hnew i rfl
      rw [hz] at g3
      have g3 : x < 9 := g3
      obtain ⟨u1, u2, u3, u4, u5, -, u7⟩ := t5 _ g3
      have hcw := cpw hz (by decide)
      unfold qcpW at hcw
      dsimp only at hcw
      rw [if_pos g3, hqn] at hcw
      rw [qNf_vw] at *
      exact qs_new hx hb hE hK hts u1 hown g3 (qvw_at g3) u5 u7 u4 (hcw _ List.mem_cons_self) (hts _ u2) (hts _ u3) hP hc0 hu0 (by have : qce M + 1 - c0 ≤ R.cells := hb1; omega) (by have : qus M + (qvw x).2.2 - u0 ≤ R.slots := hb2; omega) hd kk
    · cases h
  · -- newarray
    obtain ⟨rfl, hd⟩ := hn 2 rfl (by decide)
    split at h
    · split at h
      · cases h
        exact qs_newI hx hb hE hK (hts _ tI) hP.2.1 hP.2.2 hP.1 hc0 hu0 (by have : qce M + 1 - c0 ≤ R.cells := hb1; omega) (by have : qus M + _ - u0 ≤ R.slots := hb2; omega) hd kk
      · cases h
        exact qs_newZ hx hb hE hK (hts _ tZ) hP.2.1 hP.2.2 hP.1 hc0 hu0 (by have : qce M + 1 - c0 ≤ R.cells := hb1; omega) (by have : qus M + _ - u0 ≤ R.slots := hb2; omega) hd kk
      · cases h
        exact qs_newL hx hb hE hK (hts _ tL) hP.2.1 hP.2.2 hP.1 hc0 hu0 (by have : qce M + 1 - c0 ≤ R.cells := hb1; omega) (by have : qus M + _ - u0 ≤ R.slots := hb2; omega) hd kk
      · cases h
    · cases h
  · -- anewarray
    obtain ⟨rfl, hd⟩ := hn 3 rfl (by decide)
    rename_i i
    split at h
    · split at h
      · rename_i y z hz
        cases h
        dsimp only at h3
        rw [hz] at h3
        simp only [Bool.and_eq_true] at h3
        have g1 := nbT h3.1
        subst g1
        have hcw : (Cond.classLink (qcn (qcl k)) i RX5).before args s = true := cpw hz (by decide) _ (by show _ ∈ [Cond.classLink (qcn (qcl k)) i RX5]; exact List.mem_cons_self)
        rw [hqn] at hcw
        exact qs_newS hx hb hE hK hown hcw hAO hP.2.1 hP.2.2 hP.1 hc0 hu0 (by have : qce M + 1 - c0 ≤ R.cells := hb1; omega) (by have : qus M + _ - u0 ≤ R.slots := hb2; omega) hd kk
      · cases h
    · cases h
  · -- multianewarray
    obtain ⟨rfl, hd⟩ := hn 4 rfl (by decide)
    rename_i i
    split at h
    · split at h
      · rename_i y z hz
        cases h
        dsimp only at h3
        rw [hz] at h3
        simp only [Bool.and_eq_true] at h3
        have g1 := nbT h3.1
        subst g1
        have hcw : (Cond.classLink (qcn (qcl k)) i "[[I").before args s = true := cpw hz (by decide) _ (by show _ ∈ [Cond.classLink (qcn (qcl k)) i "[[I"]; exact List.mem_cons_self)
        rw [hqn] at hcw
        exact qs_mna hx hb hE hK hown hcw (by exact hAA) (hts _ tI) hP.2.1 hP.2.2.1 hP.2.2.2.1 hP.2.2.2.2 hP.1 hc0 hu0 (by have : qce M + (1 + _) - c0 ≤ R.cells := hb1; omega) (by have : qus M + (_ + _) - u0 ≤ R.slots := hb2; omega) hd kk
      · cases h
    · cases h
  · cases h
end QLC
