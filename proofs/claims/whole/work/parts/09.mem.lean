/-! ===== memory: reads and writes ===== -/
theorem qob_cell {E : qEnv} {M : qM} {a ci : Nat} (hc : ci < 9) (h : qob M a ci) : qcell E M a = .inr (ci, (List.range (qNf ci)).map (qfv E M ci a)) := by
  unfold qob at h
  unfold qcell
  rw [h]
  match ci, hc with
  | 0, _ | 1, _ | 2, _ | 3, _ | 4, _ | 5, _ | 6, _ | 7, _ | 8, _ => rfl
theorem qcell_1 {E : qEnv} {M : qM} {a : Nat} (h : (qsh M a).1 = 1) : qcell E M a = .inl (eC E 1, (qsh M a).2, .inl (qI M a)) := by
  unfold qcell
  rw [h]
  rfl
theorem qcell_2 {E : qEnv} {M : qM} {a : Nat} (h : (qsh M a).1 = 2) : qcell E M a = .inl (eC E 2, (qsh M a).2, .inl (qI M a)) := by
  unfold qcell
  rw [h]
  rfl
theorem qcell_3 {E : qEnv} {M : qM} {a : Nat} (h : (qsh M a).1 = 3) : qcell E M a = .inl (eC E 3, (qsh M a).2, .inr (.inl (qL M a))) := by
  unfold qcell
  rw [h]
  rfl
theorem qcell_4 {E : qEnv} {M : qM} {a : Nat} (h : (qsh M a).1 = 4) : qcell E M a = .inl (eC E 4, (qsh M a).2, .inr (.inr (.inr (.inr (fun j => qrf E (qP M a j)))))) := by
  unfold qcell
  rw [h]
  rfl
theorem qcell_5 {E : qEnv} {M : qM} {a : Nat} (h : (qsh M a).1 = 5) : qcell E M a = .inl (eC E 5, (qsh M a).2, .inr (.inr (.inr (.inr (fun j => qrf E (qP M a j)))))) := by
  unfold qcell
  rw [h]
  rfl
theorem qHR_ge {E : qEnv} {M : qM} {H : Heap} (hE : ∀ a, a < 64 → (qsh (eM E) a).1 = 0 ∨ (qsh (eM E) a).1 = 11 ∨ (qsh (eM E) a).1 = 12 ∨ (qsh (eM E) a).1 = 29) (h : qHR E M H) {a : Nat} (ht : qtag (qsh M a).1) : 64 ≤ a := by
  rcases Nat.lt_or_ge a 64 with g | g
  · exfalso
    rw [(h.2.2.2.2.1 a g).1] at ht
    have h1 := hE a g
    unfold qtag at ht
    omega
  · exact g
theorem qHR_lt {E : qEnv} {M : qM} {H : Heap} (h : qHR E M H) {a : Nat} (ht : (qsh M a).1 = 11 ∨ (qsh M a).1 = 12 ∨ (qsh M a).1 = 29) : a < 64 := by
  rcases Nat.lt_or_ge a 64 with g | g
  · exact g
  · exfalso
    have h1 := (h.2.2.2.2.2 a g (by omega)).2.1
    unfold qtag at h1
    omega
theorem qHR_at {E : qEnv} {M : qM} {H : Heap} (h : qHR E M H) {a : Nat} (g : 64 ≤ a) (ht : qtag (qsh M a).1) : va_at (eD E) vwCl (qtr E a, qcell E M a) H := (h.2.2.2.2.2 a g (by unfold qtag at ht; omega)).2.2.2
theorem qHR_P {E : qEnv} {M : qM} {H : Heap} (h : qHR E M H) {a : Nat} (g : 64 ≤ a) (ht : qtag (qsh M a).1) : va_P (eD E) vwCl [(qtr E a, qcell E M a)] H := fun k q hq => by
  have h0 : k < 1 := (List.getElem?_eq_some_iff.mp hq).1
  rw [show k = 0 by omega] at hq
  cases hq
  exact qHR_at h g ht
theorem qtr_ne {E : qEnv} {a b : Nat} (ha : 64 ≤ a) (hb : 64 ≤ b) (h : b ≠ a) : qtr E b ≠ qtr E a := by
  unfold qtr
  rw [if_neg (by omega), if_neg (by omega)]
  omega
theorem qtr_ge {E : qEnv} {a : Nat} (ha : 64 ≤ a) : eB E ≤ qtr E a := by
  unfold qtr
  rw [if_neg (by omega)]
  omega
/-- one cell written -/
theorem qHR_set {E : qEnv} {M M' : qM} {H H1 : Heap} {a : Nat} (h : qHR E M H) (ha : 64 ≤ a) (z : H1.size = H.size) (o : ∀ q : Nat, q ≠ qtr E a → H1[q]? = H[q]?)
    (h1 : qnx M' = qnx M) (h2 : qex M' = qex M) (h3 : qsh M' = qsh M) (h4 : ∀ b, b ≠ a → qI M' b = qI M b ∧ qP M' b = qP M b ∧ qL M' b = qL M b) (hat : va_at (eD E) vwCl (qtr E a, qcell E M' a) H1) : qHR E M' H1 := by
  obtain ⟨g1, g2, g3, g4, g5, g6⟩ := h
  refine ⟨?_, ?_, ?_, ?_, ?_, ?_⟩
  · rw [h1, h2, z]; exact g1
  · rw [h1, z]; exact g2
  · rw [h1]; exact g3
  · intro q hq
    have := qtr_ge (E := E) ha
    rw [o q (by omega)]
    exact g4 q hq
  · intro b hb
    obtain ⟨i1, i2, -⟩ := h4 b (by omega)
    rw [h3, i1, i2]
    exact g5 b hb
  · intro b hb ht
    by_cases e : b = a
    · subst e
      rw [h3] at ht ⊢
      obtain ⟨j1, j2, j3, -⟩ := g6 b hb ht
      exact ⟨by rw [h1]; exact j1, j2, j3, hat⟩
    · rw [h3] at ht ⊢
      obtain ⟨j1, j2, j3, j4⟩ := g6 b hb ht
      refine ⟨by rw [h1]; exact j1, j2, j3, ?_⟩
      obtain ⟨i1, i2, i3⟩ := h4 b e
      have hc : qcell E M' b = qcell E M b := by
        have hf : ∀ c, qfv E M' c b = qfv E M c b := fun c => by
          funext j
          unfold qfv
          rw [i1, i2]
        unfold qcell
        rw [h3, i1, i2, i3]
        simp only [hf]
      rw [hc]
      exact j4.kept (o _ (qtr_ne ha hb e))
def qEok (E : qEnv) : Prop := (∀ a, a < 64 → (qsh (eM E) a).1 = 0 ∨ (qsh (eM E) a).1 = 11 ∨ (qsh (eM E) a).1 = 12 ∨ (qsh (eM E) a).1 = 29) ∧ (eH E).size = eB E ∧ (qsh (eM E) 0).1 = 0
section QMM
variable {E : qEnv} {p : Program} {l : Launch} {e : Env} {R : Room} {s : State} {m : MethodId} {args : Array Value} {below : List Frame} {meth : Method} {c : Code} {nL c0 u0 : Nat} {Q : State → Prop}
variable {cc : ByteArray} {pc : Nat} {lv : qV} {rest : List Value} {M : qM}
theorem qin_vp {t a : Nat} {i : Int32} (h : qin M t a i) : vp_in i (qsh M a).2 := vp_in_iff.mpr ⟨h.2.1, h.2.2⟩
theorem qro_kept (hs : ∀ q : Nat, q < eB E → s.heap[q]? = (eH E)[q]?) (hE : qEok E) : ∀ a : Nat, a < (eH E).size → ¬ qA E a → s.heap[a]? = (eH E)[a]? := fun a ha _ => hs a (by rw [hE.2.1] at ha; exact ha)
theorem qs_iald (hx : p.tables.exec = Jvm.exec) (hb : c.code = cc) (hE : qEok E) (hK : va_K (eD E) vwCl (qtys E) s) {a : Nat} {i : Int32} (hi : qin M 1 a i) (hd : decode cc pc = .ok (.iaload, 1)) (k : qGo E p l e R s m args below meth c nL c0 u0 Q (pc + 1) lv (.int (qI M a i.toNatClampNeg) :: rest) M) : qGo E p l e R s m args below meth c nL c0 u0 Q pc lv (.int i :: .ref a :: rest) M := fun H locs ls h1 h2 h3 => by
  have ht : qtag (qsh M a).1 := by rw [hi.1]; unfold qtag; omega
  have hg := qHR_ge hE.1 h1 ht
  have hP := qHR_P h1 hg ht
  have hcl := qcell_1 (E := E) hi.1
  rw [hcl] at hP
  have h0 : qrf E a = some (qtr E a) := if_neg (by omega)
  rw [List.map_cons, List.map_cons]
  simp only [qtv, h0]
  exact va_iald hx hb hK hP 0 0 rfl rfl (qin_vp hi) hd (k H locs ls h1 h2 h3)
theorem qs_zald (hx : p.tables.exec = Jvm.exec) (hb : c.code = cc) (hE : qEok E) (hK : va_K (eD E) vwCl (qtys E) s) {a : Nat} {i : Int32} (hi : qin M 2 a i) (hd : decode cc pc = .ok (.baload, 1)) (k : qGo E p l e R s m args below meth c nL c0 u0 Q (pc + 1) lv (.int (qI M a i.toNatClampNeg) :: rest) M) : qGo E p l e R s m args below meth c nL c0 u0 Q pc lv (.int i :: .ref a :: rest) M := fun H locs ls h1 h2 h3 => by
  have ht : qtag (qsh M a).1 := by rw [hi.1]; unfold qtag; omega
  have hg := qHR_ge hE.1 h1 ht
  have hP := qHR_P h1 hg ht
  have hcl := qcell_2 (E := E) hi.1
  rw [hcl] at hP
  have h0 : qrf E a = some (qtr E a) := if_neg (by omega)
  rw [List.map_cons, List.map_cons]
  simp only [qtv, h0]
  exact va_zald hx hb hK hP 0 1 rfl rfl (qin_vp hi) hd (k H locs ls h1 h2 h3)
theorem qs_lald (hx : p.tables.exec = Jvm.exec) (hb : c.code = cc) (hE : qEok E) (hK : va_K (eD E) vwCl (qtys E) s) {a : Nat} {i : Int32} (hi : qin M 3 a i) (hd : decode cc pc = .ok (.laload, 1)) (k : qGo E p l e R s m args below meth c nL c0 u0 Q (pc + 1) lv (.long (qL M a i.toNatClampNeg) :: rest) M) : qGo E p l e R s m args below meth c nL c0 u0 Q pc lv (.int i :: .ref a :: rest) M := fun H locs ls h1 h2 h3 => by
  have ht : qtag (qsh M a).1 := by rw [hi.1]; unfold qtag; omega
  have hg := qHR_ge hE.1 h1 ht
  have hP := qHR_P h1 hg ht
  have hcl := qcell_3 (E := E) hi.1
  rw [hcl] at hP
  have h0 : qrf E a = some (qtr E a) := if_neg (by omega)
  rw [List.map_cons, List.map_cons]
  simp only [qtv, h0]
  exact va_lald hx hb hK hP 0 2 rfl rfl (qin_vp hi) hd (k H locs ls h1 h2 h3)
theorem qro_rf (hE : qEok E) {H : Heap} (h : qHR E M H) {a : Nat} (ht : (qsh M a).1 = 11 ∨ (qsh M a).1 = 12 ∨ (qsh M a).1 = 29) : a < 64 ∧ qrf E a = some (eT E a) ∧ (qsh (eM E) a).1 = (qsh M a).1 := by
  have hg := qHR_lt h ht
  obtain ⟨e1, -, -⟩ := h.2.2.2.2.1 a hg
  refine ⟨hg, ?_, by rw [e1]⟩
  have ha : ¬ a = 0 := fun z => by
    subst z
    have := hE.2.2
    rw [← e1] at this
    omega
  unfold qrf qtr
  rw [if_neg ha, if_pos hg]
theorem qs_iald_ro (hx : p.tables.exec = Jvm.exec) (hb : c.code = cc) (hE : qEok E) (hro : qRO E s) (hs : ∀ q : Nat, q < eB E → s.heap[q]? = (eH E)[q]?) {a : Nat} {i : Int32} (hi : qin M 11 a i) (hd : decode cc pc = .ok (.iaload, 1)) (k : qGo E p l e R s m args below meth c nL c0 u0 Q (pc + 1) lv (.int (qI M a i.toNatClampNeg) :: rest) M) : qGo E p l e R s m args below meth c nL c0 u0 Q pc lv (.int i :: .ref a :: rest) M := fun H locs ls h1 h2 h3 => by
  obtain ⟨hg, h0, hq⟩ := qro_rf hE h1 (a := a) (by have := hi.1; omega)
  obtain ⟨e1, e2, e3⟩ := h1.2.2.2.2.1 a hg
  have hr := hro a hg
  rw [hq, hi.1] at hr
  have hT := va_T.kept hr (qro_kept hs hE)
  rw [List.map_cons, List.map_cons]
  simp only [qtv, h0]
  exact va_ti hx hb hT h2 (by rw [← e1]; exact qin_vp hi) (by rw [e2]; rfl) hd (k H locs ls h1 h2 h3)
theorem qs_bald_ro (hx : p.tables.exec = Jvm.exec) (hb : c.code = cc) (hE : qEok E) (hro : qRO E s) (hs : ∀ q : Nat, q < eB E → s.heap[q]? = (eH E)[q]?) {a : Nat} {i : Int32} (hi : qin M 12 a i) (hd : decode cc pc = .ok (.baload, 1)) (k : qGo E p l e R s m args below meth c nL c0 u0 Q (pc + 1) lv (.int (qI M a i.toNatClampNeg) :: rest) M) : qGo E p l e R s m args below meth c nL c0 u0 Q pc lv (.int i :: .ref a :: rest) M := fun H locs ls h1 h2 h3 => by
  obtain ⟨hg, h0, hq⟩ := qro_rf hE h1 (a := a) (by have := hi.1; omega)
  obtain ⟨e1, e2, e3⟩ := h1.2.2.2.2.1 a hg
  have hr := hro a hg
  rw [hq, hi.1] at hr
  have hT := va_T.kept hr (qro_kept hs hE)
  rw [List.map_cons, List.map_cons]
  simp only [qtv, h0]
  exact va_tb hx hb hT h2 (by rw [← e1]; exact qin_vp hi) (by rw [e2]; rfl) hd (k H locs ls h1 h2 h3)
theorem qs_aald4 (hx : p.tables.exec = Jvm.exec) (hb : c.code = cc) (hE : qEok E) (hK : va_K (eD E) vwCl (qtys E) s) {a : Nat} {i : Int32} (hi : qin M 4 a i) (hd : decode cc pc = .ok (.aaload, 1)) (k : qGo E p l e R s m args below meth c nL c0 u0 Q (pc + 1) lv (.ref (qP M a i.toNatClampNeg) :: rest) M) : qGo E p l e R s m args below meth c nL c0 u0 Q pc lv (.int i :: .ref a :: rest) M := fun H locs ls h1 h2 h3 => by
  have ht : qtag (qsh M a).1 := by rw [hi.1]; unfold qtag; omega
  have hg := qHR_ge hE.1 h1 ht
  have hP := qHR_P h1 hg ht
  have hcl := qcell_4 (E := E) hi.1
  rw [hcl] at hP
  have h0 : qrf E a = some (qtr E a) := if_neg (by omega)
  have hin := qin_vp hi
  have hlt : i.toNatClampNeg < (qsh M a).2 := Nat.not_le.mp fun q => hin (Or.inr q)
  rw [List.map_cons, List.map_cons]
  simp only [qtv, h0]
  exact W.aald (v := va_rf (qrf E (qP M a i.toNatClampNeg))) (ty := .array .int) hx hb (hP 0 _ rfl) ((hK.2 3 _ rfl).1 (qsh M a).2 (fun j => va_rf (qrf E (qP M a j)))) rfl (fun q => by cases q) (by show ¬ (i < 0 ∨ (arrV _ _ _).slots.size ≤ _); rw [arrV_size]; exact hin) (by show (arrV _ _ _).slots[_]? = _; rw [arrV_read _ _ hlt]) rfl rfl hd (k H locs ls h1 h2 h3)
theorem qs_aald5 (hx : p.tables.exec = Jvm.exec) (hb : c.code = cc) (hE : qEok E) (hK : va_K (eD E) vwCl (qtys E) s) {a : Nat} {i : Int32} (hi : qin M 5 a i) (hd : decode cc pc = .ok (.aaload, 1)) (k : qGo E p l e R s m args below meth c nL c0 u0 Q (pc + 1) lv (.ref (qP M a i.toNatClampNeg) :: rest) M) : qGo E p l e R s m args below meth c nL c0 u0 Q pc lv (.int i :: .ref a :: rest) M := fun H locs ls h1 h2 h3 => by
  have ht : qtag (qsh M a).1 := by rw [hi.1]; unfold qtag; omega
  have hg := qHR_ge hE.1 h1 ht
  have hP := qHR_P h1 hg ht
  have hcl := qcell_5 (E := E) hi.1
  rw [hcl] at hP
  have h0 : qrf E a = some (qtr E a) := if_neg (by omega)
  have hin := qin_vp hi
  have hlt : i.toNatClampNeg < (qsh M a).2 := Nat.not_le.mp fun q => hin (Or.inr q)
  rw [List.map_cons, List.map_cons]
  simp only [qtv, h0]
  exact W.aald (v := va_rf (qrf E (qP M a i.toNatClampNeg))) (ty := .object RX5) hx hb (hP 0 _ rfl) ((hK.2 4 _ rfl).1 (qsh M a).2 (fun j => va_rf (qrf E (qP M a j)))) rfl (fun q => by cases q) (by show ¬ (i < 0 ∨ (arrV _ _ _).slots.size ≤ _); rw [arrV_size]; exact hin) (by show (arrV _ _ _).slots[_]? = _; rw [arrV_read _ _ hlt]) rfl rfl hd (k H locs ls h1 h2 h3)
theorem qs_alen (hx : p.tables.exec = Jvm.exec) (hb : c.code = cc) (hE : qEok E) (hK : va_K (eD E) vwCl (qtys E) s) (hro : qRO E s) (hs : ∀ q : Nat, q < eB E → s.heap[q]? = (eH E)[q]?) {a : Nat} (hi : qarr M a) (hd : decode cc pc = .ok (.arraylength, 1)) (k : qGo E p l e R s m args below meth c nL c0 u0 Q (pc + 1) lv (.int (Int32.ofNat (qsh M a).2) :: rest) M) : qGo E p l e R s m args below meth c nL c0 u0 Q pc lv (.ref a :: rest) M := fun H locs ls h1 h2 h3 => by
  rw [List.map_cons]
  simp only [qtv]
  have k' := k H locs ls h1 h2 h3
  have big : ∀ (t0 : Nat) (ty : FieldType) (cA : ClassId) (x : vp_A), qtag (qsh M a).1 → (qtys E)[t0]? = some (cA, ty) → qcell E M a = .inl (cA, x) → x.1 = (qsh M a).2 → W p l e R s m args below meth c H locs (qce M - c0) (qus M - u0) Q (F0 m pc ls (va_rf (qrf E a) :: rest.map (qtv E))) := by
    intro t0 ty cA x ht h4 h5 h6
    have hg := qHR_ge hE.1 h1 ht
    have hP := qHR_P h1 hg ht
    rw [h5] at hP
    have h0 : qrf E a = some (qtr E a) := if_neg (by omega)
    rw [h0]
    exact va_alen hx hb hK hP 0 t0 rfl h4 (by rw [h6]) hd k'
  have ro : ∀ (ty : FieldType) (f : Nat → Value), va_T ty (eT E a) (qsh (eM E) a).2 f (qA E) s (eH E) → a < 64 → qrf E a = some (eT E a) → W p l e R s m args below meth c H locs (qce M - c0) (qus M - u0) Q (F0 m pc ls (va_rf (qrf E a) :: rest.map (qtv E))) := by
    intro ty f hT hg h0
    rw [h0]
    exact va_tlen hx hb (va_T.kept hT (qro_kept hs hE)) h2 (by rw [(h1.2.2.2.2.1 a hg).1]) hd k'
  rcases hi with h | h | h | h | h | h | h
  · exact big 0 _ _ _ (by rw [h]; unfold qtag; omega) rfl (qcell_1 h) rfl
  · exact big 1 _ _ _ (by rw [h]; unfold qtag; omega) rfl (qcell_2 h) rfl
  · exact big 2 _ _ _ (by rw [h]; unfold qtag; omega) rfl (qcell_3 h) rfl
  · exact big 3 _ _ _ (by rw [h]; unfold qtag; omega) rfl (qcell_4 h) rfl
  · exact big 4 _ _ _ (by rw [h]; unfold qtag; omega) rfl (qcell_5 h) rfl
  · obtain ⟨hg, h0, hq⟩ := qro_rf hE h1 (a := a) (by omega)
    have hr := hro a hg
    rw [hq, h] at hr
    exact ro _ _ hr hg h0
  · obtain ⟨hg, h0, hq⟩ := qro_rf hE h1 (a := a) (by omega)
    have hr := hro a hg
    rw [hq, h] at hr
    exact ro _ _ hr hg h0
theorem qs_iast (hx : p.tables.exec = Jvm.exec) (hb : c.code = cc) (hE : qEok E) (hK : va_K (eD E) vwCl (qtys E) s) {a : Nat} {i : Int32} {v : Int32} (hi : qin M 1 a i) (hd : decode cc pc = .ok (.iastore, 1)) (k : qGo E p l e R s m args below meth c nL c0 u0 Q (pc + 1) lv rest (qsI M a i.toNatClampNeg v)) : qGo E p l e R s m args below meth c nL c0 u0 Q pc lv (.int v :: .int i :: .ref a :: rest) M := fun H locs ls h1 h2 h3 => by
  have ht : qtag (qsh M a).1 := by rw [hi.1]; unfold qtag; omega
  have hg := qHR_ge hE.1 h1 ht
  have hP := qHR_P h1 hg ht
  have hcl := qcell_1 (E := E) hi.1
  have hcl' := qcell_1 (E := E) (M := qsI M a i.toNatClampNeg v) (a := a) hi.1
  rw [hcl] at hP
  have h0 : qrf E a = some (qtr E a) := if_neg (by omega)
  have hin := qin_vp hi
  rw [List.map_cons, List.map_cons, List.map_cons]
  simp only [qtv, h0]
  refine W.iast hx hb (hP 0 _ rfl) ((hK.2 0 _ rfl).1 (qsh M a).2 (fun j => .int (qI M a j))) (fun q => by cases q) (by show ¬ (i < 0 ∨ (arrV _ _ _).slots.size ≤ _); rw [arrV_size]; exact hin) rfl rfl hd fun H1 e1 z1 o1 => ?_
  refine k H1 _ ls (qHR_set h1 hg z1 o1 rfl rfl rfl (fun b hb => ?_) ?_) (h2.put z1 o1 (qtr_ge hg)) h3
  · refine ⟨?_, ?_, ?_⟩ <;> (funext j; first | rfl | exact if_neg hb)
  · rw [hcl']
    show H1[qtr E a]? = some (vp_cell _ _)
    rw [e1]
    rw [vp_cell_i, vp_cell_i, arrV_store]
    refine congrArg some (congrArg (arrV _ _) (funext fun q => ?_))
    by_cases hq : q = i.toNatClampNeg
    · subst hq
      simp [updV, qsI, qI, qL, qup]
      
    · simp [updV, qsI, qI, qL, qup, hq]
theorem qs_zast (hx : p.tables.exec = Jvm.exec) (hb : c.code = cc) (hE : qEok E) (hK : va_K (eD E) vwCl (qtys E) s) {a : Nat} {i : Int32} {v : Int32} (hi : qin M 2 a i) (hv : v = 0 ∨ v = 1) (hd : decode cc pc = .ok (.bastore, 1)) (k : qGo E p l e R s m args below meth c nL c0 u0 Q (pc + 1) lv rest (qsI M a i.toNatClampNeg v)) : qGo E p l e R s m args below meth c nL c0 u0 Q pc lv (.int v :: .int i :: .ref a :: rest) M := fun H locs ls h1 h2 h3 => by
  have ht : qtag (qsh M a).1 := by rw [hi.1]; unfold qtag; omega
  have hg := qHR_ge hE.1 h1 ht
  have hP := qHR_P h1 hg ht
  have hcl := qcell_2 (E := E) hi.1
  have hcl' := qcell_2 (E := E) (M := qsI M a i.toNatClampNeg v) (a := a) hi.1
  rw [hcl] at hP
  have h0 : qrf E a = some (qtr E a) := if_neg (by omega)
  have hin := qin_vp hi
  rw [List.map_cons, List.map_cons, List.map_cons]
  simp only [qtv, h0]
  refine W.zast hx hb (hP 0 _ rfl) ((hK.2 1 _ rfl).1 (qsh M a).2 (fun j => .int (qI M a j))) (fun q => by cases q) (by show ¬ (i < 0 ∨ (arrV _ _ _).slots.size ≤ _); rw [arrV_size]; exact hin) rfl rfl hd fun H1 e1 z1 o1 => ?_
  refine k H1 _ ls (qHR_set h1 hg z1 o1 rfl rfl rfl (fun b hb => ?_) ?_) (h2.put z1 o1 (qtr_ge hg)) h3
  · refine ⟨?_, ?_, ?_⟩ <;> (funext j; first | rfl | exact if_neg hb)
  · rw [hcl']
    show H1[qtr E a]? = some (vp_cell _ _)
    rw [e1]
    have hnv : vp_nar .boolean v = v := by rcases hv with rfl | rfl <;> rfl
    rw [vp_cell_i, vp_cell_i, arrV_store]
    refine congrArg some (congrArg (arrV _ _) (funext fun q => ?_))
    by_cases hq : q = i.toNatClampNeg
    · subst hq
      simp [updV, qsI, qI, qL, qup, hnv, narrow, vp_nar]
      try (rcases hv with rfl | rfl <;> rfl)
    · simp [updV, qsI, qI, qL, qup, hq]
theorem qs_last (hx : p.tables.exec = Jvm.exec) (hb : c.code = cc) (hE : qEok E) (hK : va_K (eD E) vwCl (qtys E) s) {a : Nat} {i : Int32} {v : Int64} (hi : qin M 3 a i) (hd : decode cc pc = .ok (.lastore, 1)) (k : qGo E p l e R s m args below meth c nL c0 u0 Q (pc + 1) lv rest (qsL M a i.toNatClampNeg v)) : qGo E p l e R s m args below meth c nL c0 u0 Q pc lv (.long v :: .int i :: .ref a :: rest) M := fun H locs ls h1 h2 h3 => by
  have ht : qtag (qsh M a).1 := by rw [hi.1]; unfold qtag; omega
  have hg := qHR_ge hE.1 h1 ht
  have hP := qHR_P h1 hg ht
  have hcl := qcell_3 (E := E) hi.1
  have hcl' := qcell_3 (E := E) (M := qsL M a i.toNatClampNeg v) (a := a) hi.1
  rw [hcl] at hP
  have h0 : qrf E a = some (qtr E a) := if_neg (by omega)
  have hin := qin_vp hi
  rw [List.map_cons, List.map_cons, List.map_cons]
  simp only [qtv, h0]
  refine W.last hx hb (hP 0 _ rfl) ((hK.2 2 _ rfl).1 (qsh M a).2 (fun j => .long (qL M a j))) (fun q => by cases q) (by show ¬ (i < 0 ∨ (arrV _ _ _).slots.size ≤ _); rw [arrV_size]; exact hin) rfl rfl hd fun H1 e1 z1 o1 => ?_
  refine k H1 _ ls (qHR_set h1 hg z1 o1 rfl rfl rfl (fun b hb => ?_) ?_) (h2.put z1 o1 (qtr_ge hg)) h3
  · refine ⟨?_, ?_, ?_⟩ <;> (funext j; first | rfl | exact if_neg hb)
  · rw [hcl']
    show H1[qtr E a]? = some (vp_cell _ _)
    rw [e1]
    rw [vp_cell_l, vp_cell_l, arrV_store]
    refine congrArg some (congrArg (arrV _ _) (funext fun q => ?_))
    by_cases hq : q = i.toNatClampNeg
    · subst hq
      simp [updV, qsL, qI, qL, qup]
      
    · simp [updV, qsL, qI, qL, qup, hq]
theorem qNf_eq {ci : Nat} {r : vw_C} (hc : vwCl[ci]? = some r) : qNf ci = r.2.2 := by
  unfold qNf
  rw [List.getD_eq_getElem?_getD, hc]
  rfl
theorem qfs_at {a ci j : Nat} {r : vw_C} (hc : vwCl[ci]? = some r) (hj : j < r.2.2) : ((List.range (qNf ci)).map (qfv E M ci a))[j]? = some (qfv E M ci a j) := by
  rw [qNf_eq hc, List.getElem?_map, List.getElem?_range hj]
  rfl
theorem qfv_i {a ci j : Nat} (h : qty ci j = .int) : qfv E M ci a j = .int (qI M a j) := by
  unfold qfv
  rw [h]
theorem qfv_r {a ci j : Nat} (h : ¬ qty ci j = .int) : qfv E M ci a j = va_rf (qrf E (qP M a j)) := by
  unfold qfv
  split
  · rename_i e
    exact absurd e h
  · rfl
theorem qvp_V (fs : List Value) (j : Nat) (v : Value) (h : fs[j]? = some v) : vp_V fs j = v := by
  unfold vp_V
  rw [List.getD_eq_getElem?_getD, h]
  rfl
theorem qob_tag {a ci : Nat} (h9 : ci < 9) (h : qob M a ci) : qtag (qsh M a).1 := by
  unfold qob at h
  unfold qtag
  omega
theorem qs_getf (hx : p.tables.exec = Jvm.exec) (hb : c.code = cc) (hE : qEok E) (hK : va_K (eD E) vwCl (qtys E) s) {own : String} {ci j i : Nat} {r : vw_C} {Ts : List Cond} (hts : ∀ w ∈ Ts, w.before args s = true) (hin : ∀ w ∈ u_ws r.1 r.2.1 r.2.2, w ∈ Ts) (hown : s.vm.findClass own = some m.cls) (hc9 : ci < 9) (hc : vwCl[ci]? = some r) (hj : j < r.2.2) (hlink : (Cond.fieldLink own i (r.2.1 j).1 (r.2.1 j).2.1 (r.2.1 j).2.2.1).before args s = true) {a : Nat} (hi : qob M a ci) {v : Value} (hv : qfv E M ci a j = qtv E v) (hd : decode cc pc = .ok (.getfield i, 3)) (k : qGo E p l e R s m args below meth c nL c0 u0 Q (pc + 3) lv (v :: rest) M) : qGo E p l e R s m args below meth c nL c0 u0 Q pc lv (.ref a :: rest) M := fun H locs ls h1 h2 h3 => by
  have ht := qob_tag hc9 hi
  have hg := qHR_ge hE.1 h1 ht
  have hP := qHR_P h1 hg ht
  rw [qob_cell hc9 hi] at hP
  have h0 : qrf E a = some (qtr E a) := if_neg (by omega)
  rw [List.map_cons]
  simp only [qtv, h0]
  exact va_get (C := r.1) (T := r.2.1) (N := r.2.2) hx hb hts hin hown hK hP 0 rfl hc j hj hlink (fun _ h => h) ((qfs_at hc hj).trans (congrArg some hv)) hd (k H locs ls h1 h2 h3)
theorem qs_getfN (hx : p.tables.exec = Jvm.exec) (hb : c.code = cc) (hE : qEok E) (hK : va_K (eD E) vwCl (qtys E) s) {own : String} {ci j i : Nat} {r : vw_C} {Ts : List Cond} (hts : ∀ w ∈ Ts, w.before args s = true) (hin : ∀ w ∈ u_ws r.1 r.2.1 r.2.2, w ∈ Ts) (hown : s.vm.findClass own = some m.cls) (hc9 : ci < 9) (hc : vwCl[ci]? = some r) (hj : j < r.2.2) (hlink : (Cond.fieldLinkNest own i (r.2.1 j).1 (r.2.1 j).2.1 (r.2.1 j).2.2.1 "PuppetHeirs").before args s = true) {a : Nat} (hi : qob M a ci) {v : Value} (hv : qfv E M ci a j = qtv E v) (hd : decode cc pc = .ok (.getfield i, 3)) (k : qGo E p l e R s m args below meth c nL c0 u0 Q (pc + 3) lv (v :: rest) M) : qGo E p l e R s m args below meth c nL c0 u0 Q pc lv (.ref a :: rest) M := fun H locs ls h1 h2 h3 => by
  have ht := qob_tag hc9 hi
  have hg := qHR_ge hE.1 h1 ht
  have hP := qHR_P h1 hg ht
  rw [qob_cell hc9 hi] at hP
  have h0 : qrf E a = some (qtr E a) := if_neg (by omega)
  rw [List.map_cons]
  simp only [qtv, h0]
  exact va_getN (C := r.1) (T := r.2.1) (N := r.2.2) hx hb hts hin hown hK hP 0 rfl hc j hj hlink (fun _ h => h) ((qfs_at hc hj).trans (congrArg some hv)) hd (k H locs ls h1 h2 h3)
theorem qs_getfS (hx : p.tables.exec = Jvm.exec) (hb : c.code = cc) (hE : qEok E) (hro : qRO E s) (hs : ∀ q : Nat, q < eB E → s.heap[q]? = (eH E)[q]?) {own n d : String} {i a : Nat} {v : Value} (hown : s.vm.findClass own = some m.cls) (hi : qob M a 9) (hv : (n = "coder" ∧ d = "B" ∧ v = .int (qI M a 1)) ∨ (n = "value" ∧ d = "[B" ∧ v = .ref (qP M a 0)))
    (hlink : (Cond.fieldLink own i "java/lang/String" n d).before args s = true) (hd : decode cc pc = .ok (.getfield i, 3)) (k : qGo E p l e R s m args below meth c nL c0 u0 Q (pc + 3) lv (v :: rest) M) : qGo E p l e R s m args below meth c nL c0 u0 Q pc lv (.ref a :: rest) M := fun H locs ls h1 h2 h3 => by
  have hi : (qsh M a).1 = 29 := hi
  obtain ⟨hg, h0, hq⟩ := qro_rf hE h1 (a := a) (by omega)
  obtain ⟨e1, e2, e3⟩ := h1.2.2.2.2.1 a hg
  have hr := hro a hg
  rw [hq, hi] at hr
  rw [List.map_cons]
  simp only [qtv, h0]
  have k' := k H locs ls h1 h2 h3
  rcases hv with ⟨rfl, rfl, rfl⟩ | ⟨rfl, rfl, rfl⟩
  · rw [e2] at k'
    exact vk_getf hx hb (va_OF.kept hr.2.1 (qro_kept hs hE)) h2 hown hlink (fun _ h => h) hd k'
  · rw [e3] at k'
    exact vk_getf hx hb (va_OF.kept hr.2.2 (qro_kept hs hE)) h2 hown hlink (fun _ h => h) hd k'
theorem qnarrow_ref {ty : FieldType} (h : ty.isReference = true) (a : Nat) : narrow ty (va_rf (qrf E a)) = va_rf (qrf E a) ∧ fits ty (va_rf (qrf E a)) = true := by
  cases ty <;> first | (cases h; done) | (cases qrf E a <;> exact ⟨rfl, rfl⟩)
theorem qs_puti (hx : p.tables.exec = Jvm.exec) (hb : c.code = cc) (hE : qEok E) (hK : va_K (eD E) vwCl (qtys E) s) {own : String} {ci j i : Nat} {r : vw_C} {Ts : List Cond} (hts : ∀ w ∈ Ts, w.before args s = true) (hin : ∀ w ∈ u_ws r.1 r.2.1 r.2.2, w ∈ Ts) (hown : s.vm.findClass own = some m.cls) (hc9 : ci < 9) (hc : vwCl[ci]? = some r) (hj : j < r.2.2) (hty : ∀ k, k < r.2.2 → parseFieldDescriptor (r.2.1 k).2.2.1 = some (qty ci k)) (hnm : ∀ a, a < r.2.2 → ∀ b, b < r.2.2 → a ≠ b → (r.2.1 a).2.1 ≠ (r.2.1 b).2.1) (hlink : (Cond.fieldLink own i (r.2.1 j).1 (r.2.1 j).2.1 (r.2.1 j).2.2.1).before args s = true) (hfin : (r.2.1 j).2.2.2 = false) {a : Nat} {v : Int32} (hi : qob M a ci) (hkd : qty ci j = .int) (hd : decode cc pc = .ok (.putfield i, 3)) (k : qGo E p l e R s m args below meth c nL c0 u0 Q (pc + 3) lv rest (qsI M a j v)) : qGo E p l e R s m args below meth c nL c0 u0 Q pc lv (.int v :: .ref a :: rest) M := fun H locs ls h1 h2 h3 => by
  have ht := qob_tag hc9 hi
  have hg := qHR_ge hE.1 h1 ht
  have hP := qHR_P h1 hg ht
  rw [qob_cell hc9 hi] at hP
  have h0 : qrf E a = some (qtr E a) := if_neg (by omega)
  have hnar : narrow (qty ci j) (.int v) = .int v ∧ fits (qty ci j) (.int v) = true := by rw [hkd]; exact ⟨rfl, rfl⟩
  have hvv : qfv E (qsI M a j v) ci a j = qtv E (.int v) := by
    rw [qfv_i hkd]
    simp [qI, qsI, qup, qtv]
  have hoth : ∀ q, q ≠ j → qfv E (qsI M a j v) ci a q = qfv E M ci a q := fun q hq => by
    unfold qfv
    split <;> simp [qI, qP, qsI, qup, hq]
  have hap := va_apart (own := own) hts hin (qty ci) hty hnm hK hc
  obtain ⟨r', g1, cell, q1, q2, q3, q4⟩ := hP 0 _ rfl
  have hr : r' = r := Option.some.inj (g1.symm.trans hc)
  subst hr
  obtain ⟨hS, hfc, kC, hkC, hkind⟩ := hK.1 ci _ hc
  obtain ⟨cf, kf, fi, f, hfi, hsl⟩ := hS j hj
  have hlay := hts _ (hin _ (u_in_lay hj))
  unfold u_lay at hlay
  rw [if_neg (by rw [hfin]; decide)] at hlay
  have hst := (u_facts hfc hkC (u_lays hts hin hj) hfi).1
  have h6 := u_store hfc hkC hkind hlay hfi (hty j hj) hnar.1 hnar.2
  rw [List.map_cons, List.map_cons]
  have hv0 : qtv E (.ref a) = .ref (qtr E a) := by simp only [qtv, h0]; rfl
  rw [hv0]
  refine W.putK hx hb (f := f) ⟨hown, hlink, ⟨_, _, _, hfi⟩, hst⟩ (by rw [q2]; exact h6) q1 q3 (by rw [hsl]; exact k2_hasslot (q4 j hj)) rfl rfl hd fun H1 e1 z1 o1 => ?_
  rw [hsl] at e1 ⊢
  refine k H1 _ ls (qHR_set h1 hg z1 o1 rfl rfl rfl (fun b hb => ?_) ?_) (h2.put z1 o1 (qtr_ge hg)) h3
  · refine ⟨?_, ?_, ?_⟩ <;> (funext q; first | rfl | exact if_neg hb)
  · have hi' : qob (qsI M a j v) a ci := hi
    rw [qob_cell hc9 hi']
    refine ⟨r', hc, t_OB.to (V := updV (vp_V ((List.range (qNf ci)).map (qfv E M ci a))) j _) ⟨_, e1, q2, q3, t_set q4 hap hj _⟩ (fun q hq => ?_)⟩
    rw [qvp_V _ q _ (qfs_at hc hq)]
    by_cases hqj : q = j
    · subst hqj
      unfold updV
      rw [if_pos rfl]
      exact hvv.symm
    · unfold updV
      rw [if_neg hqj, qvp_V _ q _ (qfs_at hc hq)]
      exact (hoth q hqj).symm
theorem qs_putr (hx : p.tables.exec = Jvm.exec) (hb : c.code = cc) (hE : qEok E) (hK : va_K (eD E) vwCl (qtys E) s) {own : String} {ci j i : Nat} {r : vw_C} {Ts : List Cond} (hts : ∀ w ∈ Ts, w.before args s = true) (hin : ∀ w ∈ u_ws r.1 r.2.1 r.2.2, w ∈ Ts) (hown : s.vm.findClass own = some m.cls) (hc9 : ci < 9) (hc : vwCl[ci]? = some r) (hj : j < r.2.2) (hty : ∀ k, k < r.2.2 → parseFieldDescriptor (r.2.1 k).2.2.1 = some (qty ci k)) (hnm : ∀ a, a < r.2.2 → ∀ b, b < r.2.2 → a ≠ b → (r.2.1 a).2.1 ≠ (r.2.1 b).2.1) (hlink : (Cond.fieldLink own i (r.2.1 j).1 (r.2.1 j).2.1 (r.2.1 j).2.2.1).before args s = true) (hfin : (r.2.1 j).2.2.2 = false) {a : Nat} {v : Nat} (hi : qob M a ci) (hkd : (qty ci j).isReference = true) (hd : decode cc pc = .ok (.putfield i, 3)) (k : qGo E p l e R s m args below meth c nL c0 u0 Q (pc + 3) lv rest (qsP M a j v)) : qGo E p l e R s m args below meth c nL c0 u0 Q pc lv (.ref v :: .ref a :: rest) M := fun H locs ls h1 h2 h3 => by
  have ht := qob_tag hc9 hi
  have hg := qHR_ge hE.1 h1 ht
  have hP := qHR_P h1 hg ht
  rw [qob_cell hc9 hi] at hP
  have h0 : qrf E a = some (qtr E a) := if_neg (by omega)
  have hnar : narrow (qty ci j) (qtv E (.ref v)) = qtv E (.ref v) ∧ fits (qty ci j) (qtv E (.ref v)) = true := qnarrow_ref hkd v
  have hvv : qfv E (qsP M a j v) ci a j = qtv E (.ref v) := by
    rw [qfv_r (fun h => by rw [h] at hkd; cases hkd)]
    simp [qP, qsP, qup, qtv]
  have hoth : ∀ q, q ≠ j → qfv E (qsP M a j v) ci a q = qfv E M ci a q := fun q hq => by
    unfold qfv
    split <;> simp [qI, qP, qsP, qup, hq]
  have hap := va_apart (own := own) hts hin (qty ci) hty hnm hK hc
  obtain ⟨r', g1, cell, q1, q2, q3, q4⟩ := hP 0 _ rfl
  have hr : r' = r := Option.some.inj (g1.symm.trans hc)
  subst hr
  obtain ⟨hS, hfc, kC, hkC, hkind⟩ := hK.1 ci _ hc
  obtain ⟨cf, kf, fi, f, hfi, hsl⟩ := hS j hj
  have hlay := hts _ (hin _ (u_in_lay hj))
  unfold u_lay at hlay
  rw [if_neg (by rw [hfin]; decide)] at hlay
  have hst := (u_facts hfc hkC (u_lays hts hin hj) hfi).1
  have h6 := u_store hfc hkC hkind hlay hfi (hty j hj) hnar.1 hnar.2
  rw [List.map_cons, List.map_cons]
  have hv0 : qtv E (.ref a) = .ref (qtr E a) := by simp only [qtv, h0]; rfl
  rw [hv0]
  refine W.putK hx hb (f := f) ⟨hown, hlink, ⟨_, _, _, hfi⟩, hst⟩ (by rw [q2]; exact h6) q1 q3 (by rw [hsl]; exact k2_hasslot (q4 j hj)) rfl rfl hd fun H1 e1 z1 o1 => ?_
  rw [hsl] at e1 ⊢
  refine k H1 _ ls (qHR_set h1 hg z1 o1 rfl rfl rfl (fun b hb => ?_) ?_) (h2.put z1 o1 (qtr_ge hg)) h3
  · refine ⟨?_, ?_, ?_⟩ <;> (funext q; first | rfl | exact if_neg hb)
  · have hi' : qob (qsP M a j v) a ci := hi
    rw [qob_cell hc9 hi']
    refine ⟨r', hc, t_OB.to (V := updV (vp_V ((List.range (qNf ci)).map (qfv E M ci a))) j _) ⟨_, e1, q2, q3, t_set q4 hap hj _⟩ (fun q hq => ?_)⟩
    rw [qvp_V _ q _ (qfs_at hc hq)]
    by_cases hqj : q = j
    · subst hqj
      unfold updV
      rw [if_pos rfl]
      exact hvv.symm
    · unfold updV
      rw [if_neg hqj, qvp_V _ q _ (qfs_at hc hq)]
      exact (hoth q hqj).symm
theorem qs_putiF (hx : p.tables.exec = Jvm.exec) (hb : c.code = cc) (hE : qEok E) (hK : va_K (eD E) vwCl (qtys E) s) {own : String} {ci j i : Nat} {r : vw_C} {Ts : List Cond} (hts : ∀ w ∈ Ts, w.before args s = true) (hin : ∀ w ∈ u_ws r.1 r.2.1 r.2.2, w ∈ Ts) (hown : s.vm.findClass own = some m.cls) (hc9 : ci < 9) (hc : vwCl[ci]? = some r) (hj : j < r.2.2) (hty : ∀ k, k < r.2.2 → parseFieldDescriptor (r.2.1 k).2.2.1 = some (qty ci k)) (hnm : ∀ a, a < r.2.2 → ∀ b, b < r.2.2 → a ≠ b → (r.2.1 a).2.1 ≠ (r.2.1 b).2.1) (hlink : (Cond.fieldLink own i (r.2.1 j).1 (r.2.1 j).2.1 (r.2.1 j).2.2.1).before args s = true) (hfin : (r.2.1 j).2.2.2 = true) (hini : meth.name = "<init>") (hdecl : (r.2.1 j).1 = own) {a : Nat} {v : Int32} (hi : qob M a ci) (hkd : qty ci j = .int) (hd : decode cc pc = .ok (.putfield i, 3)) (k : qGo E p l e R s m args below meth c nL c0 u0 Q (pc + 3) lv rest (qsI M a j v)) : qGo E p l e R s m args below meth c nL c0 u0 Q pc lv (.int v :: .ref a :: rest) M := fun H locs ls h1 h2 h3 => by
  have ht := qob_tag hc9 hi
  have hg := qHR_ge hE.1 h1 ht
  have hP := qHR_P h1 hg ht
  rw [qob_cell hc9 hi] at hP
  have h0 : qrf E a = some (qtr E a) := if_neg (by omega)
  have hnar : narrow (qty ci j) (.int v) = .int v ∧ fits (qty ci j) (.int v) = true := by rw [hkd]; exact ⟨rfl, rfl⟩
  have hvv : qfv E (qsI M a j v) ci a j = qtv E (.int v) := by
    rw [qfv_i hkd]
    simp [qI, qsI, qup, qtv]
  have hoth : ∀ q, q ≠ j → qfv E (qsI M a j v) ci a q = qfv E M ci a q := fun q hq => by
    unfold qfv
    split <;> simp [qI, qP, qsI, qup, hq]
  have hap := va_apart (own := own) hts hin (qty ci) hty hnm hK hc
  obtain ⟨r', g1, cell, q1, q2, q3, q4⟩ := hP 0 _ rfl
  have hr : r' = r := Option.some.inj (g1.symm.trans hc)
  subst hr
  obtain ⟨hS, hfc, kC, hkC, hkind⟩ := hK.1 ci _ hc
  obtain ⟨cf, kf, fi, f, hfi, hsl⟩ := hS j hj
  have hlay := hts _ (hin _ (u_in_lay hj))
  unfold u_lay at hlay
  rw [if_pos hfin] at hlay
  have hst := (u_facts hfc hkC (u_lays hts hin hj) hfi).1
  have hcf : m.cls = cf := by
    obtain ⟨_, _, c', _, _, _, -, -, hf', -, -, -, hown2, -⟩ := Cond.laysFinal_spec hlay
    have e1 : c' = cf := by have := hfi.symm.trans hf'; simp at this; exact this.1.symm
    rw [hdecl] at hown2
    rw [← e1]; exact Option.some.inj (hown.symm.trans hown2)
  have h6 := u_fits hfc hkC hkind (Or.inr hlay) hfi (hty j hj) hnar.1 hnar.2
  rw [List.map_cons, List.map_cons]
  have hv0 : qtv E (.ref a) = .ref (qtr E a) := by simp only [qtv, h0]; rfl
  rw [hv0]
  refine W.putFinK hx hb hown hlink hfi hst hcf hini (by rw [q2]; exact h6) q1 q3 (by rw [hsl]; exact k2_hasslot (q4 j hj)) rfl rfl hd fun H1 e1 z1 o1 => ?_
  rw [hsl] at e1 ⊢
  refine k H1 _ ls (qHR_set h1 hg z1 o1 rfl rfl rfl (fun b hb => ?_) ?_) (h2.put z1 o1 (qtr_ge hg)) h3
  · refine ⟨?_, ?_, ?_⟩ <;> (funext q; first | rfl | exact if_neg hb)
  · have hi' : qob (qsI M a j v) a ci := hi
    rw [qob_cell hc9 hi']
    refine ⟨r', hc, t_OB.to (V := updV (vp_V ((List.range (qNf ci)).map (qfv E M ci a))) j _) ⟨_, e1, q2, q3, t_set q4 hap hj _⟩ (fun q hq => ?_)⟩
    rw [qvp_V _ q _ (qfs_at hc hq)]
    by_cases hqj : q = j
    · subst hqj
      unfold updV
      rw [if_pos rfl]
      exact hvv.symm
    · unfold updV
      rw [if_neg hqj, qvp_V _ q _ (qfs_at hc hq)]
      exact (hoth q hqj).symm
theorem qs_putrF (hx : p.tables.exec = Jvm.exec) (hb : c.code = cc) (hE : qEok E) (hK : va_K (eD E) vwCl (qtys E) s) {own : String} {ci j i : Nat} {r : vw_C} {Ts : List Cond} (hts : ∀ w ∈ Ts, w.before args s = true) (hin : ∀ w ∈ u_ws r.1 r.2.1 r.2.2, w ∈ Ts) (hown : s.vm.findClass own = some m.cls) (hc9 : ci < 9) (hc : vwCl[ci]? = some r) (hj : j < r.2.2) (hty : ∀ k, k < r.2.2 → parseFieldDescriptor (r.2.1 k).2.2.1 = some (qty ci k)) (hnm : ∀ a, a < r.2.2 → ∀ b, b < r.2.2 → a ≠ b → (r.2.1 a).2.1 ≠ (r.2.1 b).2.1) (hlink : (Cond.fieldLink own i (r.2.1 j).1 (r.2.1 j).2.1 (r.2.1 j).2.2.1).before args s = true) (hfin : (r.2.1 j).2.2.2 = true) (hini : meth.name = "<init>") (hdecl : (r.2.1 j).1 = own) {a : Nat} {v : Nat} (hi : qob M a ci) (hkd : (qty ci j).isReference = true) (hd : decode cc pc = .ok (.putfield i, 3)) (k : qGo E p l e R s m args below meth c nL c0 u0 Q (pc + 3) lv rest (qsP M a j v)) : qGo E p l e R s m args below meth c nL c0 u0 Q pc lv (.ref v :: .ref a :: rest) M := fun H locs ls h1 h2 h3 => by
  have ht := qob_tag hc9 hi
  have hg := qHR_ge hE.1 h1 ht
  have hP := qHR_P h1 hg ht
  rw [qob_cell hc9 hi] at hP
  have h0 : qrf E a = some (qtr E a) := if_neg (by omega)
  have hnar : narrow (qty ci j) (qtv E (.ref v)) = qtv E (.ref v) ∧ fits (qty ci j) (qtv E (.ref v)) = true := qnarrow_ref hkd v
  have hvv : qfv E (qsP M a j v) ci a j = qtv E (.ref v) := by
    rw [qfv_r (fun h => by rw [h] at hkd; cases hkd)]
    simp [qP, qsP, qup, qtv]
  have hoth : ∀ q, q ≠ j → qfv E (qsP M a j v) ci a q = qfv E M ci a q := fun q hq => by
    unfold qfv
    split <;> simp [qI, qP, qsP, qup, hq]
  have hap := va_apart (own := own) hts hin (qty ci) hty hnm hK hc
  obtain ⟨r', g1, cell, q1, q2, q3, q4⟩ := hP 0 _ rfl
  have hr : r' = r := Option.some.inj (g1.symm.trans hc)
  subst hr
  obtain ⟨hS, hfc, kC, hkC, hkind⟩ := hK.1 ci _ hc
  obtain ⟨cf, kf, fi, f, hfi, hsl⟩ := hS j hj
  have hlay := hts _ (hin _ (u_in_lay hj))
  unfold u_lay at hlay
  rw [if_pos hfin] at hlay
  have hst := (u_facts hfc hkC (u_lays hts hin hj) hfi).1
  have hcf : m.cls = cf := by
    obtain ⟨_, _, c', _, _, _, -, -, hf', -, -, -, hown2, -⟩ := Cond.laysFinal_spec hlay
    have e1 : c' = cf := by have := hfi.symm.trans hf'; simp at this; exact this.1.symm
    rw [hdecl] at hown2
    rw [← e1]; exact Option.some.inj (hown.symm.trans hown2)
  have h6 := u_fits hfc hkC hkind (Or.inr hlay) hfi (hty j hj) hnar.1 hnar.2
  rw [List.map_cons, List.map_cons]
  have hv0 : qtv E (.ref a) = .ref (qtr E a) := by simp only [qtv, h0]; rfl
  rw [hv0]
  refine W.putFinK hx hb hown hlink hfi hst hcf hini (by rw [q2]; exact h6) q1 q3 (by rw [hsl]; exact k2_hasslot (q4 j hj)) rfl rfl hd fun H1 e1 z1 o1 => ?_
  rw [hsl] at e1 ⊢
  refine k H1 _ ls (qHR_set h1 hg z1 o1 rfl rfl rfl (fun b hb => ?_) ?_) (h2.put z1 o1 (qtr_ge hg)) h3
  · refine ⟨?_, ?_, ?_⟩ <;> (funext q; first | rfl | exact if_neg hb)
  · have hi' : qob (qsP M a j v) a ci := hi
    rw [qob_cell hc9 hi']
    refine ⟨r', hc, t_OB.to (V := updV (vp_V ((List.range (qNf ci)).map (qfv E M ci a))) j _) ⟨_, e1, q2, q3, t_set q4 hap hj _⟩ (fun q hq => ?_)⟩
    rw [qvp_V _ q _ (qfs_at hc hq)]
    by_cases hqj : q = j
    · subst hqj
      unfold updV
      rw [if_pos rfl]
      exact hvv.symm
    · unfold updV
      rw [if_neg hqj, qvp_V _ q _ (qfs_at hc hq)]
      exact (hoth q hqj).symm
theorem qs_putiN (hx : p.tables.exec = Jvm.exec) (hb : c.code = cc) (hE : qEok E) (hK : va_K (eD E) vwCl (qtys E) s) {own : String} {ci j i : Nat} {r : vw_C} {Ts : List Cond} (hts : ∀ w ∈ Ts, w.before args s = true) (hin : ∀ w ∈ u_ws r.1 r.2.1 r.2.2, w ∈ Ts) (hown : s.vm.findClass own = some m.cls) (hc9 : ci < 9) (hc : vwCl[ci]? = some r) (hj : j < r.2.2) (hty : ∀ k, k < r.2.2 → parseFieldDescriptor (r.2.1 k).2.2.1 = some (qty ci k)) (hnm : ∀ a, a < r.2.2 → ∀ b, b < r.2.2 → a ≠ b → (r.2.1 a).2.1 ≠ (r.2.1 b).2.1) (hlink : (Cond.fieldLinkNest own i (r.2.1 j).1 (r.2.1 j).2.1 (r.2.1 j).2.2.1 "PuppetHeirs").before args s = true) (hfin : (r.2.1 j).2.2.2 = false) {a : Nat} {v : Int32} (hi : qob M a ci) (hkd : qty ci j = .int) (hd : decode cc pc = .ok (.putfield i, 3)) (k : qGo E p l e R s m args below meth c nL c0 u0 Q (pc + 3) lv rest (qsI M a j v)) : qGo E p l e R s m args below meth c nL c0 u0 Q pc lv (.int v :: .ref a :: rest) M := fun H locs ls h1 h2 h3 => by
  have ht := qob_tag hc9 hi
  have hg := qHR_ge hE.1 h1 ht
  have hP := qHR_P h1 hg ht
  rw [qob_cell hc9 hi] at hP
  have h0 : qrf E a = some (qtr E a) := if_neg (by omega)
  have hnar : narrow (qty ci j) (.int v) = .int v ∧ fits (qty ci j) (.int v) = true := by rw [hkd]; exact ⟨rfl, rfl⟩
  have hvv : qfv E (qsI M a j v) ci a j = qtv E (.int v) := by
    rw [qfv_i hkd]
    simp [qI, qsI, qup, qtv]
  have hoth : ∀ q, q ≠ j → qfv E (qsI M a j v) ci a q = qfv E M ci a q := fun q hq => by
    unfold qfv
    split <;> simp [qI, qP, qsI, qup, hq]
  have hap := va_apart (own := own) hts hin (qty ci) hty hnm hK hc
  obtain ⟨r', g1, cell, q1, q2, q3, q4⟩ := hP 0 _ rfl
  have hr : r' = r := Option.some.inj (g1.symm.trans hc)
  subst hr
  obtain ⟨hS, hfc, kC, hkC, hkind⟩ := hK.1 ci _ hc
  obtain ⟨cf, kf, fi, f, hfi, hsl⟩ := hS j hj
  have hlay := hts _ (hin _ (u_in_lay hj))
  unfold u_lay at hlay
  rw [if_neg (by rw [hfin]; decide)] at hlay
  have hst := (u_facts hfc hkC (u_lays hts hin hj) hfi).1
  have h6 := u_store hfc hkC hkind hlay hfi (hty j hj) hnar.1 hnar.2
  rw [List.map_cons, List.map_cons]
  have hv0 : qtv E (.ref a) = .ref (qtr E a) := by simp only [qtv, h0]; rfl
  rw [hv0]
  refine va_WputK hx hb (f := f) hown hlink hfi hst (by rw [q2]; exact h6) q1 q3 (by rw [hsl]; exact k2_hasslot (q4 j hj)) rfl rfl hd fun H1 e1 z1 o1 => ?_
  rw [hsl] at e1 ⊢
  refine k H1 _ ls (qHR_set h1 hg z1 o1 rfl rfl rfl (fun b hb => ?_) ?_) (h2.put z1 o1 (qtr_ge hg)) h3
  · refine ⟨?_, ?_, ?_⟩ <;> (funext q; first | rfl | exact if_neg hb)
  · have hi' : qob (qsI M a j v) a ci := hi
    rw [qob_cell hc9 hi']
    refine ⟨r', hc, t_OB.to (V := updV (vp_V ((List.range (qNf ci)).map (qfv E M ci a))) j _) ⟨_, e1, q2, q3, t_set q4 hap hj _⟩ (fun q hq => ?_)⟩
    rw [qvp_V _ q _ (qfs_at hc hq)]
    by_cases hqj : q = j
    · subst hqj
      unfold updV
      rw [if_pos rfl]
      exact hvv.symm
    · unfold updV
      rw [if_neg hqj, qvp_V _ q _ (qfs_at hc hq)]
      exact (hoth q hqj).symm
theorem qs_putrN (hx : p.tables.exec = Jvm.exec) (hb : c.code = cc) (hE : qEok E) (hK : va_K (eD E) vwCl (qtys E) s) {own : String} {ci j i : Nat} {r : vw_C} {Ts : List Cond} (hts : ∀ w ∈ Ts, w.before args s = true) (hin : ∀ w ∈ u_ws r.1 r.2.1 r.2.2, w ∈ Ts) (hown : s.vm.findClass own = some m.cls) (hc9 : ci < 9) (hc : vwCl[ci]? = some r) (hj : j < r.2.2) (hty : ∀ k, k < r.2.2 → parseFieldDescriptor (r.2.1 k).2.2.1 = some (qty ci k)) (hnm : ∀ a, a < r.2.2 → ∀ b, b < r.2.2 → a ≠ b → (r.2.1 a).2.1 ≠ (r.2.1 b).2.1) (hlink : (Cond.fieldLinkNest own i (r.2.1 j).1 (r.2.1 j).2.1 (r.2.1 j).2.2.1 "PuppetHeirs").before args s = true) (hfin : (r.2.1 j).2.2.2 = false) {a : Nat} {v : Nat} (hi : qob M a ci) (hkd : (qty ci j).isReference = true) (hd : decode cc pc = .ok (.putfield i, 3)) (k : qGo E p l e R s m args below meth c nL c0 u0 Q (pc + 3) lv rest (qsP M a j v)) : qGo E p l e R s m args below meth c nL c0 u0 Q pc lv (.ref v :: .ref a :: rest) M := fun H locs ls h1 h2 h3 => by
  have ht := qob_tag hc9 hi
  have hg := qHR_ge hE.1 h1 ht
  have hP := qHR_P h1 hg ht
  rw [qob_cell hc9 hi] at hP
  have h0 : qrf E a = some (qtr E a) := if_neg (by omega)
  have hnar : narrow (qty ci j) (qtv E (.ref v)) = qtv E (.ref v) ∧ fits (qty ci j) (qtv E (.ref v)) = true := qnarrow_ref hkd v
  have hvv : qfv E (qsP M a j v) ci a j = qtv E (.ref v) := by
    rw [qfv_r (fun h => by rw [h] at hkd; cases hkd)]
    simp [qP, qsP, qup, qtv]
  have hoth : ∀ q, q ≠ j → qfv E (qsP M a j v) ci a q = qfv E M ci a q := fun q hq => by
    unfold qfv
    split <;> simp [qI, qP, qsP, qup, hq]
  have hap := va_apart (own := own) hts hin (qty ci) hty hnm hK hc
  obtain ⟨r', g1, cell, q1, q2, q3, q4⟩ := hP 0 _ rfl
  have hr : r' = r := Option.some.inj (g1.symm.trans hc)
  subst hr
  obtain ⟨hS, hfc, kC, hkC, hkind⟩ := hK.1 ci _ hc
  obtain ⟨cf, kf, fi, f, hfi, hsl⟩ := hS j hj
  have hlay := hts _ (hin _ (u_in_lay hj))
  unfold u_lay at hlay
  rw [if_neg (by rw [hfin]; decide)] at hlay
  have hst := (u_facts hfc hkC (u_lays hts hin hj) hfi).1
  have h6 := u_store hfc hkC hkind hlay hfi (hty j hj) hnar.1 hnar.2
  rw [List.map_cons, List.map_cons]
  have hv0 : qtv E (.ref a) = .ref (qtr E a) := by simp only [qtv, h0]; rfl
  rw [hv0]
  refine va_WputK hx hb (f := f) hown hlink hfi hst (by rw [q2]; exact h6) q1 q3 (by rw [hsl]; exact k2_hasslot (q4 j hj)) rfl rfl hd fun H1 e1 z1 o1 => ?_
  rw [hsl] at e1 ⊢
  refine k H1 _ ls (qHR_set h1 hg z1 o1 rfl rfl rfl (fun b hb => ?_) ?_) (h2.put z1 o1 (qtr_ge hg)) h3
  · refine ⟨?_, ?_, ?_⟩ <;> (funext q; first | rfl | exact if_neg hb)
  · have hi' : qob (qsP M a j v) a ci := hi
    rw [qob_cell hc9 hi']
    refine ⟨r', hc, t_OB.to (V := updV (vp_V ((List.range (qNf ci)).map (qfv E M ci a))) j _) ⟨_, e1, q2, q3, t_set q4 hap hj _⟩ (fun q hq => ?_)⟩
    rw [qvp_V _ q _ (qfs_at hc hq)]
    by_cases hqj : q = j
    · subst hqj
      unfold updV
      rw [if_pos rfl]
      exact hvv.symm
    · unfold updV
      rw [if_neg hqj, qvp_V _ q _ (qfs_at hc hq)]
      exact (hoth q hqj).symm
end QMM
