/-! ===== every run of the small machine is one of the machine ===== -/
/-- what is proved by the number of steps -/
def qSd (E : qEnv) (l : Launch) (n : Nat) : Prop := ∀ (d k pc : Nat) (lv : qV) (st : List Value) (M : qM) (R : qR), k < 349 → qX n d k pc lv st M (fun r => r = R) →
  ∀ (p : Program) (e : Env) (Rm : Room) (s : State) (m : MethodId) (args : Array Value) (below : List Frame) (meth : Method) (c : Code) (c0 u0 : Nat), qCx E p l s m args meth c k → d ≤ Rm.frames → 40 * d ≤ Rm.locals → c0 ≤ qce M → u0 ≤ qus M → qce (qRM R) - c0 ≤ Rm.cells → qus (qRM R) - u0 ≤ Rm.slots →
    qGo E p l e Rm s m args below meth c (qml k) c0 u0 (qEnd E below args s c0 u0 R) pc lv st M
def qPc (E : qEnv) (as : List Value) (M : qM) : Array Value → State → Prop := va_Pc (as.map (qtv E)) (fun U => qHR E M U.heap ∧ qSF E U)
def qrm (d : Nat) (M : qM) (R : qR) : Room := { frames := d, locals := 40 * d, cells := qce (qRM R) - qce M, slots := qus (qRM R) - qus M }
theorem qcw_cls {k : Nat} : (∃ ws', qcw k :: qW = Cond.code (qmn k) (qcc k) (qml k) (qrt k) :: ws' ∧ qha k = []) ∨ qcw k = Cond.codeWith (qmn k) (qcc k) (qml k) (qrt k) (qha k) := by
  unfold qcw
  generalize qha k = t
  match t with
  | [] => exact Or.inl ⟨_, rfl, rfl⟩
  | a :: r => exact Or.inr rfl
theorem lg_len1 : ∀ vs : List Value, (∀ v ∈ vs, v.category = 1) → (lg_sl vs).length = vs.length
  | [], _ => rfl
  | v :: vs, h => by
    have h1 := h v List.mem_cons_self
    have ih := lg_len1 vs (fun w hw => h w (List.mem_cons_of_mem _ hw))
    unfold lg_sl at ih ⊢
    rw [List.flatMap_cons, List.length_append, ih, if_neg (by rw [h1]; decide)]
    simp [Nat.add_comm]
set_option maxHeartbeats 4000000 in
/-- a method's contract, out of its run -/
theorem q_met {E : qEnv} {l : Launch} (hT : qTab) (hst : l.stackTraces = false) {n : Nat} (ih : qSd E l n) {d k : Nat} {as : List Value} {M : qM} {R : qR} (hk : k < 348) (h : qX n d k 0 (lv_args 0 as) [] M (fun r => r = R)) (hlen : as.length ≤ qml k) (hcat : ∀ v ∈ as, v.category = 1) (h8 : k ≠ 298) (h9 : k ≠ 299) :
    vx_Met l (qmn k) (qcw k :: qW) (qrm d M R) (qPc E as M) (qQc E R) (qXc E R) (qce (qRM R) - qce M) (qus (qRM R) - qus M) (qA E) := by
  have hle := qX_leR h
  have hlg : (lg_sl (as.map (qtv E))).length ≤ qml k := by
    rw [lg_len1 _ (fun v hv => by obtain ⟨w, hw, rfl⟩ := List.mem_map.mp hv; rw [qtv_cat]; exact hcat w hw), List.length_map]
    exact hlen
  have body : ∀ (p : Program) (e : Env) (s : State) (m : MethodId) (args : Array Value) (below : List Frame) (meth : Method) (c : Code) (s₁ : State), BodyLoose p l (qmn k) (headSpec (qcw k :: qW) (qrm d M R)) (qcc k) (qml k) (qrt k) e s m args below meth c s₁ → c.maxLocals = qml k → c.exceptionTable.toList = tableOf (qha k) → qPc E as M args s →
      W p l e (headSpec (qcw k :: qW) (qrm d M R)).room s m args below meth c s.heap [] 0 0 (vx_MQ below (qQc E R) (qXc E R) args s (qce (qRM R) - qce M) (qus (qRM R) - qus M) (qA E)) (entryFrame m args (qml k)) := by
    intro p e s m args below meth c s₁ B hml hexc hv
    obtain ⟨rfl, hHR, hSF⟩ := hv
    have hts := atoms_spec (ws := qcw k :: qW) B.pre
    have C0 : qCx E p l s m (as.map (qtv E)).toArray meth c k := ⟨B.exec, B.bytes, hml, findClass_of_methodNamed B.named, fun w hw => hts w (List.mem_cons_of_mem _ hw), B.returns, B.notSynchronized, (name_of_methodNamed B.named B.method).1, hexc, hSF, hHR.2.2.2.1, hst, Nat.le_trans (Nat.le_add_right _ _) hHR.2.1⟩
    have h9 := ih d k 0 (lv_args 0 as) [] M R (by omega) h p e (headSpec (qcw k :: qW) (qrm d M R)).room s m (as.map (qtv E)).toArray below meth c (qce M) (qus M) C0 (Nat.le_refl _) (Nat.le_refl _) (Nat.le_refl _) (Nat.le_refl _) (Nat.le_refl _) (Nat.le_refl _)
    rw [lg_entry_eq]
    have h8 := h9 s.heap [] _ hHR va_S.rf (qLok_entry hlg)
    rw [Nat.sub_self, Nat.sub_self] at h8
    exact h8
  have hpl := (hT.2.2.2.1 k (by omega)).2.2.2.1 h8 h9
  rcases qcw_cls (k := k) with ⟨ws', hw, hha⟩ | hw
  · refine vx_ofW (cc := qcc k) (maxL := qml k) (ret := qrt k) hpl hw ?_
    intro p e s m args below meth c s₁ B hml hexc hv
    refine body p e s m args below meth c s₁ B hml ?_ hv
    rw [hha]
    exact List.eq_nil_iff_forall_not_mem.mpr (fun x hx => hexc x hx)
  · refine vx_ofWH (cc := qcc k) (maxL := qml k) (ret := qrt k) (hh := qha k) (ws' := qW) hpl (by rw [hw]) ?_
    intro p e s m args below meth c s₁ B hml hv
    refine body p e s m args below meth c s₁ B hml ?_ hv
    have hts := atoms_spec (ws := qcw k :: qW) B.pre
    have h1 := hts _ List.mem_cons_self
    rw [hw] at h1
    exact vx_table (x := qmn k) B h1
theorem qPc_blind {E : qEnv} {as : List Value} {M : qM} : FrameBlind (qPc E as M) := fun a U g mk h => ⟨h.1, h.2.1, qSF_same (s := U) (U := U.calling g mk a) rfl h.2.2⟩
theorem qvw_cn {ci : Nat} (h : ci < 9) : (qvw ci).1 = qcn ci := by
  match ci, h with
  | 0, _ | 1, _ | 2, _ | 3, _ | 4, _ | 5, _ | 6, _ | 7, _ | 8, _ => rfl
section QCL
variable {E : qEnv} {p : Program} {l : Launch} {e : Env} {R : Room} {s : State} {m : MethodId} {args : Array Value} {below : List Frame} {meth : Method} {c : Code} {c0 u0 : Nat} {Q : State → Prop} {k : Nat}
theorem q_recv (hE : qEok E) (hsf : qSF E s) (hs : ∀ q : Nat, q < eB E → s.heap[q]? = (eH E)[q]?) {H : Heap} {locs : List Loc} {M : qM} (h1 : qHR E M H) (h2 : va_S (qA E) s.heap H locs) {b ci : Nat} (hc : ci < 10) (hb : qob M b ci) :
    qrf E b = some (qtr E b) ∧ ∃ cellB : Cell, H[qtr E b]? = some cellB ∧ cellB.vm.isStatics = false ∧ s.vm.findClass (qcn ci) = some cellB.cls := by
  by_cases h9 : ci < 9
  · have ht := qob_tag h9 hb
    have hg := qHR_ge hE.1 h1 ht
    have hP := qHR_P h1 hg ht
    rw [qob_cell h9 hb] at hP
    have h3 := va_recv hsf.1 hP (qvw_at h9) (q0 := 0) rfl
    rw [qvw_cn h9] at h3
    exact ⟨if_neg (by omega), h3⟩
  · have hci : ci = 9 := by omega
    subst hci
    have hi : (qsh M b).1 = 29 := hb
    obtain ⟨hg, h0, hq⟩ := qro_rf hE h1 (a := b) (by omega)
    have hr := hsf.2.1 b hg
    rw [hq, hi] at hr
    obtain ⟨cell, g1, g2, g3, g4⟩ := (hr.1.kept (qro_kept hs hE)).kept h2.2.1
    have : qtr E b = eT E b := if_pos hg
    rw [this]
    exact ⟨h0, cell, g1, g2, g3⟩
theorem q_split (a : Nat) (st : List Value) : st.map (qtv E) = ((st.take a).reverse.map (qtv E)).reverse ++ (st.drop a).map (qtv E) := by
  rw [← List.map_reverse, List.reverse_reverse, ← List.map_append, List.take_append_drop]
theorem q_cat2 : ∀ st : List Value, (st.map (fun v => v.category)).sum ≤ 2 * st.length
  | [] => by simp
  | v :: r => by
    have := q_cat2 r
    have := lv_cat v
    simp only [List.map_cons, List.sum_cons, List.length_cons]
    omega
theorem qck_spec {a : Nat} {st : List Value} (h : qck a st = true) : a ≤ st.length ∧ ((st.drop a).map (fun v => v.category)).sum ≤ 8 ∧ (∀ v ∈ (st.take a).reverse, v.category = 1) ∧ (st.take a).reverse.length = a := by
  unfold qck at h
  simp only [Bool.and_eq_true, Bool.or_eq_true] at h
  have h1 := Nat.le_of_ble_eq_true h.1
  refine ⟨h1, ?_, fun v hv => ?_, by rw [List.length_reverse, List.length_take]; omega⟩
  · rcases h.2.1 with h2 | h2
    · have h2 := Nat.le_of_ble_eq_true h2
      have h3 := q_cat2 (st.drop a)
      rw [List.length_drop] at h3
      omega
    · exact Nat.le_of_ble_eq_true h2
  · exact nbT (List.all_eq_true.mp h.2.2 v (List.mem_reverse.mp hv))
theorem q_mcat (r : List Value) : (r.map (qtv E)).map (fun v => v.category) = r.map (fun v => v.category) := by
  rw [List.map_map]
  exact List.map_congr_left (fun v _ => qtv_cat E v)
theorem q_room {a : Nat} {st : List Value} (h : qck a st = true) (pc : Nat) (ls : Array Slot) (st9 : List Value) : 2 * (F0 m pc ls st9).monitorRoom + (((st.drop a).map (qtv E)).map fun v => v.category).sum ≤ 8 := by
  refine lv_room ?_
  obtain ⟨g1, g2, -, -⟩ := qck_spec h
  rw [q_mcat]
  exact g2
end QCL
