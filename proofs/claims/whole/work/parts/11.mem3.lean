/-! ===== arrays of references, switches, ends ===== -/
section QMO
variable {E : qEnv} {p : Program} {l : Launch} {e : Env} {R : Room} {s : State} {m : MethodId} {args : Array Value} {below : List Frame} {meth : Method} {c : Code} {nL c0 u0 : Nat} {Q : State → Prop}
variable {cc : ByteArray} {pc : Nat} {lv : qV} {rest : List Value} {M : qM}
theorem qs_newS (hx : p.tables.exec = Jvm.exec) (hb : c.code = cc) (hE : qEok E) (hK : va_K (eD E) vwCl (qtys E) s) {own : String} {i : Nat} (hown : s.vm.findClass own = some m.cls) (hcl : (Cond.classLink own i RX5).before args s = true) (hAO : va_AO RX5 s) {n : Int32} (hn0 : 0 ≤ n.toInt) (hn1 : n.toInt ≤ 100000)
    (hex : qex M = true) (hc0 : c0 ≤ qce M) (hu0 : u0 ≤ qus M) (hcells : qce M - c0 + 1 ≤ R.cells) (hslots : qus M - u0 + n.toNatClampNeg ≤ R.slots) (hd : decode cc pc = .ok (.anewarray i, 3))
    (k : qGo E p l e R s m args below meth c nL c0 u0 Q (pc + 3) lv (.ref (qnx M) :: rest) (qmk M 5 n.toNatClampNeg)) : qGo E p l e R s m args below meth c nL c0 u0 Q pc lv (.int n :: rest) M := fun H locs ls h1 h2 h3 => by
  have hnn : (n.toNatClampNeg : Int) = n.toInt := by show ((n.toInt.toNat : Nat) : Int) = _; omega
  have hn : ¬ n < 0 := by rw [Int32.lt_iff_toInt_lt]; simp; omega
  have hby : n.toNatClampNeg * 4 ≤ 536870912 := Nat.le_trans (Nat.mul_le_mul (show n.toNatClampNeg ≤ 100000 by omega) (Nat.le_refl 4)) (Nat.le_of_ble_eq_true rfl)
  refine W.anew hx hb hown hcl (va_AO.use hAO) rfl hd rfl hn hby hcells hslots fun cA kA comp f1 f2 f3 f4 => ?_
  have hcA : cA = eC E 5 := by
    obtain ⟨_, _, -, -, -, g4⟩ := (hK.2 4 _ rfl).2
    exact Option.some.inj (f1.symm.trans g4)
  subst hcA
  generalize hH1 : H.push ({ cls := eC E 5, slots := Array.replicate n.toNatClampNeg .null, vm := .none } : Cell) = H1
  have z1 : H1.size = H.size + 1 := by rw [← hH1, Array.size_push]
  have e1 : H1[H.size]? = some (arrV (eC E 5) n.toNatClampNeg (fun _ => .null)) := by rw [← hH1, Array.getElem?_push_size, ← arrV_new]
  have o1 : ∀ q : Nat, q < H.size → H1[q]? = H[q]? := fun q hq => by rw [← hH1, Array.getElem?_push, if_neg (Nat.ne_of_lt hq)]
  have gs := h1.1 hex
  have g3 := h1.2.2.1
  have hq : qrf E (qnx M) = some H.size := by
    unfold qrf qtr
    rw [if_neg (by omega), if_neg (by omega), gs]
  have hH : qHR E (qmk M 5 n.toNatClampNeg) H1 := by
    refine qHR_push (n := 1) h1 hex z1 o1 rfl rfl (fun a ha => ?_) (fun a ha ht => ?_)
    · have hne : ¬ a = M.1.1 := Nat.ne_of_lt ha
      refine ⟨if_neg hne, ?_, ?_, ?_⟩ <;> (funext j; exact if_neg hne)
    · rw [qsh_mk] at ht ⊢
      by_cases hq9 : a = qnx M
      · subst hq9
        rw [if_pos rfl]
        refine ⟨by omega, Or.inl ⟨Nat.le_of_ble_eq_true rfl, Nat.le_of_ble_eq_true rfl⟩, by show n.toNatClampNeg < _; omega, ?_⟩
        rw [Nat.sub_self, Nat.add_zero]
        have ht9 : (qsh (qmk M 5 n.toNatClampNeg) (qnx M)).1 = 5 := by rw [qsh_mk, if_pos rfl]
        rw [qcell_5 ht9]
        show H1[H.size]? = some (vp_cell _ _)
        rw [e1, vp_cell_q]
        refine congrArg some ?_
        rw [show (qsh (qmk M 5 n.toNatClampNeg) (qnx M)).2 = n.toNatClampNeg from by rw [qsh_mk, if_pos rfl]]
        refine congrArg (arrV _ _) (funext fun j => ?_)
        have : qP (qmk M 5 n.toNatClampNeg) (qnx M) j = 0 := if_pos rfl
        rw [this]
        rfl
      · rw [if_neg hq9] at ht ⊢
        have := (h1.2.2.2.2.2 a (by omega) ht).1
        omega
  have k' := k H1 locs ls hH ⟨Nat.le_trans h2.1 (by omega), fun x j1 j2 => (o1 x (Nat.lt_of_lt_of_le j1 h2.1)).trans (h2.2.1 x j1 j2), h2.2.2⟩ h3
  rw [List.map_cons] at k'
  simp only [qtv, hq] at k'
  rw [show qce (qmk M 5 n.toNatClampNeg) - c0 = qce M - c0 + 1 from by show qce M + 1 - c0 = _; omega, show qus (qmk M 5 n.toNatClampNeg) - u0 = qus M - u0 + n.toNatClampNeg from by show qus M + n.toNatClampNeg - u0 = _; omega] at k'
  exact k'
theorem qs_aast (hx : p.tables.exec = Jvm.exec) (hb : c.code = cc) (hE : qEok E) (hK : va_K (eD E) vwCl (qtys E) s) {a v : Nat} {i : Int32} (hi : qin M 5 a i) (hv : qob M v 5) (hd : decode cc pc = .ok (.aastore, 1)) (k : qGo E p l e R s m args below meth c nL c0 u0 Q (pc + 1) lv rest (qsP M a i.toNatClampNeg v)) : qGo E p l e R s m args below meth c nL c0 u0 Q pc lv (.ref v :: .int i :: .ref a :: rest) M := fun H locs ls h1 h2 h3 => by
  have ht : qtag (qsh M a).1 := by rw [hi.1]; unfold qtag; omega
  have hg := qHR_ge hE.1 h1 ht
  have hP := qHR_P h1 hg ht
  have hcl := qcell_5 (E := E) hi.1
  have hcl' := qcell_5 (E := E) (M := qsP M a i.toNatClampNeg v) (a := a) hi.1
  rw [hcl] at hP
  have htv := qob_tag (Nat.le_of_ble_eq_true rfl : 5 < 9) hv
  have hgv := qHR_ge hE.1 h1 htv
  have hPv := qHR_P h1 hgv htv
  rw [qob_cell (Nat.le_of_ble_eq_true rfl : 5 < 9) hv] at hPv
  have h0 : qrf E a = some (qtr E a) := if_neg (by omega)
  have hv0 : qrf E v = some (qtr E v) := if_neg (by omega)
  have hin := qin_vp hi
  have hlt : i.toNatClampNeg < (qsh M a).2 := Nat.not_le.mp fun q => hin (Or.inr q)
  have hi0 : ¬ i < 0 := fun q => hin (Or.inl q)
  rw [List.map_cons, List.map_cons, List.map_cons]
  simp only [qtv, h0, hv0]
  obtain ⟨r', hr', cellV, g1, g2, g3, -⟩ := hPv 0 _ rfl
  have hcls := (hK.1 5 _ rfl).2
  obtain ⟨kA, comp, k1, k2, k3, -⟩ := (hK.2 4 _ rfl).2
  have hcomp : comp = (eD E).1 5 := Option.some.inj (k3.symm.trans hcls.1)
  subst hcomp
  obtain ⟨kC, hkC, -⟩ := hcls.2
  refine W.aast hx hb (hP 0 _ rfl) (fun q h => by cases h) (fun h => by cases h) k1 k2 rfl hkC ⟨hi0, by show _ < (arrV _ _ _).slots.size; rw [arrV_size]; exact hlt⟩ g1 (fun q h => by rw [g3] at h; cases h) (by rw [g2]; exact hkC) (by rw [g2]; exact va_assign hcls) rfl rfl hd fun H1 e1 z1 o1 => ?_
  refine k H1 _ ls (qHR_set h1 hg z1 o1 rfl rfl rfl (fun b hb => ?_) ?_) (h2.put z1 o1 (qtr_ge hg)) h3
  · refine ⟨?_, ?_, ?_⟩ <;> (funext j; first | rfl | exact if_neg hb)
  · rw [hcl']
    show H1[qtr E a]? = some (vp_cell _ _)
    rw [e1, vp_cell_q, vp_cell_q, arrV_store]
    refine congrArg some (congrArg (arrV _ _) (funext fun q => ?_))
    by_cases hq : q = i.toNatClampNeg
    · subst hq
      simp [updV, qsP, qP, qup, hv0]
      rfl
    · simp [updV, qsP, qP, qup, hq]
theorem qs_mna (hx : p.tables.exec = Jvm.exec) (hb : c.code = cc) (hE : qEok E) (hK : va_K (eD E) vwCl (qtys E) s) {own : String} {i : Nat} (hown : s.vm.findClass own = some m.cls) (hcl : (Cond.classLink own i ("[" ++ (FieldType.array .int).toString)).before args s = true) (hAO : (Cond.arrayOver (.array .int)).before args s = true) (harr : (Cond.arrayClass .int).before args s = true)
    {n k0 : Int32} (hn0 : 0 ≤ n.toInt) (hn1 : n.toInt ≤ 1000) (hk0 : 0 ≤ k0.toInt) (hk1 : k0.toInt ≤ 1000)
    (hex : qex M = true) (hc0 : c0 ≤ qce M) (hu0 : u0 ≤ qus M) (hcells : qce M - c0 + (1 + n.toNatClampNeg) ≤ R.cells) (hslots : qus M - u0 + (n.toNatClampNeg + n.toNatClampNeg * k0.toNatClampNeg) ≤ R.slots) (hd : decode cc pc = .ok (.multianewarray i 2, 4))
    (k : qGo E p l e R s m args below meth c nL c0 u0 Q (pc + 4) lv (.ref (qnx M) :: rest) (qmm M n.toNatClampNeg k0.toNatClampNeg)) : qGo E p l e R s m args below meth c nL c0 u0 Q pc lv (.int k0 :: .int n :: rest) M := fun H locs ls h1 h2 h3 => by
  have hnn : (n.toNatClampNeg : Int) = n.toInt := by show ((n.toInt.toNat : Nat) : Int) = _; omega
  have hkk : (k0.toNatClampNeg : Int) = k0.toInt := by show ((k0.toInt.toNat : Nat) : Int) = _; omega
  have hn : ¬ n < 0 := by rw [Int32.lt_iff_toInt_lt]; simp; omega
  have hk : ¬ k0 < 0 := by rw [Int32.lt_iff_toInt_lt]; simp; omega
  have hN : n.toNatClampNeg ≤ 1000 := by omega
  have hN2 : k0.toNatClampNeg ≤ 1000 := by omega
  have hb1 : n.toNatClampNeg * 4 ≤ 536870912 := Nat.le_trans (Nat.mul_le_mul hN (Nat.le_refl 4)) (Nat.le_of_ble_eq_true rfl)
  have hb2 : k0.toNatClampNeg * componentBytes .int ≤ 536870912 := Nat.le_trans (Nat.mul_le_mul hN2 (show componentBytes .int ≤ 8 from Nat.le_of_ble_eq_true rfl)) (Nat.le_of_ble_eq_true rfl)
  have hb3 : k0.toNatClampNeg ≤ 536870912 := Nat.le_trans hN2 (Nat.le_of_ble_eq_true rfl)
  intro T hT Xs
  obtain ⟨vm₁, cA, comp, -, fA, fC, hO, -, X', step⟩ := Xs.multianewarray2F (ty := .int) hx hown hcl hAO harr (g := F0 m pc ls (.int k0 :: .int n :: rest.map (qtv E))) rfl (by rw [hb]; exact hd) rfl hn hk hb1 hb2 hb3 rfl rfl hcells hslots
  have hc1 : comp = eC E 1 := Option.some.inj (fC.symm.trans (hK.2 0 _ rfl).2)
  have hc4 : cA = eC E 4 := Option.some.inj (fA.symm.trans (hK.2 3 _ rfl).2)
  subst hc1
  subst hc4
  generalize hF : Jvm.Free.Multi.fill (T.setVm vm₁) (eC E 4) (eC E 1) n.toNatClampNeg k0.toNatClampNeg (defaultValue .int) n.toNatClampNeg = F at X' step
  have hTh : (T.setVm vm₁).heap = H := hT
  obtain ⟨f1, f2, -, -⟩ := Jvm.Free.Multi.fill_facts (T.setVm vm₁) (eC E 4) (eC E 1) n.toNatClampNeg k0.toNatClampNeg (defaultValue .int) n.toNatClampNeg
  rw [hF, hTh] at f1 f2
  have hold : ∀ x : Nat, x < H.size → F.heap[x]? = H[x]? := fun x hx => by
    have := Jvm.Free.Multi.fill_old (T.setVm vm₁) (eC E 4) (eC E 1) n.toNatClampNeg k0.toNatClampNeg (defaultValue .int) (a := x) (by rw [hTh]; exact hx) n.toNatClampNeg
    rw [hF, hTh] at this
    exact this
  have hrow : ∀ j : Nat, j < n.toNatClampNeg → F.heap[H.size + 1 + j]? = some (arrV (eC E 1) k0.toNatClampNeg (fun _ => .int 0)) := fun j hj => by
    have := Jvm.Free.Multi.fill_inner (T.setVm vm₁) (eC E 4) (eC E 1) n.toNatClampNeg k0.toNatClampNeg (defaultValue .int) n.toNatClampNeg j hj
    rw [hF, hTh] at this
    rw [this, ← arrV_new]
    rfl
  have hout : F.heap[H.size]? = some (arrV (eC E 4) n.toNatClampNeg (fun j => va_rf (if j < n.toNatClampNeg then some (H.size + 1 + j) else none))) := by
    rw [f2, vr_outer]
  have gs := h1.1 hex
  have g3 := h1.2.2.1
  have hq : qrf E (qnx M) = some H.size := by
    unfold qrf qtr
    rw [if_neg (by omega), if_neg (by omega), gs]
  have hz : F.heap.size = H.size + (1 + n.toNatClampNeg) := by omega
  have hH : qHR E (qmm M n.toNatClampNeg k0.toNatClampNeg) F.heap := by
    refine qHR_push (n := 1 + n.toNatClampNeg) h1 hex hz hold (by show M.1.1 + 1 + _ = M.1.1 + (1 + _); omega) rfl (fun a ha => ?_) (fun a ha ht => ?_)
    · have ha' : a < M.1.1 := ha
      refine ⟨?_, ?_, ?_, ?_⟩
      · show (if a = M.1.1 then _ else if M.1.1 < a ∧ a ≤ M.1.1 + _ then _ else _) = _
        rw [if_neg (by omega), if_neg (by omega)]
        rfl
      · funext j
        show (if M.1.1 ≤ a ∧ a ≤ M.1.1 + _ then _ else _) = _
        rw [if_neg (by omega)]
        rfl
      · funext j
        show (if a = M.1.1 then _ else if M.1.1 < a ∧ a ≤ M.1.1 + _ then _ else _) = _
        rw [if_neg (by omega), if_neg (by omega)]
        rfl
      · funext j
        show (if M.1.1 ≤ a ∧ a ≤ M.1.1 + _ then _ else _) = _
        rw [if_neg (by omega)]
        rfl
    · have ha' : M.1.1 ≤ a := ha
      have hsh : qsh (qmm M n.toNatClampNeg k0.toNatClampNeg) a = if a = M.1.1 then (4, n.toNatClampNeg) else if M.1.1 < a ∧ a ≤ M.1.1 + n.toNatClampNeg then (1, k0.toNatClampNeg) else qsh M a := rfl
      by_cases e1 : a = M.1.1
      · rw [if_pos e1] at hsh
        have ht9 : (qsh (qmm M n.toNatClampNeg k0.toNatClampNeg) a).1 = 4 := by rw [hsh]
        rw [qcell_4 ht9, hsh]
        refine ⟨by rw [e1]; show M.1.1 < qnx M + _; show M.1.1 < M.1.1 + _; omega, Or.inl ⟨Nat.le_of_ble_eq_true rfl, Nat.le_of_ble_eq_true rfl⟩, by show n.toNatClampNeg < _; omega, ?_⟩
        have e9 : a - qnx M = 0 := by rw [e1]; exact Nat.sub_self _
        rw [e9, Nat.add_zero]
        show F.heap[H.size]? = some (vp_cell _ _)
        rw [hout, vp_cell_q]
        refine congrArg some (congrArg (arrV _ _) (funext fun j => congrArg va_rf ?_))
        have hP : qP (qmm M n.toNatClampNeg k0.toNatClampNeg) a j = if j < n.toNatClampNeg then M.1.1 + 1 + j else 0 := if_pos e1
        rw [hP]
        by_cases hj : j < n.toNatClampNeg
        · rw [if_pos hj, if_pos hj]
          have g3' : 64 ≤ M.1.1 := g3
          have gs' : H.size = eB E + (M.1.1 - 64) := gs
          unfold qrf qtr
          rw [if_neg (by omega), if_neg (by omega)]
          exact congrArg some (by omega)
        · rw [if_neg hj, if_neg hj]
          rfl
      · rw [if_neg e1] at hsh
        by_cases e2 : M.1.1 < a ∧ a ≤ M.1.1 + n.toNatClampNeg
        · rw [if_pos e2] at hsh
          have ht9 : (qsh (qmm M n.toNatClampNeg k0.toNatClampNeg) a).1 = 1 := by rw [hsh]
          rw [qcell_1 ht9, hsh]
          refine ⟨by show a < M.1.1 + _; omega, Or.inl ⟨Nat.le_of_ble_eq_true rfl, Nat.le_of_ble_eq_true rfl⟩, by show k0.toNatClampNeg < _; omega, ?_⟩
          show F.heap[H.size + (a - M.1.1)]? = some (vp_cell _ _)
          have h9 := hrow (a - M.1.1 - 1) (by omega)
          rw [show H.size + 1 + (a - M.1.1 - 1) = H.size + (a - M.1.1) by omega] at h9
          rw [h9, vp_cell_i]
          refine congrArg some (congrArg (arrV _ _) (funext fun j => ?_))
          have hI : qI (qmm M n.toNatClampNeg k0.toNatClampNeg) a j = 0 := if_pos ⟨by omega, e2.2⟩
          rw [hI]
        · rw [if_neg e2] at hsh
          rw [hsh] at ht
          have h8 : a < M.1.1 := (h1.2.2.2.2.2 a (Nat.le_trans g3 ha) ht).1
          omega
  have k' := k F.heap locs ls hH ⟨by have := h2.1; omega, fun x j1 j2 => (hold x (Nat.lt_of_lt_of_le j1 h2.1)).trans (h2.2.1 x j1 j2), h2.2.2⟩ h3
  rw [List.map_cons] at k'
  simp only [qtv, hq] at k'
  rw [show qce (qmm M n.toNatClampNeg k0.toNatClampNeg) - c0 = qce M - c0 + 1 + n.toNatClampNeg from by show qce M + (1 + n.toNatClampNeg) - c0 = _; omega, show qus (qmm M n.toNatClampNeg k0.toNatClampNeg) - u0 = qus M - u0 + n.toNatClampNeg + n.toNatClampNeg * k0.toNatClampNeg from by show qus M + (n.toNatClampNeg + n.toNatClampNeg * k0.toNatClampNeg) - u0 = _; omega] at k'
  obtain ⟨t, a1, b1⟩ := k' F rfl X'
  refine ⟨t, step t ?_, b1⟩
  have e9 : T.heap.size = H.size := by rw [hT]
  rw [e9]
  exact a1
end QMO
