/-! ===== constants, statics, new cells ===== -/
/-- new cells at the end -/
theorem qHR_push {E : qEnv} {M M' : qM} {H H1 : Heap} {n : Nat} (h : qHR E M H) (hx : qex M = true) (z : H1.size = H.size + n) (o : ∀ q : Nat, q < H.size → H1[q]? = H[q]?)
    (h1 : qnx M' = qnx M + n) (h2 : qex M' = qex M) (h3 : ∀ a, a < qnx M → qsh M' a = qsh M a ∧ qI M' a = qI M a ∧ qP M' a = qP M a ∧ qL M' a = qL M a)
    (h4 : ∀ a, qnx M ≤ a → (qsh M' a).1 ≠ 0 → a < qnx M + n ∧ qtag (qsh M' a).1 ∧ (qsh M' a).2 < 2 ^ 31 ∧ va_at (eD E) vwCl (H.size + (a - qnx M), qcell E M' a) H1) : qHR E M' H1 := by
  obtain ⟨g1, g2, g3, g4, g5, g6⟩ := h
  have gs := g1 hx
  refine ⟨fun _ => ?_, ?_, ?_, ?_, ?_, ?_⟩
  · rw [h1, z, gs]; omega
  · rw [h1, z, gs]; omega
  · rw [h1]; omega
  · intro q hq
    rw [o q (by omega)]
    exact g4 q hq
  · intro b hb
    obtain ⟨i0, i1, i2, -⟩ := h3 b (by omega)
    rw [i0, i1, i2]
    exact g5 b hb
  · intro b hb ht
    rcases Nat.lt_or_ge b (qnx M) with e | e
    · obtain ⟨i0, i1, i2, i3⟩ := h3 b e
      rw [i0] at ht ⊢
      obtain ⟨j1, j2, j3, j4⟩ := g6 b hb ht
      refine ⟨by rw [h1]; omega, j2, j3, ?_⟩
      have hcc : qcell E M' b = qcell E M b := by
        have hf : ∀ c, qfv E M' c b = qfv E M c b := fun c => by
          funext j
          unfold qfv
          rw [i1, i2]
        unfold qcell
        rw [i0, i1, i2, i3]
        simp only [hf]
      rw [hcc]
      exact j4.kept (o _ j4.lt)
    · obtain ⟨j1, j2, j3, j4⟩ := h4 b e ht
      refine ⟨by rw [h1]; exact j1, j2, j3, ?_⟩
      have : qtr E b = H.size + (b - qnx M) := by
        unfold qtr
        rw [if_neg (by omega), gs]
        omega
      rw [this]
      exact j4
theorem qsh_mk {M : qM} {t n a : Nat} : qsh (qmk M t n) a = if a = qnx M then (t, n) else qsh M a := rfl
section QMN
variable {E : qEnv} {p : Program} {l : Launch} {e : Env} {R : Room} {s : State} {m : MethodId} {args : Array Value} {below : List Frame} {meth : Method} {c : Code} {nL c0 u0 : Nat} {Q : State → Prop}
variable {cc : ByteArray} {pc : Nat} {lv : qV} {rest : List Value} {M : qM}
theorem qs_getst (hx : p.tables.exec = Jvm.exec) (hb : c.code = cc) (hE : qEok E) (hs : ∀ q : Nat, q < eB E → s.heap[q]? = (eH E)[q]?) {own C n d : String} {i : Nat} {v : Value} (hown : s.vm.findClass own = some m.cls) (hZ : va_Z C n d (qtv E v) (qA E) s (eH E)) (hlink : (Cond.fieldLink own i C n d).before args s = true)
    (hd : decode cc pc = .ok (.getstatic i, 3)) (k : qGo E p l e R s m args below meth c nL c0 u0 Q (pc + 3) lv (v :: rest) M) : qGo E p l e R s m args below meth c nL c0 u0 Q pc lv rest M := fun H locs ls h1 h2 h3 =>
  va_gets hx hb (va_Z.kept hZ (qro_kept hs hE)) h2 hown hlink (fun _ h => h) hd (k H locs ls h1 h2 h3)
theorem qs_ldc (hx : p.tables.exec = Jvm.exec) (hb : c.code = cc) {own : String} {i : Nat} {v : Int32} (hown : s.vm.findClass own = some m.cls) (hw : (Jvm.Cond.constant own i v).before args s = true) (hd : decode cc pc = .ok (.ldc i, 2)) (k : qGo E p l e R s m args below meth c nL c0 u0 Q (pc + 2) lv (.int v :: rest) M) : qGo E p l e R s m args below meth c nL c0 u0 Q pc lv rest M :=
  fun H locs ls h1 h2 h3 => lv_ldc hx hb hown hw hd (k H locs ls h1 h2 h3)
theorem qs_ldcw (hx : p.tables.exec = Jvm.exec) (hb : c.code = cc) {own : String} {i : Nat} {v : Int32} (hown : s.vm.findClass own = some m.cls) (hw : (Jvm.Cond.constant own i v).before args s = true) (hd : decode cc pc = .ok (.ldc_w i, 3)) (k : qGo E p l e R s m args below meth c nL c0 u0 Q (pc + 3) lv (.int v :: rest) M) : qGo E p l e R s m args below meth c nL c0 u0 Q pc lv rest M :=
  fun H locs ls h1 h2 h3 => lv_ldcw hx hb hown hw hd (k H locs ls h1 h2 h3)
theorem qs_ldc2 (hx : p.tables.exec = Jvm.exec) (hb : c.code = cc) {own : String} {i : Nat} {v : Int64} (hown : s.vm.findClass own = some m.cls) (hw : (Jvm.Cond.constantLong own i v).before args s = true) (hd : decode cc pc = .ok (.ldc2_w i, 3)) (k : qGo E p l e R s m args below meth c nL c0 u0 Q (pc + 3) lv (.long v :: rest) M) : qGo E p l e R s m args below meth c nL c0 u0 Q pc lv rest M :=
  fun H locs ls h1 h2 h3 => lv_ldc2 hx hb hown hw hd (k H locs ls h1 h2 h3)
theorem qs_ldcS (hx : p.tables.exec = Jvm.exec) (hb : c.code = cc) {own tx : String} {i a : Nat} (hown : s.vm.findClass own = some m.cls) (ha : ¬ a = 0) (hw : vk_R own i tx (qtr E a) s) (hd : decode cc pc = .ok (.ldc i, 2)) (k : qGo E p l e R s m args below meth c nL c0 u0 Q (pc + 2) lv (.ref a :: rest) M) : qGo E p l e R s m args below meth c nL c0 u0 Q pc lv rest M :=
  fun H locs ls h1 h2 h3 => va_ldcS hx hb hown hw hd (by have := k H locs ls h1 h2 h3; rw [List.map_cons] at this; simp only [qtv, qrf, if_neg ha] at this; exact this)
theorem qs_new (hx : p.tables.exec = Jvm.exec) (hb : c.code = cc) (hE : qEok E) (hK : va_K (eD E) vwCl (qtys E) s) {own : String} {ci i : Nat} {r : vw_C} {Ts : List Cond} (hts : ∀ w ∈ Ts, w.before args s = true) (hin : ∀ w ∈ u_ws r.1 r.2.1 r.2.2, w ∈ Ts) (hown : s.vm.findClass own = some m.cls) (hc9 : ci < 9) (hc : vwCl[ci]? = some r) (hty : ∀ k, k < r.2.2 → parseFieldDescriptor (r.2.1 k).2.2.1 = some (qty ci k)) (hdf : ∀ k, k < r.2.2 → (qty ci k = .int ∨ defaultValue (qty ci k) = .null ∧ ¬ qty ci k = .int)) (hr31 : r.2.2 < 2 ^ 31)
    (hcl : (Cond.classLink own i r.1).before args s = true) (hinst : (Cond.instantiable r.1 r.2.2).before args s = true) (hini : (Cond.initialized r.1).before args s = true)
    (hex : qex M = true) (hc0 : c0 ≤ qce M) (hu0 : u0 ≤ qus M) (hcells : qce M - c0 + 1 ≤ R.cells) (hslots : qus M - u0 + r.2.2 ≤ R.slots) (hd : decode cc pc = .ok (.new i, 3))
    (k : qGo E p l e R s m args below meth c nL c0 u0 Q (pc + 3) lv (.ref (qnx M) :: rest) (qmk M (20 + ci) r.2.2)) : qGo E p l e R s m args below meth c nL c0 u0 Q pc lv rest M := fun H locs ls h1 h2 h3 => by
  have hKn := hK.1 ci _ hc
  refine W.newcK hx hb hown hcl hinst hini rfl hd hcells hslots hKn.2.1 rfl fun H1 kC hkC e1 z1 o1 => ?_
  have gs := h1.1 hex
  have g3 := h1.2.2.1
  have hq : qrf E (qnx M) = some H.size := by
    unfold qrf qtr
    rw [if_neg (by omega), if_neg (by omega), gs]
  have hH : qHR E (qmk M (20 + ci) r.2.2) H1 := by
    refine qHR_push (n := 1) h1 hex z1 o1 rfl rfl (fun a ha => ?_) (fun a ha ht => ?_)
    · have hne : ¬ a = M.1.1 := Nat.ne_of_lt ha
      refine ⟨if_neg hne, ?_, ?_, ?_⟩ <;> (funext j; exact if_neg hne)
    · rw [qsh_mk] at ht ⊢
      by_cases hq9 : a = qnx M
      · subst hq9
        rw [if_pos rfl]
        refine ⟨by omega, Or.inr ⟨Nat.le_add_right _ _, by show 20 + ci < 29; omega⟩, hr31, ?_⟩
        rw [Nat.sub_self, Nat.add_zero]
        have hob : qob (qmk M (20 + ci) r.2.2) (qnx M) ci := by unfold qob; rw [qsh_mk, if_pos rfl]
        rw [qob_cell hc9 hob]
        refine ⟨r, hc, (u_born (qty ci) hts hin hKn hkC e1 hty).to (fun q hqq => ?_)⟩
        rw [qvp_V _ q _ (qfs_at hc hqq)]
        unfold qfv
        rcases hdf q hqq with h | ⟨h, h'⟩
        · rw [h]
          have : qI (qmk M (20 + ci) r.2.2) (qnx M) q = 0 := if_pos rfl
          rw [this]
          rfl
        · rw [h]
          have : qP (qmk M (20 + ci) r.2.2) (qnx M) q = 0 := if_pos rfl
          rw [this]
          split
          · rename_i e9
            exact absurd e9 h'
          · rfl
      · rw [if_neg hq9] at ht ⊢
        have := (h1.2.2.2.2.2 a (by omega) ht).1
        omega
  have k' := k H1 locs ls hH ⟨Nat.le_trans h2.1 (by omega), fun x j1 j2 => (o1 x (Nat.lt_of_lt_of_le j1 h2.1)).trans (h2.2.1 x j1 j2), h2.2.2⟩ h3
  rw [List.map_cons] at k'
  simp only [qtv, hq] at k'
  rw [show qce (qmk M (20 + ci) r.2.2) - c0 = qce M - c0 + 1 from by show qce M + 1 - c0 = _; omega, show qus (qmk M (20 + ci) r.2.2) - u0 = qus M - u0 + r.2.2 from by show qus M + r.2.2 - u0 = _; omega] at k'
  exact k'
theorem qs_newI (hx : p.tables.exec = Jvm.exec) (hb : c.code = cc) (hE : qEok E) (hK : va_K (eD E) vwCl (qtys E) s) (harr : (Cond.arrayClass .int).before args s = true) {n : Int32} (hn0 : 0 ≤ n.toInt) (hn1 : n.toInt ≤ 100000)
    (hex : qex M = true) (hc0 : c0 ≤ qce M) (hu0 : u0 ≤ qus M) (hcells : qce M - c0 + 1 ≤ R.cells) (hslots : qus M - u0 + n.toNatClampNeg ≤ R.slots) (hd : decode cc pc = .ok (.newarray .int, 2))
    (k : qGo E p l e R s m args below meth c nL c0 u0 Q (pc + 2) lv (.ref (qnx M) :: rest) (qmk M 1 n.toNatClampNeg)) : qGo E p l e R s m args below meth c nL c0 u0 Q pc lv (.int n :: rest) M := fun H locs ls h1 h2 h3 => by
  have hnn : (n.toNatClampNeg : Int) = n.toInt := by show ((n.toInt.toNat : Nat) : Int) = _; omega
  have hn : ¬ n < 0 := by rw [Int32.lt_iff_toInt_lt]; simp; omega
  have hby : n.toNatClampNeg * componentBytes (newarray.typeOf .int) ≤ 536870912 := Nat.le_trans (Nat.mul_le_mul (show n.toNatClampNeg ≤ 100000 by omega) (show componentBytes (newarray.typeOf .int) ≤ 8 from Nat.le_of_ble_eq_true rfl)) (Nat.le_of_ble_eq_true rfl)
  refine W.newa (atype := .int) hx hb harr rfl hd rfl hn hby hcells hslots fun cA kA comp f1 f2 f3 => ?_
  have hcA : cA = eC E 1 := Option.some.inj (f1.symm.trans (hK.2 0 _ rfl).2)
  subst hcA
  generalize hH1 : H.push ({ cls := eC E 1, slots := Array.replicate n.toNatClampNeg (defaultValue (newarray.typeOf .int)), vm := .none } : Cell) = H1
  have z1 : H1.size = H.size + 1 := by rw [← hH1, Array.size_push]
  have e1 : H1[H.size]? = some (arrV (eC E 1) n.toNatClampNeg (fun _ => .int 0)) := by rw [← hH1, Array.getElem?_push_size, ← arrV_new]; rfl
  have o1 : ∀ q : Nat, q < H.size → H1[q]? = H[q]? := fun q hq => by rw [← hH1, Array.getElem?_push, if_neg (Nat.ne_of_lt hq)]
  have gs := h1.1 hex
  have g3 := h1.2.2.1
  have hq : qrf E (qnx M) = some H.size := by
    unfold qrf qtr
    rw [if_neg (by omega), if_neg (by omega), gs]
  have hH : qHR E (qmk M 1 n.toNatClampNeg) H1 := by
    refine qHR_push (n := 1) h1 hex z1 o1 rfl rfl (fun a ha => ?_) (fun a ha ht => ?_)
    · have hne : ¬ a = M.1.1 := Nat.ne_of_lt ha
      refine ⟨if_neg hne, ?_, ?_, ?_⟩ <;> (funext j; exact if_neg hne)
    · rw [qsh_mk] at ht ⊢
      by_cases hq9 : a = qnx M
      · subst hq9
        rw [if_pos rfl]
        refine ⟨by omega, Or.inl ⟨Nat.le_of_ble_eq_true rfl, Nat.le_of_ble_eq_true rfl⟩, by show n.toNatClampNeg < _; omega, ?_⟩
        rw [Nat.sub_self, Nat.add_zero]
        have ht9 : (qsh (qmk M 1 n.toNatClampNeg) (qnx M)).1 = 1 := by rw [qsh_mk, if_pos rfl]
        rw [qcell_1 ht9]
        show H1[H.size]? = some (vp_cell _ _)
        rw [e1, vp_cell_i]
        refine congrArg some ?_
        rw [show (qsh (qmk M 1 n.toNatClampNeg) (qnx M)).2 = n.toNatClampNeg from by rw [qsh_mk, if_pos rfl]]
        refine congrArg (arrV _ _) (funext fun j => ?_)
        have : qI (qmk M 1 n.toNatClampNeg) (qnx M) j = 0 := if_pos rfl
        rw [this]
      · rw [if_neg hq9] at ht ⊢
        have := (h1.2.2.2.2.2 a (by omega) ht).1
        omega
  have k' := k H1 locs ls hH ⟨Nat.le_trans h2.1 (by omega), fun x j1 j2 => (o1 x (Nat.lt_of_lt_of_le j1 h2.1)).trans (h2.2.1 x j1 j2), h2.2.2⟩ h3
  rw [List.map_cons] at k'
  simp only [qtv, hq] at k'
  rw [show qce (qmk M 1 n.toNatClampNeg) - c0 = qce M - c0 + 1 from by show qce M + 1 - c0 = _; omega, show qus (qmk M 1 n.toNatClampNeg) - u0 = qus M - u0 + n.toNatClampNeg from by show qus M + n.toNatClampNeg - u0 = _; omega] at k'
  exact k'
theorem qs_newZ (hx : p.tables.exec = Jvm.exec) (hb : c.code = cc) (hE : qEok E) (hK : va_K (eD E) vwCl (qtys E) s) (harr : (Cond.arrayClass .boolean).before args s = true) {n : Int32} (hn0 : 0 ≤ n.toInt) (hn1 : n.toInt ≤ 100000)
    (hex : qex M = true) (hc0 : c0 ≤ qce M) (hu0 : u0 ≤ qus M) (hcells : qce M - c0 + 1 ≤ R.cells) (hslots : qus M - u0 + n.toNatClampNeg ≤ R.slots) (hd : decode cc pc = .ok (.newarray .boolean, 2))
    (k : qGo E p l e R s m args below meth c nL c0 u0 Q (pc + 2) lv (.ref (qnx M) :: rest) (qmk M 2 n.toNatClampNeg)) : qGo E p l e R s m args below meth c nL c0 u0 Q pc lv (.int n :: rest) M := fun H locs ls h1 h2 h3 => by
  have hnn : (n.toNatClampNeg : Int) = n.toInt := by show ((n.toInt.toNat : Nat) : Int) = _; omega
  have hn : ¬ n < 0 := by rw [Int32.lt_iff_toInt_lt]; simp; omega
  have hby : n.toNatClampNeg * componentBytes (newarray.typeOf .boolean) ≤ 536870912 := Nat.le_trans (Nat.mul_le_mul (show n.toNatClampNeg ≤ 100000 by omega) (show componentBytes (newarray.typeOf .boolean) ≤ 8 from Nat.le_of_ble_eq_true rfl)) (Nat.le_of_ble_eq_true rfl)
  refine W.newa (atype := .boolean) hx hb harr rfl hd rfl hn hby hcells hslots fun cA kA comp f1 f2 f3 => ?_
  have hcA : cA = eC E 2 := Option.some.inj (f1.symm.trans (hK.2 1 _ rfl).2)
  subst hcA
  generalize hH1 : H.push ({ cls := eC E 2, slots := Array.replicate n.toNatClampNeg (defaultValue (newarray.typeOf .boolean)), vm := .none } : Cell) = H1
  have z1 : H1.size = H.size + 1 := by rw [← hH1, Array.size_push]
  have e1 : H1[H.size]? = some (arrV (eC E 2) n.toNatClampNeg (fun _ => .int 0)) := by rw [← hH1, Array.getElem?_push_size, ← arrV_new]; rfl
  have o1 : ∀ q : Nat, q < H.size → H1[q]? = H[q]? := fun q hq => by rw [← hH1, Array.getElem?_push, if_neg (Nat.ne_of_lt hq)]
  have gs := h1.1 hex
  have g3 := h1.2.2.1
  have hq : qrf E (qnx M) = some H.size := by
    unfold qrf qtr
    rw [if_neg (by omega), if_neg (by omega), gs]
  have hH : qHR E (qmk M 2 n.toNatClampNeg) H1 := by
    refine qHR_push (n := 1) h1 hex z1 o1 rfl rfl (fun a ha => ?_) (fun a ha ht => ?_)
    · have hne : ¬ a = M.1.1 := Nat.ne_of_lt ha
      refine ⟨if_neg hne, ?_, ?_, ?_⟩ <;> (funext j; exact if_neg hne)
    · rw [qsh_mk] at ht ⊢
      by_cases hq9 : a = qnx M
      · subst hq9
        rw [if_pos rfl]
        refine ⟨by omega, Or.inl ⟨Nat.le_of_ble_eq_true rfl, Nat.le_of_ble_eq_true rfl⟩, by show n.toNatClampNeg < _; omega, ?_⟩
        rw [Nat.sub_self, Nat.add_zero]
        have ht9 : (qsh (qmk M 2 n.toNatClampNeg) (qnx M)).1 = 2 := by rw [qsh_mk, if_pos rfl]
        rw [qcell_2 ht9]
        show H1[H.size]? = some (vp_cell _ _)
        rw [e1, vp_cell_i]
        refine congrArg some ?_
        rw [show (qsh (qmk M 2 n.toNatClampNeg) (qnx M)).2 = n.toNatClampNeg from by rw [qsh_mk, if_pos rfl]]
        refine congrArg (arrV _ _) (funext fun j => ?_)
        have : qI (qmk M 2 n.toNatClampNeg) (qnx M) j = 0 := if_pos rfl
        rw [this]
      · rw [if_neg hq9] at ht ⊢
        have := (h1.2.2.2.2.2 a (by omega) ht).1
        omega
  have k' := k H1 locs ls hH ⟨Nat.le_trans h2.1 (by omega), fun x j1 j2 => (o1 x (Nat.lt_of_lt_of_le j1 h2.1)).trans (h2.2.1 x j1 j2), h2.2.2⟩ h3
  rw [List.map_cons] at k'
  simp only [qtv, hq] at k'
  rw [show qce (qmk M 2 n.toNatClampNeg) - c0 = qce M - c0 + 1 from by show qce M + 1 - c0 = _; omega, show qus (qmk M 2 n.toNatClampNeg) - u0 = qus M - u0 + n.toNatClampNeg from by show qus M + n.toNatClampNeg - u0 = _; omega] at k'
  exact k'
theorem qs_newL (hx : p.tables.exec = Jvm.exec) (hb : c.code = cc) (hE : qEok E) (hK : va_K (eD E) vwCl (qtys E) s) (harr : (Cond.arrayClass .long).before args s = true) {n : Int32} (hn0 : 0 ≤ n.toInt) (hn1 : n.toInt ≤ 100000)
    (hex : qex M = true) (hc0 : c0 ≤ qce M) (hu0 : u0 ≤ qus M) (hcells : qce M - c0 + 1 ≤ R.cells) (hslots : qus M - u0 + n.toNatClampNeg ≤ R.slots) (hd : decode cc pc = .ok (.newarray .long, 2))
    (k : qGo E p l e R s m args below meth c nL c0 u0 Q (pc + 2) lv (.ref (qnx M) :: rest) (qmk M 3 n.toNatClampNeg)) : qGo E p l e R s m args below meth c nL c0 u0 Q pc lv (.int n :: rest) M := fun H locs ls h1 h2 h3 => by
  have hnn : (n.toNatClampNeg : Int) = n.toInt := by show ((n.toInt.toNat : Nat) : Int) = _; omega
  have hn : ¬ n < 0 := by rw [Int32.lt_iff_toInt_lt]; simp; omega
  have hby : n.toNatClampNeg * componentBytes (newarray.typeOf .long) ≤ 536870912 := Nat.le_trans (Nat.mul_le_mul (show n.toNatClampNeg ≤ 100000 by omega) (show componentBytes (newarray.typeOf .long) ≤ 8 from Nat.le_of_ble_eq_true rfl)) (Nat.le_of_ble_eq_true rfl)
  refine W.newa (atype := .long) hx hb harr rfl hd rfl hn hby hcells hslots fun cA kA comp f1 f2 f3 => ?_
  have hcA : cA = eC E 3 := Option.some.inj (f1.symm.trans (hK.2 2 _ rfl).2)
  subst hcA
  generalize hH1 : H.push ({ cls := eC E 3, slots := Array.replicate n.toNatClampNeg (defaultValue (newarray.typeOf .long)), vm := .none } : Cell) = H1
  have z1 : H1.size = H.size + 1 := by rw [← hH1, Array.size_push]
  have e1 : H1[H.size]? = some (arrV (eC E 3) n.toNatClampNeg (fun _ => .long 0)) := by rw [← hH1, Array.getElem?_push_size, ← arrV_new]; rfl
  have o1 : ∀ q : Nat, q < H.size → H1[q]? = H[q]? := fun q hq => by rw [← hH1, Array.getElem?_push, if_neg (Nat.ne_of_lt hq)]
  have gs := h1.1 hex
  have g3 := h1.2.2.1
  have hq : qrf E (qnx M) = some H.size := by
    unfold qrf qtr
    rw [if_neg (by omega), if_neg (by omega), gs]
  have hH : qHR E (qmk M 3 n.toNatClampNeg) H1 := by
    refine qHR_push (n := 1) h1 hex z1 o1 rfl rfl (fun a ha => ?_) (fun a ha ht => ?_)
    · have hne : ¬ a = M.1.1 := Nat.ne_of_lt ha
      refine ⟨if_neg hne, ?_, ?_, ?_⟩ <;> (funext j; exact if_neg hne)
    · rw [qsh_mk] at ht ⊢
      by_cases hq9 : a = qnx M
      · subst hq9
        rw [if_pos rfl]
        refine ⟨by omega, Or.inl ⟨Nat.le_of_ble_eq_true rfl, Nat.le_of_ble_eq_true rfl⟩, by show n.toNatClampNeg < _; omega, ?_⟩
        rw [Nat.sub_self, Nat.add_zero]
        have ht9 : (qsh (qmk M 3 n.toNatClampNeg) (qnx M)).1 = 3 := by rw [qsh_mk, if_pos rfl]
        rw [qcell_3 ht9]
        show H1[H.size]? = some (vp_cell _ _)
        rw [e1, vp_cell_l]
        refine congrArg some ?_
        rw [show (qsh (qmk M 3 n.toNatClampNeg) (qnx M)).2 = n.toNatClampNeg from by rw [qsh_mk, if_pos rfl]]
        refine congrArg (arrV _ _) (funext fun j => ?_)
        have : qL (qmk M 3 n.toNatClampNeg) (qnx M) j = 0 := if_pos rfl
        rw [this]
      · rw [if_neg hq9] at ht ⊢
        have := (h1.2.2.2.2.2 a (by omega) ht).1
        omega
  have k' := k H1 locs ls hH ⟨Nat.le_trans h2.1 (by omega), fun x j1 j2 => (o1 x (Nat.lt_of_lt_of_le j1 h2.1)).trans (h2.2.1 x j1 j2), h2.2.2⟩ h3
  rw [List.map_cons] at k'
  simp only [qtv, hq] at k'
  rw [show qce (qmk M 3 n.toNatClampNeg) - c0 = qce M - c0 + 1 from by show qce M + 1 - c0 = _; omega, show qus (qmk M 3 n.toNatClampNeg) - u0 = qus M - u0 + n.toNatClampNeg from by show qus M + n.toNatClampNeg - u0 = _; omega] at k'
  exact k'
end QMN
