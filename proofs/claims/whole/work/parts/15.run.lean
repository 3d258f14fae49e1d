/-! ===== ends, switches, calls; the small machine's runs are the machine's ===== -/
def qRM : qR → qM
  | .inl (_, M) => M
  | .inr (_, M) => M
def qQc (E : qEnv) (R : qR) : Array Value → State → Outcome → State → Prop := fun _ st oc t => (∃ v M', R = .inl (v, M') ∧ oc = .returned (v.map (qtv E)) ∧ qHR E M' t.heap) ∧ va_F (qA E) st t
def qXc (E : qEnv) (R : qR) : String → State → State → Prop := fun N st t => (∃ e M', R = .inr (e, M') ∧ N = qen e ∧ qHR E M' t.heap) ∧ va_F (qA E) st t
/-- what a method's walk owes, if its run ends with R -/
def qEnd (E : qEnv) (below : List Frame) (args : Array Value) (s : State) (c0 u0 : Nat) (R : qR) : State → Prop := vx_MQ below (qQc E R) (qXc E R) args s (qce (qRM R) - c0) (qus (qRM R) - u0) (qA E)
theorem qW_good {w : Cond} (h : w ∈ qW) : goodWord w = true := (List.mem_filter.mp h).2
theorem qHR_th {E : qEnv} {M : qM} {H H1 : Heap} (h : qHR E M H) (hz : H.size ≤ H1.size) (o : ∀ q : Nat, q < H.size → H1[q]? = H[q]?) : qHR E (qth M) H1 := by
  obtain ⟨g1, g2, g3, g4, g5, g6⟩ := h
  refine ⟨(fun (h : false = true) => by cases h), Nat.le_trans g2 hz, g3, fun q hq => ?_, g5, fun a ha ht => ?_⟩
  · have g2' : eB E + (qnx M - 64) ≤ H.size := g2
    rw [o q (by omega)]
    exact g4 q hq
  · obtain ⟨j1, j2, j3, j4⟩ := g6 a ha ht
    exact ⟨j1, j2, j3, j4.kept (o _ j4.lt)⟩
theorem qcastable {X : String} {n : Nat} {args : Array Value} {s : State} (h : (Cond.instantiable X n).before args s = true) : (Cond.castable X X).before args s = true := by
  obtain ⟨cC, kC, hfc, hk, hkind, -⟩ := Cond.instantiable_spec h
  have h1 : s.vm.assignable cC cC = true := va_assign (C := X) ⟨hfc, kC, hk, hkind⟩
  simp [Cond.before, Cond.holds, Cond.value, hfc, h1]
theorem q_ofInt {c : Int} (h1 : -2147483648 ≤ c) (h2 : c < 2147483648) : (Int32.ofInt c).toInt = c := Int32.toInt_ofInt_of_le h1 h2
theorem qts_in {pc : Nat} {x : Int32} {F : Nat → Prop} {d : Nat} : ∀ (os : List Int) (lo : Int), -2147483648 ≤ lo → lo + os.length ≤ 2147483648 → qsw x F d (qtsl pc lo os) → ∀ (j : Nat) (o : Int), os[j]? = some o → x.toInt = lo + j → F ((pc : Int) + o).toNat
  | [], _, _, _, _, j, o, hj, _ => by simp at hj
  | o0 :: r, lo, h1, h2, h, j, o, hj, hx => by
    rw [List.length_cons] at h2
    have hlo := q_ofInt h1 (by omega : lo < 2147483648)
    cases j with
    | zero =>
      simp at hj
      subst hj
      exact h.1 (Int32.toInt_inj.mp (by rw [hlo, hx]; simp))
    | succ j =>
      rw [List.getElem?_cons_succ] at hj
      refine qts_in r (lo + 1) (by omega) (by omega) (h.2 (fun q => ?_)) j o hj (by rw [hx]; push_cast; omega)
      rw [q, hlo] at hx
      omega
theorem qts_out {pc : Nat} {x : Int32} {F : Nat → Prop} {d : Nat} : ∀ (os : List Int) (lo : Int), -2147483648 ≤ lo → lo + os.length ≤ 2147483648 → qsw x F d (qtsl pc lo os) → (x.toInt < lo ∨ lo + os.length ≤ x.toInt) → F d
  | [], _, _, _, h, _ => h
  | o0 :: r, lo, h1, h2, h, hx => by
    rw [List.length_cons] at h2 hx
    have hlo := q_ofInt h1 (by omega : lo < 2147483648)
    refine qts_out r (lo + 1) (by omega) (by omega) (h.2 (fun q => ?_)) (by omega)
    rw [q, hlo] at hx
    omega
theorem qls_of {pc : Nat} {x : Int32} {F : Nat → Prop} {df : Int} : ∀ (ps : List (Int × Int)), (∀ q ∈ ps, -2147483648 ≤ q.1 ∧ q.1 < 2147483648) → qsw x F ((pc : Int) + df).toNat (ps.map (fun q => (q.1, ((pc : Int) + q.2).toNat))) → F ((pc : Int) + Op.lookupswitch.offset ps df x.toInt).toNat
  | [], _, h => h
  | (a, o) :: r, hb, h => by
    obtain ⟨b1, b2⟩ := hb (a, o) List.mem_cons_self
    have hlo := q_ofInt b1 b2
    rw [Op.lookupswitch.offset_cons]
    by_cases e : x = Int32.ofInt a
    · have h3 : a = x.toInt := by rw [e]; exact hlo.symm
      first | rw [if_pos h3] | rw [if_pos h3.symm]
      exact h.1 e
    · have h3 : ¬ a = x.toInt := fun q => e (Int32.toInt_inj.mp (by rw [hlo]; exact q.symm))
      first | rw [if_neg h3] | rw [if_neg (fun q => h3 q.symm)]
      exact qls_of r (fun q hq => hb q (List.mem_cons_of_mem _ hq)) (h.2 e)
theorem qls_off {ps : List (Int × Int)} {df : Int} (P : Int → Prop) (h1 : ∀ q ∈ ps, P q.2) (h2 : P df) (x : Int) : P (Op.lookupswitch.offset ps df x) := by
  induction ps with
  | nil => exact h2
  | cons q r ih =>
    obtain ⟨a, o⟩ := q
    rw [Op.lookupswitch.offset_cons]
    split
    · exact h1 (a, o) List.mem_cons_self
    · exact ih (fun q hq => h1 q (List.mem_cons_of_mem _ hq))
section QRN
variable {E : qEnv} {p : Program} {l : Launch} {e : Env} {R : Room} {s : State} {m : MethodId} {args : Array Value} {below : List Frame} {meth : Method} {c : Code} {nL c0 u0 : Nat} {Q : State → Prop}
variable {cc : ByteArray} {pc : Nat} {lv : qV} {rest : List Value} {M : qM}
theorem qs_ret1 (hx : p.tables.exec = Jvm.exec) (hb : c.code = cc) {rt : Option FieldType} (hr : meth.sig.returnType = rt) (hlocks : meth.locks = false) {v : Int32} (hv : qok rt v) (hd : decode cc pc = .ok (.ireturn, 1)) :
    qGo E p l e R s m args below meth c nL c0 u0 (qEnd E below args s c0 u0 (.inl (some (.int v), M))) pc lv [.int v] M := fun H locs ls h1 h2 h3 => by
  have hqq : ∀ t : State, t.heap = H → s.WarmedH t.vm → qQc E (.inl (some (.int v), M)) args s (.returned (some (.int v))) t := fun t ht _ => ⟨⟨_, _, rfl, rfl, by rw [ht]; exact h1⟩, h2.F ht⟩
  refine vx_ret ?_
  match rt, hr, hv with
  | some .int, hr, _ => exact W.iret hx hb hr hqq h2.2.2 hd hlocks
  | some .boolean, hr, hv => exact W.zret hx hb hr (by rcases hv with rfl | rfl <;> rfl) hqq h2.2.2 hd hlocks
  | some .byte, hr, hv => exact W.zret hx hb hr (by rw [show v = 0 from hv]; rfl) hqq h2.2.2 hd hlocks
  | some .char, hr, hv =>
    obtain ⟨v1, v2⟩ := hv
    obtain ⟨j, hj, rfl⟩ := nI_of (x := v) (by rw [Int32.lt_iff_toInt_lt]; simp; omega)
    rw [nI_toInt hj] at v2
    exact W.zret hx hb hr (pk_charN (by omega)).1 hqq h2.2.2 hd hlocks
theorem qs_ret2 (hx : p.tables.exec = Jvm.exec) (hb : c.code = cc) (hr : meth.sig.returnType = some .long) (hlocks : meth.locks = false) {v : Int64} (hd : decode cc pc = .ok (.lreturn, 1)) :
    qGo E p l e R s m args below meth c nL c0 u0 (qEnd E below args s c0 u0 (.inl (some (.long v), M))) pc lv [.long v] M := fun H locs ls h1 h2 h3 =>
  vx_ret (W.lret hx hb hr (fun t ht _ => ⟨⟨_, _, rfl, rfl, by rw [ht]; exact h1⟩, h2.F ht⟩) h2.2.2 hd hlocks)
theorem qs_ret0 (hx : p.tables.exec = Jvm.exec) (hb : c.code = cc) (hr : meth.sig.returnType = none) (hlocks : meth.locks = false) (hd : decode cc pc = .ok (.return_, 1)) :
    qGo E p l e R s m args below meth c nL c0 u0 (qEnd E below args s c0 u0 (.inl (none, M))) pc lv [] M := fun H locs ls h1 h2 h3 =>
  vx_ret (W.vret hx hb hr (fun t ht _ => ⟨⟨_, _, rfl, rfl, by rw [ht]; exact h1⟩, h2.F ht⟩) h2.2.2 hd hlocks)
theorem qs_tsw (hx : p.tables.exec = Jvm.exec) (hb : c.code = cc) {df lo hi : Int} {os : Array Int} {len : Nat} {x : Int32} (hd : decode cc pc = .ok (.tableswitch df lo hi os, len)) (b0 : 0 ≤ (pc : Int) + df) (b1 : ∀ o ∈ os.toList, 0 ≤ (pc : Int) + o) (b2 : lo + os.size = hi + 1) (b3 : -2147483648 ≤ lo) (b4 : hi < 2147483648)
    (k : qsw x (fun t => qGo E p l e R s m args below meth c nL c0 u0 Q t lv rest M) ((pc : Int) + df).toNat (qtsl pc lo os.toList)) : qGo E p l e R s m args below meth c nL c0 u0 Q pc lv (.int x :: rest) M := fun H locs ls h1 h2 h3 => by
  have hlen : (os.toList.length : Int) = os.size := by rw [Array.length_toList]
  by_cases g : x.toInt < lo ∨ hi < x.toInt
  · have h9 := qts_out (F := fun t => qGo E p l e R s m args below meth c nL c0 u0 Q t lv rest M) os.toList lo b3 (by omega) k (by omega)
    exact lv_tableOut hx hb hd g (by omega) (h9 H locs ls h1 h2 h3)
  · have hj : (x.toInt - lo).toNat < os.size := by omega
    have ho : os[(x.toInt - lo).toNat]? = some os[(x.toInt - lo).toNat] := Array.getElem?_eq_getElem hj
    have ho2 : os.toList[(x.toInt - lo).toNat]? = some os[(x.toInt - lo).toNat] := by rw [Array.getElem?_toList]; exact ho
    have h9 := qts_in (F := fun t => qGo E p l e R s m args below meth c nL c0 u0 Q t lv rest M) os.toList lo b3 (by omega) k _ _ ho2 (by omega)
    have hb9 := b1 _ (List.mem_of_getElem? ho2)
    exact lv_tableIn hx hb hd (by omega) (by omega) ho (tgt := ((pc : Int) + os[(x.toInt - lo).toNat]).toNat) (by omega) (h9 H locs ls h1 h2 h3)
theorem qs_lsw (hx : p.tables.exec = Jvm.exec) (hb : c.code = cc) {df : Int} {ps : Array (Int × Int)} {len : Nat} {x : Int32} (hd : decode cc pc = .ok (.lookupswitch df ps, len)) (b0 : 0 ≤ (pc : Int) + df) (b1 : ∀ q ∈ ps.toList, 0 ≤ (pc : Int) + q.2 ∧ -2147483648 ≤ q.1 ∧ q.1 < 2147483648) (b2 : (ps.toList.zip (ps.toList.drop 1)).all (fun (a, next) => a.1 < next.1) = true)
    (k : qsw x (fun t => qGo E p l e R s m args below meth c nL c0 u0 Q t lv rest M) ((pc : Int) + df).toNat (ps.toList.map (fun q => (q.1, ((pc : Int) + q.2).toNat)))) : qGo E p l e R s m args below meth c nL c0 u0 Q pc lv (.int x :: rest) M := fun H locs ls h1 h2 h3 => by
  have h9 := qls_of ps.toList (fun q hq => (b1 q hq).2) k
  have h8 : 0 ≤ (pc : Int) + Op.lookupswitch.offset ps.toList df x.toInt := qls_off (fun o => 0 ≤ (pc : Int) + o) (fun q hq => (b1 q hq).1) b0 _
  exact lv_lookup hx hb hd b2 rfl (tgt := ((pc : Int) + Op.lookupswitch.offset ps.toList df x.toInt).toNat) (by omega) (h9 H locs ls h1 h2 h3)
end QRN
