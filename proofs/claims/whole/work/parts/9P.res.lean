/-! ===== a run that stays within some cells is a run where the others aren't there ===== -/
def qrM (m : Nat) (h0 : Nat × Bool × Nat × Nat) (M : qM) : qM := (h0, (fun a => if a < m then M.2.1 a else (0, 0)), (fun a => if a < m then M.2.2.1 a else fun _ => 0), (fun a => if a < m then M.2.2.2.1 a else fun _ => 0), fun _ _ => 0)
def qrR (m : Nat) (h0 : Nat × Bool × Nat × Nat) : qR → qR
  | .inl (v, M) => .inl (v, qrM m h0 M)
  | .inr (e, M) => .inr (e, qrM m h0 M)
def qrv (m : Nat) : Value → Prop
  | .ref a => a < m
  | _ => True
def qrl (m : Nat) (lv : qV) : Prop := ∀ i, qrv m (qlk lv i)
def qrs (m : Nat) (st : List Value) : Prop := ∀ v ∈ st, qrv m v
def qrW (m : Nat) (M : qM) : Prop := ∀ a j, a < m → ¬ (qsh M a).1 = 0 → qP M a j < m
def qrk (m : Nat) : qR → Prop
  | .inl (some v, M) => qrv m v ∧ qrW m M
  | .inl (none, M) => qrW m M
  | .inr (_, M) => qrW m M
def qri (K : Nat → Bool) (cl : Nat) : Jvm.ClassFile.Instr → Bool
  | .iconst _ => true
  | .bipush _ => true
  | .sipush _ => true
  | .iload_n _ => true
  | .iload _ => true
  | .aload_n _ => true
  | .istore_n _ => true
  | .istore _ => true
  | .iinc _ _ => true
  | .iadd => true
  | .imul => true
  | .iand => true
  | .ishr => true
  | .iaload => true
  | .iastore => true
  | .aaload => true
  | .arraylength => true
  | .dup => true
  | .pop => true
  | .goto _ => true
  | .if_icmp _ _ => true
  | .ifCond _ _ => true
  | .ireturn => true
  | .return_ => true
  | .getfield _ => true
  | .putfield i => Nat.beq (qcp cl i).2.1 0
  | .getstatic i => Nat.blt (qcp cl i).1 64 && Nat.blt (qcp cl i).2.1 2
  | .invokevirtual i => K (qcp cl i).1
  | .invokestatic i => K (qcp cl i).1
  | _ => false
section RES
variable {m : Nat} {h0 : Nat × Bool × Nat × Nat} {M : qM} {lv : qV} {st : List Value} {a : Nat}
theorem qrM_S (ha : a < m) : qsh (qrM m h0 M) a = qsh M a := if_pos ha
theorem qrM_I (ha : a < m) {j : Nat} : qI (qrM m h0 M) a j = qI M a j := by
  show (if a < m then M.2.2.1 a else fun _ => 0) j = _
  rw [if_pos ha]; rfl
theorem qrM_P (ha : a < m) {j : Nat} : qP (qrM m h0 M) a j = qP M a j := by
  show (if a < m then M.2.2.2.1 a else fun _ => 0) j = _
  rw [if_pos ha]; rfl
theorem qrM_sI (ha : a < m) {j : Nat} {v : Int32} : qsI (qrM m h0 M) a j v = qrM m h0 (qsI M a j v) := by
  show (h0, _, qup (fun a => if a < m then M.2.2.1 a else fun _ => 0) a j v, _, _) = (h0, _, (fun b => if b < m then qup M.2.2.1 a j v b else fun _ => 0), _, _)
  have e : qup (fun a => if a < m then M.2.2.1 a else fun _ => (0 : Int32)) a j v = fun b => if b < m then qup M.2.2.1 a j v b else fun _ => 0 := by
    funext b i
    by_cases c : b = a
    · rw [c, if_pos ha, qup_at, qup_at, if_pos ha]
    · rw [qup_ne c]
      by_cases c2 : b < m
      · rw [if_pos c2, if_pos c2, qup_ne c]
      · rw [if_neg c2, if_neg c2]
  rw [e]; rfl
theorem qin_r (ha : a < m) {t : Nat} {i : Int32} (h : qin M t a i) : qin (qrM m h0 M) t a i := by
  unfold qin at *; rw [qrM_S ha]; exact h
theorem qinR_r (ha : a < m) {i : Int32} (h : qinR M a i) : qinR (qrM m h0 M) a i := by
  unfold qinR at *; rw [qrM_S ha]; exact h
theorem qob_r (ha : a < m) {c : Nat} (h : qob M a c) : qob (qrM m h0 M) a c := by
  unfold qob at *; rw [qrM_S ha]; exact h
theorem qrs_c {v : Value} (h : qrv m v) (hs : qrs m st) : qrs m (v :: st) := fun w hw => by
  rcases List.mem_cons.mp hw with rfl | hw
  · exact h
  · exact hs w hw
theorem qrs_t {v : Value} (hs : qrs m (v :: st)) : qrs m st := fun w hw => hs w (List.mem_cons_of_mem _ hw)
theorem qrl_st1 (hl : qrl m lv) {v : Value} (hv : qrv m v) (i : Nat) : qrl m (qst1 lv i v) := fun j => by
  unfold qst1
  rw [qlk_ins]
  split
  · exact hv
  · rw [qlk_cut]
    split
    · trivial
    · exact hl j
theorem qrl_args : ∀ (vs : List Value) (i : Nat), qrs m vs → qrl m (lv_args i vs)
  | [], i, _ => fun j => trivial
  | v :: vs, i, h => fun j => by
    rw [lv_args, qlk_c]
    split
    · exact h v List.mem_cons_self
    · exact qrl_args vs _ (qrs_t h) j
set_option maxHeartbeats 4000000 in
theorem qlo_r (hm0 : 64 ≤ m) {K : Nat → Bool} {cl : Nat} {ins : Jvm.ClassFile.Instr} (hok : qri K cl ins = true) (hl : qrl m lv) (hs : qrs m st) (hm : qrW m M) {F F2 : qV → List Value → qM → Prop}
    (hF : ∀ lv2 st2 M2, qrl m lv2 → qrs m st2 → qrW m M2 → F lv2 st2 M2 → F2 lv2 st2 (qrM m h0 M2)) :
    (match qlo cl ins lv st M with | some (P, lv2, st2, M2) => qand P (F lv2 st2 M2) | none => False) → (match qlo cl ins lv st (qrM m h0 M) with | some (P, lv2, st2, M2) => qand P (F2 lv2 st2 M2) | none => False) := by
  cases ins with
  | iconst n =>
    exact fun h => hF _ _ _ hl (qrs_c trivial hs) hm h
  | bipush n =>
    exact fun h => hF _ _ _ hl (qrs_c trivial hs) hm h
  | sipush n =>
    exact fun h => hF _ _ _ hl (qrs_c trivial hs) hm h
  | iload_n i =>
    show (match (match qlk lv i with | .int v => some ((none : Option Prop), lv, .int v :: st, M) | _ => none) with | some (P, lv2, st2, M2) => qand P (F lv2 st2 M2) | none => False) → (match (match qlk lv i with | .int v => some ((none : Option Prop), lv, .int v :: st, qrM m h0 M) | _ => none) with | some (P, lv2, st2, M2) => qand P (F2 lv2 st2 M2) | none => False)
    generalize qlk lv i = w
    cases w <;> try (exact fun h => False.elim h)
    exact fun h => hF _ _ _ hl (qrs_c trivial hs) hm h
  | iload i =>
    show (match (match qlk lv i with | .int v => some ((none : Option Prop), lv, .int v :: st, M) | _ => none) with | some (P, lv2, st2, M2) => qand P (F lv2 st2 M2) | none => False) → (match (match qlk lv i with | .int v => some ((none : Option Prop), lv, .int v :: st, qrM m h0 M) | _ => none) with | some (P, lv2, st2, M2) => qand P (F2 lv2 st2 M2) | none => False)
    generalize qlk lv i = w
    cases w <;> try (exact fun h => False.elim h)
    exact fun h => hF _ _ _ hl (qrs_c trivial hs) hm h
  | aload_n i =>
    have hw := hl i
    show (match (match qlk lv i with | .ref v => some ((none : Option Prop), lv, .ref v :: st, M) | _ => none) with | some (P, lv2, st2, M2) => qand P (F lv2 st2 M2) | none => False) → (match (match qlk lv i with | .ref v => some ((none : Option Prop), lv, .ref v :: st, qrM m h0 M) | _ => none) with | some (P, lv2, st2, M2) => qand P (F2 lv2 st2 M2) | none => False)
    generalize qlk lv i = w at hw
    cases w <;> try (exact fun h => False.elim h)
    exact fun h => hF _ _ _ hl (qrs_c hw hs) hm h
  | iinc i n =>
    show (match (match qlk lv i with | .int v => some ((none : Option Prop), qst1 lv i (.int (v + Int32.ofInt n)), st, M) | _ => none) with | some (P, lv2, st2, M2) => qand P (F lv2 st2 M2) | none => False) → (match (match qlk lv i with | .int v => some ((none : Option Prop), qst1 lv i (.int (v + Int32.ofInt n)), st, qrM m h0 M) | _ => none) with | some (P, lv2, st2, M2) => qand P (F2 lv2 st2 M2) | none => False)
    generalize qlk lv i = w
    cases w <;> try (exact fun h => False.elim h)
    exact fun h => hF _ _ _ (qrl_st1 (v := .int _) hl trivial _) hs hm h
  | istore_n i =>
    rcases st with _ | ⟨w0, st⟩
    · exact fun h => False.elim h
    cases w0 <;> try (exact fun h => False.elim h)
    rename_i v
    exact fun h => hF _ _ _ (qrl_st1 (v := .int _) hl trivial _) (qrs_t hs) hm h
  | istore i =>
    rcases st with _ | ⟨w0, st⟩
    · exact fun h => False.elim h
    cases w0 <;> try (exact fun h => False.elim h)
    rename_i v
    exact fun h => hF _ _ _ (qrl_st1 (v := .int _) hl trivial _) (qrs_t hs) hm h
  | iadd =>
    rcases st with _ | ⟨w0, st⟩
    · exact fun h => False.elim h
    cases w0 <;> try (exact fun h => False.elim h)
    rename_i y
    rcases st with _ | ⟨w1, st⟩
    · exact fun h => False.elim h
    cases w1 <;> try (exact fun h => False.elim h)
    rename_i x
    exact fun h => hF _ _ _ hl (qrs_c trivial (qrs_t (qrs_t hs))) hm h
  | imul =>
    rcases st with _ | ⟨w0, st⟩
    · exact fun h => False.elim h
    cases w0 <;> try (exact fun h => False.elim h)
    rename_i y
    rcases st with _ | ⟨w1, st⟩
    · exact fun h => False.elim h
    cases w1 <;> try (exact fun h => False.elim h)
    rename_i x
    exact fun h => hF _ _ _ hl (qrs_c trivial (qrs_t (qrs_t hs))) hm h
  | iand =>
    rcases st with _ | ⟨w0, st⟩
    · exact fun h => False.elim h
    cases w0 <;> try (exact fun h => False.elim h)
    rename_i y
    rcases st with _ | ⟨w1, st⟩
    · exact fun h => False.elim h
    cases w1 <;> try (exact fun h => False.elim h)
    rename_i x
    exact fun h => hF _ _ _ hl (qrs_c trivial (qrs_t (qrs_t hs))) hm h
  | ishr =>
    rcases st with _ | ⟨w0, st⟩
    · exact fun h => False.elim h
    cases w0 <;> try (exact fun h => False.elim h)
    rename_i y
    rcases st with _ | ⟨w1, st⟩
    · exact fun h => False.elim h
    cases w1 <;> try (exact fun h => False.elim h)
    rename_i x
    exact fun h => hF _ _ _ hl (qrs_c trivial (qrs_t (qrs_t hs))) hm h
  | dup =>
    rcases st with _ | ⟨w0, st⟩
    · exact fun h => False.elim h
    cases w0 <;> try (exact fun h => False.elim h)
    · exact fun h => hF _ _ _ hl (qrs_c trivial hs) hm h
    · exact fun h => hF _ _ _ hl (qrs_c (hs _ List.mem_cons_self) hs) hm h
  | pop =>
    rcases st with _ | ⟨w0, st⟩
    · exact fun h => False.elim h
    cases w0 <;> try (exact fun h => False.elim h)
    · exact fun h => hF _ _ _ hl (qrs_t hs) hm h
    · exact fun h => hF _ _ _ hl (qrs_t hs) hm h
  | iaload =>
    rcases st with _ | ⟨w0, st⟩
    · exact fun h => False.elim h
    cases w0 <;> try (exact fun h => False.elim h)
    rename_i i
    rcases st with _ | ⟨w1, st⟩
    · exact fun h => False.elim h
    cases w1 <;> try (exact fun h => False.elim h)
    rename_i a
    have ha : a < m := hs (.ref a) (List.mem_cons_of_mem _ List.mem_cons_self)
    intro h
    refine ⟨qinR_r ha h.1, ?_⟩
    show F2 lv (.int (qI (qrM m h0 M) a i.toNatClampNeg) :: st) (qrM m h0 M)
    rw [qrM_I ha]
    exact hF _ _ _ hl (qrs_c trivial (qrs_t (qrs_t hs))) hm h.2
  | aaload =>
    rcases st with _ | ⟨w0, st⟩
    · exact fun h => False.elim h
    cases w0 <;> try (exact fun h => False.elim h)
    rename_i i
    rcases st with _ | ⟨w1, st⟩
    · exact fun h => False.elim h
    cases w1 <;> try (exact fun h => False.elim h)
    rename_i a
    have ha : a < m := hs (.ref a) (List.mem_cons_of_mem _ List.mem_cons_self)
    intro h
    refine ⟨h.1.imp (qin_r ha) (qin_r ha), ?_⟩
    show F2 lv (.ref (qP (qrM m h0 M) a i.toNatClampNeg) :: st) (qrM m h0 M)
    rw [qrM_P ha]
    have hz : ¬ (qsh M a).1 = 0 := by
      rcases h.1 with g | g <;> (have := g.1; omega)
    exact hF _ _ _ hl (qrs_c (hm a _ ha hz) (qrs_t (qrs_t hs))) hm h.2
  | iastore =>
    rcases st with _ | ⟨w0, st⟩
    · exact fun h => False.elim h
    cases w0 <;> try (exact fun h => False.elim h)
    rename_i v
    rcases st with _ | ⟨w1, st⟩
    · exact fun h => False.elim h
    cases w1 <;> try (exact fun h => False.elim h)
    rename_i i
    rcases st with _ | ⟨w2, st⟩
    · exact fun h => False.elim h
    cases w2 <;> try (exact fun h => False.elim h)
    rename_i a
    have ha : a < m := hs (.ref a) (List.mem_cons_of_mem _ (List.mem_cons_of_mem _ List.mem_cons_self))
    intro h
    refine ⟨qin_r ha h.1, ?_⟩
    show F2 lv st (qsI (qrM m h0 M) a i.toNatClampNeg v)
    rw [qrM_sI ha]
    exact hF _ _ _ hl (qrs_t (qrs_t (qrs_t hs))) hm h.2
  | arraylength =>
    rcases st with _ | ⟨w0, st⟩
    · exact fun h => False.elim h
    cases w0 <;> try (exact fun h => False.elim h)
    rename_i a
    have ha : a < m := hs (.ref a) List.mem_cons_self
    intro h
    refine ⟨by unfold qarr at *; rw [qrM_S ha]; exact h.1, ?_⟩
    show F2 lv (.int (Int32.ofNat (qsh (qrM m h0 M) a).2) :: st) (qrM m h0 M)
    rw [qrM_S ha]
    exact hF _ _ _ hl (qrs_c trivial (qrs_t hs)) hm h.2
  | getfield i =>
    rcases st with _ | ⟨w0, st⟩
    · exact fun h => False.elim h
    cases w0 <;> try (exact fun h => False.elim h)
    rename_i a
    have ha : a < m := hs (.ref a) List.mem_cons_self
    show (match (match qcp cl i with | (f, 0, _) => some (some (qob M a (f / 100)), lv, .int (qI M a (f % 100)) :: st, M) | (f, 1, _) => some (some (qob M a (f / 100)), lv, .ref (qP M a (f % 100)) :: st, M) | _ => none) with | some (P, lv2, st2, M2) => qand P (F lv2 st2 M2) | none => False) → (match (match qcp cl i with | (f, 0, _) => some (some (qob (qrM m h0 M) a (f / 100)), lv, .int (qI (qrM m h0 M) a (f % 100)) :: st, qrM m h0 M) | (f, 1, _) => some (some (qob (qrM m h0 M) a (f / 100)), lv, .ref (qP (qrM m h0 M) a (f % 100)) :: st, qrM m h0 M) | _ => none) with | some (P, lv2, st2, M2) => qand P (F2 lv2 st2 M2) | none => False)
    generalize qcp cl i = w
    rcases w with ⟨f, _ | _ | kd, z⟩
    · intro h
      refine ⟨qob_r ha h.1, ?_⟩
      show F2 lv (.int (qI (qrM m h0 M) a (f % 100)) :: st) (qrM m h0 M)
      rw [qrM_I ha]
      exact hF _ _ _ hl (qrs_c trivial (qrs_t hs)) hm h.2
    · intro h
      refine ⟨qob_r ha h.1, ?_⟩
      show F2 lv (.ref (qP (qrM m h0 M) a (f % 100)) :: st) (qrM m h0 M)
      rw [qrM_P ha]
      have hz : ¬ (qsh M a).1 = 0 := by
        have g : (qsh M a).1 = 20 + f / 100 := h.1
        omega
      exact hF _ _ _ hl (qrs_c (hm a _ ha hz) (qrs_t hs)) hm h.2
    · exact fun h => False.elim h
  | putfield i =>
    have hk : (qcp cl i).2.1 = 0 := Nat.eq_of_beq_eq_true hok
    rcases st with _ | ⟨w0, st⟩
    · exact fun h => False.elim h
    cases w0 <;> try (exact fun h => False.elim h)
    · rename_i v
      rcases st with _ | ⟨w1, st⟩
      · exact fun h => False.elim h
      cases w1 <;> try (exact fun h => False.elim h)
      rename_i a
      have ha : a < m := hs (.ref a) (List.mem_cons_of_mem _ List.mem_cons_self)
      show (match (match qcp cl i with | (f, 0, _) => some (some (qob M a (f / 100)), lv, st, qsI M a (f % 100) v) | _ => none) with | some (P, lv2, st2, M2) => qand P (F lv2 st2 M2) | none => False) → (match (match qcp cl i with | (f, 0, _) => some (some (qob (qrM m h0 M) a (f / 100)), lv, st, qsI (qrM m h0 M) a (f % 100) v) | _ => none) with | some (P, lv2, st2, M2) => qand P (F2 lv2 st2 M2) | none => False)
      generalize qcp cl i = w
      rcases w with ⟨f, _ | kd, z⟩
      · intro h
        refine ⟨qob_r ha h.1, ?_⟩
        show F2 lv st (qsI (qrM m h0 M) a (f % 100) v)
        rw [qrM_sI ha]
        exact hF _ _ _ hl (qrs_t (qrs_t hs)) hm h.2
      · exact fun h => False.elim h
    · rename_i v
      rcases st with _ | ⟨w1, st⟩
      · exact fun h => False.elim h
      cases w1 <;> try (exact fun h => False.elim h)
      rename_i a
      show (match (match qcp cl i with | (f, 1, _) => some (some (qob M a (f / 100)), lv, st, qsP M a (f % 100) v) | _ => none) with | some (P, lv2, st2, M2) => qand P (F lv2 st2 M2) | none => False) → (match (match qcp cl i with | (f, 1, _) => some (some (qob (qrM m h0 M) a (f / 100)), lv, st, qsP (qrM m h0 M) a (f % 100) v) | _ => none) with | some (P, lv2, st2, M2) => qand P (F2 lv2 st2 M2) | none => False)
      generalize qcp cl i = w at hk
      rcases w with ⟨f, kd, z⟩
      have hk : kd = 0 := hk
      subst hk
      exact fun h => False.elim h
  | getstatic i =>
    have hok : (Nat.blt (qcp cl i).1 64 && Nat.blt (qcp cl i).2.1 2) = true := hok
    rw [Bool.and_eq_true] at hok
    have hk : (qcp cl i).1 < 64 ∧ (qcp cl i).2.1 < 2 := ⟨Nat.le_of_ble_eq_true hok.1, Nat.le_of_ble_eq_true hok.2⟩
    show (match (match qcp cl i with | (v, 0, _) => some ((none : Option Prop), lv, .int (Int32.ofNat v) :: st, M) | (a, 1, _) => some (none, lv, .ref a :: st, M) | (a, 2, _) => some (none, lv, .ref (qP M a 0) :: st, M) | _ => none) with | some (P, lv2, st2, M2) => qand P (F lv2 st2 M2) | none => False) → (match (match qcp cl i with | (v, 0, _) => some ((none : Option Prop), lv, .int (Int32.ofNat v) :: st, qrM m h0 M) | (a, 1, _) => some (none, lv, .ref a :: st, qrM m h0 M) | (a, 2, _) => some (none, lv, .ref (qP (qrM m h0 M) a 0) :: st, qrM m h0 M) | _ => none) with | some (P, lv2, st2, M2) => qand P (F2 lv2 st2 M2) | none => False)
    generalize qcp cl i = w at hk
    rcases w with ⟨f, _ | _ | _ | kd, z⟩
    · exact fun h => hF _ _ _ hl (qrs_c trivial hs) hm h
    · exact fun h => hF _ _ _ hl (qrs_c (show f < m from Nat.lt_of_lt_of_le hk.1 hm0) hs) hm h
    · exact absurd hk.2 (by show ¬ 2 < 2; omega)
    · exact fun h => False.elim h
  | _ => first | exact fun h => False.elim h | exact Bool.noConfusion hok
theorem qrs_take {n : Nat} (hs : qrs m st) : qrs m (st.take n).reverse := fun v hv => hs v (List.mem_of_mem_take (List.mem_reverse.mp hv))
theorem qrs_drop {n : Nat} (hs : qrs m st) : qrs m (st.drop n) := fun v hv => hs v (List.mem_of_mem_drop hv)
theorem qrc_r {k' : Nat} : ∀ {vs : List Value}, qrs m vs → qrc M k' vs → qrc (qrM m h0 M) k' vs
  | [], _, h => h
  | .ref a :: _, hs, h => qob_r (hs (.ref a) List.mem_cons_self) h
  | .int _ :: _, _, h => h
  | .long _ :: _, _, h => h
  | .float _ :: _, _, h => h
  | .double _ :: _, _, h => h
  | .null :: _, _, h => h
  | .retAddr _ :: _, _, h => h
set_option maxHeartbeats 4000000 in
theorem qres (hm0 : 64 ≤ m) {K : Nat → Bool} (hK : ∀ k, K k = true → qha k = [] ∧ ∀ pc ins nx tg, qcd k pc = some (ins, nx, tg) → qri K (qcl k) ins = true) : ∀ (n : Nat) {d k pc : Nat} {lv : qV} {st : List Value} {M : qM} {Q : qR → Prop}, K k = true → qrl m lv → qrs m st → qrW m M →
    qX n d k pc lv st M Q → qX n d k pc lv st (qrM m h0 M) (fun R => ∃ R', Q R' ∧ qrk m R' ∧ R = qrR m h0 R')
  | 0, _, _, _, _, _, _, _, _, _, _, _, h => h
  | n + 1, d, k, pc, lv, st, M, Q, hk, hl, hs, hm, h => by
    obtain ⟨hha, hins⟩ := hK k hk
    have ih := @qres hm0 K hK n
    have hbk : ∀ {nx : Nat} {rest : List Value}, qrs m rest → ∀ R, (∃ R', qbk k pc nx lv rest (fun pc' lv' st' M' => qX n d k pc' lv' st' M' Q) Q R' ∧ qrk m R' ∧ R = qrR m h0 R') →
        qbk k pc nx lv rest (fun pc' lv' st' M' => qX n d k pc' lv' st' M' (fun R => ∃ R', Q R' ∧ qrk m R' ∧ R = qrR m h0 R')) (fun R => ∃ R', Q R' ∧ qrk m R' ∧ R = qrR m h0 R') R := by
      intro nx rest hr R h
      obtain ⟨R', h1, h2, rfl⟩ := h
      match R', h1, h2 with
      | .inl (some v, M1), h1, h2 => exact ih hk hl (qrs_c h2.1 hr) h2.2 h1
      | .inl (none, M1), h1, h2 => exact ih hk hl hr h2 h1
      | .inr (e, M1), h1, h2 =>
        unfold qbk at h1 ⊢
        rw [hha] at h1
        show (match qha k with | [] => _ | t => _)
        rw [hha]
        exact ⟨_, h1, h2, rfl⟩
    show qG _ _ _ d k pc lv st (qrM m h0 M) _
    have h : qG (fun pc' lv' st' M' => qX n d k pc' lv' st' M' Q) (fun _ _ _ _ => True) (fun k' as M' Q' _ => qX n (d - 1) k' 0 (lv_args 0 as) [] M' Q') d k pc lv st M Q := h
    unfold qG at h ⊢
    cases hc : qcd k pc with
    | none => rw [hc] at h; exact h.elim
    | some o =>
      obtain ⟨ins, nx, tg⟩ := o
      have hok := hins pc ins nx tg hc
      rw [hc] at h
      have hloc := qlo_r (m := m) (h0 := h0) (M := M) (lv := lv) (st := st) hm0 hok hl hs hm (F := fun lv' st' M' => qX n d k nx lv' st' M' Q) (F2 := fun lv' st' M' => qX n d k nx lv' st' M' (fun R => ∃ R', Q R' ∧ qrk m R' ∧ R = qrR m h0 R')) (fun lv2 st2 M2 a1 a2 a3 a4 => ih hk a1 a2 a3 a4)
      cases ins with
      | goto t => exact ih hk hl hs hm h
      | ifCond c t =>
        dsimp only at h ⊢
        rcases st with _ | ⟨w, st⟩
        · exact h.elim
        cases w <;> try (exact h.elim)
        exact ⟨fun e => ih hk hl (qrs_t hs) hm (h.1 e), fun e => ih hk hl (qrs_t hs) hm (h.2 e)⟩
      | if_icmp c t =>
        dsimp only at h ⊢
        rcases st with _ | ⟨w, st⟩
        · exact h.elim
        cases w <;> try (exact h.elim)
        rcases st with _ | ⟨w2, st⟩
        · exact h.elim
        cases w2 <;> try (exact h.elim)
        exact ⟨fun e => ih hk hl (qrs_t (qrs_t hs)) hm (h.1 e), fun e => ih hk hl (qrs_t (qrs_t hs)) hm (h.2 e)⟩
      | ireturn =>
        dsimp only at h ⊢
        rcases st with _ | ⟨w, st⟩
        · exact h.elim
        cases w <;> try (exact h.elim)
        rcases st with _ | ⟨w2, st⟩
        · exact ⟨h.1, _, h.2, ⟨trivial, hm⟩, rfl⟩
        · exact h.elim
      | return_ =>
        dsimp only at h ⊢
        rcases st with _ | ⟨w, st⟩
        · exact ⟨h.1, _, h.2, hm, rfl⟩
        · exact h.elim
      | invokevirtual i =>
        dsimp only at h ⊢
        have hk' : K (qcp (qcl k) i).1 = true := hok
        generalize qcp (qcl k) i = w at h hk' ⊢
        obtain ⟨k', ar, z⟩ := w
        dsimp only at h hk' ⊢
        generalize qck ar st = b at h ⊢
        cases b with
        | false => exact h.elim
        | true =>
          refine ⟨h.1, qrc_r (qrs_take hs) h.2.1, ?_⟩
          exact qX_mono n n (Nat.le_refl n) (hbk (qrs_drop hs)) (ih hk' (qrl_args _ _ (qrs_take hs)) (fun v hv => nomatch hv) hm h.2.2)
      | invokestatic i =>
        dsimp only at h ⊢
        have hk' : K (qcp (qcl k) i).1 = true := hok
        generalize qcp (qcl k) i = w at h hk' ⊢
        obtain ⟨k', ar, z⟩ := w
        dsimp only at h hk' ⊢
        generalize qck ar st = b at h ⊢
        cases b with
        | false => exact h.elim
        | true =>
          refine ⟨h.1, ?_⟩
          exact qX_mono n n (Nat.le_refl n) (hbk (qrs_drop hs)) (ih hk' (qrl_args _ _ (qrs_take hs)) (fun v hv => nomatch hv) hm h.2)
      | iconst _ => exact hloc h
      | bipush _ => exact hloc h
      | sipush _ => exact hloc h
      | iload_n _ => exact hloc h
      | iload _ => exact hloc h
      | aload_n _ => exact hloc h
      | istore_n _ => exact hloc h
      | istore _ => exact hloc h
      | iinc _ _ => exact hloc h
      | iadd => exact hloc h
      | imul => exact hloc h
      | iand => exact hloc h
      | ishr => exact hloc h
      | iaload => exact hloc h
      | iastore => exact hloc h
      | aaload => exact hloc h
      | arraylength => exact hloc h
      | dup => exact hloc h
      | pop => exact hloc h
      | getfield _ => exact hloc h
      | putfield _ => exact hloc h
      | getstatic _ => exact hloc h
      | _ => exact Bool.noConfusion hok
/-- the code of a set of methods -/
def qrK (K : Nat → Bool) (k : Nat) : Bool := (qtab k).all (fun l => l.all (fun q => qri K (qcl k) q.2.1))
theorem qrd_mem {α : Type} : ∀ {l : List (Nat × α)} {i : Nat} {e : α}, qfd l i = some e → ∃ q ∈ l, q.2 = e
  | [], _, _, h => nomatch h
  | (j, e') :: r, i, e, h => by
    rw [qfd] at h
    cases hb : Nat.beq j i with
    | true =>
      rw [hb] at h
      injection h with h
      exact ⟨(j, e'), List.mem_cons_self, h⟩
    | false =>
      rw [hb] at h
      obtain ⟨q, h1, h2⟩ := qrd_mem (l := r) h
      exact ⟨q, List.mem_cons_of_mem _ h1, h2⟩
theorem qrK_ok {K : Nat → Bool} {k : Nat} (h : qrK K k = true) : ∀ pc ins nx tg, qcd k pc = some (ins, nx, tg) → qri K (qcl k) ins = true := fun pc ins nx tg hc => by
  unfold qcd at hc
  split at hc
  · rename_i l hl
    obtain ⟨q, h1, h2⟩ := qrd_mem hc
    have h3 := List.all_eq_true.mp (List.all_eq_true.mp h l (List.mem_of_getElem? hl)) q h1
    rw [h2] at h3
    exact h3
  · exact nomatch hc
/-- the class' methods behind its constructor, and the reference's -/
def kC (k : Nat) : Bool := Nat.beq k 37 || Nat.beq k 38 || Nat.beq k 52 || Nat.beq k 53 || Nat.beq k 145 || Nat.beq k 146 || Nat.beq k 147
def kM (k : Nat) : Bool := Nat.beq k 165 || Nat.beq k 168 || Nat.beq k 171 || Nat.beq k 200 || Nat.beq k 201 || Nat.beq k 202 || Nat.beq k 203
theorem kC_ok : ∀ k, kC k = true → qha k = [] ∧ ∀ pc ins nx tg, qcd k pc = some (ins, nx, tg) → qri kC (qcl k) ins = true := fun k hk => by
  have : k = 37 ∨ k = 38 ∨ k = 52 ∨ k = 53 ∨ k = 145 ∨ k = 146 ∨ k = 147 := by
    unfold kC at hk
    simp only [Bool.or_eq_true] at hk
    rcases hk with (((((h | h) | h) | h) | h) | h) | h <;> (have := Nat.eq_of_beq_eq_true h; omega)
  rcases this with rfl | rfl | rfl | rfl | rfl | rfl | rfl <;> exact ⟨rfl, qrK_ok (by decide +kernel)⟩
theorem kM_ok : ∀ k, kM k = true → qha k = [] ∧ ∀ pc ins nx tg, qcd k pc = some (ins, nx, tg) → qri kM (qcl k) ins = true := fun k hk => by
  have : k = 165 ∨ k = 168 ∨ k = 171 ∨ k = 200 ∨ k = 201 ∨ k = 202 ∨ k = 203 := by
    unfold kM at hk
    simp only [Bool.or_eq_true] at hk
    rcases hk with (((((h | h) | h) | h) | h) | h) | h <;> (have := Nat.eq_of_beq_eq_true h; omega)
  rcases this with rfl | rfl | rfl | rfl | rfl | rfl | rfl <;> exact ⟨rfl, qrK_ok (by decide +kernel)⟩
end RES
