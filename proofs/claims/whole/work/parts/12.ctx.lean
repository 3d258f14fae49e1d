/-! ===== what the tables say, and what a state knows ===== -/
def qW : List Cond := lw_tbl.filter goodWord
def qen (e : Nat) : String := if e = 0 then "java/util/NoSuchElementException" else "java/lang/IllegalArgumentException"
def qvw (c : Nat) : vw_C := vwCl.getD c ("", fun _ => ("", "", "", false), 0)
/-- a static field: its class, name, descriptor; what it holds -/
def qsn (x y : Nat) : String × String × String := match y with
  | 0 => ("java/lang/String", "COMPACT_STRINGS", "Z")
  | 1 => if x = 2 then ("PuppetHeirs$Law", "WITHOUT", "[I") else if x = 3 then ("PuppetHeirs$Caster", "SINGLES", "[I") else ("PuppetHeirs$Caster", "PAIRS", "[I")
  | _ => ("jdk/internal/util/Preconditions", "SIOOBE_FORMATTER", "Ljava/util/function/BiFunction;")
def qsv (E : qEnv) (x y : Nat) : Value := match y with
  | 0 => .int 1
  | 1 => va_rf (qrf E x)
  | _ => va_rf (qrf E (qP (eM E) 6 0))
/-- the words of a pool entry -/
def qcpW (cl : Nat) (e : Nat × Nat × Nat × Nat) : List Cond := match e with
  | (i, x, y, z) => match z / 10 with
    | 1 => if x / 100 = 9 then [.fieldLink (qcn cl) i "java/lang/String" (if x = 900 then "value" else "coder") (if x = 900 then "[B" else "B")]
      else if z % 10 = 0 then [.fieldLink (qcn cl) i ((qvw (x / 100)).2.1 (x % 100)).1 ((qvw (x / 100)).2.1 (x % 100)).2.1 ((qvw (x / 100)).2.1 (x % 100)).2.2.1]
      else []
    | 2 => [.fieldLink (qcn cl) i (qsn x y).1 (qsn x y).2.1 (qsn x y).2.2]
    | 3 => if x = 999 then [.methodLink (qcn cl) i objectInit] else if z % 10 = 0 then [.methodLink (qcn cl) i (qmn x)] else []
    | 4 => if x < 9 then [.classLink (qcn cl) i (qvw x).1] else if x = 404 then [.classLink (qcn cl) i "[[I"] else if x = 100 then [.classLink (qcn cl) i (qen 0)] else [.classLink (qcn cl) i (qen 1)]
    | 5 => if y = 0 then [.constant (qcn cl) i (Int32.ofNat x)] else [.constantLong (qcn cl) i (Int64.ofInt ((x : Int) - 1))]
    | _ => []
/-- the nest words of a pool entry -/
def qcpN (cl : Nat) (e : Nat × Nat × Nat × Nat) : List Cond := match e with
  | (i, x, _, z) => match z with
    | 11 => [.fieldLinkNest (qcn cl) i ((qvw (x / 100)).2.1 (x % 100)).1 ((qvw (x / 100)).2.1 (x % 100)).2.1 ((qvw (x / 100)).2.1 (x % 100)).2.2.1 "PuppetHeirs"]
    | 31 => [.methodLinkNest (qcn cl) i (qmn x) "PuppetHeirs"]
    | _ => []
def qNW : List Cond := (List.range 15).flatMap (fun cl => (qcpl cl).flatMap (qcpN cl))
/-- a method's first word, its others -/
def qcw (k : Nat) : Cond := match qha k with
  | [] => .code (qmn k) (qcc k) (qml k) (qrt k)
  | h => .codeWith (qmn k) (qcc k) (qml k) (qrt k) h
def qmw (k : Nat) : List Cond := qcw k :: .initialized (qmn k).cls :: (match qfl k with
  | 0 => [.static (qmn k)]
  | 1 => [.instanceMethod (qmn k), .selects (qmn k).cls (qmn k) (qmn k)]
  | _ => [.instanceMethod (qmn k)])
/-- String constants: class, entry, text, address -/
def qSR : List (String × Nat × String × Nat) := (List.range 15).flatMap (fun cl => (qcpl cl).filterMap (fun e => match e with
  | (i, x, _, z) => if z = 60 then some (qcn cl, i, qstx x, x) else none))
/-- what a state knows, beside its words -/
def qST (E : qEnv) (U : State) : Prop := ∀ x y, (y = 0 ∨ y = 1 ∧ (x = 2 ∨ x = 3 ∨ x = 4) ∨ y = 2) → va_Z (qsn x y).1 (qsn x y).2.1 (qsn x y).2.2 (qsv E x y) (qA E) U (eH E)
def qAA (U : State) : Prop := (Cond.arrayOver (.array .int)).before #[] U = true
def qSF (E : qEnv) (U : State) : Prop := va_K (eD E) vwCl (qtys E) U ∧ qRO E U ∧ (∀ w ∈ qNW, va_Nw w U) ∧ (∀ q ∈ qSR, vk_R q.1 q.2.1 q.2.2.1 (qtr E q.2.2.2) U) ∧ qST E U ∧
  va_AO RX5 U ∧ qAA U ∧ (va_Nc (qen 1) (qen 0) U ∧ va_Nc (qen 0) (qen 1) U) ∧ vx_Zq Bundle.tN "UNASSIGNED_STACK" Bundle.steD (qA E) U (eH E) ∧ vx_Zq Bundle.tN "SUPPRESSED_SENTINEL" Bundle.listD (qA E) U (eH E)
theorem qAA_moved {u U : State} (hvm : u.vm.Alike U.vm) (h : qAA u) : qAA U := by
  have h1 : (Cond.arrayOver (.array .int)).before #[] (u.setVm U.vm) = true := by
    rw [Cond.arrayOver_setVmC hvm]
    exact h
  unfold qAA
  unfold Cond.before Cond.holds at h1 ⊢
  simp only [Cond.value] at h1 ⊢
  exact h1
theorem qRO_moved {E : qEnv} {u U : State} (hvm : u.vm.Alike U.vm) (h : qRO E u) : qRO E U := fun a ha => by
  have h1 := h a ha
  generalize (qsh (eM E) a).1 = t at h1 ⊢
  split at h1
  · trivial
  · exact va_T.moved hvm h1
  · exact va_T.moved hvm h1
  · exact ⟨va_O.moved hvm h1.1, va_OF.moved hvm h1.2.1, va_OF.moved hvm h1.2.2⟩
  · exact h1.elim
theorem qNW_warm {s U : State} (hW : s.WarmedH U.vm) (h : ∀ w ∈ qNW, va_Nw w s) : ∀ w ∈ qNW, va_Nw w U := fun w hw => by
  have h1 := h w hw
  obtain ⟨cl, -, h2⟩ := List.mem_flatMap.mp hw
  obtain ⟨⟨i, x, y, z⟩, -, h3⟩ := List.mem_flatMap.mp h2
  unfold qcpN at h3
  dsimp only at h3
  split at h3
  · rw [List.mem_singleton.mp h3] at h1 ⊢
    exact va_Nw.warmF hW h1
  · rw [List.mem_singleton.mp h3] at h1 ⊢
    exact va_Nw.warmM hW h1
  · cases h3
theorem qSF_warm {E : qEnv} {s U : State} (hW : s.WarmedH U.vm) (h : qSF E s) : qSF E U := by
  obtain ⟨h1, h2, h3, h4, h5, h6, h7, h8, h9, h10⟩ := h
  have ha := hW.alike
  exact ⟨h1.moved ha, qRO_moved ha h2, qNW_warm hW h3, fun q hq => vk_R.warm hW (h4 q hq), fun x y hxy => va_Z.moved ha (h5 x y hxy), h6.moved ha, qAA_moved ha h7, ⟨h8.1.moved ha, h8.2.moved ha⟩, vx_Zq.moved ha h9, vx_Zq.moved ha h10⟩
theorem qSF_same {E : qEnv} {s U : State} (hv : U.vm = s.vm) (h : qSF E s) : qSF E U := by
  obtain ⟨h1, h2, h3, h4, h5, h6, h7, h8, h9, h10⟩ := h
  have ha : s.vm.Alike U.vm := by rw [hv]; exact Vm.Alike.refl _
  refine ⟨h1.moved ha, qRO_moved ha h2, fun w hw => ?_, fun q hq => vk_R.same hv (h4 q hq), fun x y hxy => va_Z.moved ha (h5 x y hxy), h6.moved ha, qAA_moved ha h7, ⟨h8.1.moved ha, h8.2.moved ha⟩, vx_Zq.moved ha h9, vx_Zq.moved ha h10⟩
  have hot : w.onTables = true := by
    obtain ⟨cl, -, h2⟩ := List.mem_flatMap.mp hw
    obtain ⟨⟨i, x, y, z⟩, -, h3⟩ := List.mem_flatMap.mp h2
    unfold qcpN at h3
    dsimp only at h3
    split at h3
    · rw [List.mem_singleton.mp h3]; rfl
    · rw [List.mem_singleton.mp h3]; rfl
    · cases h3
  exact va_Nw.same hot hv.symm (h3 w hw)
