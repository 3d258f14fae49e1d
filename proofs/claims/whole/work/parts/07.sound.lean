/-! ===== the small machine is the machine: what its memory stands for ===== -/
/-- the kit's worlds, the size of the heap at the start, that heap, where the constants lie, the arrays' classes, the memory at the start -/
abbrev qEnv : Type := va_G × Nat × Heap × (Nat → Nat) × (Nat → ClassId) × qM
def eD (E : qEnv) : va_G := E.1
def eB (E : qEnv) : Nat := E.2.1
def eH (E : qEnv) : Heap := E.2.2.1
def eT (E : qEnv) : Nat → Nat := E.2.2.2.1
def eC (E : qEnv) : Nat → ClassId := E.2.2.2.2.1
def eM (E : qEnv) : qM := E.2.2.2.2.2
def qtr (E : qEnv) (a : Nat) : Nat := if a < 64 then eT E a else eB E + (a - 64)
def qrf (E : qEnv) (a : Nat) : Option Nat := if a = 0 then none else some (qtr E a)
def qtv (E : qEnv) : Value → Value
  | .ref a => va_rf (qrf E a)
  | v => v
def qty (c : Nat) : Nat → FieldType := match c with
  | 0 => tyX0 | 1 => tyX1 | 2 => tyX2 | 3 => tyX3 | 4 => tyX4 | 5 => tyX5 | 6 => tyX6 | 7 => tyX7 | 8 => tyX8
  | _ => fun _ => .int
def qfv (E : qEnv) (M : qM) (c a j : Nat) : Value := match qty c j with
  | .int => .int (qI M a j)
  | _ => va_rf (qrf E (qP M a j))
def qcell (E : qEnv) (M : qM) (a : Nat) : va_E := match (qsh M a).1 with
  | 1 => .inl (eC E 1, (qsh M a).2, .inl (qI M a))
  | 2 => .inl (eC E 2, (qsh M a).2, .inl (qI M a))
  | 3 => .inl (eC E 3, (qsh M a).2, .inr (.inl (qL M a)))
  | 4 => .inl (eC E 4, (qsh M a).2, .inr (.inr (.inr (.inr (fun j => qrf E (qP M a j))))))
  | 5 => .inl (eC E 5, (qsh M a).2, .inr (.inr (.inr (.inr (fun j => qrf E (qP M a j))))))
  | t => .inr (t - 20, (List.range (qNf (t - 20))).map (qfv E M (t - 20) a))
def qtag (t : Nat) : Prop := (1 ≤ t ∧ t ≤ 5) ∨ (20 ≤ t ∧ t < 29)
def qA (E : qEnv) : Nat → Prop := fun q => eB E ≤ q
def qHR (E : qEnv) (M : qM) (H : Heap) : Prop :=
  (qex M = true → H.size = eB E + (qnx M - 64)) ∧ eB E + (qnx M - 64) ≤ H.size ∧ 64 ≤ qnx M ∧ (∀ q : Nat, q < eB E → H[q]? = (eH E)[q]?) ∧
  (∀ a, a < 64 → qsh M a = qsh (eM E) a ∧ qI M a = qI (eM E) a ∧ qP M a = qP (eM E) a) ∧
  (∀ a, 64 ≤ a → (qsh M a).1 ≠ 0 → a < qnx M ∧ qtag (qsh M a).1 ∧ (qsh M a).2 < 2 ^ 31 ∧ va_at (eD E) vwCl (qtr E a, qcell E M a) H)
def qtys (E : qEnv) : List (ClassId × FieldType) := [(eC E 1, .int), (eC E 2, .boolean), (eC E 3, .long), (eC E 4, .array .int), (eC E 5, .object RX5)]
/-- what is only read -/
def qRO (E : qEnv) (U : State) : Prop := ∀ a, a < 64 → match (qsh (eM E) a).1 with
  | 0 => True
  | 11 => va_T .int (eT E a) (qsh (eM E) a).2 (fun j => .int (qI (eM E) a j)) (qA E) U (eH E)
  | 12 => va_T .byte (eT E a) (qsh (eM E) a).2 (fun j => .int (qI (eM E) a j)) (qA E) U (eH E)
  | 29 => va_O "java/lang/String" (eT E a) (qA E) U (eH E) ∧ va_OF "java/lang/String" "coder" "B" (.int (qI (eM E) a 1)) (eT E a) (qA E) U (eH E) ∧ va_OF "java/lang/String" "value" "[B" (va_rf (qrf E (qP (eM E) a 0))) (eT E a) (qA E) U (eH E)
  | _ => False
/-- the locals -/
def qdf : Value → Prop
  | .retAddr _ => False
  | _ => True
def qLok (E : qEnv) (ls : Array Slot) (nL : Nat) (lv : qV) : Prop := ls.size = nL ∧ lv_wf ls ∧ ∀ i, qdf (qlk lv i) → ls[i]? = some (.val (qtv E (qlk lv i)))
def qls (E : qEnv) (nL : Nat) (lv : qV) : List (Nat × Value) := (List.range nL).filterMap (fun i => match qlk lv i with
  | .retAddr _ => none
  | v => some (i, qtv E v))
theorem qtv_cat (E : qEnv) (v : Value) : (qtv E v).category = v.category := by
  cases v <;> try rfl
  rename_i a
  show (va_rf (qrf E a)).category = 1
  unfold qrf
  split <;> rfl
theorem qls_mem {E : qEnv} {nL : Nat} {lv : qV} {i : Nat} {w : Value} : (i, w) ∈ qls E nL lv ↔ i < nL ∧ qdf (qlk lv i) ∧ w = qtv E (qlk lv i) := by
  unfold qls
  rw [List.mem_filterMap]
  constructor
  · rintro ⟨j, hj, h⟩
    have hj := List.mem_range.mp hj
    generalize hv : qlk lv j = v at h
    cases v <;> simp at h <;> (obtain ⟨rfl, rfl⟩ := h; rw [hv]; exact ⟨hj, trivial, rfl⟩)
  · rintro ⟨h1, h2, rfl⟩
    refine ⟨i, List.mem_range.mpr h1, ?_⟩
    generalize qlk lv i = v at h2 ⊢
    cases v <;> first | rfl | exact h2.elim
theorem qLok_has {E : qEnv} {ls : Array Slot} {nL : Nat} {lv : qV} (h : qLok E ls nL lv) : lv_has ls nL (qls E nL lv) := by
  refine ⟨h.1, h.2.1, ?_⟩
  rintro ⟨i, w⟩ hq
  obtain ⟨h1, h2, rfl⟩ := qls_mem.mp hq
  exact h.2.2 i h2
theorem qLok_lt {E : qEnv} {ls : Array Slot} {nL : Nat} {lv : qV} (h : qLok E ls nL lv) {i : Nat} (hd : qdf (qlk lv i)) : i < nL := by
  have := lv_lt (h.2.2 i hd)
  rw [h.1] at this
  exact this
theorem qLok_st1 {E : qEnv} {ls ls' : Array Slot} {nL : Nat} {lv : qV} (h : qLok E ls nL lv) {i : Nat} {v : Value} (hi : i < nL)
    (h' : lv_has ls' nL ((i, qtv E v) :: (qls E nL lv).filter (fun q => !(q.1 == i) && !(q.1 + 1 == i && q.2.category == 2)))) : qLok E ls' nL (qst1 lv i v) := by
  refine ⟨h'.1, h'.2.1, fun j hd => ?_⟩
  unfold qst1 at hd ⊢
  rw [qlk_ins, qlk_cut] at hd ⊢
  by_cases e : i = j
  · subst e
    rw [if_pos rfl]
    exact h'.2.2 (i, qtv E v) List.mem_cons_self
  · rw [if_neg e] at hd ⊢
    by_cases e2 : j + 1 = i ∧ (qlk lv j).category = 2
    · rw [if_pos e2] at hd
      exact hd.elim
    · rw [if_neg e2] at hd ⊢
      refine h'.2.2 (j, qtv E (qlk lv j)) (List.mem_cons_of_mem _ (List.mem_filter.mpr ⟨qls_mem.mpr ⟨qLok_lt h hd, hd, rfl⟩, ?_⟩))
      have e3 : ¬ j = i := fun q => e q.symm
      simp only [qtv_cat]
      by_cases e4 : j + 1 = i
      · have e5 : ¬ (qlk lv j).category = 2 := fun q => e2 ⟨e4, q⟩
        simp [e3, e5]
      · simp [e3, e4]
theorem qLok_st2 {E : qEnv} {ls ls' : Array Slot} {nL : Nat} {lv : qV} (h : qLok E ls nL lv) {i : Nat} {v : Value} (hi : i + 1 < nL)
    (h' : lv_has ls' nL ((i, qtv E v) :: (qls E nL lv).filter (fun q => !(q.1 == i) && (!(q.1 == i + 1) && !(q.1 + 1 == i && q.2.category == 2))))) : qLok E ls' nL (qst2 lv i v) := by
  refine ⟨h'.1, h'.2.1, fun j hd => ?_⟩
  unfold qst2 at hd ⊢
  rw [qlk_ins, qlk_clr, qlk_cut] at hd ⊢
  by_cases e : i = j
  · subst e
    rw [if_pos rfl]
    exact h'.2.2 (i, qtv E v) List.mem_cons_self
  · rw [if_neg e] at hd ⊢
    by_cases e0 : i + 1 = j
    · rw [if_pos e0] at hd
      exact hd.elim
    · rw [if_neg e0] at hd ⊢
      by_cases e2 : j + 1 = i ∧ (qlk lv j).category = 2
      · rw [if_pos e2] at hd
        exact hd.elim
      · rw [if_neg e2] at hd ⊢
        refine h'.2.2 (j, qtv E (qlk lv j)) (List.mem_cons_of_mem _ (List.mem_filter.mpr ⟨qls_mem.mpr ⟨qLok_lt h hd, hd, rfl⟩, ?_⟩))
        have e3 : ¬ j = i := fun q => e q.symm
        have e6 : ¬ j = i + 1 := fun q => e0 q.symm
        simp only [qtv_cat]
        by_cases e4 : j + 1 = i
        · have e5 : ¬ (qlk lv j).category = 2 := fun q => e2 ⟨e4, q⟩
          simp [e3, e5, e6]
        · simp [e3, e4, e6]
theorem qLok_clr {E : qEnv} {ls : Array Slot} {nL : Nat} {lv : qV} (h : qLok E ls nL lv) (i : Nat) : qLok E ls nL (qclr lv i) := by
  refine ⟨h.1, h.2.1, fun j hd => ?_⟩
  rw [qlk_clr] at hd ⊢
  by_cases e : i = j
  · rw [if_pos e] at hd
    exact hd.elim
  · rw [if_neg e] at hd ⊢
    exact h.2.2 j hd
/-- at the entry -/
theorem qlk_args (E : qEnv) : ∀ (vs : List Value) (i j : Nat), qdf (qlk (lv_args i vs) j) → (j, qtv E (qlk (lv_args i vs) j)) ∈ lv_args i (vs.map (qtv E))
  | [], _, _, h => h.elim
  | v :: vs, i, j, h => by
    rw [lv_args, qlk_c] at h ⊢
    rw [List.map_cons, lv_args, qtv_cat]
    by_cases e : i = j
    · rw [if_pos e]
      rw [e]
      exact List.mem_cons_self
    · rw [if_neg e] at h ⊢
      exact List.mem_cons_of_mem _ (qlk_args E vs _ j h)
theorem qLok_entry {E : qEnv} {vs : List Value} {n : Nat} (h : (lg_sl (vs.map (qtv E))).length ≤ n) : qLok E ((lg_sl (vs.map (qtv E)) ++ List.replicate (n - (lg_sl (vs.map (qtv E))).length) Slot.unset).toArray) n (lv_args 0 vs) := by
  obtain ⟨h1, h2, h3⟩ := lv_entry (vs.map (qtv E)) h
  exact ⟨h1, h2, fun i hd => h3 _ (qlk_args E vs 0 i hd)⟩
