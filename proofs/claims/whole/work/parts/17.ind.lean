/-! ===== the counters grow; the contract of every run ===== -/
def qleM (M M' : qM) : Prop := qce M ≤ qce M' ∧ qus M ≤ qus M'
theorem qleM_rf (M : qM) : qleM M M := ⟨Nat.le_refl _, Nat.le_refl _⟩
theorem qleM_tr {A B C : qM} (h : qleM A B) (h' : qleM B C) : qleM A C := ⟨Nat.le_trans h.1 h'.1, Nat.le_trans h.2 h'.2⟩
theorem qleM_mk (M : qM) (t n : Nat) : qleM M (qmk M t n) := ⟨Nat.le_add_right _ _, Nat.le_add_right _ _⟩
theorem qleM_mm (M : qM) (n k : Nat) : qleM M (qmm M n k) := ⟨Nat.le_add_right _ _, Nat.le_add_right _ _⟩
theorem qleM_th (M : qM) : qleM M (qth M) := ⟨Nat.le_add_right _ _, Nat.le_add_right _ _⟩
set_option maxHeartbeats 4000000 in
theorem qlo_le {cl : Nat} {ins : Jvm.ClassFile.Instr} {lv lv' : qV} {st st' : List Value} {M M' : qM} {P : Option Prop} (h : qlo cl ins lv st M = some (P, lv', st', M')) : qleM M M' := by
  unfold qlo at h
  split at h <;> (try split at h) <;> (try split at h) <;>
    first
    | (cases h; done)
    | (cases h; exact qleM_rf _)
    | (cases h; exact qleM_mk _ _ _)
    | (cases h; exact qleM_mm _ _ _)
def qex2 : qR → Prop
  | .inl _ => True
  | .inr (e, _) => e < 2
theorem qsw_le {x : Int32} {F : Nat → Prop} {d : Nat} : ∀ l : List (Int × Nat), qsw x F d l → ∃ t, F t := fun l h => (qsw_det l h).elim fun t h => ⟨t, h.1⟩
theorem qbk_le {k pc nx : Nat} {lv : qV} {rest : List Value} {F : Nat → qV → List Value → qM → Prop} {Q : qR → Prop} {R : qR} (h : qbk k pc nx lv rest F Q R) :
    (∃ a b c, F a b c (qRM R)) ∨ Q R := by
  match R with
  | .inl (some v, M) => exact Or.inl ⟨_, _, _, h⟩
  | .inl (none, M) => exact Or.inl ⟨_, _, _, h⟩
  | .inr (e, M) =>
    unfold qbk at h
    dsimp only at h
    split at h
    · exact Or.inr h
    · split at h
      · exact h.elim
      · split at h
        · exact Or.inl ⟨_, _, _, h⟩
        · exact Or.inl ⟨_, _, _, h⟩
        · exact h.elim
set_option maxHeartbeats 4000000 in
theorem qG_le {F FB : Nat → qV → List Value → qM → Prop} {C : Nat → List Value → qM → (qR → Prop) → (qR → Prop) → Prop} {d k pc : Nat} {lv : qV} {st : List Value} {M : qM} {Q : qR → Prop} (h : qG F FB C d k pc lv st M Q) :
    (∃ a b c e, F a b c e ∧ qleM M e) ∨ (∃ R, Q R ∧ qleM M (qRM R) ∧ qex2 R) ∨ (∃ k' as nx rest, C k' as M (qbk k pc nx lv rest F Q) (qbk k pc nx lv rest FB Q)) := by
  unfold qG at h
  generalize qcd k pc = o at h
  match o with
  | none => exact h.elim
  | some (ins, nx, tg) =>
    dsimp only at h
    split at h
    · exact Or.inl ⟨_, _, _, _, h, qleM_rf _⟩
    · rename_i c _
      split at h
      · rename_i x r
        by_cases e : qc0 c x
        · exact Or.inl ⟨_, _, _, _, h.1 e, qleM_rf _⟩
        · exact Or.inl ⟨_, _, _, _, h.2 e, qleM_rf _⟩
      · exact h.elim
    · rename_i c _
      split at h
      · rename_i y x r
        by_cases e : qc2 c x y
        · exact Or.inl ⟨_, _, _, _, h.1 e, qleM_rf _⟩
        · exact Or.inl ⟨_, _, _, _, h.2 e, qleM_rf _⟩
      · exact h.elim
    · split at h
      · rename_i a r
        by_cases e : a = 0
        · exact Or.inl ⟨_, _, _, _, h.1 e, qleM_rf _⟩
        · exact Or.inl ⟨_, _, _, _, h.2 e, qleM_rf _⟩
      · exact h.elim
    · split at h
      · obtain ⟨t, h1⟩ := qsw_le _ h
        exact Or.inl ⟨_, _, _, _, h1, qleM_rf _⟩
      · exact h.elim
    · split at h
      · obtain ⟨t, h1⟩ := qsw_le _ h
        exact Or.inl ⟨_, _, _, _, h1, qleM_rf _⟩
      · exact h.elim
    · split at h
      · exact Or.inr (Or.inl ⟨_, h.2, qleM_rf _, trivial⟩)
      · exact h.elim
    · split at h
      · exact Or.inr (Or.inl ⟨_, h.2, qleM_rf _, trivial⟩)
      · exact h.elim
    · split at h
      · exact Or.inr (Or.inl ⟨_, h.2, qleM_rf _, trivial⟩)
      · exact h.elim
    · split at h
      · split at h
        · exact Or.inr (Or.inl ⟨_, h.2, qleM_th _, (by decide : 0 < 2)⟩)
        · exact h.elim
      · split at h
        · exact Or.inr (Or.inl ⟨_, h.2, qleM_th _, (by decide : 1 < 2)⟩)
        · exact h.elim
      · split at h
        · rename_i hq
          exact Or.inl ⟨_, _, _, _, (qand_det h).1, qlo_le hq⟩
        · exact h.elim
    · split at h
      · exact Or.inr (Or.inr ⟨_, _, _, _, h.2.2⟩)
      · exact h.elim
    · split at h
      · exact Or.inr (Or.inr ⟨_, _, _, _, h.2⟩)
      · exact h.elim
    · split at h
      · split at h
        · split at h
          · exact Or.inl ⟨_, _, _, _, h.2, qleM_rf _⟩
          · exact h.elim
        · exact h.elim
      · split at h
        · exact Or.inr (Or.inr ⟨_, _, _, _, h.2.2⟩)
        · exact h.elim
    · split at h
      · rename_i hq
        exact Or.inl ⟨_, _, _, _, (qand_det h).1, qlo_le hq⟩
      · exact h.elim
theorem qX_le : ∀ (n : Nat) {d k pc : Nat} {lv : qV} {st : List Value} {M : qM} {Q : qR → Prop}, qX n d k pc lv st M Q → ∃ R, Q R ∧ qleM M (qRM R) ∧ qex2 R
  | 0, _, _, _, _, _, _, _, h => h.elim
  | n + 1, d, k, pc, lv, st, M, Q, h => by
    rcases qG_le h with ⟨a, b, c, e, h1, h2⟩ | ⟨R, h1, h2, h3⟩ | ⟨k', as, nx, rest, h1⟩
    · obtain ⟨R, h3, h4, h5⟩ := qX_le n h1
      exact ⟨R, h3, qleM_tr h2 h4, h5⟩
    · exact ⟨R, h1, h2, h3⟩
    · obtain ⟨R1, h3, h4, h7⟩ := qX_le n h1
      rcases qbk_le h3 with ⟨a, b, c, g1⟩ | g1
      · obtain ⟨R, h5, h6, h8⟩ := qX_le n g1
        exact ⟨R, h5, qleM_tr h4 h6, h8⟩
      · exact ⟨R1, g1, h4, h7⟩
theorem qX_leR {n d k pc : Nat} {lv : qV} {st : List Value} {M : qM} {R : qR} (h : qX n d k pc lv st M (fun r => r = R)) : qleM M (qRM R) := by
  obtain ⟨R', rfl, h2, -⟩ := qX_le n h
  exact h2
theorem qX_ex2 {n d k pc : Nat} {lv : qV} {st : List Value} {M : qM} {R : qR} (h : qX n d k pc lv st M (fun r => r = R)) : qex2 R := by
  obtain ⟨R', rfl, -, h2⟩ := qX_le n h
  exact h2
theorem qLok_catch {E : qEnv} {ls ls' : Array Slot} {nL : Nat} {lv : qV} (h : qLok E ls nL lv) {i : Nat} {w : Value}
    (h' : lv_has ls' nL ((i, w) :: (qls E nL lv).filter (fun q => !(q.1 == i) && !(q.1 + 1 == i && q.2.category == 2)))) : qLok E ls' nL (qclr (qcut lv i) i) := by
  refine ⟨h'.1, h'.2.1, fun j hd => ?_⟩
  rw [qlk_clr, qlk_cut] at hd ⊢
  by_cases e : i = j
  · rw [if_pos e] at hd
    exact hd.elim
  · rw [if_neg e] at hd ⊢
    by_cases e2 : j + 1 = i ∧ (qlk lv j).category = 2
    · rw [if_pos e2] at hd
      exact hd.elim
    · rw [if_neg e2] at hd ⊢
      refine h'.2.2 (j, qtv E (qlk lv j)) (List.mem_cons_of_mem _ (List.mem_filter.mpr ⟨qls_mem.mpr ⟨qLok_lt h hd, hd, rfl⟩, ?_⟩))
      have e3 : ¬ j = i := fun q => e q.symm
      simp only [qtv_cat]
      by_cases e4 : j + 1 = i
      · have e5 : ¬ (qlk lv j).category = 2 := fun q => e2 ⟨e4, q⟩
        simp [e3, e5]
      · simp [e3, e4]
/-- who catches, out of the table -/
theorem qcat_spec {cl pc ex h : Nat} : ∀ t : List (Nat × Nat × Nat × Nat), qcat cl pc ex t = some h → ∃ pre x suf, t = pre ++ x :: suf ∧ x.2.2.1 = h ∧ (x.1 ≤ pc ∧ pc < x.2.1) ∧ (qcp cl x.2.2.2).1 = 100 + ex ∧ ∀ z ∈ pre, ¬ (z.1 ≤ pc ∧ pc < z.2.1) ∨ (qcp cl z.2.2.2).1 ≠ 100 + ex
  | [], h => by cases h
  | (f, t0, hh, c) :: r, h1 => by
    rw [qcat] at h1
    cases hb : (Nat.ble f pc && Nat.blt pc t0 && Nat.beq (qcp cl c).1 (100 + ex)) with
    | true =>
      rw [hb, cond_true] at h1
      have h1 : hh = h := Option.some.inj h1
      simp only [Bool.and_eq_true] at hb
      exact ⟨[], (f, t0, hh, c), r, rfl, h1, ⟨Nat.le_of_ble_eq_true hb.1.1, nlT hb.1.2⟩, nbT hb.2, fun z hz => by cases hz⟩
    | false =>
      rw [hb, cond_false] at h1
      obtain ⟨pre, x, suf, e1, e2, e3, e4, e5⟩ := qcat_spec r h1
      refine ⟨(f, t0, hh, c) :: pre, x, suf, by rw [e1]; rfl, e2, e3, e4, fun z hz => ?_⟩
      rcases List.mem_cons.mp hz with rfl | hz
      · by_cases g : f ≤ pc ∧ pc < t0
        · refine Or.inr (fun g2 => ?_)
          have g2 : (qcp cl c).1 = 100 + ex := g2
          rw [Nat.ble_eq.mpr g.1, qlT g.2, g2, qbT] at hb
          cases hb
        · exact Or.inl g
      · exact e5 z hz
