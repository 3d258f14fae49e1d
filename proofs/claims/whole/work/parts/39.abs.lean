/-! ===== what the family, a state, the law are; how the class holds them ===== -/
/-- counts (0: hands, puppets, acts, wear), 1 limp, 2 born, 3 death, 4 fall, 5 needs, 6 strings, 7 laughs, 8 sizes, 10+a orders, 20+h debts; 0 worked, 1 quarrels, 2 silent -/
abbrev qFam : Type := (Nat → Nat → Nat) × (Nat → Nat → Nat → Bool)
/-- 0 the year, 1 limp, 2 chose + 1, 3 strings, 4 last + 1, 5+h since + 1; works; dead -/
abbrev qSt : Type := (Nat → Nat → Nat) × (Nat → Nat → Bool) × (Nat → Bool)
def qWF (F : qFam) : Prop :=
  F.1 0 0 ≤ 9 ∧ F.1 0 1 ≤ 8 ∧ F.1 0 2 ≤ 6 ∧ F.1 0 3 ≤ 9 ∧
  (∀ h, h < F.1 0 0 → F.1 1 h ≤ 9 ∧ F.1 2 h ≤ 40 ∧ F.1 3 h ≤ 60) ∧
  (∀ p, p < F.1 0 1 → F.1 4 p ≤ 15 ∧ 1 ≤ F.1 5 p ∧ F.1 5 p ≤ 2 ∧ F.1 6 p ≤ 30) ∧
  (∀ a, a < F.1 0 2 → F.1 7 a ≤ 9 ∧ 1 ≤ F.1 8 a ∧ F.1 8 a ≤ 6 ∧ (∀ i, i < F.1 8 a → F.1 (10 + a) i < F.1 0 1) ∧ ∀ i, i < F.1 8 a → ∀ j, j < i → F.1 (10 + a) i ≠ F.1 (10 + a) j) ∧
  (∀ h g, F.1 (20 + h) g ≤ 999) ∧
  (∀ h p, F.2 0 h p = true → h < F.1 0 0 ∧ p < F.1 0 1 ∧ F.1 2 h = 0 ∧ F.2 1 h p = false) ∧
  (∀ h p, F.2 1 h p = true → h < F.1 0 0 ∧ p < F.1 0 1) ∧
  (∀ h g, F.2 2 h g = true → h < F.1 0 0 ∧ g < F.1 0 0 ∧ h ≠ g ∧ F.2 2 g h = true) ∧
  ∀ p, p < F.1 0 1 → cn 9 (fun h => F.2 0 h p) ≤ F.1 5 p
def qWS (F : qFam) (S : qSt) : Prop :=
  (∀ h p, S.2.1 h p = true → h < F.1 0 0 ∧ p < F.1 0 1) ∧ (∀ h, S.1 2 h ≤ 8) ∧ (∀ p, p < F.1 0 1 → S.1 3 p ≤ 30) ∧ ∀ p, S.1 4 p ≤ F.1 0 0
/-- the class' family at f -/
def qRF (F : qFam) (I : Nat → Nat → Int32) (f : Nat) : Prop :=
  I f 0 = qj (F.1 0 0) ∧ I f 8 = qj (F.1 0 1) ∧ I f 12 = qj (F.1 0 2) ∧ I f 16 = qj (F.1 0 3) ∧
  (∀ h, h < F.1 0 0 → I (f + 1) h = qj (F.1 1 h)) ∧ (∀ h, h < F.1 0 0 → I (f + 2) h = qj (F.1 2 h)) ∧ (∀ h, h < F.1 0 0 → I (f + 3) h = qj (F.1 3 h)) ∧
  (∀ h, h < 9 → I (f + 4) h = qj (bm 8 (F.2 0 h) : Nat)) ∧ (∀ h, h < 9 → I (f + 5) h = qj (bm 8 (F.2 1 h) : Nat)) ∧ (∀ h, h < 9 → I (f + 6) h = qj (bm 9 (F.2 2 h) : Nat)) ∧
  (∀ h g, h < 9 → g < 9 → I (f + 7 + 1 + h) g = qj (F.1 (20 + h) g)) ∧
  (∀ p, p < F.1 0 1 → I (f + 17) p = qj (F.1 4 p)) ∧ (∀ p, p < F.1 0 1 → I (f + 18) p = qj (F.1 5 p)) ∧ (∀ p, p < F.1 0 1 → I (f + 19) p = qj (F.1 6 p)) ∧
  (∀ a, a < F.1 0 2 → I (f + 20) a = qj (F.1 7 a)) ∧ (∀ a, a < 6 → I (f + 21) a = qj (F.1 8 a)) ∧ ∀ a i, a < 6 → i < F.1 8 a → I (f + 22 + 1 + a) i = qj (F.1 (10 + a) i)
/-- the class' state at s -/
def qRS (F : qFam) (I : Nat → Nat → Int32) (s : Nat) (S : qSt) : Prop :=
  I s 0 = qj (S.1 0 0) ∧ I s 1 = qj (bm 9 S.2.2 : Nat) ∧ (∀ h, h < F.1 0 0 → I (s + 1) h = qj (S.1 1 h)) ∧ (∀ h, h < 9 → I (s + 2) h = qj (bm 8 (S.2.1 h) : Nat)) ∧
  (∀ h, h < 9 → I (s + 3) h = qj ((S.1 2 h : Int) - 1)) ∧ (∀ h p, h < 9 → p < 8 → I (s + 4 + 1 + h) p = qj ((S.1 (5 + h) p : Int) - 1)) ∧
  (∀ p, p < F.1 0 1 → I (s + 14) p = qj (S.1 3 p)) ∧ ∀ p, p < 8 → I (s + 15) p = qj ((S.1 4 p : Int) - 1)
theorem qRF_cg {F : qFam} {I I' : Nat → Nat → Int32} {f : Nat} (h : qRF F I f) (e : ∀ a, f ≤ a → a < f + 29 → I' a = I a) : qRF F I' f := by
  obtain ⟨h1, h2, h3, h4, h5, h6, h7, h8, h9, h10, h11, h12, h13, h14, h15, h16, h17⟩ := h
  refine ⟨?_, ?_, ?_, ?_, ?_, ?_, ?_, ?_, ?_, ?_, ?_, ?_, ?_, ?_, ?_, ?_, ?_⟩
  · rw [e f (by omega) (by omega)]; exact h1
  · rw [e f (by omega) (by omega)]; exact h2
  · rw [e f (by omega) (by omega)]; exact h3
  · rw [e f (by omega) (by omega)]; exact h4
  · rw [e _ (by omega) (by omega)]; exact h5
  · rw [e _ (by omega) (by omega)]; exact h6
  · rw [e _ (by omega) (by omega)]; exact h7
  · rw [e _ (by omega) (by omega)]; exact h8
  · rw [e _ (by omega) (by omega)]; exact h9
  · rw [e _ (by omega) (by omega)]; exact h10
  · intro h g hh hg; rw [e _ (by omega) (by omega)]; exact h11 h g hh hg
  · rw [e _ (by omega) (by omega)]; exact h12
  · rw [e _ (by omega) (by omega)]; exact h13
  · rw [e _ (by omega) (by omega)]; exact h14
  · rw [e _ (by omega) (by omega)]; exact h15
  · rw [e _ (by omega) (by omega)]; exact h16
  · intro a i ha hi; rw [e _ (by omega) (by omega)]; exact h17 a i ha hi
theorem qRS_cg {F : qFam} {S : qSt} {I I' : Nat → Nat → Int32} {s : Nat} (h : qRS F I s S) (e : ∀ a, s ≤ a → a < s + 16 → I' a = I a) : qRS F I' s S := by
  obtain ⟨h1, h2, h3, h4, h5, h6, h7, h8⟩ := h
  refine ⟨?_, ?_, ?_, ?_, ?_, ?_, ?_, ?_⟩
  · rw [e s (by omega) (by omega)]; exact h1
  · rw [e s (by omega) (by omega)]; exact h2
  · rw [e _ (by omega) (by omega)]; exact h3
  · rw [e _ (by omega) (by omega)]; exact h4
  · rw [e _ (by omega) (by omega)]; exact h5
  · intro h p hh hp; rw [e _ (by omega) (by omega)]; exact h6 h p hh hp
  · rw [e _ (by omega) (by omega)]; exact h7
  · rw [e _ (by omega) (by omega)]; exact h8
/-! the tools of loops -/
theorem upto {P : Nat → Prop} (n : Nat) (he : P n) (hs : ∀ i, i < n → P (i + 1) → P i) : ∀ i, i ≤ n → P i := by
  have h : ∀ m i, i + m = n → P i := by
    intro m
    induction m with
    | zero => intro i hi; have e : i = n := by omega
              subst e; exact he
    | succ m ih => intro i hi; exact hs i (by omega) (ih (i + 1) (by omega))
  intro i hi
  exact h (n - i) i (by omega)
theorem bm_st {i : Nat} {P : Nat → Bool} (h : P i = true) (hi : i < 31) : qj (bm i P : Nat) ||| (qj 1 <<< (qj (i : Int) &&& 31)) = qj (bm (i + 1) P : Nat) := by
  rw [qshl1 (by omega), qj_or]
  congr 2
  have e0 := Nat.two_pow_add_eq_or_of_lt (bm_lt i P) 1
  rw [Nat.mul_one] at e0
  rw [bm, h, cond_true, Nat.add_comm, e0, Nat.or_comm]
theorem bm_sf {i : Nat} {P : Nat → Bool} (h : P i = false) : bm (i + 1) P = bm i P := by rw [bm, h, cond_false, Nat.add_zero]
theorem cn_st {i : Nat} {P : Nat → Bool} (h : P i = true) : cn (i + 1) P = cn i P + 1 := by rw [cn, h, cond_true]
theorem cn_sf {i : Nat} {P : Nat → Bool} (h : P i = false) : cn (i + 1) P = cn i P := by rw [cn, h, cond_false, Nat.add_zero]
theorem qup_ne {α : Type} {f : Nat → Nat → α} {a i b : Nat} {v : α} (h : ¬ b = a) : qup f a i v b = f b := by funext j; unfold qup; rw [if_neg h]
theorem qup_at {α : Type} {f : Nat → Nat → α} {a i j : Nat} {v : α} : qup f a i v a j = if j = i then v else f a j := by unfold qup; rw [if_pos rfl]
theorem qj_s1 (i : Nat) : qj ((i : Int) + 1) = qj ((i + 1 : Nat) : Int) := rfl
def anb : Nat → (Nat → Bool) → Bool
  | 0, _ => false
  | n + 1, p => anb n p || p n
theorem anb_iff (p : Nat → Bool) : ∀ n, anb n p = true ↔ ∃ k, k < n ∧ p k = true
  | 0 => by
    constructor
    · intro h; rw [anb] at h; cases h
    · rintro ⟨k, h, _⟩; omega
  | n + 1 => by
    rw [anb, Bool.or_eq_true, anb_iff p n]
    constructor
    · rintro (⟨k, h1, h2⟩ | h)
      · exact ⟨k, by omega, h2⟩
      · exact ⟨n, by omega, h⟩
    · rintro ⟨k, h1, h2⟩
      by_cases e : k = n
      · subst e; exact Or.inr h2
      · exact Or.inl ⟨k, by omega, h2⟩
theorem anb_false (p : Nat → Bool) (n : Nat) : anb n p = false ↔ ∀ k, k < n → p k = false := by
  rw [← Bool.not_eq_true, anb_iff]
  constructor
  · intro h k hk
    cases e : p k with
    | false => rfl
    | true => exact absurd ⟨k, hk, e⟩ h
  · rintro h ⟨k, hk, e⟩
    rw [h k hk] at e; cases e
/-! what is read off -/
def aAl (F : qFam) (S : qSt) (h : Nat) : Bool := decide (F.1 2 h ≤ S.1 0 0) && !S.2.2 h
def aLk (F : qFam) (S : qSt) (p : Nat) : Nat := F.1 5 p - cn 9 (fun h => S.2.1 h p)
def aCan (F : qFam) (S : qSt) (h p : Nat) : Bool := aAl F S h && !(S.2.1 h p || F.2 1 h p) && decide (cn 8 (S.2.1 h) < 3)
def aKin (F : qFam) (S : qSt) (p h : Nat) : Bool := anb (F.1 0 0) (fun g => !(g == h) && (S.2.1 g p || S.1 4 p == g + 1) && anb 8 (fun q => !(q == p) && S.2.1 h q && S.2.1 g q))
