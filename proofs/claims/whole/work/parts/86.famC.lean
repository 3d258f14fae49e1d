/-! ===== the text of the family, the class ===== -/
def cF (f : Nat) (I J : Nat → Nat → Int32) : Prop := (∀ a, ¬ a = 65 → ¬ (f ≤ a ∧ a < f + 29) → J a = I a) ∧ J 65 1 = I 65 1
theorem cF_t {f : Nat} {I J : Nat → Nat → Int32} (h : tF I J) : cF f I J := ⟨fun a p _ => h.1 a p, h.2⟩
theorem cF_tr {f : Nat} {I J K : Nat → Nat → Int32} (h : cF f I J) (h2 : cF f J K) : cF f I K := ⟨fun a p q => (h2.1 a p q).trans (h.1 a p q), h2.2.trans h.2⟩
theorem cF_w {f a j : Nat} {I : Nat → Nat → Int32} {v : Int32} (hf : qisF f) (h : f ≤ a ∧ a < f + 29) : cF f I (qup I a j v) := ⟨fun b p q => qup_ne (fun e => q (by rw [e]; exact h)), by unfold qisF at hf; rw [qup_ne (by omega)]⟩
theorem tX_w {T : Nat → Nat} {n i : Nat} {I : Nat → Nat → Int32} (h : tX T n I i) {a j : Nat} {v : Int32} (ha : ¬ a = 65) (ha2 : ¬ a = 66) : tX T n (qup I a j v) i := by
  obtain ⟨h1, h2, h3, h4, h5, h6⟩ := h
  exact ⟨h1, h2, by rw [qup_ne (by omega)]; exact h3, by rw [qup_ne (by omega)]; exact h4, ⟨fun j hj => by rw [qup_ne (by omega)]; exact h5.1 j hj, by rw [qup_ne (by omega)]; exact h5.2⟩, h6⟩
/-- a clause that is read -/
def cPR (d k : Nat) (as : List Value) (g : qG1) (I : Nat → Nat → Int32) (T : Nat → Nat) (n f : Nat) : qPR → Prop
  | .inr r => ∃ J, qRun d k as (qw g I) (.inl (some (.int (qb true)), qw g J)) ∧ tX T n J r.2 ∧ qRF r.1 J f ∧ cF f I J
  | .inl e => ∃ J, qRun d k as (qw g I) (.inl (some (.int (qb false)), qw g J)) ∧ tE J e ∧ cF f I J
section FAMC
variable {d : Nat} {g : qG1} {I : Nat → Nat → Int32} {T : Nat → Nat} {n i f : Nat} {F : qFam}
theorem qRF_t (R : qRF F I f) {J : Nat → Nat → Int32} (hf : qisF f) (h : tF I J) : qRF F J f := qRF_cg R (fun a p q => h.1 a (by unfold qisF at hf; omega))
/-- a hand more -/
theorem qRF_hnd (R : qRF F I f) {J : Nat → Nat → Int32} {l b x : Nat} (e0 : J f 0 = qj ((F.1 0 0 + 1 : Nat) : Int)) (ej : ∀ j, ¬ j = 0 → J f j = I f j) (e1 : ∀ h, J (f + 1) h = if h = F.1 0 0 then qj (l : Int) else I (f + 1) h) (e2 : ∀ h, J (f + 2) h = if h = F.1 0 0 then qj (b : Int) else I (f + 2) h) (e3 : ∀ h, J (f + 3) h = if h = F.1 0 0 then qj (x : Int) else I (f + 3) h) (er : ∀ a, f + 4 ≤ a → a < f + 29 → J a = I a) : qRF (hnd F l b x) J f := by
  obtain ⟨h1, h2, h3, h4, h5, h6, h7, h8, h9, h10, h11, h12, h13, h14, h15, h16, h17⟩ := R
  refine ⟨e0, (ej 8 (by omega)).trans h2, (ej 12 (by omega)).trans h3, (ej 16 (by omega)).trans h4, fun h hh => ?_, fun h hh => ?_, fun h hh => ?_, ?_, ?_, ?_, ?_, ?_, ?_, ?_, ?_, ?_, ?_⟩
  · have hh : h < F.1 0 0 + 1 := hh
    rw [e1]
    show _ = qj ((if h = F.1 0 0 then l else F.1 1 h : Nat) : Int)
    by_cases c : h = F.1 0 0
    · rw [if_pos c, if_pos c]
    · rw [if_neg c, if_neg c]; exact h5 h (by omega)
  · have hh : h < F.1 0 0 + 1 := hh
    rw [e2]
    show _ = qj ((if h = F.1 0 0 then b else F.1 2 h : Nat) : Int)
    by_cases c : h = F.1 0 0
    · rw [if_pos c, if_pos c]
    · rw [if_neg c, if_neg c]; exact h6 h (by omega)
  · have hh : h < F.1 0 0 + 1 := hh
    rw [e3]
    show _ = qj ((if h = F.1 0 0 then x else F.1 3 h : Nat) : Int)
    by_cases c : h = F.1 0 0
    · rw [if_pos c, if_pos c]
    · rw [if_neg c, if_neg c]; exact h7 h (by omega)
  · rw [er _ (by omega) (by omega)]; exact h8
  · rw [er _ (by omega) (by omega)]; exact h9
  · rw [er _ (by omega) (by omega)]; exact h10
  · intro h k hh hk; rw [er _ (by omega) (by omega), hnd_r (by omega)]; exact h11 h k hh hk
  · rw [er _ (by omega) (by omega)]; exact h12
  · rw [er _ (by omega) (by omega)]; exact h13
  · rw [er _ (by omega) (by omega)]; exact h14
  · rw [er _ (by omega) (by omega)]; exact h15
  · rw [er _ (by omega) (by omega)]; exact h16
  · intro a k ha hk; rw [er _ (by omega) (by omega), hnd_r (r := 10 + a) (by omega)]; exact h17 a k ha hk
theorem qRF_pup (R : qRF F I f) {J : Nat → Nat → Int32} {l b x : Nat} (e0 : J f 8 = qj ((F.1 0 1 + 1 : Nat) : Int)) (ej : ∀ j, ¬ j = 8 → J f j = I f j) (e1 : ∀ h, J (f + 17) h = if h = F.1 0 1 then qj (l : Int) else I (f + 17) h) (e2 : ∀ h, J (f + 18) h = if h = F.1 0 1 then qj (b : Int) else I (f + 18) h) (e3 : ∀ h, J (f + 19) h = if h = F.1 0 1 then qj (x : Int) else I (f + 19) h) (er : ∀ a, f + 1 ≤ a → a < f + 29 → ¬ (f + 17 ≤ a ∧ a ≤ f + 19) → J a = I a) : qRF (pup F l b x) J f := by
  obtain ⟨h1, h2, h3, h4, h5, h6, h7, h8, h9, h10, h11, h12, h13, h14, h15, h16, h17⟩ := R
  refine ⟨(ej 0 (by omega)).trans h1, e0, (ej 12 (by omega)).trans h3, (ej 16 (by omega)).trans h4, ?_, ?_, ?_, ?_, ?_, ?_, ?_, fun h hh => ?_, fun h hh => ?_, fun h hh => ?_, ?_, ?_, ?_⟩
  · rw [er _ (by omega) (by omega) (by omega)]; exact h5
  · rw [er _ (by omega) (by omega) (by omega)]; exact h6
  · rw [er _ (by omega) (by omega) (by omega)]; exact h7
  · rw [er _ (by omega) (by omega) (by omega)]; exact h8
  · rw [er _ (by omega) (by omega) (by omega)]; exact h9
  · rw [er _ (by omega) (by omega) (by omega)]; exact h10
  · intro h k hh hk; rw [er _ (by omega) (by omega) (by omega), pup_r (by omega)]; exact h11 h k hh hk
  · have hh : h < F.1 0 1 + 1 := hh
    rw [e1]
    show _ = qj ((if h = F.1 0 1 then l else F.1 4 h : Nat) : Int)
    by_cases c : h = F.1 0 1
    · rw [if_pos c, if_pos c]
    · rw [if_neg c, if_neg c]; exact h12 h (by omega)
  · have hh : h < F.1 0 1 + 1 := hh
    rw [e2]
    show _ = qj ((if h = F.1 0 1 then b else F.1 5 h : Nat) : Int)
    by_cases c : h = F.1 0 1
    · rw [if_pos c, if_pos c]
    · rw [if_neg c, if_neg c]; exact h13 h (by omega)
  · have hh : h < F.1 0 1 + 1 := hh
    rw [e3]
    show _ = qj ((if h = F.1 0 1 then x else F.1 6 h : Nat) : Int)
    by_cases c : h = F.1 0 1
    · rw [if_pos c, if_pos c]
    · rw [if_neg c, if_neg c]; exact h14 h (by omega)
  · rw [er _ (by omega) (by omega) (by omega)]; exact h15
  · rw [er _ (by omega) (by omega) (by omega)]; exact h16
  · intro a k ha hk; rw [er _ (by omega) (by omega) (by omega), pup_r (r := 10 + a) (by omega)]; exact h17 a k ha hk
theorem c21 (hd : 3 ≤ d) (hf : qisF f) (X : tX T n I i) (R : qRF F I f) (h9 : F.1 0 0 < 9) : cPR d 21 [.ref f, .ref 65] g I T n f (aHand T n F i) := by
  have f1 := R.1
  have hfb : f = 67 ∨ f = 96 := hf
  have q1 := c79 (d := d - 1) (g := g) (lo := 0) (hi := 9) (by omega) X (by omega) (by omega)
  unfold aHand
  cases h1 : aNum T n i 0 9 with
  | inl e =>
    rw [h1] at q1
    obtain ⟨J1, a1, a2, a3⟩ := q1
    refine ⟨J1, qRun_of fun Q hQ => b21_0 hf (by omega) ?_, a2, cF_t a3⟩
    simp (disch := omega) only [qz0, qj_lt, qj_le, qj_eq, qtk, qfk, qbtt, qbft, qbtf, qbff, qIx_z, qj_nat, true_and, and_true, true_implies, false_implies, not_true_eq_false, not_false_eq_true, Bool.true_eq_false, Bool.false_eq_true, f1]
    refine ⟨_, _, a1, ?_⟩
    simp (disch := omega) only [qz0, qj_lt, qj_le, qj_eq, qtk, qfk, qbtt, qbft, qbtf, qbff, qIx_z, qj_nat, true_and, and_true, true_implies, false_implies, not_true_eq_false, not_false_eq_true, Bool.true_eq_false, Bool.false_eq_true]
    exact hQ
  | inr r1 =>
    rw [h1] at q1
    obtain ⟨J1, a1, a2, -, a7, -, a3⟩ := q1
    have q2 := c79 (d := d - 1) (g := g) (lo := 0) (hi := 40) (by omega) (tX_w (a := f + 1) (j := F.1 0 0) (v := qj (r1.1 : Int)) a2 (by omega) (by omega)) (by omega) (by omega)
    cases h2 : aNum T n r1.2 0 40 with
    | inl e =>
      rw [h2] at q2
      obtain ⟨J2, b1, b2, b3⟩ := q2
      simp only [h2]
      refine ⟨J2, qRun_of fun Q hQ => b21_0 hf (by omega) ?_, b2, cF_tr (cF_t a3) (cF_tr (cF_w hf (by omega)) (cF_t b3))⟩
      simp (disch := omega) only [qz0, qj_lt, qj_le, qj_eq, qtk, qfk, qbtt, qbft, qbtf, qbff, qIx_z, qj_nat, true_and, and_true, true_implies, false_implies, not_true_eq_false, not_false_eq_true, Bool.true_eq_false, Bool.false_eq_true, f1]
      refine ⟨_, _, a1, ?_⟩
      simp (disch := omega) only [qz0, qj_lt, qj_le, qj_eq, qtk, qfk, qbtt, qbft, qbtf, qbff, qIx_z, qj_nat, true_and, and_true, true_implies, false_implies, not_true_eq_false, not_false_eq_true, Bool.true_eq_false, Bool.false_eq_true, a7]
      refine ⟨_, _, b1, ?_⟩
      simp (disch := omega) only [qz0, qj_lt, qj_le, qj_eq, qtk, qfk, qbtt, qbft, qbtf, qbff, qIx_z, qj_nat, true_and, and_true, true_implies, false_implies, not_true_eq_false, not_false_eq_true, Bool.true_eq_false, Bool.false_eq_true]
      exact hQ
    | inr r2 =>
      rw [h2] at q2
      obtain ⟨J2, b1, b2, -, b7, -, b3⟩ := q2
      have q3 := c79 (d := d - 1) (g := g) (lo := 0) (hi := 60) (by omega) (tX_w (a := f + 2) (j := F.1 0 0) (v := qj (r2.1 : Int)) b2 (by omega) (by omega)) (by omega) (by omega)
      simp only [h2]
      cases h3 : aNum T n r2.2 0 60 with
      | inl e =>
        rw [h3] at q3
        obtain ⟨J3, d1, d2, d3⟩ := q3
        refine ⟨J3, qRun_of fun Q hQ => b21_0 hf (by omega) ?_, d2, cF_tr (cF_t a3) (cF_tr (cF_w hf (by omega)) (cF_tr (cF_t b3) (cF_tr (cF_w hf (by omega)) (cF_t d3))))⟩
        simp (disch := omega) only [qz0, qj_lt, qj_le, qj_eq, qtk, qfk, qbtt, qbft, qbtf, qbff, qIx_z, qj_nat, true_and, and_true, true_implies, false_implies, not_true_eq_false, not_false_eq_true, Bool.true_eq_false, Bool.false_eq_true, f1]
        refine ⟨_, _, a1, ?_⟩
        simp (disch := omega) only [qz0, qj_lt, qj_le, qj_eq, qtk, qfk, qbtt, qbft, qbtf, qbff, qIx_z, qj_nat, true_and, and_true, true_implies, false_implies, not_true_eq_false, not_false_eq_true, Bool.true_eq_false, Bool.false_eq_true, a7]
        refine ⟨_, _, b1, ?_⟩
        simp (disch := omega) only [qz0, qj_lt, qj_le, qj_eq, qtk, qfk, qbtt, qbft, qbtf, qbff, qIx_z, qj_nat, true_and, and_true, true_implies, false_implies, not_true_eq_false, not_false_eq_true, Bool.true_eq_false, Bool.false_eq_true, b7]
        refine ⟨_, _, d1, ?_⟩
        simp (disch := omega) only [qz0, qj_lt, qj_le, qj_eq, qtk, qfk, qbtt, qbft, qbtf, qbff, qIx_z, qj_nat, true_and, and_true, true_implies, false_implies, not_true_eq_false, not_false_eq_true, Bool.true_eq_false, Bool.false_eq_true]
        exact hQ
      | inr r3 =>
        rw [h3] at q3
        obtain ⟨J3, d1, d2, d6, d7, -, d3⟩ := q3
        have n1 := X.2.1
        have x1 := aNum_b h1 n1
        have x2 := aNum_b h2 x1.2.2.1
        have x3 := aNum_b h3 x2.2.2.1
        have row3 : ∀ a, ¬ a = 65 → J3 a = qup J2 (f + 2) (F.1 0 0) (qj (r2.1 : Int)) a := fun a p => d3.1 a p
        have row2 : ∀ a, ¬ a = 65 → J2 a = qup J1 (f + 1) (F.1 0 0) (qj (r1.1 : Int)) a := fun a p => b3.1 a p
        have row1 : ∀ a, ¬ a = 65 → J1 a = I a := fun a p => a3.1 a p
        have eA : qup J3 (f + 3) (F.1 0 0) (qj (r3.1 : Int)) (f + 3) (F.1 0 0) = qj (r3.1 : Int) := by rw [qup_at, if_pos rfl]
        have eB : qup J3 (f + 3) (F.1 0 0) (qj (r3.1 : Int)) (f + 2) (F.1 0 0) = qj (r2.1 : Int) := by rw [qup_ne (by omega), row3 _ (by omega), qup_at, if_pos rfl]
        have eC : qup J3 (f + 3) (F.1 0 0) (qj (r3.1 : Int)) 65 6 = qj (tBl T n r2.2 : Int) := by rw [qup_ne (by omega)]; exact d6
        have eD : qup J3 (f + 3) (F.1 0 0) (qj (r3.1 : Int)) f 0 = qj (F.1 0 0 : Int) := by rw [qup_ne (by omega), row3 _ (by omega), qup_ne (by omega), row2 _ (by omega), qup_ne (by omega), row1 _ (by omega)]; exact f1
        have hC : cF f I (qup J3 (f + 3) (F.1 0 0) (qj (r3.1 : Int))) := cF_tr (cF_t a3) (cF_tr (cF_w hf (by omega)) (cF_tr (cF_t b3) (cF_tr (cF_w hf (by omega)) (cF_tr (cF_t d3) (cF_w hf (by omega))))))
        have go : ∀ Q : qR → Prop, ((qup J3 (f + 3) (F.1 0 0) (qj (r3.1 : Int)) (f + 3) (F.1 0 0) = qj 0 → Q (.inl (some (.int (qb true)), qw g (qup (qup J3 (f + 3) (F.1 0 0) (qj (r3.1 : Int))) f 0 (qup J3 (f + 3) (F.1 0 0) (qj (r3.1 : Int)) f 0 + qj 1))))) ∧ (¬ qup J3 (f + 3) (F.1 0 0) (qj (r3.1 : Int)) (f + 3) (F.1 0 0) = qj 0 → ((qup J3 (f + 3) (F.1 0 0) (qj (r3.1 : Int)) (f + 2) (F.1 0 0) < qup J3 (f + 3) (F.1 0 0) (qj (r3.1 : Int)) (f + 3) (F.1 0 0) → Q (.inl (some (.int (qb true)), qw g (qup (qup J3 (f + 3) (F.1 0 0) (qj (r3.1 : Int))) f 0 (qup J3 (f + 3) (F.1 0 0) (qj (r3.1 : Int)) f 0 + qj 1))))) ∧ (¬ qup J3 (f + 3) (F.1 0 0) (qj (r3.1 : Int)) (f + 2) (F.1 0 0) < qup J3 (f + 3) (F.1 0 0) (qj (r3.1 : Int)) (f + 3) (F.1 0 0) → Q (.inl (some (.int (qb false)), qw g (qup (qup (qup J3 (f + 3) (F.1 0 0) (qj (r3.1 : Int))) 65 4 (qj 2)) 65 5 (qup J3 (f + 3) (F.1 0 0) (qj (r3.1 : Int)) 65 6)))))))) →
            qwp d 21 [.ref f, .ref 65] (qw g I) Q := fun Q h => b21_0 hf (by omega) (by
          simp (disch := omega) only [qz0, qj_lt, qj_le, qj_eq, qtk, qfk, qbtt, qbft, qbtf, qbff, qIx_z, qj_nat, true_and, and_true, true_implies, false_implies, not_true_eq_false, not_false_eq_true, Bool.true_eq_false, Bool.false_eq_true, f1]
          refine ⟨_, _, a1, ?_⟩
          simp (disch := omega) only [qz0, qj_lt, qj_le, qj_eq, qtk, qfk, qbtt, qbft, qbtf, qbff, qIx_z, qj_nat, true_and, and_true, true_implies, false_implies, not_true_eq_false, not_false_eq_true, Bool.true_eq_false, Bool.false_eq_true, a7]
          refine ⟨_, _, b1, ?_⟩
          simp (disch := omega) only [qz0, qj_lt, qj_le, qj_eq, qtk, qfk, qbtt, qbft, qbtf, qbff, qIx_z, qj_nat, true_and, and_true, true_implies, false_implies, not_true_eq_false, not_false_eq_true, Bool.true_eq_false, Bool.false_eq_true, b7]
          refine ⟨_, _, d1, ?_⟩
          simp (disch := omega) only [qbtt, qbft, qbtf, qbff, Bool.true_eq_false, Bool.false_eq_true, true_implies, false_implies, and_true, true_and, qIx_z, qj_nat, d7, qz0]
          exact h)
        simp only []
        by_cases c : ¬ r3.1 = 0 ∧ r3.1 ≤ r2.1
        · rw [if_pos c]
          refine ⟨qup (qup (qup J3 (f + 3) (F.1 0 0) (qj (r3.1 : Int))) 65 4 (qj 2)) 65 5 (qj (tBl T n r2.2 : Int)), qRun_of fun Q hQ => go Q ?_, ⟨by rw [qup_at, if_neg (by omega), qup_at, if_pos rfl]; rfl, by rw [qup_at, if_pos rfl]⟩, cF_tr hC (cF_t (tF_tr (tF_u (by omega)) (tF_u (by omega))))⟩
          rw [eA, eB, eC]
          simp (disch := omega) only [qz0, qj_lt, qj_le, qj_eq, qtk, qfk, qbtt, qbft, qbtf, qbff, qIx_z, qj_nat, true_and, and_true, true_implies, false_implies, not_true_eq_false, not_false_eq_true, Bool.true_eq_false, Bool.false_eq_true]
          exact hQ
        · rw [if_neg c]
          refine ⟨qup (qup J3 (f + 3) (F.1 0 0) (qj (r3.1 : Int))) f 0 (qj ((F.1 0 0 + 1 : Nat) : Int)), qRun_of fun Q hQ => go Q ?_, tX_w (tX_w d2 (by omega) (by omega)) (by omega) (by omega), qRF_hnd R ?_ ?_ ?_ ?_ ?_ ?_, cF_tr hC (cF_w hf (by omega))⟩
          · rw [eA, eB, eD]
            by_cases c0 : r3.1 = 0
            · simp (disch := omega) only [qz0, qj_lt, qj_le, qj_eq, qtk, qfk, qbtt, qbft, qbtf, qbff, qIx_z, qj_nat, true_and, and_true, true_implies, false_implies, not_true_eq_false, not_false_eq_true, Bool.true_eq_false, Bool.false_eq_true, qj_add, qj_s1]
              exact hQ
            · simp (disch := omega) only [qz0, qj_lt, qj_le, qj_eq, qtk, qfk, qbtt, qbft, qbtf, qbff, qIx_z, qj_nat, true_and, and_true, true_implies, false_implies, not_true_eq_false, not_false_eq_true, Bool.true_eq_false, Bool.false_eq_true, qj_add, qj_s1]
              exact hQ
          · rw [qup_at, if_pos rfl]
          · intro j hj; rw [qup_at, if_neg hj, qup_ne (by omega), row3 _ (by omega), qup_ne (by omega), row2 _ (by omega), qup_ne (by omega), row1 _ (by omega)]
          · intro h; rw [qup_ne (by omega), qup_ne (by omega), row3 _ (by omega), qup_ne (by omega), row2 _ (by omega), qup_at, row1 _ (by omega)]
          · intro h; rw [qup_ne (by omega), qup_ne (by omega), row3 _ (by omega), qup_at, row2 _ (by omega), qup_ne (by omega), row1 _ (by omega)]
          · intro h; rw [qup_ne (by omega), qup_at, row3 _ (by omega), qup_ne (by omega), row2 _ (by omega), qup_ne (by omega), row1 _ (by omega)]
          · intro a p q; rw [qup_ne (by omega), qup_ne (by omega), row3 _ (by omega), qup_ne (by omega), row2 _ (by omega), qup_ne (by omega), row1 _ (by omega)]
theorem c22 (hd : 3 ≤ d) (hf : qisF f) (X : tX T n I i) (R : qRF F I f) (h8 : F.1 0 1 < 8) : cPR d 22 [.ref f, .ref 65] g I T n f (aPup T n F i) := by
  have f2 := R.2.1
  have hfb : f = 67 ∨ f = 96 := hf
  have q1 := c79 (d := d - 1) (g := g) (lo := 0) (hi := 15) (by omega) X (by omega) (by omega)
  unfold aPup
  cases h1 : aNum T n i 0 15 with
  | inl e =>
    rw [h1] at q1
    obtain ⟨J1, a1, a2, a3⟩ := q1
    refine ⟨J1, qRun_of fun Q hQ => b22_0 hf (by omega) ?_, a2, cF_t a3⟩
    simp (disch := omega) only [qz0, qj_lt, qj_le, qj_eq, qtk, qfk, qbtt, qbft, qbtf, qbff, qIx_z, qj_nat, true_and, and_true, true_implies, false_implies, not_true_eq_false, not_false_eq_true, Bool.true_eq_false, Bool.false_eq_true, f2]
    refine ⟨_, _, a1, ?_⟩
    simp (disch := omega) only [qz0, qj_lt, qj_le, qj_eq, qtk, qfk, qbtt, qbft, qbtf, qbff, qIx_z, qj_nat, true_and, and_true, true_implies, false_implies, not_true_eq_false, not_false_eq_true, Bool.true_eq_false, Bool.false_eq_true]
    exact hQ
  | inr r1 =>
    rw [h1] at q1
    obtain ⟨J1, a1, a2, -, a7, -, a3⟩ := q1
    have q2 := c79 (d := d - 1) (g := g) (lo := 1) (hi := 2) (by omega) (tX_w (a := f + 17) (j := F.1 0 1) (v := qj (r1.1 : Int)) a2 (by omega) (by omega)) (by omega) (by omega)
    cases h2 : aNum T n r1.2 1 2 with
    | inl e =>
      rw [h2] at q2
      obtain ⟨J2, b1, b2, b3⟩ := q2
      simp only [h2]
      refine ⟨J2, qRun_of fun Q hQ => b22_0 hf (by omega) ?_, b2, cF_tr (cF_t a3) (cF_tr (cF_w hf (by omega)) (cF_t b3))⟩
      simp (disch := omega) only [qz0, qj_lt, qj_le, qj_eq, qtk, qfk, qbtt, qbft, qbtf, qbff, qIx_z, qj_nat, true_and, and_true, true_implies, false_implies, not_true_eq_false, not_false_eq_true, Bool.true_eq_false, Bool.false_eq_true, f2]
      refine ⟨_, _, a1, ?_⟩
      simp (disch := omega) only [qz0, qj_lt, qj_le, qj_eq, qtk, qfk, qbtt, qbft, qbtf, qbff, qIx_z, qj_nat, true_and, and_true, true_implies, false_implies, not_true_eq_false, not_false_eq_true, Bool.true_eq_false, Bool.false_eq_true, a7]
      refine ⟨_, _, b1, ?_⟩
      simp (disch := omega) only [qz0, qj_lt, qj_le, qj_eq, qtk, qfk, qbtt, qbft, qbtf, qbff, qIx_z, qj_nat, true_and, and_true, true_implies, false_implies, not_true_eq_false, not_false_eq_true, Bool.true_eq_false, Bool.false_eq_true]
      exact hQ
    | inr r2 =>
      rw [h2] at q2
      obtain ⟨J2, b1, b2, -, b7, -, b3⟩ := q2
      have q3 := c79 (d := d - 1) (g := g) (lo := 0) (hi := 30) (by omega) (tX_w (a := f + 18) (j := F.1 0 1) (v := qj (r2.1 : Int)) b2 (by omega) (by omega)) (by omega) (by omega)
      simp only [h2]
      cases h3 : aNum T n r2.2 0 30 with
      | inl e =>
        rw [h3] at q3
        obtain ⟨J3, d1, d2, d3⟩ := q3
        refine ⟨J3, qRun_of fun Q hQ => b22_0 hf (by omega) ?_, d2, cF_tr (cF_t a3) (cF_tr (cF_w hf (by omega)) (cF_tr (cF_t b3) (cF_tr (cF_w hf (by omega)) (cF_t d3))))⟩
        simp (disch := omega) only [qz0, qj_lt, qj_le, qj_eq, qtk, qfk, qbtt, qbft, qbtf, qbff, qIx_z, qj_nat, true_and, and_true, true_implies, false_implies, not_true_eq_false, not_false_eq_true, Bool.true_eq_false, Bool.false_eq_true, f2]
        refine ⟨_, _, a1, ?_⟩
        simp (disch := omega) only [qz0, qj_lt, qj_le, qj_eq, qtk, qfk, qbtt, qbft, qbtf, qbff, qIx_z, qj_nat, true_and, and_true, true_implies, false_implies, not_true_eq_false, not_false_eq_true, Bool.true_eq_false, Bool.false_eq_true, a7]
        refine ⟨_, _, b1, ?_⟩
        simp (disch := omega) only [qz0, qj_lt, qj_le, qj_eq, qtk, qfk, qbtt, qbft, qbtf, qbff, qIx_z, qj_nat, true_and, and_true, true_implies, false_implies, not_true_eq_false, not_false_eq_true, Bool.true_eq_false, Bool.false_eq_true, b7]
        refine ⟨_, _, d1, ?_⟩
        simp (disch := omega) only [qz0, qj_lt, qj_le, qj_eq, qtk, qfk, qbtt, qbft, qbtf, qbff, qIx_z, qj_nat, true_and, and_true, true_implies, false_implies, not_true_eq_false, not_false_eq_true, Bool.true_eq_false, Bool.false_eq_true]
        exact hQ
      | inr r3 =>
        rw [h3] at q3
        obtain ⟨J3, d1, d2, d6, d7, -, d3⟩ := q3
        have row3 : ∀ a, ¬ a = 65 → J3 a = qup J2 (f + 18) (F.1 0 1) (qj (r2.1 : Int)) a := fun a p => d3.1 a p
        have row2 : ∀ a, ¬ a = 65 → J2 a = qup J1 (f + 17) (F.1 0 1) (qj (r1.1 : Int)) a := fun a p => b3.1 a p
        have row1 : ∀ a, ¬ a = 65 → J1 a = I a := fun a p => a3.1 a p
        have eD : qup J3 (f + 19) (F.1 0 1) (qj (r3.1 : Int)) f 8 = qj (F.1 0 1 : Int) := by rw [qup_ne (by omega), row3 _ (by omega), qup_ne (by omega), row2 _ (by omega), qup_ne (by omega), row1 _ (by omega)]; exact f2
        refine ⟨qup (qup J3 (f + 19) (F.1 0 1) (qj (r3.1 : Int))) f 8 (qj ((F.1 0 1 + 1 : Nat) : Int)), qRun_of fun Q hQ => b22_0 hf (by omega) ?_, tX_w (tX_w d2 (by omega) (by omega)) (by omega) (by omega), qRF_pup R ?_ ?_ ?_ ?_ ?_ ?_, cF_tr (cF_t a3) (cF_tr (cF_w hf (by omega)) (cF_tr (cF_t b3) (cF_tr (cF_w hf (by omega)) (cF_tr (cF_t d3) (cF_tr (cF_w hf (by omega)) (cF_w hf (by omega)))))))⟩
        · simp (disch := omega) only [qz0, qj_lt, qj_le, qj_eq, qtk, qfk, qbtt, qbft, qbtf, qbff, qIx_z, qj_nat, true_and, and_true, true_implies, false_implies, not_true_eq_false, not_false_eq_true, Bool.true_eq_false, Bool.false_eq_true, f2]
          refine ⟨_, _, a1, ?_⟩
          simp (disch := omega) only [qz0, qj_lt, qj_le, qj_eq, qtk, qfk, qbtt, qbft, qbtf, qbff, qIx_z, qj_nat, true_and, and_true, true_implies, false_implies, not_true_eq_false, not_false_eq_true, Bool.true_eq_false, Bool.false_eq_true, a7]
          refine ⟨_, _, b1, ?_⟩
          simp (disch := omega) only [qz0, qj_lt, qj_le, qj_eq, qtk, qfk, qbtt, qbft, qbtf, qbff, qIx_z, qj_nat, true_and, and_true, true_implies, false_implies, not_true_eq_false, not_false_eq_true, Bool.true_eq_false, Bool.false_eq_true, b7]
          refine ⟨_, _, d1, ?_⟩
          simp (disch := omega) only [qz0, qj_lt, qj_le, qj_eq, qtk, qfk, qbtt, qbft, qbtf, qbff, qIx_z, qj_nat, true_and, and_true, true_implies, false_implies, not_true_eq_false, not_false_eq_true, Bool.true_eq_false, Bool.false_eq_true, d7, eD, qj_add, qj_s1]
          exact hQ
        · rw [qup_at, if_pos rfl]
        · intro j hj; rw [qup_at, if_neg hj, qup_ne (by omega), row3 _ (by omega), qup_ne (by omega), row2 _ (by omega), qup_ne (by omega), row1 _ (by omega)]
        · intro h; rw [qup_ne (by omega), qup_ne (by omega), row3 _ (by omega), qup_ne (by omega), row2 _ (by omega), qup_at, row1 _ (by omega)]
        · intro h; rw [qup_ne (by omega), qup_ne (by omega), row3 _ (by omega), qup_at, row2 _ (by omega), qup_ne (by omega), row1 _ (by omega)]
        · intro h; rw [qup_ne (by omega), qup_at, row3 _ (by omega), qup_ne (by omega), row2 _ (by omega), qup_ne (by omega), row1 _ (by omega)]
        · intro a p q r; rw [qup_ne (by omega), qup_ne (by omega), row3 _ (by omega), qup_ne (by omega), row2 _ (by omega), qup_ne (by omega), row1 _ (by omega)]
/-- a hand and another number -/
theorem c23 (hd : 3 ≤ d) (hf : qisF f) (X : tX T n I i) (R : qRF F I f) (W : qWF F) {m : Nat} (hm : m ≤ 9) : match aHan T n F m i with
    | .inr r => ∃ J, qRun d 23 [.ref f, .ref 65, .int (qj m)] (qw g I) (.inl (some (.int (qb true)), qw g J)) ∧ tX T n J r.2.2 ∧ J 65 8 = qj (r.1.1 : Int) ∧ J 65 7 = qj (r.1.2 : Int) ∧ J 65 6 = qj (r.2.1 : Int) ∧ tF I J
    | .inl e => ∃ J, qRun d 23 [.ref f, .ref 65, .int (qj m)] (qw g I) (.inl (some (.int (qb false)), qw g J)) ∧ tE J e ∧ tF I J := by
  have f1 := R.1
  have h9 := W.1
  have hfb : f = 67 ∨ f = 96 := hf
  have q1 := c79 (d := d - 1) (g := g) (lo := 0) (hi := (F.1 0 0 : Int) - 1) (by omega) X (by omega) (by omega)
  unfold aHan
  cases h1 : aNum T n i 0 ((F.1 0 0 : Int) - 1) with
  | inl e =>
    rw [h1] at q1
    obtain ⟨J1, a1, a2, a3⟩ := q1
    refine ⟨J1, qRun_of fun Q hQ => b23_0 hf (by omega) ?_, a2, a3⟩
    rw [f1, qj_sub]
    refine ⟨_, _, a1, ?_⟩
    simp (disch := omega) only [qz0, qj_lt, qj_le, qj_eq, qtk, qfk, qbtt, qbft, qbtf, qbff, qIx_z, qj_nat, true_and, and_true, true_implies, false_implies, not_true_eq_false, not_false_eq_true, Bool.true_eq_false, Bool.false_eq_true]
    exact hQ
  | inr r1 =>
    rw [h1] at q1
    obtain ⟨J1, a1, a2, a6, a7, -, a3⟩ := q1
    have q2 := c79 (d := d - 1) (g := g) (lo := 0) (hi := (m : Int) - 1) (by omega) a2 (by omega) (by omega)
    simp only []
    cases h2 : aNum T n r1.2 0 ((m : Int) - 1) with
    | inl e =>
      rw [h2] at q2
      obtain ⟨J2, b1, b2, b3⟩ := q2
      refine ⟨J2, qRun_of fun Q hQ => b23_0 hf (by omega) ?_, b2, tF_tr a3 b3⟩
      rw [f1, qj_sub, qj_sub]
      refine ⟨_, _, a1, ?_⟩
      simp (disch := omega) only [qz0, qj_lt, qj_le, qj_eq, qtk, qfk, qbtt, qbft, qbtf, qbff, qIx_z, qj_nat, true_and, and_true, true_implies, false_implies, not_true_eq_false, not_false_eq_true, Bool.true_eq_false, Bool.false_eq_true]
      refine ⟨_, _, b1, ?_⟩
      simp (disch := omega) only [qz0, qj_lt, qj_le, qj_eq, qtk, qfk, qbtt, qbft, qbtf, qbff, qIx_z, qj_nat, true_and, and_true, true_implies, false_implies, not_true_eq_false, not_false_eq_true, Bool.true_eq_false, Bool.false_eq_true]
      exact hQ
    | inr r2 =>
      rw [h2] at q2
      obtain ⟨J2, b1, b2, b6, b7, b8, b3⟩ := q2
      refine ⟨J2, qRun_of fun Q hQ => b23_0 hf (by omega) ?_, b2, b8.trans a7, b7, b6, tF_tr a3 b3⟩
      rw [f1, qj_sub, qj_sub]
      refine ⟨_, _, a1, ?_⟩
      simp (disch := omega) only [qz0, qj_lt, qj_le, qj_eq, qtk, qfk, qbtt, qbft, qbtf, qbff, qIx_z, qj_nat, true_and, and_true, true_implies, false_implies, not_true_eq_false, not_false_eq_true, Bool.true_eq_false, Bool.false_eq_true]
      refine ⟨_, _, b1, ?_⟩
      simp (disch := omega) only [qz0, qj_lt, qj_le, qj_eq, qtk, qfk, qbtt, qbft, qbtf, qbff, qIx_z, qj_nat, true_and, and_true, true_implies, false_implies, not_true_eq_false, not_false_eq_true, Bool.true_eq_false, Bool.false_eq_true]
      exact hQ
end FAMC
