/-! ===== the text of the law, the class, 2: what is read as an expression ===== -/
def lQ0 (g : qG1) (T : Nat → Nat) (n l r : Nat) : Prop := ∀ (o : Nat) (L : qLw) (i : Nat) (I : Nat → Nat → Int32) (d : Nat), 60 + 3 * (7 - o) + 2 ≤ d → o ≤ 6 → qCon I → tX T n I i → qRL L I l → L.1 ≤ i → 3 * (n - i) + 3 ≤ r → lR d 40 o g I T n l (aLw T n r 0 o L i)
def lQ1 (g : qG1) (T : Nat → Nat) (n l r : Nat) : Prop := ∀ (o : Nat) (L : qLw) (i c : Nat) (I : Nat → Nat → Int32) (d : Nat), c ≤ i → 60 + 3 * (7 - o) + 2 ≤ d → o ≤ 6 → qCon I → tX T n I i → qRL L I l → L.1 ≤ i → 3 * (n - i) + 1 ≤ r → lT d 40 o c g I T n l (aLw T n r 1 o L i)
def lQ2 (g : qG1) (T : Nat → Nat) (n l r : Nat) : Prop := ∀ (o : Nat) (L : qLw) (i : Nat) (I : Nat → Nat → Int32) (d : Nat), 60 + 3 * (7 - o) + 1 ≤ d → o ≤ 6 → qCon I → tX T n I i → qRL L I l → L.1 ≤ i → 3 * (n - i) + 2 ≤ r → lR d 41 o g I T n l (aLw T n r 2 o L i)
def lQ3 (g : qG1) (T : Nat → Nat) (n l r : Nat) : Prop := ∀ (o : Nat) (L : qLw) (i c : Nat) (I : Nat → Nat → Int32) (d : Nat), c ≤ i → 60 + 3 * (7 - o) + 1 ≤ d → o ≤ 6 → qCon I → tX T n I i → qRL L I l → L.1 ≤ i → 3 * (n - i) + 1 ≤ r → lT d 41 o c g I T n l (aLw T n r 3 o L i)
def lQ4 (g : qG1) (T : Nat → Nat) (n l r : Nat) : Prop := ∀ (o : Nat) (L : qLw) (i : Nat) (I : Nat → Nat → Int32) (d : Nat), 60 + 3 * (7 - o) ≤ d → o ≤ 6 → qCon I → tX T n I i → qRL L I l → L.1 ≤ i → 3 * (n - i) + 1 ≤ r → lR d 42 o g I T n l (aLw T n r 4 o L i)
section LAW2
variable {g : qG1} {T : Nat → Nat} {n l r : Nat}
theorem aSgn_h {b s : Nat} (hb : b < n) (hB : tBl T n b = b) (e : T b = s) : aSgn T n b s = .inr (b + 1) := by
  unfold aSgn
  rw [hB, if_pos ⟨hb, e⟩]
theorem cL0 (hl : qisL l) (hn : n ≤ 150) (p2 : lQ2 g T n l r) (p1 : lQ1 g T n l r) : lQ0 g T n l (r + 1) := by
  intro o L i I d hd ho C X R hL hr
  have p := p2 o L i I (d - 1) (by omega) ho C X R hL (by omega)
  rw [aLw, if_pos rfl]
  cases h1 : aLw T n r 2 o L i with
  | inl e =>
    rw [h1] at p
    obtain ⟨J, k, e1, e2⟩ := p
    exact ⟨J, qRun_of fun Q hQ => b40_0 hl (by omega) ⟨_, J, k, fun q => Bool.noConfusion q, fun _ => hQ⟩, e1, e2⟩
  | inr q =>
    rw [h1] at p
    obtain ⟨J, k, x1, R1, f1⟩ := p
    have b := aLw_b r 2 o L i q h1 X.2.1
    have t := p1 o q.1 q.2 0 J d (by omega) (by omega) ho (lF_con hl f1 C) x1 R1 (by omega) (by omega)
    simp only []
    cases h2 : aLw T n r 1 o q.1 q.2 with
    | inl e =>
      rw [h2] at t
      obtain ⟨J2, ⟨e1, e2⟩, go⟩ := t
      exact ⟨J2, qRun_of fun Q hQ => b40_0 hl (by omega) ⟨_, J, k, fun _ => go Q hQ, fun q => Bool.noConfusion q⟩, e1, lF_tr f1 e2⟩
    | inr q2 =>
      rw [h2] at t
      obtain ⟨J2, ⟨e1, e3, e2⟩, go⟩ := t
      exact ⟨J2, qRun_of fun Q hQ => b40_0 hl (by omega) ⟨_, J, k, fun _ => go Q hQ, fun q => Bool.noConfusion q⟩, e1, e3, lF_tr f1 e2⟩
theorem cL2 (hl : qisL l) (hn : n ≤ 150) (p2 : lQ4 g T n l r) (p1 : lQ3 g T n l r) : lQ2 g T n l (r + 1) := by
  intro o L i I d hd ho C X R hL hr
  have p := p2 o L i I (d - 1) (by omega) ho C X R hL (by omega)
  rw [aLw, if_neg (by omega), if_neg (by omega), if_pos rfl]
  cases h1 : aLw T n r 4 o L i with
  | inl e =>
    rw [h1] at p
    obtain ⟨J, k, e1, e2⟩ := p
    exact ⟨J, qRun_of fun Q hQ => b41_0 hl (by omega) ⟨_, J, k, fun q => Bool.noConfusion q, fun _ => hQ⟩, e1, e2⟩
  | inr q =>
    rw [h1] at p
    obtain ⟨J, k, x1, R1, f1⟩ := p
    have b := aLw_b r 4 o L i q h1 X.2.1
    have t := p1 o q.1 q.2 0 J d (by omega) (by omega) ho (lF_con hl f1 C) x1 R1 (by omega) (by omega)
    simp only []
    cases h2 : aLw T n r 3 o q.1 q.2 with
    | inl e =>
      rw [h2] at t
      obtain ⟨J2, ⟨e1, e2⟩, go⟩ := t
      exact ⟨J2, qRun_of fun Q hQ => b41_0 hl (by omega) ⟨_, J, k, fun _ => go Q hQ, fun q => Bool.noConfusion q⟩, e1, lF_tr f1 e2⟩
    | inr q2 =>
      rw [h2] at t
      obtain ⟨J2, ⟨e1, e3, e2⟩, go⟩ := t
      exact ⟨J2, qRun_of fun Q hQ => b41_0 hl (by omega) ⟨_, J, k, fun _ => go Q hQ, fun q => Bool.noConfusion q⟩, e1, e3, lF_tr f1 e2⟩
theorem cL1 (hl : qisL l) (hn : n ≤ 150) (p2 : lQ2 g T n l r) (p1 : lQ1 g T n l r) : lQ1 g T n l (r + 1) := by
  intro o L i c I d hci hd ho C X R hL hr
  have hb := tBl_b (T := T) X.2.1
  have hT := X.2.2.2.2.2
  have hin := X.2.1
  have hB : tBl T n (tBl T n i) = tBl T n i := tBl_i X.2.1
  rw [aLw, if_neg (by omega), if_pos rfl]
  by_cases hc : 150 ≤ c
  · have hs : ¬ (tBl T n i < n ∧ (T (tBl T n i) = 43 ∨ T (tBl T n i) = 45)) := fun q => by have := q.1; omega
    have ei : tBl T n i = i := by omega
    rw [if_neg hs, ei]
    refine ⟨I, ⟨X, R, lF_t tF_rf⟩, fun Q hQ => b40_13 hl (by omega) ?_⟩
    simp (disch := omega) only [qj_le]
    exact ⟨fun _ => hQ, fun q => absurd (by omega) q⟩
  · obtain ⟨J1, k75, x1, t1, -⟩ := c75b (d := d - 1) (g := g) (by omega) X
    have R1 := qRL_t hl R t1
    have C1 := lF_con hl (lF_t t1) C
    by_cases hs : tBl T n i < n ∧ (T (tBl T n i) = 43 ∨ T (tBl T n i) = 45)
    · rw [if_pos hs]
      rw [tb_i hs.1] at k75
      have go : ∀ (J3 J5 : Nat → Nat → Int32) (v : Bool) (Q : qR → Prop), qRun (d - 1) 78 [.ref 65, .int (qj (T (tBl T n i) : Int))] (qw g J1) (.inl (some (.int (qb true)), qw g J3)) → qRun (d - 1) 41 [.ref l, .ref 65, .int (qj (o : Int))] (qw g J3) (.inl (some (.int (qb v)), qw g J5)) →
          ((v = true → ∃ (v8 : Bool) (J9 : _), qRun (d - 1) 38 [.ref l, .int (qj ((if T (tBl T n i) = 43 then 2002 else 2003 : Nat) : Int))] (qw g J5) (.inl (some (.int (qb v8)), qw g J9)) ∧ qwq d 40 13 [(0, .ref l), (1, .ref 65), (2, .int (qj (o : Int))), (3, .int (qj ((c + 1 : Nat) : Int)))] [] (qw g J9) Q) ∧ (v = false → Q (.inl (some (.int (qb false)), qw g J5)))) →
          qwq d 40 13 [(0, .ref l), (1, .ref 65), (2, .int (qj (o : Int))), (3, .int (qj (c : Int)))] [] (qw g I) Q := by
        intro J3 J5 v Q k3 k5 h
        refine b40_13 hl (by omega) ?_
        simp (disch := omega) only [qj_le]
        refine ⟨fun q => absurd q (by omega), fun _ => ⟨_, J1, k75, ?_⟩⟩
        rcases hs.2 with e | e
        · rw [e] at k3 h ⊢
          have ew : ((if (43 : Nat) = 43 then 2002 else 2003 : Nat) : Int) = 2002 := rfl
          rw [ew] at h
          simp (disch := omega) only [qj_eq, qtk, qfk, qj_add, qj_s1]
          exact ⟨_, J3, k3, fun q => Bool.noConfusion q, fun _ => ⟨v, J5, k5, h⟩⟩
        · rw [e] at k3 h ⊢
          have ew : ((if (45 : Nat) = 43 then 2002 else 2003 : Nat) : Int) = 2003 := rfl
          rw [ew] at h
          simp (disch := omega) only [qj_eq, qtk, qfk, qj_add, qj_s1]
          exact ⟨_, J3, k3, fun q => Bool.noConfusion q, fun _ => ⟨v, J5, k5, h⟩⟩
      have k78 := c78 (d := d - 1) (g := g) (s := T (tBl T n i)) (by omega) x1 (hT _ hs.1)
      rw [aSgn_h hs.1 hB rfl] at k78
      obtain ⟨J3, k3, x3, t3, -⟩ := k78
      have R3 := qRL_t hl R1 t3
      have C3 := lF_con hl (lF_t t3) C1
      have f3 : lF l I J3 := lF_tr (lF_t t1) (lF_t t3)
      have p := p2 o L (tBl T n i + 1) J3 (d - 1) (by omega) ho C3 x3 R3 (by omega) (by omega)
      cases h1 : aLw T n r 2 o L (tBl T n i + 1) with
      | inl e =>
        rw [h1] at p
        obtain ⟨J5, k5, e1, e2⟩ := p
        exact ⟨J5, ⟨e1, lF_tr f3 e2⟩, fun Q hQ => go J3 J5 _ Q k3 k5 ⟨fun q => Bool.noConfusion q, fun _ => hQ⟩⟩
      | inr q =>
        rw [h1] at p
        obtain ⟨J5, k5, x5, R5, f5⟩ := p
        have b5 := aLw_b r 2 o L (tBl T n i + 1) q h1 (by omega)
        obtain ⟨J9, k9, x9, R9, f9⟩ := c38w (d := d - 1) (g := g) (by omega) hl x5 R5 (by omega) (if T (tBl T n i) = 43 then 2002 else 2003)
        have f59 := lF_tr f3 (lF_tr f5 f9)
        have t := p1 o (ladd q.1 (if T (tBl T n i) = 43 then 2002 else 2003)) q.2 (c + 1) J9 d (by omega) (by omega) ho (lF_con hl f59 C) x9 R9 (by show q.1.1 + 1 ≤ q.2; omega) (by omega)
        simp only []
        cases h2 : aLw T n r 1 o (ladd q.1 (if T (tBl T n i) = 43 then 2002 else 2003)) q.2 with
        | inl e =>
          rw [h2] at t
          obtain ⟨J, ⟨e1, e2⟩, gg⟩ := t
          exact ⟨J, ⟨e1, lF_tr f59 e2⟩, fun Q hQ => go J3 J5 _ Q k3 k5 ⟨fun _ => ⟨_, J9, k9, gg Q hQ⟩, fun q => Bool.noConfusion q⟩⟩
        | inr q2 =>
          rw [h2] at t
          obtain ⟨J, ⟨e1, e3, e2⟩, gg⟩ := t
          exact ⟨J, ⟨e1, e3, lF_tr f59 e2⟩, fun Q hQ => go J3 J5 _ Q k3 k5 ⟨fun _ => ⟨_, J9, k9, gg Q hQ⟩, fun q => Bool.noConfusion q⟩⟩
    · rw [if_neg hs]
      have nn : ∀ s : Nat, s < 256 → (s = 43 ∨ s = 45) → ¬ qj (tb T n (tBl T n i)) = qj (s : Int) := fun s h256 h q => by
        have := (tb_sg hT h256).mp q
        refine hs ⟨this.1, ?_⟩
        rw [this.2]; exact h
      refine ⟨J1, ⟨x1, R1, lF_t t1⟩, fun Q hQ => b40_13 hl (by omega) ?_⟩
      simp (disch := omega) only [qj_le]
      refine ⟨fun q => absurd q (by omega), fun _ => ⟨_, J1, k75, ?_⟩⟩
      exact ⟨fun q => absurd q (nn 43 (by omega) (Or.inl rfl)), fun _ => ⟨fun q => absurd q (nn 45 (by omega) (Or.inr rfl)), fun _ => hQ⟩⟩
theorem cL3 (hl : qisL l) (hn : n ≤ 150) (p2 : lQ4 g T n l r) (p1 : lQ3 g T n l r) : lQ3 g T n l (r + 1) := by
  intro o L i c I d hci hd ho C X R hL hr
  have hb := tBl_b (T := T) X.2.1
  have hT := X.2.2.2.2.2
  have hin := X.2.1
  have hB : tBl T n (tBl T n i) = tBl T n i := tBl_i X.2.1
  rw [aLw, if_neg (by omega), if_neg (by omega), if_neg (by omega), if_pos rfl]
  by_cases hc : 150 ≤ c
  · have hs : ¬ (tBl T n i < n ∧ (T (tBl T n i) = 42 ∨ T (tBl T n i) = 47 ∨ T (tBl T n i) = 37)) := fun q => by have := q.1; omega
    have ei : tBl T n i = i := by omega
    rw [if_neg hs, ei]
    refine ⟨I, ⟨X, R, lF_t tF_rf⟩, fun Q hQ => b41_13 hl (by omega) ?_⟩
    simp (disch := omega) only [qj_le]
    exact ⟨fun _ => hQ, fun q => absurd (by omega) q⟩
  · obtain ⟨J1, k75, x1, t1, -⟩ := c75b (d := d - 1) (g := g) (by omega) X
    have R1 := qRL_t hl R t1
    have C1 := lF_con hl (lF_t t1) C
    by_cases hs : tBl T n i < n ∧ (T (tBl T n i) = 42 ∨ T (tBl T n i) = 47 ∨ T (tBl T n i) = 37)
    · rw [if_pos hs]
      rw [tb_i hs.1] at k75
      have go : ∀ (J3 J5 : Nat → Nat → Int32) (v : Bool) (Q : qR → Prop), qRun (d - 1) 78 [.ref 65, .int (qj (T (tBl T n i) : Int))] (qw g J1) (.inl (some (.int (qb true)), qw g J3)) → qRun (d - 1) 42 [.ref l, .ref 65, .int (qj (o : Int))] (qw g J3) (.inl (some (.int (qb v)), qw g J5)) →
          ((v = true → ∃ (v8 : Bool) (J9 : _), qRun (d - 1) 38 [.ref l, .int (qj ((if T (tBl T n i) = 42 then 2004 else if T (tBl T n i) = 47 then 2005 else 2006 : Nat) : Int))] (qw g J5) (.inl (some (.int (qb v8)), qw g J9)) ∧ qwq d 41 13 [(0, .ref l), (1, .ref 65), (2, .int (qj (o : Int))), (3, .int (qj ((c + 1 : Nat) : Int)))] [] (qw g J9) Q) ∧ (v = false → Q (.inl (some (.int (qb false)), qw g J5)))) →
          qwq d 41 13 [(0, .ref l), (1, .ref 65), (2, .int (qj (o : Int))), (3, .int (qj (c : Int)))] [] (qw g I) Q := by
        intro J3 J5 v Q k3 k5 h
        refine b41_13 hl (by omega) ?_
        simp (disch := omega) only [qj_le]
        refine ⟨fun q => absurd q (by omega), fun _ => ⟨_, J1, k75, ?_⟩⟩
        rcases hs.2 with e | e | e
        · rw [e] at k3 h ⊢
          have ew : ((if (42 : Nat) = 42 then 2004 else if (42 : Nat) = 47 then 2005 else 2006 : Nat) : Int) = 2004 := rfl
          rw [ew] at h
          simp (disch := omega) only [qj_eq, qtk, qfk, qj_add, qj_s1]
          exact ⟨_, J3, k3, fun q => Bool.noConfusion q, fun _ => ⟨v, J5, k5, h⟩⟩
        · rw [e] at k3 h ⊢
          have ew : ((if (47 : Nat) = 42 then 2004 else if (47 : Nat) = 47 then 2005 else 2006 : Nat) : Int) = 2005 := rfl
          rw [ew] at h
          simp (disch := omega) only [qj_eq, qtk, qfk, qj_add, qj_s1]
          exact ⟨_, J3, k3, fun q => Bool.noConfusion q, fun _ => ⟨v, J5, k5, h⟩⟩
        · rw [e] at k3 h ⊢
          have ew : ((if (37 : Nat) = 42 then 2004 else if (37 : Nat) = 47 then 2005 else 2006 : Nat) : Int) = 2006 := rfl
          rw [ew] at h
          simp (disch := omega) only [qj_eq, qtk, qfk, qj_add, qj_s1]
          exact ⟨_, J3, k3, fun q => Bool.noConfusion q, fun _ => ⟨v, J5, k5, h⟩⟩
      have k78 := c78 (d := d - 1) (g := g) (s := T (tBl T n i)) (by omega) x1 (hT _ hs.1)
      rw [aSgn_h hs.1 hB rfl] at k78
      obtain ⟨J3, k3, x3, t3, -⟩ := k78
      have R3 := qRL_t hl R1 t3
      have C3 := lF_con hl (lF_t t3) C1
      have f3 : lF l I J3 := lF_tr (lF_t t1) (lF_t t3)
      have p := p2 o L (tBl T n i + 1) J3 (d - 1) (by omega) ho C3 x3 R3 (by omega) (by omega)
      cases h1 : aLw T n r 4 o L (tBl T n i + 1) with
      | inl e =>
        rw [h1] at p
        obtain ⟨J5, k5, e1, e2⟩ := p
        exact ⟨J5, ⟨e1, lF_tr f3 e2⟩, fun Q hQ => go J3 J5 _ Q k3 k5 ⟨fun q => Bool.noConfusion q, fun _ => hQ⟩⟩
      | inr q =>
        rw [h1] at p
        obtain ⟨J5, k5, x5, R5, f5⟩ := p
        have b5 := aLw_b r 4 o L (tBl T n i + 1) q h1 (by omega)
        obtain ⟨J9, k9, x9, R9, f9⟩ := c38w (d := d - 1) (g := g) (by omega) hl x5 R5 (by omega) (if T (tBl T n i) = 42 then 2004 else if T (tBl T n i) = 47 then 2005 else 2006)
        have f59 := lF_tr f3 (lF_tr f5 f9)
        have t := p1 o (ladd q.1 (if T (tBl T n i) = 42 then 2004 else if T (tBl T n i) = 47 then 2005 else 2006)) q.2 (c + 1) J9 d (by omega) (by omega) ho (lF_con hl f59 C) x9 R9 (by show q.1.1 + 1 ≤ q.2; omega) (by omega)
        simp only []
        cases h2 : aLw T n r 3 o (ladd q.1 (if T (tBl T n i) = 42 then 2004 else if T (tBl T n i) = 47 then 2005 else 2006)) q.2 with
        | inl e =>
          rw [h2] at t
          obtain ⟨J, ⟨e1, e2⟩, gg⟩ := t
          exact ⟨J, ⟨e1, lF_tr f59 e2⟩, fun Q hQ => go J3 J5 _ Q k3 k5 ⟨fun _ => ⟨_, J9, k9, gg Q hQ⟩, fun q => Bool.noConfusion q⟩⟩
        | inr q2 =>
          rw [h2] at t
          obtain ⟨J, ⟨e1, e3, e2⟩, gg⟩ := t
          exact ⟨J, ⟨e1, e3, lF_tr f59 e2⟩, fun Q hQ => go J3 J5 _ Q k3 k5 ⟨fun _ => ⟨_, J9, k9, gg Q hQ⟩, fun q => Bool.noConfusion q⟩⟩
    · rw [if_neg hs]
      have nn : ∀ s : Nat, s < 256 → (s = 42 ∨ s = 47 ∨ s = 37) → ¬ qj (tb T n (tBl T n i)) = qj (s : Int) := fun s h256 h q => by
        have := (tb_sg hT h256).mp q
        refine hs ⟨this.1, ?_⟩
        rw [this.2]; exact h
      refine ⟨J1, ⟨x1, R1, lF_t t1⟩, fun Q hQ => b41_13 hl (by omega) ?_⟩
      simp (disch := omega) only [qj_le]
      refine ⟨fun q => absurd q (by omega), fun _ => ⟨_, J1, k75, ?_⟩⟩
      exact ⟨fun q => absurd q (nn 42 (by omega) (Or.inl rfl)), fun _ => ⟨fun q => absurd q (nn 47 (by omega) (Or.inr (Or.inl rfl))), fun _ => ⟨fun q => absurd q (nn 37 (by omega) (Or.inr (Or.inr rfl))), fun _ => hQ⟩⟩⟩
theorem cL4 (hl : qisL l) (hn : n ≤ 150) (p0 : lQ0 g T n l r) : lQ4 g T n l (r + 1) := by
  intro o L i I d hd ho C X R hL hr
  have hb := tBl_b (T := T) X.2.1
  have hT := X.2.2.2.2.2
  have hB : tBl T n (tBl T n i) = tBl T n i := tBl_i X.2.1
  obtain ⟨J1, k77, x1, t1, -⟩ := c77 (d := d - 1) (g := g) (by omega) X
  obtain ⟨J3, k75, x3, t3, -⟩ := c75b (d := d - 1) (g := g) (by omega) x1
  rw [hB] at k75 x3
  have R1 := qRL_t hl R t1
  have R3 := qRL_t hl R1 t3
  have C1 := lF_con hl (lF_t t1) C
  have C3 := lF_con hl (lF_t t3) C1
  have f3 : lF l I J3 := lF_tr (lF_t t1) (lF_t t3)
  rw [aLw, if_neg (by omega), if_neg (by omega), if_neg (by omega), if_neg (by omega)]
  by_cases hd1 : tBl T n i < n ∧ dg (T (tBl T n i)) = true
  · rw [if_pos hd1]
    rw [decide_eq_true hd1.1, hd1.2] at k77
    have k79 := c79 (d := d - 1) (g := g) (lo := 0) (hi := 999) (by omega) x1 (by omega) (by omega)
    rw [aNum_i X.2.1] at k79
    cases h1 : aNum T n i 0 999 with
    | inl e =>
      rw [h1] at k79
      obtain ⟨J, k, e1, e2⟩ := k79
      exact ⟨J, qRun_of fun Q hQ => b42_0 hl (by omega) ⟨_, _, k77, fun q => Bool.noConfusion q, fun _ => ⟨_, _, k, fun _ => hQ, fun q => Bool.noConfusion q⟩⟩, e1, lF_tr (lF_t t1) (lF_t e2)⟩
    | inr q =>
      rw [h1] at k79
      obtain ⟨J, k, y1, y2, y3, y4, y5⟩ := k79
      have bq := aNum_b h1 X.2.1
      obtain ⟨K, m1, m2, m3, m4⟩ := c38w (d := d - 1) (g := g) (by omega) hl y1 (qRL_t hl R1 y5) (by omega) q.1
      exact ⟨K, qRun_of fun Q hQ => b42_0 hl (by omega) ⟨_, _, k77, fun q => Bool.noConfusion q, fun _ => ⟨_, _, k, fun q => Bool.noConfusion q, fun _ => ⟨_, K, by rw [y3]; exact m1, fun q => Bool.noConfusion q, fun _ => hQ⟩⟩⟩, m2, m3, lF_tr (lF_t t1) (lF_tr (lF_t y5) m4)⟩
  · rw [if_neg hd1]
    have hf : (decide (tBl T n i < n) && dg (T (tBl T n i))) = false := by
      cases hq : (decide (tBl T n i < n) && dg (T (tBl T n i))) with
      | false => rfl
      | true =>
        rw [Bool.and_eq_true, decide_eq_true_iff] at hq
        exact absurd hq hd1
    rw [hf] at k77
    have s40 := tb_sg (i := tBl T n i) hT (show 40 < 256 by omega)
    by_cases hp : tBl T n i < n ∧ T (tBl T n i) = 40
    · rw [if_pos hp]
      have e40 : qj (tb T n (tBl T n i)) = qj 40 := s40.mpr hp
      by_cases c6 : 6 ≤ o
      · rw [if_pos c6]
        refine ⟨qup (qup J3 65 4 (qj 3)) 65 5 (J3 65 3), qRun_of fun Q hQ => b42_0 hl (by omega) ⟨_, _, k77, fun _ => ⟨_, _, k75, fun q => absurd e40 q, fun _ => ?_⟩, fun q => Bool.noConfusion q⟩, ⟨?_, ?_⟩, ?_⟩
        · simp (disch := omega) only [qj_lt]
          exact ⟨fun q => by omega, fun _ => hQ⟩
        · rw [qup_at, if_neg (by omega), qup_at, if_pos rfl]; rfl
        · rw [qup_at, if_pos rfl]; exact x3.2.2.2.1
        · exact lF_tr f3 (lF_tr (lF_t (tF_u (by omega))) (lF_t (tF_u (by omega))))
      · rw [if_neg c6]
        have k78 := c78 (d := d - 1) (g := g) (s := 40) (by omega) x3 (by omega)
        rw [aSgn_h hp.1 hB hp.2] at k78
        obtain ⟨J4, k4, x4, t4, -⟩ := k78
        have R4 := qRL_t hl R3 t4
        have C4 := lF_con hl (lF_t t4) C3
        have q0 := p0 (o + 1) L (tBl T n i + 1) J4 (d - 1) (by omega) (by omega) C4 x4 R4 (by omega) (by omega)
        have start : ∀ (v : Bool) (J : Nat → Nat → Int32) (Q : qR → Prop), qRun (d - 1) 40 [.ref l, .ref 65, .int (qj ((o + 1 : Nat) : Int))] (qw g J4) (.inl (some (.int (qb v)), qw g J)) →
            ((v = false → Q (.inl (some (.int (qb false)), qw g J))) ∧ (v = true → ∃ (w : Bool) (K : _), qRun (d - 1) 78 [.ref 65, .int (qj 41)] (qw g J) (.inl (some (.int (qb w)), qw g K)) ∧ ((w = false → Q (.inl (some (.int (qb false)), qw g K))) ∧ (w = true → Q (.inl (some (.int (qb true)), qw g K)))))) →
            qwp d 42 [.ref l, .ref 65, .int (qj (o : Int))] (qw g I) Q := by
          intro v J Q k h
          refine b42_0 hl (by omega) ⟨_, _, k77, fun _ => ⟨_, _, k75, fun q => absurd e40 q, fun _ => ?_⟩, fun q => Bool.noConfusion q⟩
          simp (disch := omega) only [qj_lt, qj_add]
          exact ⟨fun _ => ⟨_, J4, k4, fun q => Bool.noConfusion q, fun _ => ⟨v, J, k, h⟩⟩, fun q => absurd (by omega) q⟩
        cases h1 : aLw T n r 0 (o + 1) L (tBl T n i + 1) with
        | inl e =>
          rw [h1] at q0
          obtain ⟨J, k, e1, e2⟩ := q0
          exact ⟨J, qRun_of fun Q hQ => start _ J Q k ⟨fun _ => hQ, fun q => Bool.noConfusion q⟩, e1, lF_tr f3 (lF_tr (lF_t t4) e2)⟩
        | inr q =>
          rw [h1] at q0
          obtain ⟨J, k, x5, R5, f5⟩ := q0
          have k41 := c78 (d := d - 1) (g := g) (s := 41) (by omega) x5 (by omega)
          simp only []
          cases h2 : aSgn T n q.2 41 with
          | inl e =>
            rw [h2] at k41
            obtain ⟨K, kk, e1, e2⟩ := k41
            exact ⟨K, qRun_of fun Q hQ => start _ J Q k ⟨fun q => Bool.noConfusion q, fun _ => ⟨_, K, kk, fun _ => hQ, fun q => Bool.noConfusion q⟩⟩, e1, lF_tr f3 (lF_tr (lF_t t4) (lF_tr f5 (lF_t e2)))⟩
          | inr j =>
            rw [h2] at k41
            obtain ⟨K, kk, x6, t6, -⟩ := k41
            exact ⟨K, qRun_of fun Q hQ => start _ J Q k ⟨fun q => Bool.noConfusion q, fun _ => ⟨_, K, kk, fun q => Bool.noConfusion q, fun _ => hQ⟩⟩, x6, qRL_t hl R5 t6, lF_tr f3 (lF_tr (lF_t t4) (lF_tr f5 (lF_t t6)))⟩
    · rw [if_neg hp]
      have n40 : ¬ qj (tb T n (tBl T n i)) = qj 40 := fun q => hp (s40.mp q)
      have k80 := c80 (d := d - 1) (g := g) (by omega) x3
      rw [aWrd_i X.2.1] at k80
      cases h1 : aWrd T n i with
      | inl e =>
        rw [h1] at k80
        obtain ⟨J, k, e1, e2⟩ := k80
        exact ⟨J, qRun_of fun Q hQ => b42_0 hl (by omega) ⟨_, _, k77, fun _ => ⟨_, _, k75, fun _ => ⟨_, J, k, fun q => Bool.noConfusion q, fun _ => hQ⟩, fun q => absurd n40 q⟩, fun q => Bool.noConfusion q⟩, e1, lF_tr f3 (lF_t e2)⟩
      | inr w =>
        rw [h1] at k80
        obtain ⟨J5, k5, x5, e6, t5, -, -⟩ := k80
        have bw := aWrd_s h1 X.2.1
        have R5 := qRL_t hl R3 t5
        have C5 := lF_con hl (lF_t t5) C3
        have k43 := c43 (d := d - 1) (g := g) (by omega) C5 x5 (by omega) e6
        have f5 : lF l I J5 := lF_tr f3 (lF_t t5)
        simp only []
        cases h2 : aLwd T w.1 w.2 with
        | none =>
          rw [h2] at k43
          obtain ⟨tE1, tE2⟩ := tE_f (k := 1) e6
          exact ⟨_, qRun_of fun Q hQ => b42_0 hl (by omega) ⟨_, _, k77, fun _ => ⟨_, _, k75, fun _ => ⟨_, J5, k5, fun _ => ⟨_, J5, k43, fun q => absurd rfl q, fun _ => hQ⟩, fun q => Bool.noConfusion q⟩, fun q => absurd n40 q⟩, fun q => Bool.noConfusion q⟩, tE1, lF_tr f5 (lF_t tE2)⟩
        | some c =>
          rw [h2] at k43
          have bc := aLwd_b h2
          have k43 : qRun (d - 1) 43 [.ref 65] (qw g J5) (.inl (some (.int (qj (c : Int))), qw g J5)) := k43
          have nm1 : ¬ qj (c : Int) = qj (-1) := by
            rw [qj_eq (by omega) (by omega) (by omega) (by omega)]; omega
          simp only []
          by_cases c2 : c < 2000
          · rw [if_pos c2]
            obtain ⟨K, m1, m2, m3, m4⟩ := c38w (d := d - 1) (g := g) (by omega) hl x5 R5 (by omega) c
            refine ⟨K, qRun_of fun Q hQ => b42_0 hl (by omega) ⟨_, _, k77, fun _ => ⟨_, _, k75, fun _ => ⟨_, J5, k5, fun _ => ⟨_, J5, k43, fun _ => ?_, fun q => absurd nm1 q⟩, fun q => Bool.noConfusion q⟩, fun q => absurd n40 q⟩, fun q => Bool.noConfusion q⟩, m2, m3, lF_tr f5 m4⟩
            simp (disch := omega) only [qj_le]
            exact ⟨fun q => absurd q (by omega), fun _ => ⟨_, K, m1, hQ⟩⟩
          · rw [if_neg c2]
            by_cases c6 : 6 ≤ o
            · rw [if_pos c6]
              obtain ⟨tE1, tE2⟩ := tE_f (k := 3) e6
              refine ⟨_, qRun_of fun Q hQ => b42_0 hl (by omega) ⟨_, _, k77, fun _ => ⟨_, _, k75, fun _ => ⟨_, J5, k5, fun _ => ⟨_, J5, k43, fun _ => ?_, fun q => absurd nm1 q⟩, fun q => Bool.noConfusion q⟩, fun q => absurd n40 q⟩, fun q => Bool.noConfusion q⟩, tE1, lF_tr f5 (lF_t tE2)⟩
              simp (disch := omega) only [qj_le, qj_lt]
              exact ⟨fun _ => ⟨fun q => absurd q (by omega), fun _ => hQ⟩, fun q => absurd (by omega) q⟩
            · rw [if_neg c6]
              have k78 := c78 (d := d - 1) (g := g) (s := 91) (by omega) x5 (by omega)
              have start : ∀ (v10 : Bool) (J9 : Nat → Nat → Int32) (Q : qR → Prop), qRun (d - 1) 78 [.ref 65, .int (qj 91)] (qw g J5) (.inl (some (.int (qb v10)), qw g J9)) →
                  ((v10 = false → Q (.inl (some (.int (qb false)), qw g J9))) ∧ (v10 = true → ∃ (v12 : Bool) (J11 : _), qRun (d - 1) 40 [.ref l, .ref 65, .int (qj ((o + 1 : Nat) : Int))] (qw g J9) (.inl (some (.int (qb v12)), qw g J11)) ∧
                    ((v12 = false → Q (.inl (some (.int (qb false)), qw g J11))) ∧ (v12 = true → ∃ (v14 : Bool) (J13 : _), qRun (d - 1) 78 [.ref 65, .int (qj 44)] (qw g J11) (.inl (some (.int (qb v14)), qw g J13)) ∧
                      ((v14 = false → Q (.inl (some (.int (qb false)), qw g J13))) ∧ (v14 = true → ∃ (v16 : Bool) (J15 : _), qRun (d - 1) 40 [.ref l, .ref 65, .int (qj ((o + 1 : Nat) : Int))] (qw g J13) (.inl (some (.int (qb v16)), qw g J15)) ∧
                        ((v16 = false → Q (.inl (some (.int (qb false)), qw g J15))) ∧ (v16 = true → ∃ (v18 : Bool) (J17 : _), qRun (d - 1) 78 [.ref 65, .int (qj 93)] (qw g J15) (.inl (some (.int (qb v18)), qw g J17)) ∧
                          ((v18 = false → Q (.inl (some (.int (qb false)), qw g J17))) ∧ (v18 = true → ∃ (v20 : Bool) (J19 : _), qRun (d - 1) 38 [.ref l, .int (qj (c : Int))] (qw g J17) (.inl (some (.int (qb v20)), qw g J19)) ∧
                            ((v20 = false → Q (.inl (some (.int (qb false)), qw g J19))) ∧ (v20 = true → Q (.inl (some (.int (qb true)), qw g J19)))))))))))))) →
                  qwp d 42 [.ref l, .ref 65, .int (qj (o : Int))] (qw g I) Q := by
                intro v10 J9 Q k h
                refine b42_0 hl (by omega) ⟨_, _, k77, fun _ => ⟨_, _, k75, fun _ => ⟨_, J5, k5, fun _ => ⟨_, J5, k43, fun _ => ?_, fun q => absurd nm1 q⟩, fun q => Bool.noConfusion q⟩, fun q => absurd n40 q⟩, fun q => Bool.noConfusion q⟩
                simp (disch := omega) only [qj_le, qj_lt, qj_add]
                exact ⟨fun _ => ⟨fun _ => ⟨v10, J9, k, h⟩, fun q => absurd (by omega) q⟩, fun q => absurd (by omega) q⟩
              cases h3 : aSgn T n w.2 91 with
              | inl e =>
                rw [h3] at k78
                obtain ⟨J9, k9, e1, e2⟩ := k78
                exact ⟨J9, qRun_of fun Q hQ => start _ J9 Q k9 ⟨fun _ => hQ, fun q => Bool.noConfusion q⟩, e1, lF_tr f5 (lF_t e2)⟩
              | inr j1 =>
                rw [h3] at k78
                obtain ⟨J9, k9, x9, t9, -⟩ := k78
                have b9 := aSgn_s h3 bw.2.2.2.2
                have q0 := p0 (o + 1) L j1 J9 (d - 1) (by omega) (by omega) (lF_con hl (lF_t t9) C5) x9 (qRL_t hl R5 t9) (by omega) (by omega)
                simp only []
                cases h4 : aLw T n r 0 (o + 1) L j1 with
                | inl e =>
                  rw [h4] at q0
                  obtain ⟨J11, k11, e1, e2⟩ := q0
                  exact ⟨J11, qRun_of fun Q hQ => start _ J9 Q k9 ⟨fun q => Bool.noConfusion q, fun _ => ⟨_, J11, k11, fun _ => hQ, fun q => Bool.noConfusion q⟩⟩, e1, lF_tr f5 (lF_tr (lF_t t9) e2)⟩
                | inr q1 =>
                  rw [h4] at q0
                  obtain ⟨J11, k11, x11, R11, f11⟩ := q0
                  have b11 := aLw_b _ _ _ _ _ _ h4 b9.2
                  have k13' := c78 (d := d - 1) (g := g) (s := 44) (by omega) x11 (by omega)
                  simp only []
                  cases h5 : aSgn T n q1.2 44 with
                  | inl e =>
                    rw [h5] at k13'
                    obtain ⟨J13, k13, e1, e2⟩ := k13'
                    exact ⟨J13, qRun_of fun Q hQ => start _ J9 Q k9 ⟨fun q => Bool.noConfusion q, fun _ => ⟨_, J11, k11, fun q => Bool.noConfusion q, fun _ => ⟨_, J13, k13, fun _ => hQ, fun q => Bool.noConfusion q⟩⟩⟩, e1, lF_tr f5 (lF_tr (lF_t t9) (lF_tr f11 (lF_t e2)))⟩
                  | inr j2 =>
                    rw [h5] at k13'
                    obtain ⟨J13, k13, x13, t13, -⟩ := k13'
                    have b13 := aSgn_s h5 b11.1
                    have C11 := lF_con hl f11 (lF_con hl (lF_t t9) C5)
                    have q0' := p0 (o + 1) q1.1 j2 J13 (d - 1) (by omega) (by omega) (lF_con hl (lF_t t13) C11) x13 (qRL_t hl R11 t13) (by omega) (by omega)
                    simp only []
                    cases h6 : aLw T n r 0 (o + 1) q1.1 j2 with
                    | inl e =>
                      rw [h6] at q0'
                      obtain ⟨J15, k15, e1, e2⟩ := q0'
                      exact ⟨J15, qRun_of fun Q hQ => start _ J9 Q k9 ⟨fun q => Bool.noConfusion q, fun _ => ⟨_, J11, k11, fun q => Bool.noConfusion q, fun _ => ⟨_, J13, k13, fun q => Bool.noConfusion q, fun _ => ⟨_, J15, k15, fun _ => hQ, fun q => Bool.noConfusion q⟩⟩⟩⟩, e1, lF_tr f5 (lF_tr (lF_t t9) (lF_tr f11 (lF_tr (lF_t t13) e2)))⟩
                    | inr q2 =>
                      rw [h6] at q0'
                      obtain ⟨J15, k15, x15, R15, f15⟩ := q0'
                      have b15 := aLw_b _ _ _ _ _ _ h6 b13.2
                      have k17' := c78 (d := d - 1) (g := g) (s := 93) (by omega) x15 (by omega)
                      simp only []
                      cases h7 : aSgn T n q2.2 93 with
                      | inl e =>
                        rw [h7] at k17'
                        obtain ⟨J17, k17, e1, e2⟩ := k17'
                        exact ⟨J17, qRun_of fun Q hQ => start _ J9 Q k9 ⟨fun q => Bool.noConfusion q, fun _ => ⟨_, J11, k11, fun q => Bool.noConfusion q, fun _ => ⟨_, J13, k13, fun q => Bool.noConfusion q, fun _ => ⟨_, J15, k15, fun q => Bool.noConfusion q, fun _ => ⟨_, J17, k17, fun _ => hQ, fun q => Bool.noConfusion q⟩⟩⟩⟩⟩, e1, lF_tr f5 (lF_tr (lF_t t9) (lF_tr f11 (lF_tr (lF_t t13) (lF_tr f15 (lF_t e2)))))⟩
                      | inr j3 =>
                        rw [h7] at k17'
                        obtain ⟨J17, k17, x17, t17, -⟩ := k17'
                        have b17 := aSgn_s h7 b15.1
                        obtain ⟨K, m1, m2, m3, m4⟩ := c38w (d := d - 1) (g := g) (by omega) hl x17 (qRL_t hl R15 t17) (by omega) c
                        exact ⟨K, qRun_of fun Q hQ => start _ J9 Q k9 ⟨fun q => Bool.noConfusion q, fun _ => ⟨_, J11, k11, fun q => Bool.noConfusion q, fun _ => ⟨_, J13, k13, fun q => Bool.noConfusion q, fun _ => ⟨_, J15, k15, fun q => Bool.noConfusion q, fun _ => ⟨_, J17, k17, fun q => Bool.noConfusion q, fun _ => ⟨_, K, m1, fun q => Bool.noConfusion q, fun _ => hQ⟩⟩⟩⟩⟩⟩, m2, m3, lF_tr f5 (lF_tr (lF_t t9) (lF_tr f11 (lF_tr (lF_t t13) (lF_tr f15 (lF_tr (lF_t t17) m4)))))⟩
theorem cLw (hl : qisL l) (hn : n ≤ 150) : ∀ r, lQ0 g T n l r ∧ lQ1 g T n l r ∧ lQ2 g T n l r ∧ lQ3 g T n l r ∧ lQ4 g T n l r
  | 0 => ⟨fun o L i I d _ _ _ _ _ _ h => by omega, fun o L i c I d _ _ _ _ _ _ _ h => by omega, fun o L i I d _ _ _ _ _ _ h => by omega, fun o L i c I d _ _ _ _ _ _ _ h => by omega, fun o L i I d _ _ _ _ _ _ h => by omega⟩
  | r + 1 => by
    obtain ⟨p0, p1, p2, p3, p4⟩ := cLw hl hn r
    exact ⟨cL0 hl hn p2 p1, cL1 hl hn p2 p1, cL2 hl hn p4 p3, cL3 hl hn p4 p3, cL4 hl hn p0⟩
end LAW2
