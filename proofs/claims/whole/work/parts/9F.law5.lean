/-! ===== the text of the law, the reference, 2: what is read as an expression ===== -/
def mR (d k o : Nat) (g : qG1) (I : Nat → Nat → Int32) (T : Nat → Nat) (n : Nat) : qLR → Prop
  | .inr q => ∃ J, qRun d k [.ref 245] (qw g I) (.inl (none, qw g J)) ∧ (rX T n J q.2 ∧ J 245 5 = qj 0 ∧ rL q.1 J ∧ J 245 8 = qj (o : Int)) ∧ rG I J
  | .inl e => ∃ J, qRun d k [.ref 245] (qw g I) (.inl (none, qw g J)) ∧ rE T n J e ∧ rG I J
def mT (d k o : Nat) (g : qG1) (I : Nat → Nat → Int32) (T : Nat → Nat) (n : Nat) : qLR → Prop
  | .inr q => ∃ J, ((rX T n J q.2 ∧ J 245 5 = qj 0 ∧ rL q.1 J ∧ J 245 8 = qj (o : Int)) ∧ rG I J) ∧ ∀ Q : qR → Prop, Q (.inl (none, qw g J)) → qwq d k 4 [(0, .ref 245)] [] (qw g I) Q
  | .inl e => ∃ J, (rE T n J e ∧ rG I J) ∧ ∀ Q : qR → Prop, Q (.inl (none, qw g J)) → qwq d k 4 [(0, .ref 245)] [] (qw g I) Q
def mQ0 (g : qG1) (T : Nat → Nat) (n r : Nat) : Prop := ∀ (o : Nat) (L : qLw) (i : Nat) (I : Nat → Nat → Int32) (d : Nat), 60 + 3 * (7 - o) + 2 ≤ d → o ≤ 6 → rX T n I i → I 245 5 = qj 0 → rL L I → I 245 8 = qj (o : Int) → L.1 ≤ i → 3 * (n - i) + 3 ≤ r → mR d 206 o g I T n (aLw T n r 0 o L i)
def mQ1 (g : qG1) (T : Nat → Nat) (n r : Nat) : Prop := ∀ (o : Nat) (L : qLw) (i : Nat) (I : Nat → Nat → Int32) (d : Nat), 60 + 3 * (7 - o) + 2 ≤ d → o ≤ 6 → rX T n I i → I 245 5 = qj 0 → rL L I → I 245 8 = qj (o : Int) → L.1 ≤ i → 3 * (n - i) + 1 ≤ r → mT d 206 o g I T n (aLw T n r 1 o L i)
def mQ2 (g : qG1) (T : Nat → Nat) (n r : Nat) : Prop := ∀ (o : Nat) (L : qLw) (i : Nat) (I : Nat → Nat → Int32) (d : Nat), 60 + 3 * (7 - o) + 1 ≤ d → o ≤ 6 → rX T n I i → I 245 5 = qj 0 → rL L I → I 245 8 = qj (o : Int) → L.1 ≤ i → 3 * (n - i) + 2 ≤ r → mR d 207 o g I T n (aLw T n r 2 o L i)
def mQ3 (g : qG1) (T : Nat → Nat) (n r : Nat) : Prop := ∀ (o : Nat) (L : qLw) (i : Nat) (I : Nat → Nat → Int32) (d : Nat), 60 + 3 * (7 - o) + 1 ≤ d → o ≤ 6 → rX T n I i → I 245 5 = qj 0 → rL L I → I 245 8 = qj (o : Int) → L.1 ≤ i → 3 * (n - i) + 1 ≤ r → mT d 207 o g I T n (aLw T n r 3 o L i)
def mQ4 (g : qG1) (T : Nat → Nat) (n r : Nat) : Prop := ∀ (o : Nat) (L : qLw) (i : Nat) (I : Nat → Nat → Int32) (d : Nat), 60 + 3 * (7 - o) ≤ d → o ≤ 6 → rX T n I i → I 245 5 = qj 0 → rL L I → I 245 8 = qj (o : Int) → L.1 ≤ i → 3 * (n - i) + 1 ≤ r → mR d 209 o g I T n (aLw T n r 4 o L i)
section LAW5
variable {g : qG1} {T : Nat → Nat} {n r d : Nat} {I : Nat → Nat → Int32}
theorem m209e (hd : 60 ≤ d) (h5 : ¬ I 245 5 = qj 0) : qRun d 209 [.ref 245] (qw g I) (.inl (none, qw g I)) :=
  qRun_of fun Q hQ => b209_0 (by omega) ⟨fun q => absurd q h5, fun _ => hQ⟩
theorem m207e (hd : 61 ≤ d) (h5 : ¬ I 245 5 = qj 0) : qRun d 207 [.ref 245] (qw g I) (.inl (none, qw g I)) :=
  qRun_of fun Q hQ => b207_0 (by omega) ⟨I, m209e (by omega) h5, b207_4 (by omega) ⟨fun _ => hQ, fun q => absurd h5 q⟩⟩
theorem m206e (hd : 62 ≤ d) (h5 : ¬ I 245 5 = qj 0) : qRun d 206 [.ref 245] (qw g I) (.inl (none, qw g I)) :=
  qRun_of fun Q hQ => b206_0 (by omega) ⟨I, m207e (by omega) h5, b206_4 (by omega) ⟨fun _ => hQ, fun q => absurd h5 q⟩⟩
theorem mL0 (p2 : mQ2 g T n r) (p1 : mQ1 g T n r) : mQ0 g T n (r + 1) := by
  intro o L i I d hd ho X z R e8 hL hr
  have p := p2 o L i I (d - 1) (by omega) ho X z R e8 hL (by omega)
  rw [aLw, if_pos rfl]
  cases h1 : aLw T n r 2 o L i with
  | inl e =>
    rw [h1] at p
    obtain ⟨J, k, e1, e2⟩ := p
    exact ⟨J, qRun_of fun Q hQ => b206_0 (by omega) ⟨J, k, b206_4 (by omega) ⟨fun _ => hQ, fun q => absurd (rE_ne e1) q⟩⟩, e1, e2⟩
  | inr q =>
    rw [h1] at p
    obtain ⟨J, k, ⟨x1, z1, R1, e81⟩, f1⟩ := p
    have b := aLw_b r 2 o L i q h1 X.2.1
    have t := p1 o q.1 q.2 J d (by omega) ho x1 z1 R1 e81 (by omega) (by omega)
    simp only []
    cases h2 : aLw T n r 1 o q.1 q.2 with
    | inl e =>
      rw [h2] at t
      obtain ⟨J2, ⟨e1, e2⟩, go⟩ := t
      exact ⟨J2, qRun_of fun Q hQ => b206_0 (by omega) ⟨J, k, go Q hQ⟩, e1, rG_tr f1 e2⟩
    | inr q2 =>
      rw [h2] at t
      obtain ⟨J2, ⟨e1, e2⟩, go⟩ := t
      exact ⟨J2, qRun_of fun Q hQ => b206_0 (by omega) ⟨J, k, go Q hQ⟩, e1, rG_tr f1 e2⟩
/-- behind a sign -/
theorem mS1 (hn : n ≤ 150) (p2 : mQ2 g T n r) (p1 : mQ1 g T n r) {o i j : Nat} {L : qLw} (hd : 60 + 3 * (7 - o) + 2 ≤ d) (ho : o ≤ 6) {J : Nat → Nat → Int32} (hj : j ≤ n) (hij : i < j) (hL : L.1 ≤ i) (hr : 3 * (n - j) + 3 ≤ r + 1) (f : rF I J) (X : rX T n J j) (z : J 245 5 = qj 0) (R : rL L I) (e8 : I 245 8 = qj (o : Int)) (w : Nat)
    (go : ∀ (J8 J9 : Nat → Nat → Int32) (Q : qR → Prop), qRun (d - 1) 207 [.ref 245] (qw g J) (.inl (none, qw g J8)) → qRun (d - 1) 204 [.ref 245, .int (qj (aKd w : Int)), .int (qj (aVl w : Int))] (qw g J8) (.inl (none, qw g J9)) → qwq d 206 4 [(0, .ref 245)] [] (qw g J9) Q → qwq d 206 4 [(0, .ref 245)] [] (qw g I) Q) :
    mT d 206 o g I T n (match aLw T n r 2 o L j with | .inl e => .inl e | .inr q => aLw T n r 1 o (ladd q.1 w) q.2) := by
  have e8' : J 245 8 = qj (o : Int) := by rw [f.2 8 (by omega) (by omega) (by omega)]; exact e8
  have p := p2 o L j J (d - 1) (by omega) ho X z (rL_f R f) e8' (by omega) (by omega)
  cases h1 : aLw T n r 2 o L j with
  | inl e =>
    rw [h1] at p
    obtain ⟨J8, k8, e1, e2⟩ := p
    have ne := rE_ne e1
    exact ⟨J8, ⟨e1, rG_tr (rG_f f) e2⟩, fun Q hQ => go J8 J8 Q k8 (m204e (by omega) ne _ _) (b206_4 (by omega) ⟨fun _ => hQ, fun q => absurd ne q⟩)⟩
  | inr q =>
    rw [h1] at p
    obtain ⟨J8, k8, ⟨x8, z8, R8, e88⟩, f8⟩ := p
    have b8 := aLw_b r 2 o L j q h1 hj
    obtain ⟨J9, k9, x9, z9, R9, f9, e89⟩ := m204 (d := d - 1) (g := g) (by omega) x8 z8 R8 (by omega) w
    have t := p1 o (ladd q.1 w) q.2 J9 d (by omega) ho x9 z9 R9 (e89.trans e88) (by show q.1.1 + 1 ≤ q.2; omega) (by omega)
    have f19 := rG_tr (rG_f f) (rG_tr f8 f9)
    simp only []
    cases h2 : aLw T n r 1 o (ladd q.1 w) q.2 with
    | inl e =>
      rw [h2] at t
      obtain ⟨K, ⟨e1, e2⟩, gg⟩ := t
      exact ⟨K, ⟨e1, rG_tr f19 e2⟩, fun Q hQ => go J8 J9 Q k8 k9 (gg Q hQ)⟩
    | inr q2 =>
      rw [h2] at t
      obtain ⟨K, ⟨e1, e2⟩, gg⟩ := t
      exact ⟨K, ⟨e1, rG_tr f19 e2⟩, fun Q hQ => go J8 J9 Q k8 k9 (gg Q hQ)⟩
theorem mL2 (p2 : mQ4 g T n r) (p1 : mQ3 g T n r) : mQ2 g T n (r + 1) := by
  intro o L i I d hd ho X z R e8 hL hr
  have p := p2 o L i I (d - 1) (by omega) ho X z R e8 hL (by omega)
  rw [aLw, if_neg (by omega), if_neg (by omega), if_pos rfl]
  cases h1 : aLw T n r 4 o L i with
  | inl e =>
    rw [h1] at p
    obtain ⟨J, k, e1, e2⟩ := p
    exact ⟨J, qRun_of fun Q hQ => b207_0 (by omega) ⟨J, k, b207_4 (by omega) ⟨fun _ => hQ, fun q => absurd (rE_ne e1) q⟩⟩, e1, e2⟩
  | inr q =>
    rw [h1] at p
    obtain ⟨J, k, ⟨x1, z1, R1, e81⟩, f1⟩ := p
    have b := aLw_b r 4 o L i q h1 X.2.1
    have t := p1 o q.1 q.2 J d (by omega) ho x1 z1 R1 e81 (by omega) (by omega)
    simp only []
    cases h2 : aLw T n r 3 o q.1 q.2 with
    | inl e =>
      rw [h2] at t
      obtain ⟨J2, ⟨e1, e2⟩, go⟩ := t
      exact ⟨J2, qRun_of fun Q hQ => b207_0 (by omega) ⟨J, k, go Q hQ⟩, e1, rG_tr f1 e2⟩
    | inr q2 =>
      rw [h2] at t
      obtain ⟨J2, ⟨e1, e2⟩, go⟩ := t
      exact ⟨J2, qRun_of fun Q hQ => b207_0 (by omega) ⟨J, k, go Q hQ⟩, e1, rG_tr f1 e2⟩
/-- behind a sign -/
theorem mS3 (hn : n ≤ 150) (p2 : mQ4 g T n r) (p1 : mQ3 g T n r) {o i j : Nat} {L : qLw} (hd : 60 + 3 * (7 - o) + 1 ≤ d) (ho : o ≤ 6) {J : Nat → Nat → Int32} (hj : j ≤ n) (hij : i < j) (hL : L.1 ≤ i) (hr : 3 * (n - j) + 3 ≤ r + 1) (f : rF I J) (X : rX T n J j) (z : J 245 5 = qj 0) (R : rL L I) (e8 : I 245 8 = qj (o : Int)) (w : Nat)
    (go : ∀ (J8 J9 : Nat → Nat → Int32) (Q : qR → Prop), qRun (d - 1) 209 [.ref 245] (qw g J) (.inl (none, qw g J8)) → qRun (d - 1) 204 [.ref 245, .int (qj (aKd w : Int)), .int (qj (aVl w : Int))] (qw g J8) (.inl (none, qw g J9)) → qwq d 207 4 [(0, .ref 245)] [] (qw g J9) Q → qwq d 207 4 [(0, .ref 245)] [] (qw g I) Q) :
    mT d 207 o g I T n (match aLw T n r 4 o L j with | .inl e => .inl e | .inr q => aLw T n r 3 o (ladd q.1 w) q.2) := by
  have e8' : J 245 8 = qj (o : Int) := by rw [f.2 8 (by omega) (by omega) (by omega)]; exact e8
  have p := p2 o L j J (d - 1) (by omega) ho X z (rL_f R f) e8' (by omega) (by omega)
  cases h1 : aLw T n r 4 o L j with
  | inl e =>
    rw [h1] at p
    obtain ⟨J8, k8, e1, e2⟩ := p
    have ne := rE_ne e1
    exact ⟨J8, ⟨e1, rG_tr (rG_f f) e2⟩, fun Q hQ => go J8 J8 Q k8 (m204e (by omega) ne _ _) (b207_4 (by omega) ⟨fun _ => hQ, fun q => absurd ne q⟩)⟩
  | inr q =>
    rw [h1] at p
    obtain ⟨J8, k8, ⟨x8, z8, R8, e88⟩, f8⟩ := p
    have b8 := aLw_b r 4 o L j q h1 hj
    obtain ⟨J9, k9, x9, z9, R9, f9, e89⟩ := m204 (d := d - 1) (g := g) (by omega) x8 z8 R8 (by omega) w
    have t := p1 o (ladd q.1 w) q.2 J9 d (by omega) ho x9 z9 R9 (e89.trans e88) (by show q.1.1 + 1 ≤ q.2; omega) (by omega)
    have f19 := rG_tr (rG_f f) (rG_tr f8 f9)
    simp only []
    cases h2 : aLw T n r 3 o (ladd q.1 w) q.2 with
    | inl e =>
      rw [h2] at t
      obtain ⟨K, ⟨e1, e2⟩, gg⟩ := t
      exact ⟨K, ⟨e1, rG_tr f19 e2⟩, fun Q hQ => go J8 J9 Q k8 k9 (gg Q hQ)⟩
    | inr q2 =>
      rw [h2] at t
      obtain ⟨K, ⟨e1, e2⟩, gg⟩ := t
      exact ⟨K, ⟨e1, rG_tr f19 e2⟩, fun Q hQ => go J8 J9 Q k8 k9 (gg Q hQ)⟩
theorem mL1 (hn : n ≤ 150) (p2 : mQ2 g T n r) (p1 : mQ1 g T n r) : mQ1 g T n (r + 1) := by
  intro o L i I d hd ho X z R e8 hL hr
  have hb := tBl_b (T := T) X.2.1
  have hin := X.2.1
  have hB : tBl T n (tBl T n i) = tBl T n i := tBl_i X.2.1
  have bt : ∀ s, (tBl T n i < n ∧ T (tBl T n i) = s) → (decide (tBl T n i < n) && (T (tBl T n i) == s)) = true := fun s h => by rw [decide_eq_true h.1, beq_iff_eq.mpr h.2]; rfl
  have bf : ∀ s, ¬ (tBl T n i < n ∧ T (tBl T n i) = s) → (decide (tBl T n i < n) && (T (tBl T n i) == s)) = false := fun s h => by
    cases hq : (decide (tBl T n i < n) && (T (tBl T n i) == s)) with
    | false => rfl
    | true =>
      rw [Bool.and_eq_true, decide_eq_true_iff, beq_iff_eq] at hq
      exact absurd hq h
  have z' : ¬ ¬ I 245 5 = 0 := fun c => c z
  rw [aLw, if_neg (by omega), if_pos rfl]
  obtain ⟨J0, k0, x0, z0, f0⟩ := m187 (d := d - 1) (g := g) (s := 43) (by omega) X z (by omega)
  by_cases c0 : tBl T n i < n ∧ T (tBl T n i) = 43
  · rw [if_pos c0] at x0
    rw [bt 43 c0] at k0
    rw [if_pos ⟨c0.1, Or.inl c0.2⟩]
    have ew : (if T (tBl T n i) = 43 then 2002 else 2003) = 2002 := by rw [c0.2]; rfl
    rw [ew]
    exact mS1 hn p2 p1 hd ho (i := i) (by omega) (by omega) hL (by omega) f0 x0 z0 R e8 2002 (fun J8 J9 Q h8 h9 h => b206_4 (by omega) ⟨fun q => absurd z q, fun _ => ⟨true, J0, k0, fun q => Bool.noConfusion q, fun _ => ⟨fun _ => ⟨J8, h8, J9, h9, h⟩, fun q => absurd (by decide) q⟩⟩⟩)
  · rw [if_neg c0] at x0
    rw [bf 43 c0] at k0
    obtain ⟨J1, k1, x1, z1, f1'⟩ := m187 (d := d - 1) (g := g) (s := 45) (by omega) x0 z0 (by omega)
    rw [hB] at k1 x1
    have f1 := rF_tr f0 f1'
    by_cases c1 : tBl T n i < n ∧ T (tBl T n i) = 45
    · rw [if_pos c1] at x1
      rw [bt 45 c1] at k1
      rw [if_pos ⟨c1.1, Or.inr c1.2⟩]
      have ew : (if T (tBl T n i) = 43 then 2002 else 2003) = 2003 := by rw [c1.2]; rfl
      rw [ew]
      exact mS1 hn p2 p1 hd ho (i := i) (by omega) (by omega) hL (by omega) f1 x1 z1 R e8 2003 (fun J8 J9 Q h8 h9 h => b206_4 (by omega) ⟨fun q => absurd z q, fun _ => ⟨false, J0, k0, fun _ => ⟨true, J1, k1, fun q => Bool.noConfusion q, fun _ => ⟨fun _ => ⟨J8, h8, J9, h9, h⟩, fun q => absurd (by decide) q⟩⟩, fun q => Bool.noConfusion q⟩⟩)
    · rw [if_neg c1] at x1
      rw [bf 45 c1] at k1
      rw [if_neg (fun x => x.2.elim (fun y => c0 ⟨x.1, y⟩) (fun y => c1 ⟨x.1, y⟩))]
      exact ⟨J1, ⟨⟨x1, z1, rL_f R f1, by rw [f1.2 8 (by omega) (by omega) (by omega)]; exact e8⟩, rG_f f1⟩, fun Q hQ => b206_4 (by omega) ⟨fun q => absurd z q, fun _ => ⟨false, J0, k0, fun _ => ⟨false, J1, k1, fun _ => ⟨fun q => absurd rfl q, fun _ => hQ⟩, fun q => Bool.noConfusion q⟩, fun q => Bool.noConfusion q⟩⟩⟩
theorem mL3 (hn : n ≤ 150) (p2 : mQ4 g T n r) (p1 : mQ3 g T n r) : mQ3 g T n (r + 1) := by
  intro o L i I d hd ho X z R e8 hL hr
  have hb := tBl_b (T := T) X.2.1
  have hin := X.2.1
  have hB : tBl T n (tBl T n i) = tBl T n i := tBl_i X.2.1
  have bt : ∀ s, (tBl T n i < n ∧ T (tBl T n i) = s) → (decide (tBl T n i < n) && (T (tBl T n i) == s)) = true := fun s h => by rw [decide_eq_true h.1, beq_iff_eq.mpr h.2]; rfl
  have bf : ∀ s, ¬ (tBl T n i < n ∧ T (tBl T n i) = s) → (decide (tBl T n i < n) && (T (tBl T n i) == s)) = false := fun s h => by
    cases hq : (decide (tBl T n i < n) && (T (tBl T n i) == s)) with
    | false => rfl
    | true =>
      rw [Bool.and_eq_true, decide_eq_true_iff, beq_iff_eq] at hq
      exact absurd hq h
  have z' : ¬ ¬ I 245 5 = 0 := fun c => c z
  rw [aLw, if_neg (by omega), if_neg (by omega), if_neg (by omega), if_pos rfl]
  obtain ⟨J0, k0, x0, z0, f0⟩ := m187 (d := d - 1) (g := g) (s := 42) (by omega) X z (by omega)
  by_cases c0 : tBl T n i < n ∧ T (tBl T n i) = 42
  · rw [if_pos c0] at x0
    rw [bt 42 c0] at k0
    rw [if_pos ⟨c0.1, Or.inl c0.2⟩]
    have ew : (if T (tBl T n i) = 42 then 2004 else if T (tBl T n i) = 47 then 2005 else 2006) = 2004 := by rw [c0.2]; rfl
    rw [ew]
    exact mS3 hn p2 p1 hd ho (i := i) (by omega) (by omega) hL (by omega) f0 x0 z0 R e8 2004 (fun J8 J9 Q h8 h9 h => b207_4 (by omega) ⟨fun q => absurd z q, fun _ => ⟨true, J0, k0, fun q => Bool.noConfusion q, fun _ => ⟨fun _ => ⟨J8, h8, J9, h9, h⟩, fun q => absurd (by decide) q⟩⟩⟩)
  · rw [if_neg c0] at x0
    rw [bf 42 c0] at k0
    obtain ⟨J1, k1, x1, z1, f1'⟩ := m187 (d := d - 1) (g := g) (s := 47) (by omega) x0 z0 (by omega)
    rw [hB] at k1 x1
    have f1 := rF_tr f0 f1'
    by_cases c1 : tBl T n i < n ∧ T (tBl T n i) = 47
    · rw [if_pos c1] at x1
      rw [bt 47 c1] at k1
      rw [if_pos ⟨c1.1, Or.inr (Or.inl c1.2)⟩]
      have ew : (if T (tBl T n i) = 42 then 2004 else if T (tBl T n i) = 47 then 2005 else 2006) = 2005 := by rw [c1.2]; rfl
      rw [ew]
      exact mS3 hn p2 p1 hd ho (i := i) (by omega) (by omega) hL (by omega) f1 x1 z1 R e8 2005 (fun J8 J9 Q h8 h9 h => b207_4 (by omega) ⟨fun q => absurd z q, fun _ => ⟨false, J0, k0, fun _ => ⟨true, J1, k1, fun q => Bool.noConfusion q, fun _ => ⟨fun _ => ⟨J8, h8, J9, h9, h⟩, fun q => absurd (by decide) q⟩⟩, fun q => Bool.noConfusion q⟩⟩)
    · rw [if_neg c1] at x1
      rw [bf 47 c1] at k1
      obtain ⟨J2, k2, x2, z2, f2'⟩ := m187 (d := d - 1) (g := g) (s := 37) (by omega) x1 z1 (by omega)
      rw [hB] at k2 x2
      have f2 := rF_tr f1 f2'
      by_cases c2 : tBl T n i < n ∧ T (tBl T n i) = 37
      · rw [if_pos c2] at x2
        rw [bt 37 c2] at k2
        rw [if_pos ⟨c2.1, Or.inr (Or.inr c2.2)⟩]
        have ew : (if T (tBl T n i) = 42 then 2004 else if T (tBl T n i) = 47 then 2005 else 2006) = 2006 := by rw [c2.2]; rfl
        rw [ew]
        exact mS3 hn p2 p1 hd ho (i := i) (by omega) (by omega) hL (by omega) f2 x2 z2 R e8 2006 (fun J8 J9 Q h8 h9 h => b207_4 (by omega) ⟨fun q => absurd z q, fun _ => ⟨false, J0, k0, fun _ => ⟨false, J1, k1, fun _ => ⟨true, J2, k2, fun q => Bool.noConfusion q, fun _ => ⟨fun _ => ⟨J8, h8, J9, h9, h⟩, fun q => absurd (by decide) q⟩⟩, fun q => Bool.noConfusion q⟩, fun q => Bool.noConfusion q⟩⟩)
      · rw [if_neg c2] at x2
        rw [bf 37 c2] at k2
        rw [if_neg (fun x => x.2.elim (fun y => c0 ⟨x.1, y⟩) (fun y => y.elim (fun y => c1 ⟨x.1, y⟩) (fun y => c2 ⟨x.1, y⟩)))]
        exact ⟨J2, ⟨⟨x2, z2, rL_f R f2, by rw [f2.2 8 (by omega) (by omega) (by omega)]; exact e8⟩, rG_f f2⟩, fun Q hQ => b207_4 (by omega) ⟨fun q => absurd z q, fun _ => ⟨false, J0, k0, fun _ => ⟨false, J1, k1, fun _ => ⟨false, J2, k2, fun _ => ⟨fun q => absurd rfl q, fun _ => hQ⟩, fun q => Bool.noConfusion q⟩, fun q => Bool.noConfusion q⟩, fun q => Bool.noConfusion q⟩⟩⟩
end LAW5
