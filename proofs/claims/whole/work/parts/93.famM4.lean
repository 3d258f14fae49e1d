/-! ===== the text of the family, the reference, 4: kinds, bodies ===== -/
/-- the reference's number of a kind -/
def kR (k : Nat) : Nat := if k = 2 then 3 else if k = 3 then 4 else if k = 4 then 5 else if k = 5 then 2 else k
def oKr (o : Option Nat) : Int := match o with | none => -1 | some k => (kR k : Nat)
theorem aIs_ex {T : Nat → Nat} {n b w w' : Nat} (hw : w < 20) (hw' : w' < 20) (ne : ¬ sv (wN w) = sv (wN w')) (h : aIs T b (tLt T n b) w = true) : aIs T b (tLt T n b) w' = false := by
  cases q : aIs T b (tLt T n b) w' with
  | false => rfl
  | true =>
    have h1 := (wL_is hw).mpr h
    have h2 := (wL_is hw').mpr q
    rw [h1] at h2
    exact absurd (by omega) ne
theorem aKnd_r {T : Nat → Nat} {n b : Nat} : aKnd T b (tLt T n b) = (if aIs T b (tLt T n b) 0 = true then some 0 else if aIs T b (tLt T n b) 1 = true then some 1 else if aIs T b (tLt T n b) 5 = true then some 5 else if aIs T b (tLt T n b) 2 = true then some 2 else if aIs T b (tLt T n b) 3 = true then some 3 else if aIs T b (tLt T n b) 4 = true then some 4 else if aIs T b (tLt T n b) 6 = true then some 6 else if aIs T b (tLt T n b) 7 = true then some 7 else none) := by
  unfold aKnd
  cases a5 : aIs T b (tLt T n b) 5 with
  | true => rw [aIs_ex (w := 5) (w' := 2) (by omega) (by omega) (by decide +kernel) a5, aIs_ex (w := 5) (w' := 3) (by omega) (by omega) (by decide +kernel) a5, aIs_ex (w := 5) (w' := 4) (by omega) (by omega) (by decide +kernel) a5]; rfl
  | false => rw [if_neg Bool.false_ne_true, if_neg Bool.false_ne_true]
/-- a body that is read -/
def rBP (d : Nat) (g : qG1) (I : Nat → Nat → Int32) (T : Nat → Nat) (n x c : Nat) : qPR → Prop
  | .inl e => ∃ J, (rE T n J e ∧ rN I J) ∧ ∀ Q : qR → Prop, qwq d 193 374 [(0, .ref 245), (1, .int (qj (x : Int)))] [] (qw g J) Q → qwq d 193 87 [(0, .ref 245), (1, .int (qj (x : Int)))] [] (qw g I) Q
  | .inr r => ∃ J, (rX T n J r.2 ∧ J 245 5 = qj 0 ∧ qNF r.1 (aInc x J) ∧ rN I J ∧ J 245 7 = qj ((c + 1 : Nat) : Int)) ∧ ∀ Q : qR → Prop, qwq d 193 374 [(0, .ref 245), (1, .int (qj (x : Int)))] [] (qw g J) Q → qwq d 193 87 [(0, .ref 245), (1, .int (qj (x : Int)))] [] (qw g I) Q
section FAMM4
variable {d : Nat} {g : qG1} {I : Nat → Nat → Int32} {T : Nat → Nat} {n i c : Nat} {F : qFam}
theorem m190 (hd : 5 ≤ d) (X : rX T n I i) (z : I 245 5 = qj 0) : ∃ J, qRun d 190 [.ref 245] (qw g I) (.inl (some (.int (qj (oKr (aKnd T (tBl T n i) (tLt T n (tBl T n i)))))), qw g J)) ∧ rX T n J (tBl T n i) ∧ rF I J ∧ J 245 5 = qj 0 := by
  have st : ∀ (K : Nat → Nat → Int32) (w : Nat), w < 20 → rX T n K (tBl T n i) → K 245 5 = qj 0 → ∃ J, qRun (d - 1) 183 [.ref 245, .int (qj (wN w 0 : Int)), .int (qj (wN w 1 : Int)), .int (qj (wN w 2 : Int)), .int (qj (wN w 3 : Int)), .int (qj (wN w 4 : Int)), .int (qj (wN w 5 : Int)), .int (qj (wN w 6 : Int))] (qw g K) (.inl (some (.int (qb (aIs T (tBl T n i) (tLt T n (tBl T n i)) w))), qw g J)) ∧ rX T n J (tBl T n i) ∧ rF K J ∧ J 245 5 = qj 0 := by
    intro K w hw XK zK
    have h := m183 (d := d - 1) (g := g) (w := w) (by omega) XK zK hw
    rw [tBl_i X.2.1] at h
    exact h
  obtain ⟨J0, k0, x0, f0, z0⟩ := m183 (d := d - 1) (g := g) (w := 0) (by omega) X z (by omega)
  obtain ⟨J1, k1, x1, f1, z1⟩ := st J0 1 (by omega) x0 z0
  obtain ⟨J2, k2, x2, f2, z2⟩ := st J1 5 (by omega) x1 z1
  obtain ⟨J3, k3, x3, f3, z3⟩ := st J2 2 (by omega) x2 z2
  obtain ⟨J4, k4, x4, f4, z4⟩ := st J3 3 (by omega) x3 z3
  obtain ⟨J5, k5, x5, f5, z5⟩ := st J4 4 (by omega) x4 z4
  obtain ⟨J6, k6, x6, f6, z6⟩ := st J5 6 (by omega) x5 z5
  obtain ⟨J7, k7, x7, f7, z7⟩ := st J6 7 (by omega) x6 z6
  rw [aKnd_r]
  generalize tBl T n i = b at *
  generalize tLt T n b = e at *
  have g1 := rF_tr f0 f1
  have g2 := rF_tr g1 f2
  have g3 := rF_tr g2 f3
  have g4 := rF_tr g3 f4
  have g5 := rF_tr g4 f5
  have g6 := rF_tr g5 f6
  have g7 := rF_tr g6 f7
  cases a0 : aIs T b e 0 with
  | true => rw [a0] at k0; exact ⟨J0, qRun_of fun Q hQ => b190_0 (by omega) ⟨true, J0, k0, fun q => Bool.noConfusion q, fun _ => hQ⟩, x0, f0, z0⟩
  | false =>
    rw [a0] at k0; rw [if_neg Bool.false_ne_true]
    cases a1 : aIs T b e 1 with
    | true => rw [a1] at k1; exact ⟨J1, qRun_of fun Q hQ => b190_0 (by omega) ⟨false, J0, k0, fun _ => ⟨true, J1, k1, fun q => Bool.noConfusion q, fun _ => hQ⟩, fun q => Bool.noConfusion q⟩, x1, g1, z1⟩
    | false =>
      rw [a1] at k1; rw [if_neg Bool.false_ne_true]
      cases a2 : aIs T b e 5 with
      | true => rw [a2] at k2; exact ⟨J2, qRun_of fun Q hQ => b190_0 (by omega) ⟨false, J0, k0, fun _ => ⟨false, J1, k1, fun _ => ⟨true, J2, k2, fun q => Bool.noConfusion q, fun _ => hQ⟩, fun q => Bool.noConfusion q⟩, fun q => Bool.noConfusion q⟩, x2, g2, z2⟩
      | false =>
        rw [a2] at k2; rw [if_neg Bool.false_ne_true]
        have to2 : ∀ Q : qR → Prop, (∃ (v8 : Bool) (J7 : _), qRun (d - 1) 183 [.ref 245, .int (qj 23), .int (qj 15), .int (qj 18), .int (qj 11), .int (qj 19), .int (qj 0), .int (qj 0)] (qw g J2) (.inl (some (.int (qb v8)), (qw g J7))) ∧ _) → _ := fun Q h => b190_0 (d := d) (g := g) (I := I) (Q := Q) (by omega) ⟨false, J0, k0, fun _ => ⟨false, J1, k1, fun _ => ⟨false, J2, k2, fun _ => h, fun q => Bool.noConfusion q⟩, fun q => Bool.noConfusion q⟩, fun q => Bool.noConfusion q⟩
        cases a3 : aIs T b e 2 with
        | true => rw [a3] at k3; exact ⟨J3, qRun_of fun Q hQ => to2 Q ⟨true, J3, k3, fun q => Bool.noConfusion q, fun _ => hQ⟩, x3, g3, z3⟩
        | false =>
          rw [a3] at k3; rw [if_neg Bool.false_ne_true]
          cases a4 : aIs T b e 3 with
          | true => rw [a4] at k4; exact ⟨J4, qRun_of fun Q hQ => to2 Q ⟨false, J3, k3, fun _ => ⟨true, J4, k4, fun q => Bool.noConfusion q, fun _ => hQ⟩, fun q => Bool.noConfusion q⟩, x4, g4, z4⟩
          | false =>
            rw [a4] at k4; rw [if_neg Bool.false_ne_true]
            cases a5 : aIs T b e 4 with
            | true => rw [a5] at k5; exact ⟨J5, qRun_of fun Q hQ => to2 Q ⟨false, J3, k3, fun _ => ⟨false, J4, k4, fun _ => ⟨true, J5, k5, fun q => Bool.noConfusion q, fun _ => hQ⟩, fun q => Bool.noConfusion q⟩, fun q => Bool.noConfusion q⟩, x5, g5, z5⟩
            | false =>
              rw [a5] at k5; rw [if_neg Bool.false_ne_true]
              cases a6 : aIs T b e 6 with
              | true => rw [a6] at k6; exact ⟨J6, qRun_of fun Q hQ => to2 Q ⟨false, J3, k3, fun _ => ⟨false, J4, k4, fun _ => ⟨false, J5, k5, fun _ => ⟨true, J6, k6, fun q => Bool.noConfusion q, fun _ => hQ⟩, fun q => Bool.noConfusion q⟩, fun q => Bool.noConfusion q⟩, fun q => Bool.noConfusion q⟩, x6, g6, z6⟩
              | false =>
                rw [a6] at k6; rw [if_neg Bool.false_ne_true]
                cases a7 : aIs T b e 7 with
                | true => rw [a7] at k7; exact ⟨J7, qRun_of fun Q hQ => to2 Q ⟨false, J3, k3, fun _ => ⟨false, J4, k4, fun _ => ⟨false, J5, k5, fun _ => ⟨false, J6, k6, fun _ => ⟨true, J7, k7, fun q => Bool.noConfusion q, fun _ => hQ⟩, fun q => Bool.noConfusion q⟩, fun q => Bool.noConfusion q⟩, fun q => Bool.noConfusion q⟩, fun q => Bool.noConfusion q⟩, x7, g7, z7⟩
                | false => rw [a7] at k7; exact ⟨J7, qRun_of fun Q hQ => to2 Q ⟨false, J3, k3, fun _ => ⟨false, J4, k4, fun _ => ⟨false, J5, k5, fun _ => ⟨false, J6, k6, fun _ => ⟨false, J7, k7, fun _ => hQ, fun q => Bool.noConfusion q⟩, fun q => Bool.noConfusion q⟩, fun q => Bool.noConfusion q⟩, fun q => Bool.noConfusion q⟩, fun q => Bool.noConfusion q⟩, x7, g7, z7⟩
theorem rPre (hd : 6 ≤ d) (X : rX T n I i) (z : I 245 5 = qj 0) (R : qNF F I) (W : qWF F) (e7 : I 245 7 = qj (c : Int)) : ∃ J1 K, qRun (d - 1) 184 [.ref 245] (qw g I) (.inl (none, qw g J1)) ∧ K = qup J1 245 7 (J1 245 7 + qj 1) ∧ rX T n K (tLt T n i) ∧ K 245 5 = qj 0 ∧ qNF F K ∧ rN I K ∧ K 245 7 = qj ((c + 1 : Nat) : Int) ∧ J1 248 0 = qj (F.1 0 0) ∧ J1 248 1 = qj (F.1 0 1) ∧ J1 248 2 = qj (F.1 0 2) := by
  obtain ⟨J1, a1, a2, a3, a4, a5⟩ := m184 (d := d - 1) (g := g) (by omega) X
  have r248 : J1 248 = I 248 := a3.1 _ (by omega)
  refine ⟨J1, _, a1, rfl, rX_u a2 (by omega) (by omega), ?_, ?_, rN_tr (rN_f a3) rN_7, ?_, ?_, ?_, ?_⟩
  · rw [qup_at, if_neg (by omega)]; exact a4.trans z
  · exact qNF_cg R W (fun a p => (qup_ne (by unfold rNa at p; omega)).trans (a3.1 a (by unfold rNa at p; omega)))
  · rw [qup_at, if_pos rfl, rN_245 a3, e7, qj_add]; rfl
  · rw [r248]; exact R.1
  · rw [r248]; exact R.2.1
  · rw [r248]; exact R.2.2.1
theorem rB0 (hd : 6 ≤ d) (X : rX T n I i) (z : I 245 5 = qj 0) (R : qNF F I) (W : qWF F) (e7 : I 245 7 = qj (c : Int)) (hc : ¬ aFul F c 0) : rBP d g I T n 0 c (aHand T n F (tLt T n i)) := by
  unfold aFul at hc
  obtain ⟨J1, K, a1, eK, x1, z1, R1, rn1, y7, s0, s1, s2⟩ := rPre (d := d) (g := g) hd X z R W e7
  have q := m194 (d := d - 1) (g := g) (by omega) x1 z1 R1 W (by omega)
  have go : ∀ (J : Nat → Nat → Int32) (Q : qR → Prop), qRun (d - 1) 194 [.ref 245, .ref (256 + 1 + F.1 0 0)] (qw g K) (.inl (none, qw g J)) → qwq d 193 374 [(0, .ref 245), (1, .int (qj ((0 : Nat) : Int)))] [] (qw g J) Q → qwq d 193 87 [(0, .ref 245), (1, .int (qj ((0 : Nat) : Int)))] [] (qw g I) Q := by
    intro J Q k h
    refine b193_87 (by omega) ⟨fun _ => ⟨J1, a1, ?_⟩, fun q => absurd z q⟩
    simp (disch := omega) only [qz0, qj_lt, qj_le, qj_eq, qtk, qfk, qbtt, qbft, qbtf, qbff, qIx_z, qj_nat, true_and, and_true, true_implies, false_implies, not_true_eq_false, not_false_eq_true, Bool.true_eq_false, Bool.false_eq_true, qj_sub, qinB_t, qinB_f, q2_e, qj_add, qj_s1, qj_c1, qj_c2, qj_c9, qj_c17, qj_c97, s0]
    rw [← eK]
    exact ⟨J, k, h⟩
  cases h1 : aHand T n F (tLt T n i) with
  | inl e => rw [h1] at q; obtain ⟨J, k, a, b⟩ := q; exact ⟨J, ⟨a, rN_tr rn1 b⟩, fun Q h => go J Q k h⟩
  | inr r => rw [h1] at q; obtain ⟨J, k, a, az, rr, b, b7⟩ := q; exact ⟨J, ⟨a, az, rr, rN_tr rn1 b, b7.trans y7⟩, fun Q h => go J Q k h⟩
theorem rB5 (hd : 6 ≤ d) (X : rX T n I i) (z : I 245 5 = qj 0) (R : qNF F I) (W : qWF F) (e7 : I 245 7 = qj (c : Int)) (hc : ¬ aFul F c 5) : rBP d g I T n 2 c (aActs T n F (tLt T n i)) := by
  unfold aFul at hc
  obtain ⟨J1, K, a1, eK, x1, z1, R1, rn1, y7, s0, s1, s2⟩ := rPre (d := d) (g := g) hd X z R W e7
  have q := m198 (d := d - 1) (g := g) (by omega) x1 z1 R1 W (by omega)
  have go : ∀ (J : Nat → Nat → Int32) (Q : qR → Prop), qRun (d - 1) 198 [.ref 245, .ref (294 + 1 + F.1 0 2)] (qw g K) (.inl (none, qw g J)) → qwq d 193 374 [(0, .ref 245), (1, .int (qj ((2 : Nat) : Int)))] [] (qw g J) Q → qwq d 193 87 [(0, .ref 245), (1, .int (qj ((2 : Nat) : Int)))] [] (qw g I) Q := by
    intro J Q k h
    refine b193_87 (by omega) ⟨fun _ => ⟨J1, a1, ?_⟩, fun q => absurd z q⟩
    simp (disch := omega) only [qz0, qj_lt, qj_le, qj_eq, qtk, qfk, qbtt, qbft, qbtf, qbff, qIx_z, qj_nat, true_and, and_true, true_implies, false_implies, not_true_eq_false, not_false_eq_true, Bool.true_eq_false, Bool.false_eq_true, qj_sub, qinB_t, qinB_f, q2_e, qj_add, qj_s1, qj_c1, qj_c2, qj_c9, qj_c17, qj_c97, s2]
    rw [← eK]
    exact ⟨J, k, h⟩
  cases h1 : aActs T n F (tLt T n i) with
  | inl e => rw [h1] at q; obtain ⟨J, k, a, b⟩ := q; exact ⟨J, ⟨a, rN_tr rn1 b⟩, fun Q h => go J Q k h⟩
  | inr r => rw [h1] at q; obtain ⟨J, k, a, az, rr, b, b7⟩ := q; exact ⟨J, ⟨a, az, rr, rN_tr rn1 b, b7.trans y7⟩, fun Q h => go J Q k h⟩
theorem aInc_n {x : Nat} {J : Nat → Nat → Int32} (h : ¬ x < 3) : aInc x J = J := if_neg h
theorem rB2 (hd : 6 ≤ d) (X : rX T n I i) (z : I 245 5 = qj 0) (R : qNF F I) (W : qWF F) (e7 : I 245 7 = qj (c : Int)) : rBP d g I T n 3 c (aWks T n F (tLt T n i)) := by
  obtain ⟨J1, K, a1, eK, x1, z1, R1, rn1, y7, s0, s1, s2⟩ := rPre (d := d) (g := g) hd X z R W e7
  have q := m196 (d := d - 1) (g := g) (by omega) x1 z1 R1 W
  have go : ∀ (J : Nat → Nat → Int32) (Q : qR → Prop), qRun (d - 1) 196 [.ref 245] (qw g K) (.inl (none, qw g J)) → qwq d 193 374 [(0, .ref 245), (1, .int (qj ((3 : Nat) : Int)))] [] (qw g J) Q → qwq d 193 87 [(0, .ref 245), (1, .int (qj ((3 : Nat) : Int)))] [] (qw g I) Q := by
    intro J Q k h
    refine b193_87 (by omega) ⟨fun _ => ⟨J1, a1, ?_⟩, fun q => absurd z q⟩
    simp (disch := omega) only [qz0, qj_lt, qj_le, qj_eq, qtk, qfk, qbtt, qbft, qbtf, qbff, qIx_z, qj_nat, true_and, and_true, true_implies, false_implies, not_true_eq_false, not_false_eq_true, Bool.true_eq_false, Bool.false_eq_true, qj_sub, qinB_t, qinB_f, q2_e, qj_add, qj_s1, qj_c1, qj_c2, qj_c9, qj_c17, qj_c97]
    rw [← eK]
    exact ⟨J, k, h⟩
  cases h1 : aWks T n F (tLt T n i) with
  | inl e => rw [h1] at q; obtain ⟨J, k, a, b⟩ := q; exact ⟨J, ⟨a, rN_tr rn1 b⟩, fun Q h => go J Q k h⟩
  | inr r => rw [h1] at q; obtain ⟨J, k, a, az, rr, b, b7⟩ := q; exact ⟨J, ⟨a, az, by rw [aInc_n (by omega)]; exact rr, rN_tr rn1 b, b7.trans y7⟩, fun Q h => go J Q k h⟩
theorem rB3 (hd : 6 ≤ d) (X : rX T n I i) (z : I 245 5 = qj 0) (R : qNF F I) (W : qWF F) (e7 : I 245 7 = qj (c : Int)) : rBP d g I T n 4 c (aQua T n F (tLt T n i)) := by
  obtain ⟨J1, K, a1, eK, x1, z1, R1, rn1, y7, s0, s1, s2⟩ := rPre (d := d) (g := g) hd X z R W e7
  have q := m197 (d := d - 1) (g := g) (by omega) x1 z1 R1 W
  have go : ∀ (J : Nat → Nat → Int32) (Q : qR → Prop), qRun (d - 1) 197 [.ref 245] (qw g K) (.inl (none, qw g J)) → qwq d 193 374 [(0, .ref 245), (1, .int (qj ((4 : Nat) : Int)))] [] (qw g J) Q → qwq d 193 87 [(0, .ref 245), (1, .int (qj ((4 : Nat) : Int)))] [] (qw g I) Q := by
    intro J Q k h
    refine b193_87 (by omega) ⟨fun _ => ⟨J1, a1, ?_⟩, fun q => absurd z q⟩
    simp (disch := omega) only [qz0, qj_lt, qj_le, qj_eq, qtk, qfk, qbtt, qbft, qbtf, qbff, qIx_z, qj_nat, true_and, and_true, true_implies, false_implies, not_true_eq_false, not_false_eq_true, Bool.true_eq_false, Bool.false_eq_true, qj_sub, qinB_t, qinB_f, q2_e, qj_add, qj_s1, qj_c1, qj_c2, qj_c9, qj_c17, qj_c97]
    rw [← eK]
    exact ⟨J, k, h⟩
  cases h1 : aQua T n F (tLt T n i) with
  | inl e => rw [h1] at q; obtain ⟨J, k, a, b⟩ := q; exact ⟨J, ⟨a, rN_tr rn1 b⟩, fun Q h => go J Q k h⟩
  | inr r => rw [h1] at q; obtain ⟨J, k, a, az, rr, b, b7⟩ := q; exact ⟨J, ⟨a, az, by rw [aInc_n (by omega)]; exact rr, rN_tr rn1 b, b7.trans y7⟩, fun Q h => go J Q k h⟩
theorem qNF_wea (R : qNF F I) (W : qWF F) {v : Nat} : qNF (wea F v) (qup I 248 3 (qj (v : Int))) := by
  obtain ⟨r1, r2, r3, r4, r5, r6, r7, r8, r9, r10, r11, r12, r13, r14, r15, r16, r17⟩ := R
  have w1 := W.1
  have w2 := W.2.1
  have w3 := W.2.2.1
  refine ⟨?_, ?_, ?_, ?_, ?_, ?_, ?_, ?_, ?_, ?_, ?_, ?_, ?_, ?_, ?_, ?_, ?_⟩
  · rw [qup_at, if_neg (by omega)]; exact r1
  · rw [qup_at, if_neg (by omega)]; exact r2
  · rw [qup_at, if_neg (by omega)]; exact r3
  · rw [qup_at, if_pos rfl]; rfl
  · intro h hh; have hh : h < F.1 0 0 := hh; rw [qup_ne (by omega)]; exact r5 h hh
  · intro h hh; have hh : h < F.1 0 0 := hh; rw [qup_ne (by omega)]; exact r6 h hh
  · intro h hh; have hh : h < F.1 0 0 := hh; rw [qup_ne (by omega)]; exact r7 h hh
  · intro h hh; have hh : h < F.1 0 1 := hh; rw [qup_ne (by omega)]; exact r8 h hh
  · intro h hh; have hh : h < F.1 0 1 := hh; rw [qup_ne (by omega)]; exact r9 h hh
  · intro h hh; have hh : h < F.1 0 1 := hh; rw [qup_ne (by omega)]; exact r10 h hh
  · intro h hh; have hh : h < F.1 0 2 := hh; rw [qup_ne (by omega)]; exact r11 h hh
  · intro h hh; have hh : h < F.1 0 2 := hh; rw [qup_ne (by omega)]; exact r12 h hh
  · intro a b ha hb; have ha : a < F.1 0 2 := ha; rw [qup_ne (by omega), wea_r (r := 10 + a) (by omega)]; exact r13 a b ha hb
  · intro h k hh hk; rw [qup_ne (by omega), wea_r (by omega)]; exact r14 h k hh hk
  · rw [qup_ne (by omega)]; exact r15
  · rw [qup_ne (by omega)]; exact r16
  · rw [qup_ne (by omega)]; exact r17
theorem rB7 (hd : 6 ≤ d) (X : rX T n I i) (z : I 245 5 = qj 0) (R : qNF F I) (W : qWF F) (e7 : I 245 7 = qj (c : Int)) : rBP d g I T n 7 c (aWea T n F (tLt T n i)) := by
  obtain ⟨J1, K, a1, eK, x1, z1, R1, rn1, y7, s0, s1, s2⟩ := rPre (d := d) (g := g) hd X z R W e7
  have q := m179 (d := d - 1) (g := g) (lo := 0) (hi := 9) (by omega) x1 z1 (by omega) (by omega)
  unfold aWea
  cases h1 : aNum T n (tLt T n i) 0 9 with
  | inl e =>
    rw [h1] at q; obtain ⟨J, k, a, b⟩ := q
    refine ⟨J, ⟨a, rN_tr rn1 (rN_f b)⟩, fun Q h => b193_87 (by omega) ⟨fun _ => ⟨J1, a1, ?_⟩, fun q => absurd z q⟩⟩
    simp (disch := omega) only [qz0, qj_lt, qj_le, qj_eq, qtk, qfk, qbtt, qbft, qbtf, qbff, qIx_z, qj_nat, true_and, and_true, true_implies, false_implies, not_true_eq_false, not_false_eq_true, Bool.true_eq_false, Bool.false_eq_true, qj_sub, qinB_t, qinB_f, q2_e, qj_add, qj_s1, qj_c1, qj_c2, qj_c9, qj_c17, qj_c97]
    rw [← eK]
    have ne := rE_ne a
    exact ⟨_, J, k, fun _ => h, fun q => absurd ne q⟩
  | inr r =>
    rw [h1] at q; obtain ⟨J, k, a, az, b⟩ := q
    have rnk : rN I J := rN_tr rn1 (rN_f b)
    refine ⟨qup J 248 3 (qj (r.1 : Int)), ⟨rX_w a (by omega) (by omega), by rw [qup_ne (by omega)]; exact az, by rw [aInc_n (by omega)]; exact qNF_wea (qNF_f R1 W b) W, rN_tr rnk (rN_w (by unfold rNa; omega)), by rw [qup_ne (by omega)]; exact (rN_245 b).trans y7⟩, fun Q h => b193_87 (by omega) ⟨fun _ => ⟨J1, a1, ?_⟩, fun q => absurd z q⟩⟩
    simp (disch := omega) only [qz0, qj_lt, qj_le, qj_eq, qtk, qfk, qbtt, qbft, qbtf, qbff, qIx_z, qj_nat, true_and, and_true, true_implies, false_implies, not_true_eq_false, not_false_eq_true, Bool.true_eq_false, Bool.false_eq_true, qj_sub, qinB_t, qinB_f, q2_e, qj_add, qj_s1, qj_c1, qj_c2, qj_c9, qj_c17, qj_c97]
    rw [← eK]
    exact ⟨_, J, k, fun q => absurd az q, fun _ => h⟩
theorem rB1 (hd : 6 ≤ d) (X : rX T n I i) (z : I 245 5 = qj 0) (R : qNF F I) (W : qWF F) (e7 : I 245 7 = qj (c : Int)) (hc : ¬ aFul F c 1) : rBP d g I T n 1 c (aPup T n F (tLt T n i)) := by
  unfold aFul at hc
  have h8 : F.1 0 1 < 8 := by omega
  obtain ⟨J1, K, a1, eK, x1, z1, R1, rn1, y7, s0, s1, s2⟩ := rPre (d := d) (g := g) hd X z R W e7
  have hra : rNa (276 + 1 + F.1 0 1) := by unfold rNa; omega
  have go : ∀ (J5 J7 J9 : Nat → Nat → Int32) (v6 v8 v10 : Int32) (Q : qR → Prop), qRun (d - 1) 179 [.ref 245, .int (qj 0), .int (qj 15)] (qw g K) (.inl (some (.int v6), qw g J5)) → qRun (d - 1) 179 [.ref 245, .int (qj 1), .int (qj 2)] (qw g (qup J5 (276 + 1 + F.1 0 1) 0 v6)) (.inl (some (.int v8), qw g J7)) → qRun (d - 1) 179 [.ref 245, .int (qj 0), .int (qj 30)] (qw g (qup J7 (276 + 1 + F.1 0 1) 1 v8)) (.inl (some (.int v10), qw g J9)) →
      qwq d 193 374 [(0, .ref 245), (1, .int (qj ((1 : Nat) : Int)))] [] (qw g (qup J9 (276 + 1 + F.1 0 1) 2 v10)) Q → qwq d 193 87 [(0, .ref 245), (1, .int (qj ((1 : Nat) : Int)))] [] (qw g I) Q := by
    intro J5 J7 J9 v6 v8 v10 Q k1 k2 k3 h
    refine b193_87 (by omega) ⟨fun _ => ⟨J1, a1, ?_⟩, fun q => absurd z q⟩
    simp (disch := omega) only [qz0, qj_lt, qj_le, qj_eq, qtk, qfk, qbtt, qbft, qbtf, qbff, qIx_z, qj_nat, true_and, and_true, true_implies, false_implies, not_true_eq_false, not_false_eq_true, Bool.true_eq_false, Bool.false_eq_true, qj_sub, qinB_t, qinB_f, q2_e, qj_add, qj_s1, qj_c1, qj_c2, qj_c9, qj_c17, qj_c97, s1]
    rw [← eK]
    exact ⟨_, _, k1, _, _, k2, _, _, k3, h⟩
  have q1 := m179 (d := d - 1) (g := g) (lo := 0) (hi := 15) (by omega) x1 z1 (by omega) (by omega)
  unfold aPup
  cases h1 : aNum T n (tLt T n i) 0 15 with
  | inl e =>
    rw [h1] at q1
    obtain ⟨J5, k1, a2, a3⟩ := q1
    have E1 := rE_w (a := 276 + 1 + F.1 0 1) (j := 0) (v := qj 0) a2 (by omega) (by omega)
    have E2 := rE_w (a := 276 + 1 + F.1 0 1) (j := 1) (v := qj 0) E1 (by omega) (by omega)
    have E3 := rE_w (a := 276 + 1 + F.1 0 1) (j := 2) (v := qj 0) E2 (by omega) (by omega)
    exact ⟨_, ⟨E3, rN_tr rn1 (rN_tr (rN_f a3) (rN_tr (rN_w hra) (rN_tr (rN_w hra) (rN_w hra))))⟩, fun Q h => go _ _ _ _ _ _ Q k1 (m179e (by omega) (rE_ne E1) _ _) (m179e (by omega) (rE_ne E2) _ _) h⟩
  | inr r1 =>
    rw [h1] at q1
    obtain ⟨J5, k1, a2, az, a3⟩ := q1
    have b1 := aNum_b h1 x1.2.1
    have q2 := m179 (d := d - 1) (g := g) (lo := 1) (hi := 2) (by omega) (rX_w (a := 276 + 1 + F.1 0 1) (j := 0) (v := qj (r1.1 : Int)) a2 (by omega) (by omega)) (by rw [qup_ne (by omega)]; exact az) (by omega) (by omega)
    simp only []
    cases h2 : aNum T n r1.2 1 2 with
    | inl e =>
      rw [h2] at q2
      obtain ⟨J7, k2, c2, c3⟩ := q2
      have E2 := rE_w (a := 276 + 1 + F.1 0 1) (j := 1) (v := qj 0) c2 (by omega) (by omega)
      have E3 := rE_w (a := 276 + 1 + F.1 0 1) (j := 2) (v := qj 0) E2 (by omega) (by omega)
      exact ⟨_, ⟨E3, rN_tr rn1 (rN_tr (rN_f a3) (rN_tr (rN_w hra) (rN_tr (rN_f c3) (rN_tr (rN_w hra) (rN_w hra)))))⟩, fun Q h => go _ _ _ _ _ _ Q k1 k2 (m179e (by omega) (rE_ne E2) _ _) h⟩
    | inr r2 =>
      rw [h2] at q2
      obtain ⟨J7, k2, c2, cz, c3⟩ := q2
      have b2 := aNum_b h2 b1.2.2.1
      have q3 := m179 (d := d - 1) (g := g) (lo := 0) (hi := 30) (by omega) (rX_w (a := 276 + 1 + F.1 0 1) (j := 1) (v := qj (r2.1 : Int)) c2 (by omega) (by omega)) (by rw [qup_ne (by omega)]; exact cz) (by omega) (by omega)
      simp only []
      cases h3 : aNum T n r2.2 0 30 with
      | inl e =>
        rw [h3] at q3
        obtain ⟨J9, k3, e2, e3⟩ := q3
        have E3 := rE_w (a := 276 + 1 + F.1 0 1) (j := 2) (v := qj 0) e2 (by omega) (by omega)
        exact ⟨_, ⟨E3, rN_tr rn1 (rN_tr (rN_f a3) (rN_tr (rN_w hra) (rN_tr (rN_f c3) (rN_tr (rN_w hra) (rN_tr (rN_f e3) (rN_w hra))))))⟩, fun Q h => go _ _ _ _ _ _ Q k1 k2 k3 h⟩
      | inr r3 =>
        rw [h3] at q3
        obtain ⟨J9, k3, e2, ez, e3⟩ := q3
        have row : ∀ a, ¬ a = 245 → ¬ a = 276 + 1 + F.1 0 1 → J9 a = K a := fun a p q => by rw [e3.1 _ p, qup_ne q, c3.1 _ p, qup_ne q, a3.1 _ p]
        refine ⟨qup J9 (276 + 1 + F.1 0 1) 2 (qj (r3.1 : Int)), ⟨rX_w e2 (by omega) (by omega), by rw [qup_ne (by omega)]; exact ez, ?_, rN_tr rn1 (rN_tr (rN_f a3) (rN_tr (rN_w hra) (rN_tr (rN_f c3) (rN_tr (rN_w hra) (rN_tr (rN_f e3) (rN_w hra)))))), ?_⟩, fun Q h => go _ _ _ _ _ _ Q k1 k2 k3 h⟩
        · have e248 : J9 248 = K 248 := row 248 (by omega) (by omega)
          show qNF (pup F r1.1 r2.1 r3.1) (qup (qup J9 (276 + 1 + F.1 0 1) 2 (qj (r3.1 : Int))) 248 1 (qup J9 (276 + 1 + F.1 0 1) 2 (qj (r3.1 : Int)) 248 1 + qj 1))
          have ne : ¬ 248 = 276 + 1 + F.1 0 1 := by omega
          refine qNF_pup R1 W ?_ (fun j hj => ?_) ?_ ?_ ?_ (fun a p q s => ?_)
          · rw [qup_at, if_pos rfl, qup_ne ne, e248, R1.2.1, qj_add]; rfl
          · rw [qup_at, if_neg hj, qup_ne ne, e248]
          · rw [qup_ne (by omega), qup_at, if_neg (by omega), e3.1 _ (by omega), qup_at, if_neg (by omega), c3.1 _ (by omega), qup_at, if_pos rfl]
          · rw [qup_ne (by omega), qup_at, if_neg (by omega), e3.1 _ (by omega), qup_at, if_pos rfl]
          · rw [qup_ne (by omega), qup_at, if_pos rfl]
          · rw [qup_ne q, qup_ne s, row a (by unfold rNa at p; omega) s]
        · rw [qup_ne (by omega), rN_245 e3, qup_ne (by omega), rN_245 c3, qup_ne (by omega), rN_245 a3]; exact y7
end FAMM4
