/-! ===== the text of the family, the reference, 8: the whole ===== -/
section FAMM8
variable {d : Nat} {g : qG1} {I : Nat → Nat → Int32} {T : Nat → Nat} {n : Nat} {F : qFam}
theorem m202 (hd : 3 ≤ d) (R : qNF F I) (W : qWF F) : ∃ J, qRun d 202 [.ref 245] (qw g I) (.inl (none, qw g J)) ∧ qMF F J ∧ qMl F J (aTold F) ∧ qMS F J 682 (aTold F) ∧ qMS F J 683 (aTold F) ∧ qMS F J 684 (aTold F) ∧ (J 245 27 = qj 0 ∧ J 245 41 = qj 0 ∧ J 245 43 = qj 0 ∧ J 245 42 = qj 0) ∧ (∀ a, (a < 245 ∨ a = 246 ∨ a = 247) → J a = I a) ∧ ∀ j, ¬ j = 27 → ¬ j = 41 → ¬ j = 42 → ¬ j = 43 → ¬ j = 44 → J 245 j = I 245 j := by
  have h9 := W.1
  have h8 := W.2.1
  have h6 := W.2.2.1
  obtain ⟨r1, r2, r3, r4, r5, r6, r7, r8, r9, r10, r11, r12, r13, r14, r15, r16, r17⟩ := R
  -- the counts
  have L0 : ∀ k : Nat, k ≤ 4 → ∀ K : Nat → Nat → Int32, (∀ j, j < k → K 249 j = I 248 j) → (∀ a, ¬ a = 249 → K a = I a) →
      ∃ J, ((∀ j, j < 4 → J 249 j = I 248 j) ∧ ∀ a, ¬ a = 249 → J a = I a) ∧ ∀ Q : qR → Prop, qwq d 202 2 [(0, .ref 245), (1, .int (qj ((4 : Nat) : Int)))] [] (qw g J) Q → qwq d 202 2 [(0, .ref 245), (1, .int (qj (k : Int)))] [] (qw g K) Q := by
    refine upto _ (fun K h1 h2 => ⟨K, ⟨h1, h2⟩, fun Q hQ => hQ⟩) (fun k hk ih K h1 h2 => ?_)
    obtain ⟨J, q1, q2⟩ := ih (qup K 249 k (I 248 k)) (fun j hj => by
      rw [qup_at]
      by_cases e : j = k
      · rw [if_pos e, e]
      · rw [if_neg e]; exact h1 j (by omega)) (fun a ha => by rw [qup_ne ha]; exact h2 a ha)
    refine ⟨J, q1, fun Q hQ => b202_2 (by omega) ?_⟩
    simp (disch := omega) only [qz0, qj_lt, qj_le, qj_eq, qtk, qfk, qbtt, qbft, qbtf, qbff, qIx_z, qj_nat, true_and, and_true, true_implies, false_implies, not_true_eq_false, not_false_eq_true, Bool.true_eq_false, Bool.false_eq_true, qj_sub, qinB_t, qinB_f, q2_e, qj_add, qj_s1, qj_c1, qj_c2, qj_c9, qj_c17, qj_c97]
    rw [h2 248 (by omega)]
    exact q2 Q hQ
  obtain ⟨J0, ⟨a1, a2⟩, a3⟩ := L0 0 (Nat.zero_le _) I (fun j hj => absurd hj (Nat.not_lt_zero j)) (fun _ _ => rfl)
  obtain ⟨J1, b1, b2, b3⟩ := m200h (d := d - 1) (g := g) (I := J0) (by omega) h9
  obtain ⟨J2, c1, c2, c3⟩ := m200p (d := d - 1) (g := g) (I := J1) (by omega) h8
  obtain ⟨J3, d1, d2, d3⟩ := m200a (d := d - 1) (g := g) (I := J2) (by omega) h6
  obtain ⟨J4, e1, e2, e3⟩ := m200o (d := d - 1) (g := g) (I := J3) (m := 9) (by omega) (by omega)
  -- who is silent
  have L5 : ∀ k : Nat, k ≤ 9 → ∀ K : Nat → Nat → Int32, (∀ j, j < k → K 255 j = J4 254 j) → (∀ a, ¬ a = 255 → K a = J4 a) →
      ∃ J, ((∀ j, j < 9 → J 255 j = J4 254 j) ∧ ∀ a, ¬ a = 255 → J a = J4 a) ∧ ∀ Q : qR → Prop, qwq d 202 117 [(0, .ref 245), (1, .int (qj ((0 : Nat) : Int)))] [] (qw g J) Q → qwq d 202 91 [(0, .ref 245), (1, .int (qj (k : Int)))] [] (qw g K) Q := by
    refine upto _ (fun K h1 h2 => ⟨K, ⟨h1, h2⟩, fun Q hQ => b202_91 (by omega) ?_⟩) (fun k hk ih K h1 h2 => ?_)
    · simp (disch := omega) only [qz0, qj_lt, qj_le, qj_eq, qtk, qfk, qbtt, qbft, qbtf, qbff, qIx_z, qj_nat, true_and, and_true, true_implies, false_implies, not_true_eq_false, not_false_eq_true, Bool.true_eq_false, Bool.false_eq_true, qj_sub, qinB_t, qinB_f, q2_e, qj_add, qj_s1, qj_c1, qj_c2, qj_c9, qj_c17, qj_c97]
      exact hQ
    · obtain ⟨J, q1, q2⟩ := ih (qup K 255 k (J4 254 k)) (fun j hj => by
        rw [qup_at]
        by_cases e : j = k
        · rw [if_pos e, e]
        · rw [if_neg e]; exact h1 j (by omega)) (fun a ha => by rw [qup_ne ha]; exact h2 a ha)
      refine ⟨J, q1, fun Q hQ => b202_91 (by omega) ?_⟩
      simp (disch := omega) only [qz0, qj_lt, qj_le, qj_eq, qtk, qfk, qbtt, qbft, qbtf, qbff, qIx_z, qj_nat, true_and, and_true, true_implies, false_implies, not_true_eq_false, not_false_eq_true, Bool.true_eq_false, Bool.false_eq_true, qj_sub, qinB_t, qinB_f, q2_e, qj_add, qj_s1, qj_c1, qj_c2, qj_c9, qj_c17, qj_c97]
      rw [h2 254 (by omega)]
      exact q2 Q hQ
  obtain ⟨J5, ⟨f1, f2⟩, f3⟩ := L5 0 (Nat.zero_le _) J4 (fun j hj => absurd hj (Nat.not_lt_zero j)) (fun _ _ => rfl)
  obtain ⟨J6, ⟨g1, g2⟩, g3⟩ := m202a (d := d) (g := g) hd J5
  -- the rows as they stand now
  have x4 : ∀ a, ¬ a = 249 → ¬ (266 < a ∧ a ≤ 266 + 9) → ¬ (285 < a ∧ a ≤ 285 + 8) → ¬ (301 < a ∧ a ≤ 301 + 6) → ¬ (318 < a ∧ a ≤ 318 + 9) → J4 a = I a := fun a p1 p2 p3 p4 p5 => by rw [e3 a p5, d3 a p4, c3 a p3, b3 a p2, a2 a p1]
  have x6 : ∀ a, ¬ a = 255 → ¬ a = 684 → J6 a = J4 a := fun a p q => by rw [g2 a q, f2 a p]
  have z249 : ∀ j, j < 4 → J6 249 j = I 248 j := fun j hj => by rw [x6 249 (by omega) (by omega), e3 249 (by omega), d3 249 (by omega), c3 249 (by omega), b3 249 (by omega)]; exact a1 j hj
  have zh : ∀ k j, k < F.1 0 0 → j < 3 → J6 (266 + 1 + k) j = I (256 + 1 + k) j := fun k j hk hj => by rw [x6 _ (by omega) (by omega), e3 _ (by omega), d3 _ (by omega), c3 _ (by omega), b2 k j hk hj, a2 _ (by omega)]
  have zp : ∀ k j, k < F.1 0 1 → j < 3 → J6 (285 + 1 + k) j = I (276 + 1 + k) j := fun k j hk hj => by rw [x6 _ (by omega) (by omega), e3 _ (by omega), d3 _ (by omega), c2 k j hk hj, b3 _ (by omega), a2 _ (by omega)]
  have za : ∀ k j, k < F.1 0 2 → j < 8 → J6 (301 + 1 + k) j = I (294 + 1 + k) j := fun k j hk hj => by rw [x6 _ (by omega) (by omega), e3 _ (by omega), d2 k j hk hj, c3 _ (by omega), b3 _ (by omega), a2 _ (by omega)]
  have zo : ∀ k j, k < 9 → j < 9 → J6 (318 + 1 + k) j = I (308 + 1 + k) j := fun k j hk hj => by rw [x6 _ (by omega) (by omega), e2 k j hk hj, d3 _ (by omega), c3 _ (by omega), b3 _ (by omega), a2 _ (by omega)]
  have z250 : J6 250 = I 250 := by rw [x6 _ (by omega) (by omega), x4 _ (by omega) (by omega) (by omega) (by omega) (by omega)]
  have z252 : J6 252 = I 252 := by rw [x6 _ (by omega) (by omega), x4 _ (by omega) (by omega) (by omega) (by omega) (by omega)]
  have z255 : ∀ j, j < 9 → J6 255 j = I 254 j := fun j hj => by rw [g2 255 (by omega), f1 j hj, x4 254 (by omega) (by omega) (by omega) (by omega) (by omega)]
  obtain ⟨J7, ⟨h1, h2, h3⟩, h4⟩ := m202b (d := d) (g := g) hd W J6 g1 (by rw [z249 1 (by omega)]; exact r2) (fun p hp => by rw [z250]; exact r15 p hp) (fun p hp => by rw [zp p 2 hp (by omega)]; exact r10 p hp)
  obtain ⟨J8, i1, i2, i3⟩ := m201 (d := d - 1) (g := g) (I := J7) (by omega) (show qisR 684 by unfold qisR; omega) (show qisR 682 by unfold qisR; omega) (by omega)
  have M8 : qMS F J8 682 (aTold F) := qMS_cp h8 h2 i2
  have M9 : qMS F (qup (qup (qup J8 245 27 (qj 0)) 245 41 (qj 0)) 245 43 (qj 0)) 682 (aTold F) := qMS_cg M8 (by rw [qup_ne (by omega), qup_ne (by omega), qup_ne (by omega)])
  obtain ⟨J9, j1, j2, j3, j4, j5⟩ := m203 (d := d - 1) (g := g) (by omega) W M9
  have y9 : ∀ a, ¬ a = 245 → ¬ a = 680 → ¬ a = 681 → ¬ a = 682 → ¬ a = 683 → J9 a = J7 a := fun a p q r s t => by rw [j5.1 a p q r s t, qup_ne p, qup_ne p, qup_ne p, i3 a s]
  have y5 : ∀ j, ¬ j = 42 → ¬ j = 44 → ¬ j = 27 → ¬ j = 41 → ¬ j = 43 → J9 245 j = I 245 j := fun j p q r s t => by
    rw [j5.2 j p q, qup_at, if_neg t, qup_at, if_neg s, qup_at, if_neg r, i3 245 (by omega), h3 245 (by omega) (by omega) (by omega), x6 245 (by omega) (by omega), x4 245 (by omega) (by omega) (by omega) (by omega) (by omega)]
  have y7 : ∀ a, 249 ≤ a → a < 328 → ¬ a = 251 → ¬ a = 253 → J9 a = J6 a := fun a p q r s => by rw [y9 a (by omega) (by omega) (by omega) (by omega) (by omega), h3 a r s (by omega)]
  refine ⟨J9, qRun_of fun Q hQ => b202_0 (by omega) ?_, ?_, fun h hh => ?_, j2, j3, ?_, ⟨?_, ?_, ?_, j4⟩, fun a ha => ?_, fun j p q r s t => y5 j r t p q s⟩
  · refine a3 Q (b202_2 (by omega) ?_)
    simp (disch := omega) only [qz0, qj_lt, qj_le, qj_eq, qtk, qfk, qbtt, qbft, qbtf, qbff, qIx_z, qj_nat, true_and, and_true, true_implies, false_implies, not_true_eq_false, not_false_eq_true, Bool.true_eq_false, Bool.false_eq_true, qj_sub, qinB_t, qinB_f, q2_e, qj_add, qj_s1, qj_c1, qj_c2, qj_c9, qj_c17, qj_c97]
    refine ⟨J1, ?_, J2, ?_, J3, ?_, J4, e1, f3 Q (g3 Q (h4 Q (b202_153 (by omega) ?_)))⟩
    · rw [a1 0 (by omega), r1]; exact b1
    · rw [b3 249 (by omega), a1 1 (by omega), r2]; exact c1
    · rw [c3 249 (by omega), b3 249 (by omega), a1 2 (by omega), r3]; exact d1
    · simp (disch := omega) only [qz0, qj_lt, qj_le, qj_eq, qtk, qfk, qbtt, qbft, qbtf, qbff, qIx_z, qj_nat, true_and, and_true, true_implies, false_implies, not_true_eq_false, not_false_eq_true, Bool.true_eq_false, Bool.false_eq_true, qj_sub, qinB_t, qinB_f, q2_e, qj_add, qj_s1, qj_c1, qj_c2, qj_c9, qj_c17, qj_c97]
      exact ⟨J8, i1, J9, j1, hQ⟩
  · refine ⟨?_, ?_, ?_, ?_, fun h hh => ?_, fun h hh => ?_, fun h hh => ?_, fun h hh => ?_, fun h hh => ?_, fun h hh => ?_, fun h hh => ?_, fun a i ha hi => ?_, fun h k hh hk => ?_, fun p hp => ?_, fun p hp => ?_, fun h hh => ?_⟩
    · rw [y7 249 (by omega) (by omega) (by omega) (by omega), z249 0 (by omega)]; exact r1
    · rw [y7 249 (by omega) (by omega) (by omega) (by omega), z249 1 (by omega)]; exact r2
    · rw [y7 249 (by omega) (by omega) (by omega) (by omega), z249 2 (by omega)]; exact r3
    · rw [y7 249 (by omega) (by omega) (by omega) (by omega), z249 3 (by omega)]; exact r4
    · rw [y7 _ (by omega) (by omega) (by omega) (by omega), zh h 1 hh (by omega)]; exact r6 h hh
    · rw [y7 _ (by omega) (by omega) (by omega) (by omega), zh h 2 hh (by omega)]; exact r7 h hh
    · rw [y7 _ (by omega) (by omega) (by omega) (by omega), zp h 0 hh (by omega)]; exact r8 h hh
    · rw [y7 _ (by omega) (by omega) (by omega) (by omega), zp h 1 hh (by omega)]; exact r9 h hh
    · rw [y7 _ (by omega) (by omega) (by omega) (by omega), zp h 2 hh (by omega)]; exact r10 h hh
    · rw [y7 _ (by omega) (by omega) (by omega) (by omega), za h 0 hh (by omega)]; exact r11 h hh
    · rw [y7 _ (by omega) (by omega) (by omega) (by omega), za h 1 hh (by omega)]; exact r12 h hh
    · have := (W.2.2.2.2.2.2.1 a ha).2.2.1
      rw [y7 _ (by omega) (by omega) (by omega) (by omega), za a (2 + i) ha (by omega)]; exact r13 a i ha hi
    · rw [y7 _ (by omega) (by omega) (by omega) (by omega), zo h k hh hk]; exact r14 h k hh hk
    · rw [y9 251 (by omega) (by omega) (by omega) (by omega) (by omega), (h1 p hp).1, z250]; exact r15 p hp
    · rw [y9 253 (by omega) (by omega) (by omega) (by omega) (by omega), (h1 p hp).2, z252]; exact r16 p hp
    · rw [y7 255 (by omega) (by omega) (by omega) (by omega), z255 h hh]; exact r17 h hh
  · rw [y7 _ (by omega) (by omega) (by omega) (by omega), zh h 0 hh (by omega)]; exact r5 h hh
  · exact qMS_cg h2 (y9 684 (by omega) (by omega) (by omega) (by omega) (by omega))
  · rw [j5.2 27 (by omega) (by omega), qup_at, if_neg (by omega), qup_at, if_neg (by omega), qup_at, if_pos rfl]
  · rw [j5.2 41 (by omega) (by omega), qup_at, if_neg (by omega), qup_at, if_pos rfl]
  · rw [j5.2 43 (by omega) (by omega), qup_at, if_pos rfl]
  · rw [y9 a (by omega) (by omega) (by omega) (by omega) (by omega), h3 a (by omega) (by omega) (by omega), x6 a (by omega) (by omega), x4 a (by omega) (by omega) (by omega) (by omega) (by omega)]
/-- the clauses, to the end of the text -/
theorem m199l (hd : 7 ≤ d) : ∀ (r c : Nat) (F : qFam) (I : Nat → Nat → Int32) (i : Nat), r + c = 61 → c ≤ 60 → i ≤ n → rX T n I (tBl T n i) → I 245 5 = qj 0 → qNF F I → qWP F → I 245 7 = qj (c : Int) → match aFamT T n r c F i with
    | .inl e => ∃ J, (rE T n J e ∧ rN I J) ∧ ∀ Q : qR → Prop, Q (.inl (some (.int (J 245 5 - qj 10)), qw g (qup J 245 3 (J 245 6)))) → qwq d 199 42 [(0, .ref 245)] [] (qw g I) Q
    | .inr F' => ∃ J, (J 245 5 = qj 0 ∧ qNF F' J ∧ rN I J) ∧ ∀ (Q : qR → Prop) (J1 : Nat → Nat → Int32), qRun (d - 1) 202 [.ref 245] (qw g (qup J 245 3 (qj (-1)))) (.inl (none, qw g J1)) → Q (.inl (some (.int (J1 249 1)), qw g J1)) → qwq d 199 42 [(0, .ref 245)] [] (qw g I) Q := by
  intro r
  induction r with
  | zero =>
    intro c F I i hc h60
    omega
  | succ r ih =>
    intro c F I i hc h60 hi X z R W e7
    have h2 := X.2.2.1
    have h4 := X.2.2.2.1
    have hn := X.1
    have hb := tBl_b (T := T) hi
    rw [aFamT]
    by_cases ce : n ≤ tBl T n i
    · rw [if_pos ce]
      refine ⟨I, ⟨z, R, rN_rf⟩, fun Q J1 k hQ => b199_42 (by omega) ⟨fun q => absurd z q, fun _ => ?_⟩⟩
      rw [h2, h4]
      simp (disch := omega) only [qj_le]
      exact ⟨fun _ => ⟨fun _ => ⟨J1, k, hQ⟩, fun q => absurd z q⟩, fun q => absurd (by omega) q⟩
    · rw [if_neg ce]
      have k193 := m193 (d := d - 1) (g := g) (by omega) X z R W (by omega) e7
      rw [aClu_i hi] at k193
      have go : ∀ (J5 J6 : Nat → Nat → Int32) (Q : qR → Prop), qRun (d - 1) 193 [.ref 245] (qw g I) (.inl (none, qw g J5)) → qRun (d - 1) 175 [.ref 245] (qw g J5) (.inl (none, qw g J6)) → qwq d 199 42 [(0, .ref 245)] [] (qw g J6) Q → qwq d 199 42 [(0, .ref 245)] [] (qw g I) Q := by
        intro J5 J6 Q p1 p2 h
        refine b199_42 (by omega) ⟨fun q => absurd z q, fun _ => ?_⟩
        rw [h2, h4]
        simp (disch := omega) only [qj_le]
        exact ⟨fun q => absurd q (by omega), fun _ => ⟨J5, p1, J6, p2, h⟩⟩
      cases h1 : aClu T n F c i with
      | inl e =>
        rw [h1] at k193
        obtain ⟨J5, p1, p2, p3⟩ := k193
        obtain ⟨i5, x5⟩ := p2.2.2.2.2
        obtain ⟨J6, q1, q2, q3, q4, q5⟩ := m175 (d := d - 1) (g := g) (by omega) x5
        have E6 : rE T n J6 e := ⟨p2.1, p2.2.1, q4.trans p2.2.2.1, q5.trans p2.2.2.2.1, _, q2⟩
        have ne := rE_ne E6
        exact ⟨J6, ⟨E6, rN_tr p3 (rN_f q3)⟩, fun Q hQ => go J5 J6 Q p1 q1 (b199_42 (by omega) ⟨fun _ => ⟨fun q => absurd q ne, fun _ => hQ⟩, fun q => absurd ne q⟩)⟩
      | inr q =>
        rw [h1] at k193
        obtain ⟨J5, p1, x5, z5, R5, p3, e75⟩ := k193
        obtain ⟨w1, w2, w3⟩ := aClu_ok h1 W hi
        obtain ⟨J6, q1, q2, q3, q4, q5⟩ := m175 (d := d - 1) (g := g) (by omega) x5
        have ihh := ih (c + 1) q.1 J6 q.2 (by omega) (by omega) w2 q2 (q4.trans z5) (qNF_f R5 w1.1 q3) w1 ((rN_245 q3).trans e75)
        simp only []
        cases hr : aFamT T n r (c + 1) q.1 q.2 with
        | inl e =>
          rw [hr] at ihh
          obtain ⟨J, ⟨o1, o2⟩, o3⟩ := ihh
          exact ⟨J, ⟨o1, rN_tr p3 (rN_tr (rN_f q3) o2)⟩, fun Q hQ => go J5 J6 Q p1 q1 (o3 Q hQ)⟩
        | inr F' =>
          rw [hr] at ihh
          obtain ⟨J, ⟨o1, o2, o4⟩, o3⟩ := ihh
          exact ⟨J, ⟨o1, o2, rN_tr p3 (rN_tr (rN_f q3) o4)⟩, fun Q J1 k hQ => go J5 J6 Q p1 q1 (o3 Q J1 k hQ)⟩
theorem qMF_fS (h : qMF F I) {J : Nat → Nat → Int32} (e : ∀ a, fS a → J a = I a) (W : qWF F) : qMF F J := by
  obtain ⟨h1, h2, h3, h4, h5, h6, h7, h8, h9, h10, h11, h12, h13, h14, h15, h16⟩ := h
  have w1 := W.1
  have w2 := W.2.1
  have w3 := W.2.2.1
  unfold fS at e
  refine ⟨?_, ?_, ?_, ?_, ?_, ?_, ?_, ?_, ?_, ?_, ?_, ?_, ?_, ?_, ?_, ?_⟩
  · rw [e _ (by omega)]; exact h1
  · rw [e _ (by omega)]; exact h2
  · rw [e _ (by omega)]; exact h3
  · rw [e _ (by omega)]; exact h4
  · intro h hh; rw [e _ (by omega)]; exact h5 h hh
  · intro h hh; rw [e _ (by omega)]; exact h6 h hh
  · intro h hh; rw [e _ (by omega)]; exact h7 h hh
  · intro h hh; rw [e _ (by omega)]; exact h8 h hh
  · intro h hh; rw [e _ (by omega)]; exact h9 h hh
  · intro h hh; rw [e _ (by omega)]; exact h10 h hh
  · intro h hh; rw [e _ (by omega)]; exact h11 h hh
  · intro a i ha hi; rw [e _ (by omega)]; exact h12 a i ha hi
  · intro h g hh hg; rw [e _ (by omega)]; exact h13 h g hh hg
  · intro p hp; rw [e _ (by omega)]; exact h14 p hp
  · intro p hp; rw [e _ (by omega)]; exact h15 p hp
  · intro p hp; rw [e _ (by omega)]; exact h16 p hp
end FAMM8
/-- what a call that reads a text leaves: its answer, the object anew; or a refusal -/
abbrev qRt : Type := (Int32 × qFam × qLw × qBk × qSt × qSt × (Nat → qSt) × (Nat → Nat) × Int) ⊕ Nat
def qMT (d k : Nat) (as : List Value) (g : qG1) (I : Nat → Nat → Int32) (C T : Nat → Nat) : qRt → Prop
  | .inl (v, F, L, B, S, S0, Im, C', P) => ∃ I', qRun d k as (qw g I) (.inl (some (.int v), qw g I')) ∧ qMdl I' F L B S S0 Im C' T P ∧ I' 245 0 = qj 0 ∧ ∀ a, a < 245 → I' a = I a
  | .inr e => qRun d k as (qw g I) (.inl (some (.int (qj 0)), qw g (qup (qup I 245 0 (qj 1)) 247 e (qj ((C (2 + e) + 1 : Nat) : Int)))))
def rFam (F : qFam) (L : qLw) (B : qBk) (S S0 : qSt) (Im : Nat → qSt) (C T : Nat → Nat) (z : Int) : qRt :=
  if 0 ≤ z ∧ z ≤ C 4 then
    match aFamT T z.toNat 61 0 fam0 0 with
    | .inl e => .inl (qj ((e.1 : Int) - 10), F, L, B, S, S0, Im, iup C 4 0, (e.2 : Int))
    | .inr F' => .inl (qj (F'.1 0 1), F', qL0, (0, B.2), aTold F', aTold F', Im, iup (iup (iup C 0 0) 1 0) 4 0, -1)
  else .inr 1
section R199
variable {d : Nat} {g : qG1} {I : Nat → Nat → Int32} {F : qFam} {L : qLw} {B : qBk} {S S0 : qSt} {Im : Nat → qSt} {C T : Nat → Nat} {P : Int}
theorem r199 (hd : 7 ≤ d) (X : qAbs F L B S S0 Im C T) (H : qMdl I F L B S S0 Im C T P) {z : Int} (hz : -2147483648 ≤ z ∧ z < 2147483648) : qMT d 199 [.ref 245, .int (qj z)] g I C T (rFam F L B S S0 Im C T z) := by
  have c4 := X.2.2.2.2.2.2.2.2.1
  have hT := X.2.2.2.2.2.2.2.2.2
  have e1 := H.2.2.2.2.2.2.2.2.2.2.2.2.1
  have W := X.1
  unfold rFam
  by_cases h : 0 ≤ z ∧ z ≤ C 4
  · rw [if_pos h]
    obtain ⟨n, rfl⟩ : ∃ n : Nat, z = n := ⟨z.toNat, by omega⟩
    rw [Int.toNat_natCast]
    have h246 : ∀ j, j < n → qup I 245 0 (qj 0) 246 j = qj (T j : Int) := fun j hj => by rw [qup_ne (by omega)]; exact H.2.2.2.2.2.2.2.2.2.2.2.2.2.1 j (by omega)
    obtain ⟨J3, s1, s2, s5, s6, s7, s8, t1, s9, s10⟩ := m188 (d := d - 1) (g := g) (n := n) (T := T) (I := qup I 245 0 (qj 0)) (by omega) (by omega) (fun j hj => hT j (by omega)) h246
    obtain ⟨J4, u1, u2, u3⟩ := m165 (d := d - 1) (g := g) (I := J3) (by omega)
    have r245 : J4 245 = J3 245 := u3 245 (by unfold rNa; omega)
    have r246 : J4 246 = J3 246 := u3 246 (by unfold rNa; omega)
    have x4 : rX T n J4 (tBl T n 0) := by
      obtain ⟨p1, p2, p3, p4, p5, p6⟩ := s2
      exact ⟨p1, p2, by rw [r245]; exact p3, by rw [r245]; exact p4, fun j hj => by rw [r246]; exact p5 j hj, p6⟩
    have kk := m199l (d := d) (g := g) (n := n) (T := T) hd 61 0 fam0 J4 0 rfl (by omega) (Nat.zero_le _) x4 (by rw [r245]; exact s5) u2 fam0_ok (by rw [r245]; exact s7)
    have start : ∀ Q : qR → Prop, qwq d 199 42 [(0, .ref 245)] [] (qw g J4) Q → qwp d 199 [.ref 245, .int (qj (n : Int))] (qw g I) Q := fun Q hq => b199_0 (by omega) (by
      rw [e1]
      simp (disch := omega) only [qz0, qj_lt, qj_le, qj_eq, qtk, qfk, qbtt, qbft, qbtf, qbff, qIx_z, qj_nat, true_and, and_true, true_implies, false_implies, not_true_eq_false, not_false_eq_true, Bool.true_eq_false, Bool.false_eq_true, qj_sub, qinB_t, qinB_f, q2_e, qj_add, qj_s1, qj_c1, qj_c2, qj_c9, qj_c17, qj_c97]
      exact ⟨_, _, bd0 (by omega) _ _, fun _ => ⟨J3, s1, J4, u1, hq⟩, fun q => Bool.noConfusion q⟩)
    have fr : ∀ {J : Nat → Nat → Int32}, rN J4 J → (∀ a, ¬ a = 245 → ¬ rNa a → J a = I a) ∧ ∀ j, ¬ j = 0 → ¬ j = 1 → ¬ j = 2 → ¬ (4 ≤ j ∧ j ≤ 8) → J 245 j = I 245 j := fun hr => ⟨fun a p q => by rw [hr.1 a p q, u3 a q, s9 a p, qup_ne p], fun j p q r s => by rw [hr.2 j (by omega) (by omega) (by omega) (by omega), r245, s10 j q r s, qup_at, if_neg p]⟩
    have f0 : ∀ {J : Nat → Nat → Int32}, rN J4 J → J 245 0 = qj 0 ∧ J 245 1 = qj 0 := fun hr => ⟨by rw [hr.2 0 (by omega) (by omega) (by omega) (by omega), r245, s10 0 (by omega) (by omega) (by omega), qup_at, if_pos rfl], by rw [hr.2 1 (by omega) (by omega) (by omega) (by omega), r245]; exact t1⟩
    obtain ⟨h1, h2, h3, h4, h5, h6, h7, h8, h9, h10, h11, h12, h13, h14, h15, h16⟩ := H
    cases hr : aFamT T n 61 0 fam0 0 with
    | inl e =>
      rw [hr] at kk
      obtain ⟨J, ⟨o1, o2⟩, o3⟩ := kk
      obtain ⟨v1, v2⟩ := fr o2
      obtain ⟨v3, v4⟩ := f0 o2
      have o5 := o1.2.2.1
      have o6 := o1.2.2.2.1
      have w1 : ∀ a, ¬ a = 245 → ¬ rNa a → qup J 245 3 (J 245 6) a = I a := fun a p q => by rw [qup_ne p]; exact v1 a p q
      have w2 : ∀ j, ¬ j = 0 → ¬ j = 1 → ¬ j = 2 → ¬ (3 ≤ j ∧ j ≤ 8) → qup J 245 3 (J 245 6) 245 j = I 245 j := fun j p q r s => by rw [qup_at, if_neg (by omega)]; exact v2 j p q r (by omega)
      refine ⟨qup J 245 3 (J 245 6), qRun_of fun Q hQ => start Q (o3 Q ?_), ⟨qMF_fS h1 (fun a ha => w1 a (by unfold fS at ha; omega) (by unfold fS at ha; unfold rNa; omega)) W, qMl_cg h2 (fun a p q => w1 a (by omega) (by unfold rNa; omega)) W, qML_cg h3 X.2.1 (w2 27 (by omega) (by omega) (by omega) (by omega)) (fun a p q => w1 a (by omega) (by unfold rNa; omega)), qMB_cg h4 X.2.2.1.1 (w2 41 (by omega) (by omega) (by omega) (by omega)) (fun a p q => w1 a (by omega) (by unfold rNa; omega)), qMS_cg h5 (w1 682 (by omega) (by unfold rNa; omega)), qMS_cg h6 (w1 683 (by omega) (by unfold rNa; omega)), qMS_cg h7 (w1 684 (by omega) (by unfold rNa; omega)), fun k hk => qMS_cg (h8 k hk) (w1 _ (by omega) (by unfold rNa; omega)), ?_, ?_, ?_, ?_, ?_, fun j hj => absurd hj (Nat.not_lt_zero j), ?_, ?_⟩, ?_, fun a ha => w1 a (by omega) (by unfold rNa; omega)⟩
      · rw [o5, qj_sub]; exact hQ
      · rw [w2 42 (by omega) (by omega) (by omega) (by omega)]; exact h9
      · rw [w2 43 (by omega) (by omega) (by omega) (by omega)]; exact h10
      · rw [w1 247 (by omega) (by unfold rNa; omega)]; exact h11
      · rw [w1 247 (by omega) (by unfold rNa; omega)]; exact h12
      · rw [qup_at, if_neg (by omega)]; exact v4
      · rw [qup_at, if_pos rfl]; exact o6
      · rw [w2 45 (by omega) (by omega) (by omega) (by omega)]; exact h16
      · rw [qup_at, if_neg (by omega)]; exact v3
    | inr F' =>
      rw [hr] at kk
      have W' := aFamT_ok _ _ _ _ _ hr fam0_ok (Nat.zero_le _)
      obtain ⟨J, ⟨o1, o2, o4⟩, o3⟩ := kk
      obtain ⟨v1, v2⟩ := fr o4
      obtain ⟨v3, v4⟩ := f0 o4
      have R0 : qNF F' (qup J 245 3 (qj (-1))) := qNF_cg o2 W'.1 (fun a p => qup_ne (by unfold rNa at p; omega))
      obtain ⟨J1, k1, k2, k3, k4, k5, k6, ⟨k7, k8, k9, k10⟩, k11, k12⟩ := m202 (d := d - 1) (g := g) (by omega) R0 W'.1
      have y245 : ∀ j, ¬ j = 27 → ¬ j = 41 → ¬ j = 42 → ¬ j = 43 → ¬ j = 44 → ¬ j = 3 → J1 245 j = J 245 j := fun j a b c e f p => by rw [k12 j a b c e f, qup_at, if_neg p]
      refine ⟨J1, qRun_of fun Q hQ => start Q (o3 Q J1 k1 ?_), ⟨k2, k3, Or.inl ⟨k7, rfl⟩, ⟨k8, fun k hk => absurd hk (Nat.not_lt_zero k)⟩, k4, k5, k6, fun k hk => absurd hk (Nat.not_lt_zero k), k10, k9, ?_, ?_, ?_, fun j hj => absurd hj (Nat.not_lt_zero j), ?_, ?_⟩, ?_, fun a ha => ?_⟩
      · rw [k2.2.1]; exact hQ
      · rw [k11 247 (by omega), qup_ne (by omega), v1 247 (by omega) (by unfold rNa; omega)]; exact h11
      · rw [k11 247 (by omega), qup_ne (by omega), v1 247 (by omega) (by unfold rNa; omega)]; exact h12
      · rw [y245 1 (by omega) (by omega) (by omega) (by omega) (by omega) (by omega)]; exact v4
      · rw [k12 3 (by omega) (by omega) (by omega) (by omega) (by omega), qup_at, if_pos rfl]
      · rw [y245 45 (by omega) (by omega) (by omega) (by omega) (by omega) (by omega), v2 45 (by omega) (by omega) (by omega) (by omega)]; exact h16
      · rw [y245 0 (by omega) (by omega) (by omega) (by omega) (by omega) (by omega)]; exact v3
      · rw [k11 a (by omega), qup_ne (by omega), v1 a (by omega) (by unfold rNa; omega)]
  · rw [if_neg h]
    show qRun d 199 [.ref 245, .int (qj z)] (qw g I) _
    refine qRun_of fun Q hQ => b199_0 (by omega) ?_
    rw [e1]
    simp (disch := omega) only [qz0, qj_lt, qj_le, qj_eq, qtk, qfk, qbtt, qbft, qbtf, qbff, qIx_z, qj_nat, true_and, and_true, true_implies, false_implies, not_true_eq_false, not_false_eq_true, Bool.true_eq_false, Bool.false_eq_true, qj_sub, qinB_t, qinB_f, q2_e, qj_add, qj_s1, qj_c1, qj_c2, qj_c9, qj_c17, qj_c97]
    refine ⟨_, _, bd11 (by omega) H, fun q => Bool.noConfusion q, fun _ => ?_⟩
    exact hQ
end R199
