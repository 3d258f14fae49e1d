/-! ===== the text of the book; the reference ===== -/
section LAYB
variable {d : Nat} {g : qG1} {I : Nat → Nat → Int32}
theorem sh200b {L k : Nat} (hk : k < 12) : qSH L (650 + 1 + k) = (1, 3) := by
  have : k = 0 ∨ k = 1 ∨ k = 2 ∨ k = 3 ∨ k = 4 ∨ k = 5 ∨ k = 6 ∨ k = 7 ∨ k = 8 ∨ k = 9 ∨ k = 10 ∨ k = 11 := by omega
  rcases this with rfl | rfl | rfl | rfl | rfl | rfl | rfl | rfl | rfl | rfl | rfl | rfl <;> rfl
theorem m200b (hd : 1 ≤ d) {m : Nat} (hm : m ≤ 12) : ∃ J, qRun d 200 [.ref 663, .ref 650, .int (qj (m : Int))] (qw g I) (.inl (none, qw g J)) ∧ (∀ k j, k < m → j < 3 → J (650 + 1 + k) j = I (663 + 1 + k) j) ∧ ∀ a, ¬ (650 < a ∧ a ≤ 650 + 12) → J a = I a := by
  have key : ∀ k, k ≤ m → ∀ K : Nat → Nat → Int32, (∀ r j, r < k → j < 3 → K (650 + 1 + r) j = I (663 + 1 + r) j) → (∀ a, ¬ (650 < a ∧ a ≤ 650 + 12) → K a = I a) →
      ∃ J : Nat → Nat → Int32, ((∀ k j, k < m → j < 3 → J (650 + 1 + k) j = I (663 + 1 + k) j) ∧ ∀ a, ¬ (650 < a ∧ a ≤ 650 + 12) → J a = I a) ∧ ∀ Q : qR → Prop, Q (.inl (none, qw g J)) → qwq d 200 2 [(0, .ref 663), (1, .ref 650), (2, .int (qj (m : Int))), (3, .int (qj (k : Int)))] [] (qw g K) Q := by
    refine upto _ (fun K h1 h2 => ⟨K, ⟨h1, h2⟩, fun Q hQ => b200b_2 (by omega) ?_⟩) (fun k hk ih K h1 h2 => ?_)
    · simp (disch := omega) only [qz0, qj_lt, qj_le, qj_eq, qtk, qfk, qbtt, qbft, qbtf, qbff, qIx_z, qj_nat, true_and, and_true, true_implies, false_implies, not_true_eq_false, not_false_eq_true, Bool.true_eq_false, Bool.false_eq_true, qj_sub, qinB_t, qinB_f, q2_e, qj_add, qj_s1, qj_c1, qj_c2, qj_c9, qj_c17, qj_c97]
      exact hQ
    · have hs : Int32.ofNat (qSH g.2.1 (650 + 1 + k)).2 = qj 3 := by rw [sh200b (by omega)]; rfl
      have L2 : ∀ j, j ≤ 3 → ∀ K : Nat → Nat → Int32, (∀ r j, r < k → j < 3 → K (650 + 1 + r) j = I (663 + 1 + r) j) → (∀ i, i < j → K (650 + 1 + k) i = I (663 + 1 + k) i) → (∀ a, ¬ (650 < a ∧ a ≤ 650 + 12) → K a = I a) →
          ∃ J : Nat → Nat → Int32, ((∀ k j, k < m → j < 3 → J (650 + 1 + k) j = I (663 + 1 + k) j) ∧ ∀ a, ¬ (650 < a ∧ a ≤ 650 + 12) → J a = I a) ∧ ∀ Q : qR → Prop, Q (.inl (none, qw g J)) → qwq d 200 10 [(0, .ref 663), (1, .ref 650), (2, .int (qj (m : Int))), (3, .int (qj (k : Int))), (4, .int (qj (j : Int)))] [] (qw g K) Q := by
        refine upto _ (fun K h1 h3 h2 => ?_) (fun j hj ih2 K h1 h3 h2 => ?_)
        · obtain ⟨J, q1, q2⟩ := ih K (fun r i hr hi => by
            by_cases e : r = k
            · rw [e]; exact h3 i hi
            · exact h1 r i (by omega) hi) h2
          refine ⟨J, q1, fun Q hQ => b200b_10 (by omega) ?_⟩
          simp (disch := omega) only [qz0, qj_lt, qj_le, qj_eq, qtk, qfk, qbtt, qbft, qbtf, qbff, qIx_z, qj_nat, true_and, and_true, true_implies, false_implies, not_true_eq_false, not_false_eq_true, Bool.true_eq_false, Bool.false_eq_true, qj_sub, qinB_t, qinB_f, q2_e, qj_add, qj_s1, qj_c1, qj_c2, qj_c9, qj_c17, qj_c97, hs]
          exact q2 Q hQ
        · obtain ⟨J, q1, q2⟩ := ih2 (qup K (650 + 1 + k) j (K (663 + 1 + k) j)) (fun r i hr hi => by rw [qup_ne (by omega)]; exact h1 r i hr hi) (fun i hi => by
            rw [qup_at]; split
            · rename_i e; rw [e, h2 _ (by omega)]
            · exact h3 i (by omega)) (fun a ha => by rw [qup_ne (by omega)]; exact h2 a ha)
          refine ⟨J, q1, fun Q hQ => b200b_10 (by omega) ?_⟩
          simp (disch := omega) only [qz0, qj_lt, qj_le, qj_eq, qtk, qfk, qbtt, qbft, qbtf, qbff, qIx_z, qj_nat, true_and, and_true, true_implies, false_implies, not_true_eq_false, not_false_eq_true, Bool.true_eq_false, Bool.false_eq_true, qj_sub, qinB_t, qinB_f, q2_e, qj_add, qj_s1, qj_c1, qj_c2, qj_c9, qj_c17, qj_c97, hs]
          exact q2 Q hQ
      obtain ⟨J, q1, q2⟩ := L2 0 (Nat.zero_le _) K h1 (fun i hi => absurd hi (Nat.not_lt_zero i)) h2
      refine ⟨J, q1, fun Q hQ => b200b_2 (by omega) ?_⟩
      simp (disch := omega) only [qz0, qj_lt, qj_le, qj_eq, qtk, qfk, qbtt, qbft, qbtf, qbff, qIx_z, qj_nat, true_and, and_true, true_implies, false_implies, not_true_eq_false, not_false_eq_true, Bool.true_eq_false, Bool.false_eq_true, qj_sub, qinB_t, qinB_f, q2_e, qj_add, qj_s1, qj_c1, qj_c2, qj_c9, qj_c17, qj_c97]
      exact q2 Q hQ
  obtain ⟨J, q1, q2⟩ := key 0 (Nat.zero_le _) I (fun r j hr => absurd hr (Nat.not_lt_zero r)) (fun _ _ => rfl)
  exact ⟨J, qRun_of fun Q hQ => b200b_0 (by omega) (q2 Q hQ), q1.1, q1.2⟩

end LAYB
def rBR (B : qBk) (J : Nat → Nat → Int32) : Prop := ∀ k, k < B.1 → J (663 + 1 + k) 0 = qj (B.2 0 k : Int) ∧ J (663 + 1 + k) 1 = qj (B.2 1 k : Int) ∧ J (663 + 1 + k) 2 = qj (B.2 2 k : Int)
def rH (I J : Nat → Nat → Int32) : Prop := (∀ a, ¬ a = 245 → ¬ (663 < a ∧ a ≤ 675) → J a = I a) ∧ ∀ j, ¬ j = 4 → ¬ j = 5 → ¬ j = 6 → J 245 j = I 245 j
theorem rH_rf {I : Nat → Nat → Int32} : rH I I := ⟨fun _ _ _ => rfl, fun _ _ _ _ => rfl⟩
theorem rH_tr {I J K : Nat → Nat → Int32} (h : rH I J) (h2 : rH J K) : rH I K := ⟨fun a p q => (h2.1 a p q).trans (h.1 a p q), fun j p q r => (h2.2 j p q r).trans (h.2 j p q r)⟩
theorem rH_f {I J : Nat → Nat → Int32} (h : rF I J) : rH I J := ⟨fun a p _ => h.1 a p, h.2⟩
theorem rH_w {I : Nat → Nat → Int32} {a j : Nat} {v : Int32} (h : 663 < a ∧ a ≤ 675) : rH I (qup I a j v) := ⟨fun c p q => qup_ne (fun e => q (by rw [e]; exact h)), fun k _ _ _ => by rw [qup_ne (by omega)]⟩
theorem rBR_f {B : qBk} {I J : Nat → Nat → Int32} (R : rBR B I) (hB : B.1 ≤ 12) (h : rF I J) : rBR B J := fun k hk => by
  rw [h.1 _ (by omega)]; exact R k hk
/-- what is done behind a line's year -/
def mYr (d : Nat) (g : qG1) (x2 v6 : Int32) (J5 : Nat → Nat → Int32) (Q : qR → Prop) : Prop :=
  ∃ (v8 : Int32) (J7 : _), qRun (d - 1) 179 [.ref 245, .int (qj 0), .int ((J5 249 1) - (qj 1))] (qw g J5) (.inl (some (.int v8), (qw g J7))) ∧ (∃ (v10 : Int32) (J9 : _), qRun (d - 1) 179 [.ref 245, .int (qj 0), .int ((J7 249 0) - (qj 1))] (qw g J7) (.inl (some (.int v10), (qw g J9))) ∧ (∃ J11, qRun (d - 1) 186 [.ref 245, .int (qj 59)] (qw g J9) (.inl (none, (qw g J11))) ∧ (((¬ (J11 245 5) = 0 → ∃ J12, qRun (d - 1) 175 [.ref 245] (qw g J11) (.inl (none, (qw g J12))) ∧ (qwq d 213 47 [(0, .ref 245), (2, .int x2)] [] (qw g J12) Q)) ∧ (¬ (¬ (J11 245 5) = 0) → qIx x2 12 ∧ (∃ J14, qRun (d - 1) 175 [.ref 245] (qw g (qup (qup (qup J11 (q2 12 663 x2.toNatClampNeg) 0 v6) (q2 12 663 x2.toNatClampNeg) 1 v8) (q2 12 663 x2.toNatClampNeg) 2 v10)) (.inl (none, (qw g J14))) ∧ (qwq d 213 47 [(0, .ref 245), (2, .int (x2 + qj 1))] [] (qw g J14) Q)))))))
section BOOK2
variable {d : Nat} {g : qG1} {I : Nat → Nat → Int32} {F : qFam} {L : qLw} {B : qBk} {S S0 : qSt} {Im : Nat → qSt} {C T : Nat → Nat} {P : Int} {n i k : Nat}
/-- a fault stands: the loop ends -/
theorem m213x (hd : 4 ≤ d) {J : Nat → Nat → Int32} {e : Nat × Nat} (E : rE T n J e) (x2 : Int32) (Q : qR → Prop) (hQ : Q (.inl (some (.int (J 245 5 - qj 10)), qw g (qup J 245 3 (J 245 6))))) : qwq d 213 47 [(0, .ref 245), (2, .int x2)] [] (qw g J) Q := by
  have ne := rE_ne E
  exact b213_47 (by omega) ⟨fun _ => ⟨fun q => absurd q ne, fun _ => hQ⟩, fun q => absurd ne q⟩
theorem m213y (hd : 4 ≤ d) {J : Nat → Nat → Int32} {e : Nat × Nat} (E : rE T n J e) (x2 v6 : Int32) : ∃ J', (rE T n J' e ∧ rF J J') ∧ ∀ Q : qR → Prop, Q (.inl (some (.int (J' 245 5 - qj 10)), qw g (qup J' 245 3 (J' 245 6)))) → ∃ J12, qRun (d - 1) 175 [.ref 245] (qw g J) (.inl (none, (qw g J12))) ∧ (qwq d 213 47 [(0, .ref 245), (2, .int x2)] [] (qw g J12) Q) := by
  obtain ⟨i5, x5⟩ := E.2.2.2.2
  obtain ⟨J5, k5, x6, f5, z5, z6⟩ := m175 (d := d - 1) (g := g) (by omega) x5
  have E5 : rE T n J5 e := ⟨E.1, E.2.1, z5.trans E.2.2.1, z6.trans E.2.2.2.1, _, x6⟩
  exact ⟨J5, ⟨E5, f5⟩, fun Q hQ => ⟨J5, k5, m213x hd E5 x2 Q hQ⟩⟩
theorem m213t (hd : 4 ≤ d) {J : Nat → Nat → Int32} {e : Nat × Nat} (E : rE T n J e) (x2 v6 : Int32) : ∃ J', (rE T n J' e ∧ rF J J') ∧ ∀ Q : qR → Prop, Q (.inl (some (.int (J' 245 5 - qj 10)), qw g (qup J' 245 3 (J' 245 6)))) → mYr d g x2 v6 J Q := by
  have ne := rE_ne E
  obtain ⟨J', h1, h2⟩ := m213y (d := d) (g := g) hd E x2 v6
  exact ⟨J', h1, fun Q hQ => ⟨_, J, m179e (by omega) ne _ _, _, J, m179e (by omega) ne _ _, J, m186e (by omega) ne _, fun _ => h2 Q hQ, fun q => absurd ne q⟩⟩
theorem m213l (hd : 4 ≤ d) (W : qWF F) : ∀ r k B i (J : Nat → Nat → Int32), k + r = 13 → k ≤ 12 → B.1 = k → rX T n J i → tBl T n i = i → J 245 5 = qj 0 → rBR B J → J 249 1 = qj (F.1 0 1 : Int) ∧ J 249 0 = qj (F.1 0 0 : Int) →
    match aBkT T n F r k B i with
    | .inl e => ∃ J', (rE T n J' e ∧ rH J J') ∧ ∀ Q : qR → Prop, Q (.inl (some (.int (J' 245 5 - qj 10)), qw g (qup J' 245 3 (J' 245 6)))) → qwq d 213 47 [(0, .ref 245), (2, .int (qj (k : Int)))] [] (qw g J) Q
    | .inr B' => ∃ J', (B'.1 ≤ 12 ∧ rBR B' J' ∧ rH J J' ∧ J' 245 5 = qj 0) ∧ ∀ Q : qR → Prop, (∃ J1, qRun (d - 1) 200 [.ref 663, .ref 650, .int (qj (B'.1 : Int))] (qw g (qup (qup J' 245 3 (qj (-1))) 245 41 (qj (B'.1 : Int)))) (.inl (none, qw g J1)) ∧ Q (.inl (some (.int (qj (B'.1 : Int))), qw g J1))) → qwq d 213 47 [(0, .ref 245), (2, .int (qj (k : Int)))] [] (qw g J) Q
  | 0, k, B, i, J, hk, hk2, _, _, _, _, _, _ => by omega
  | r + 1, k, B, i, J, hk, hk2, hB, x, hi, z, R, f249 => by
    have w9 := W.1
    have w8 := W.2.1
    have hx := x.2.1
    have y2 := x.2.2.1
    have y4 := x.2.2.2.1
    have hn := x.1
    rw [aBkT, hi]
    by_cases he : n ≤ i
    · rw [if_pos he]
      refine ⟨J, ⟨by omega, R, rH_rf, z⟩, fun Q hQ => b213_47 (by omega) ⟨fun q => absurd z q, fun _ => ⟨fun _ => ⟨fun _ => ?_, fun q => absurd z q⟩, fun q => absurd ?_ q⟩⟩⟩
      · rw [hB] at hQ; exact hQ
      · rw [y2, y4, qj_le (by omega) (by omega) (by omega) (by omega)]; omega
    · rw [if_neg he]
      have nle : ¬ J 245 2 ≤ J 245 4 := by rw [y2, y4, qj_le (by omega) (by omega) (by omega) (by omega)]; omega
      have k1 := m179 (d := d - 1) (g := g) (lo := 1) (hi := 60) (by omega) x z (by omega) (by omega)
      have fr : ∀ {K : Nat → Nat → Int32}, rF J K → K 249 1 = qj (F.1 0 1 : Int) ∧ K 249 0 = qj (F.1 0 0 : Int) := fun h => by rw [h.1 249 (by omega)]; exact f249
      unfold aLin
      cases h1 : aNum T n i 1 60 with
      | inl e =>
        rw [h1] at k1
        obtain ⟨J5, a1, E, f5⟩ := k1
        have ne := rE_ne E
        obtain ⟨J', ⟨b1, b2⟩, b3⟩ := m213t (d := d) (g := g) hd E (qj (k : Int)) (qj 0)
        exact ⟨J', ⟨b1, rH_f (rF_tr f5 b2)⟩, fun Q hQ => b213_47 (by omega) ⟨fun q => absurd z q, fun _ => ⟨fun q => absurd q nle, fun _ => ⟨_, J5, a1, fun _ => b3 Q hQ, fun q => absurd ne q⟩⟩⟩⟩
      | inr y =>
        rw [h1] at k1
        obtain ⟨J5, a1, x5, z5, f5⟩ := k1
        have b1 := aNum_b h1 hx
        simp only []
        by_cases c12 : 12 ≤ k
        · rw [if_pos c12]
          have e12 : qj (k : Int) = qj 12 := by rw [show k = 12 by omega]; rfl
          obtain ⟨J25, w1, w2, w5, w6, w3⟩ := m176 (d := d - 1) (g := g) (by omega) x5 z5 3 i
          have E : rE T n J25 (3, i) := ⟨(show ¬ (3 : Nat) = 0 by omega), (show (3 : Nat) ≤ 3 by omega), w5, w6, _, w2⟩
          obtain ⟨J', ⟨g1, g2⟩, g3⟩ := m213t (d := d) (g := g) hd E (qj (k : Int)) (qj (y.1 : Int))
          rw [hi]
          exact ⟨J', ⟨g1, rH_f (rF_tr f5 (rF_tr w3 g2))⟩, fun Q hQ => b213_47 (by omega) ⟨fun q => absurd z q, fun _ => ⟨fun q => absurd q nle, fun _ => ⟨_, J5, a1, fun q => absurd z5 q, fun _ => ⟨fun q => absurd e12 q, fun _ => ⟨J25, by rw [y4]; exact w1, g3 Q hQ⟩⟩⟩⟩⟩⟩
        · rw [if_neg c12]
          have n12 : ¬ qj (k : Int) = qj 12 := by rw [qj_eq (by omega) (by omega) (by omega) (by omega)]; omega
          have start : ∀ Q : qR → Prop, mYr d g (qj (k : Int)) (qj (y.1 : Int)) J5 Q → qwq d 213 47 [(0, .ref 245), (2, .int (qj (k : Int)))] [] (qw g J) Q := fun Q h => b213_47 (by omega) ⟨fun q => absurd z q, fun _ => ⟨fun q => absurd q nle, fun _ => ⟨_, J5, a1, fun q => absurd z5 q, fun _ => ⟨fun _ => h, fun q => absurd n12 q⟩⟩⟩⟩
          have k2 := m179 (d := d - 1) (g := g) (lo := 0) (hi := (F.1 0 1 : Int) - 1) (by omega) x5 z5 (by omega) (by omega)
          have e5 : J5 249 1 - qj 1 = qj ((F.1 0 1 : Int) - 1) := by rw [(fr f5).1, qj_sub]
          cases h2 : aNum T n y.2 0 ((F.1 0 1 : Int) - 1) with
          | inl e =>
            rw [h2] at k2
            obtain ⟨J7, c1, E, f7⟩ := k2
            have ne := rE_ne E
            obtain ⟨J', ⟨g1, g2⟩, g3⟩ := m213y (d := d) (g := g) hd E (qj (k : Int)) (qj 0)
            exact ⟨J', ⟨g1, rH_f (rF_tr f5 (rF_tr f7 g2))⟩, fun Q hQ => start Q ⟨_, J7, by rw [e5]; exact c1, _, J7, m179e (by omega) ne _ _, J7, m186e (by omega) ne _, fun _ => g3 Q hQ, fun q => absurd ne q⟩⟩
          | inr p =>
            rw [h2] at k2
            obtain ⟨J7, c1, x7, z7, f7⟩ := k2
            have b2 := aNum_b h2 b1.2.2.1
            have k3 := m179 (d := d - 1) (g := g) (lo := 0) (hi := (F.1 0 0 : Int) - 1) (by omega) x7 z7 (by omega) (by omega)
            have e7 : J7 249 0 - qj 1 = qj ((F.1 0 0 : Int) - 1) := by rw [(fr (rF_tr f5 f7)).2, qj_sub]
            simp only []
            cases h3 : aNum T n p.2 0 ((F.1 0 0 : Int) - 1) with
            | inl e =>
              rw [h3] at k3
              obtain ⟨J9, m1, E, f9⟩ := k3
              have ne := rE_ne E
              obtain ⟨J', ⟨g1, g2⟩, g3⟩ := m213y (d := d) (g := g) hd E (qj (k : Int)) (qj 0)
              exact ⟨J', ⟨g1, rH_f (rF_tr f5 (rF_tr f7 (rF_tr f9 g2)))⟩, fun Q hQ => start Q ⟨_, J7, by rw [e5]; exact c1, _, J9, by rw [e7]; exact m1, J9, m186e (by omega) ne _, fun _ => g3 Q hQ, fun q => absurd ne q⟩⟩
            | inr h =>
              rw [h3] at k3
              obtain ⟨J9, m1, x9, z9, f9⟩ := k3
              have b3 := aNum_b h3 b2.2.2.1
              have k4 := m186 (d := d - 1) (g := g) (s := 59) (by omega) x9 z9 (by omega)
              simp only []
              cases h4 : aSgn T n h.2 59 with
              | inl e =>
                rw [h4] at k4
                obtain ⟨J11, m8, E, f11⟩ := k4
                have ne := rE_ne E
                obtain ⟨J', ⟨g1, g2⟩, g3⟩ := m213y (d := d) (g := g) hd E (qj (k : Int)) (qj 0)
                exact ⟨J', ⟨g1, rH_f (rF_tr f5 (rF_tr f7 (rF_tr f9 (rF_tr f11 g2))))⟩, fun Q hQ => start Q ⟨_, J7, by rw [e5]; exact c1, _, J9, by rw [e7]; exact m1, J11, m8, fun _ => g3 Q hQ, fun q => absurd ne q⟩⟩
              | inr j =>
                rw [h4] at k4
                obtain ⟨J11, m8, x11, z11, f11⟩ := k4
                have b4 := aSgn_s h4 b3.2.2.1
                have fA : rF J J11 := rF_tr f5 (rF_tr f7 (rF_tr f9 f11))
                have eq2 : q2 12 663 (qj (k : Int)).toNatClampNeg = 663 + 1 + k := by rw [qj_nat (by omega), q2_e (by omega)]
                generalize hK : qup (qup (qup J11 (663 + 1 + k) 0 (qj (y.1 : Int))) (663 + 1 + k) 1 (qj (p.1 : Int))) (663 + 1 + k) 2 (qj (h.1 : Int)) = K
                have xK : rX T n K j := by rw [← hK]; exact rX_w (rX_w (rX_w x11 (by omega) (by omega)) (by omega) (by omega)) (by omega) (by omega)
                have hH : rH J11 K := by rw [← hK]; exact rH_tr (rH_w (by omega)) (rH_tr (rH_w (by omega)) (rH_w (by omega)))
                have zK : K 245 5 = qj 0 := by rw [← hK, qup_ne (by omega), qup_ne (by omega), qup_ne (by omega)]; exact z11
                obtain ⟨J14, k14, x14, f14, z14, -⟩ := m175 (d := d - 1) (g := g) (by omega) xK
                have RK : rBR (badd B (y.1, p.1, h.1)) J14 := by
                  refine rBR_f (I := K) (fun q hq => ?_) (show B.1 + 1 ≤ 12 by omega) f14
                  have hq : q < B.1 + 1 := hq
                  show K (663 + 1 + q) 0 = qj (((if q = B.1 then y.1 else B.2 0 q) : Nat) : Int) ∧ K (663 + 1 + q) 1 = qj (((if q = B.1 then p.1 else B.2 1 q) : Nat) : Int) ∧ K (663 + 1 + q) 2 = qj (((if q = B.1 then h.1 else B.2 2 q) : Nat) : Int)
                  by_cases c : q = B.1
                  · rw [if_pos c, if_pos c, if_pos c, show q = k by omega, ← hK]
                    refine ⟨?_, ?_, ?_⟩ <;> (simp only [qup_at]; rfl)
                  · rw [if_neg c, if_neg c, if_neg c, ← hK, qup_ne (by omega), qup_ne (by omega), qup_ne (by omega), fA.1 _ (by omega)]
                    exact R q (by omega)
                have ih := m213l hd W r (k + 1) (badd B (y.1, p.1, h.1)) (tBl T n j) J14 (by omega) (by omega) (by show B.1 + 1 = k + 1; omega) x14 (tBl_i b4.2) (z14.trans zK) RK (by
                  rw [f14.1 249 (by omega), ← hK, qup_ne (by omega), qup_ne (by omega), qup_ne (by omega)]; exact fr fA)
                rw [aBkT_i b4.2] at ih
                have hA : rH J J14 := rH_tr (rH_f fA) (rH_tr hH (rH_f f14))
                have go : ∀ Q : qR → Prop, qwq d 213 47 [(0, .ref 245), (2, .int (qj ((k + 1 : Nat) : Int)))] [] (qw g J14) Q → qwq d 213 47 [(0, .ref 245), (2, .int (qj (k : Int)))] [] (qw g J) Q := fun Q hQ => start Q ⟨_, J7, by rw [e5]; exact c1, _, J9, by rw [e7]; exact m1, J11, m8, fun q => absurd z11 q, fun _ => ⟨qIx_z (by omega) (by omega) (by omega), J14, by rw [eq2, hK]; exact k14, by rw [qj_add, qj_s1]; exact hQ⟩⟩
                simp only []
                cases hr : aBkT T n F r (k + 1) (badd B (y.1, p.1, h.1)) j with
                | inl e =>
                  rw [hr] at ih
                  obtain ⟨J', ⟨o1, o3⟩, o2⟩ := ih
                  exact ⟨J', ⟨o1, rH_tr hA o3⟩, fun Q hQ => go Q (o2 Q hQ)⟩
                | inr B' =>
                  rw [hr] at ih
                  obtain ⟨J', ⟨o1, o3, o4, o5⟩, o2⟩ := ih
                  exact ⟨J', ⟨o1, o3, rH_tr hA o4, o5⟩, fun Q hQ => go Q (o2 Q hQ)⟩
theorem r213 (hd : 4 ≤ d) (X : qAbs F L B S S0 Im C T) (H : qMdl I F L B S S0 Im C T P) {z : Int} (hz : -2147483648 ≤ z ∧ z < 2147483648) : qMT d 213 [.ref 245, .int (qj z)] g I C T (rBok F L B S S0 Im C T z) := by
  have c4 := X.2.2.2.2.2.2.2.2.1
  have hT := X.2.2.2.2.2.2.2.2.2
  have e1 := H.2.2.2.2.2.2.2.2.2.2.2.2.1
  have W := X.1
  have c1 := X.2.2.2.2.2.2.2.1
  unfold rBok
  by_cases h : (0 ≤ z ∧ z ≤ C 4) ∧ z ≤ 150
  · rw [if_pos h]
    obtain ⟨n, rfl⟩ : ∃ n : Nat, z = n := ⟨z.toNat, by omega⟩
    rw [Int.toNat_natCast]
    have h246 : ∀ j, j < n → qup I 245 0 (qj 0) 246 j = qj (T j : Int) := fun j hj => by rw [qup_ne (by omega)]; exact H.2.2.2.2.2.2.2.2.2.2.2.2.2.1 j (by omega)
    obtain ⟨J3, s1, s2, s5, s6, s7, s8, t1, s9, s10⟩ := m188 (d := d - 1) (g := g) (n := n) (T := T) (I := qup I 245 0 (qj 0)) (by omega) (by omega) (fun j hj => hT j (by omega)) h246
    have f249 : J3 249 1 = qj (F.1 0 1 : Int) ∧ J3 249 0 = qj (F.1 0 0 : Int) := by
      rw [s9 249 (by omega), qup_ne (by omega)]; exact ⟨H.1.2.1, H.1.1⟩
    have kk := m213l (d := d) (g := g) (T := T) (n := n) hd W 13 0 (0, fun _ _ => 0) (tBl T n 0) J3 rfl (by omega) rfl s2 (tBl_i (Nat.zero_le _)) s5 (fun k hk => absurd hk (Nat.not_lt_zero k)) f249
    rw [aBkT_i (Nat.zero_le _)] at kk
    have start : ∀ Q : qR → Prop, qwq d 213 47 [(0, .ref 245), (2, .int (qj ((0 : Nat) : Int)))] [] (qw g J3) Q → qwp d 213 [.ref 245, .int (qj (n : Int))] (qw g I) Q := fun Q hq => b213_0 (by omega) (by
      rw [e1]
      simp (disch := omega) only [qz0, qj_lt, qj_le, qj_eq, qtk, qfk, qbtt, qbft, qbtf, qbff, qIx_z, qj_nat, true_and, and_true, true_implies, false_implies, not_true_eq_false, not_false_eq_true, Bool.true_eq_false, Bool.false_eq_true, qj_sub, qinB_t, qinB_f, q2_e, qj_add, qj_s1, qj_c1, qj_c2, qj_c9, qj_c17, qj_c97]
      exact ⟨_, _, bd0 (by omega) _ _, fun _ => ⟨J3, s1, hq⟩, fun q => Bool.noConfusion q⟩)
    have fr : ∀ {J : Nat → Nat → Int32}, rH J3 J → (∀ a, ¬ a = 245 → ¬ (663 < a ∧ a ≤ 675) → J a = I a) ∧ (∀ j, ¬ j = 0 → ¬ j = 1 → ¬ j = 2 → ¬ (4 ≤ j ∧ j ≤ 8) → J 245 j = I 245 j) ∧ J 245 0 = qj 0 ∧ J 245 1 = qj 0 := fun hr => ⟨fun a p q => by rw [hr.1 a p q, s9 a p, qup_ne p], fun j p q r s => by rw [hr.2 j (by omega) (by omega) (by omega), s10 j q r s, qup_at, if_neg p], by rw [hr.2 0 (by omega) (by omega) (by omega), s10 0 (by omega) (by omega) (by omega), qup_at, if_pos rfl], by rw [hr.2 1 (by omega) (by omega) (by omega)]; exact t1⟩
    obtain ⟨h1, h2, h3, h4, h5, h6, h7, h8, h9, h10, h11, h12, h13, h14, h15, h16⟩ := H
    cases hr : aBkT T n F 13 0 (0, fun _ _ => 0) 0 with
    | inl e =>
      rw [hr] at kk
      obtain ⟨J, ⟨o1, o2⟩, o3⟩ := kk
      obtain ⟨v1, v2, v3, v4⟩ := fr o2
      have o5 := o1.2.2.1
      have o6 := o1.2.2.2.1
      have w1 : ∀ a, ¬ a = 245 → ¬ (663 < a ∧ a ≤ 675) → qup J 245 3 (J 245 6) a = I a := fun a p q => by rw [qup_ne p]; exact v1 a p q
      have w2 : ∀ j, ¬ j = 0 → ¬ j = 1 → ¬ j = 2 → ¬ (3 ≤ j ∧ j ≤ 8) → qup J 245 3 (J 245 6) 245 j = I 245 j := fun j p q r s => by rw [qup_at, if_neg (by omega)]; exact v2 j p q r (by omega)
      refine ⟨qup J 245 3 (J 245 6), qRun_of fun Q hQ => start Q (o3 Q ?_), ⟨qMF_cg h1 (fun a p q => w1 a (by omega) (by omega)) W, qMl_cg h2 (fun a p q => w1 a (by omega) (by omega)) W, qML_cg h3 X.2.1 (w2 27 (by omega) (by omega) (by omega) (by omega)) (fun a p q => w1 a (by omega) (by omega)), qMB_cg h4 X.2.2.1.1 (w2 41 (by omega) (by omega) (by omega) (by omega)) (fun a p q => w1 a (by omega) (by omega)), qMS_cg h5 (w1 682 (by omega) (by omega)), qMS_cg h6 (w1 683 (by omega) (by omega)), qMS_cg h7 (w1 684 (by omega) (by omega)), fun k hk => qMS_cg (h8 k hk) (w1 _ (by omega) (by omega)), ?_, ?_, ?_, ?_, ?_, fun j hj => absurd hj (Nat.not_lt_zero j), ?_, ?_⟩, ?_, fun a ha => w1 a (by omega) (by omega)⟩
      · rw [o5, qj_sub]; exact hQ
      · rw [w2 42 (by omega) (by omega) (by omega) (by omega)]; exact h9
      · rw [w2 43 (by omega) (by omega) (by omega) (by omega)]; exact h10
      · rw [w1 247 (by omega) (by omega)]; exact h11
      · rw [w1 247 (by omega) (by omega)]; exact h12
      · rw [qup_at, if_neg (by omega)]; exact v4
      · rw [qup_at, if_pos rfl]; exact o6
      · rw [w2 45 (by omega) (by omega) (by omega) (by omega)]; exact h16
      · rw [qup_at, if_neg (by omega)]; exact v3
    | inr B' =>
      rw [hr] at kk
      obtain ⟨J, ⟨o1, o2, o4, o5⟩, o3⟩ := kk
      obtain ⟨v1, v2, v3, v4⟩ := fr o4
      obtain ⟨J1, k1, a1, b1⟩ := m200b (d := d - 1) (g := g) (I := qup (qup J 245 3 (qj (-1))) 245 41 (qj (B'.1 : Int))) (m := B'.1) (by omega) o1
      have w1 : ∀ a, ¬ a = 245 → ¬ (650 < a ∧ a ≤ 675) → J1 a = I a := fun a p q => by rw [b1 a (by omega), qup_ne p, qup_ne p]; exact v1 a p (by omega)
      have y245 : ∀ j, ¬ j = 3 → ¬ j = 41 → J1 245 j = J 245 j := fun j p q => by rw [b1 245 (by omega), qup_at, if_neg q, qup_at, if_neg p]
      have w2 : ∀ j, ¬ j = 0 → ¬ j = 1 → ¬ j = 2 → ¬ (3 ≤ j ∧ j ≤ 8) → ¬ j = 41 → J1 245 j = I 245 j := fun j p q r s t => by rw [y245 j (by omega) t]; exact v2 j p q r (by omega)
      refine ⟨J1, qRun_of fun Q hQ => start Q (o3 Q ⟨J1, k1, hQ⟩), ⟨qMF_cg h1 (fun a p q => w1 a (by omega) (by omega)) W, qMl_cg h2 (fun a p q => w1 a (by omega) (by omega)) W, qML_cg h3 X.2.1 (w2 27 (by omega) (by omega) (by omega) (by omega) (by omega)) (fun a p q => w1 a (by omega) (by omega)), ⟨?_, fun k hk => ?_⟩, qMS_cg h5 (w1 682 (by omega) (by omega)), qMS_cg h6 (w1 683 (by omega) (by omega)), qMS_cg h7 (w1 684 (by omega) (by omega)), fun k hk => qMS_cg (h8 k hk) (w1 _ (by omega) (by omega)), ?_, ?_, ?_, ?_, ?_, fun j hj => absurd hj (Nat.not_lt_zero j), ?_, ?_⟩, ?_, fun a ha => w1 a (by omega) (by omega)⟩
      · rw [b1 245 (by omega), qup_at, if_pos rfl]
      · rw [a1 k 0 hk (by omega), a1 k 1 hk (by omega), a1 k 2 hk (by omega), qup_ne (by omega), qup_ne (by omega)]
        exact o2 k hk
      · rw [w2 42 (by omega) (by omega) (by omega) (by omega) (by omega)]; exact h9
      · rw [w2 43 (by omega) (by omega) (by omega) (by omega) (by omega)]; exact h10
      · rw [w1 247 (by omega) (by omega)]; exact h11
      · rw [w1 247 (by omega) (by omega)]; exact h12
      · rw [y245 1 (by omega) (by omega)]; exact v4
      · rw [b1 245 (by omega), qup_at, if_neg (by omega), qup_at, if_pos rfl]
      · rw [w2 45 (by omega) (by omega) (by omega) (by omega) (by omega)]; exact h16
      · rw [y245 0 (by omega) (by omega)]; exact v3
  · rw [if_neg h]
    show qRun d 213 [.ref 245, .int (qj z)] (qw g I) _
    refine qRun_of fun Q hQ => b213_0 (by omega) ?_
    rw [e1]
    by_cases c : 0 ≤ z ∧ z ≤ C 4
    · have nz : ¬ z ≤ 150 := fun q => h ⟨c, q⟩
      simp (disch := omega) only [qz0, qj_lt, qj_le, qj_eq, qtk, qfk, qbtt, qbft, qbtf, qbff, qIx_z, qj_nat, true_and, and_true, true_implies, false_implies, not_true_eq_false, not_false_eq_true, Bool.true_eq_false, Bool.false_eq_true, qj_sub, qinB_t, qinB_f, q2_e, qj_add, qj_s1, qj_c1, qj_c2, qj_c9, qj_c17, qj_c97]
      exact ⟨_, _, bd11 (by omega) H, fun q => Bool.noConfusion q, fun _ => hQ⟩
    · simp (disch := omega) only [qz0, qj_lt, qj_le, qj_eq, qtk, qfk, qbtt, qbft, qbtf, qbff, qIx_z, qj_nat, true_and, and_true, true_implies, false_implies, not_true_eq_false, not_false_eq_true, Bool.true_eq_false, Bool.false_eq_true, qj_sub, qinB_t, qinB_f, q2_e, qj_add, qj_s1, qj_c1, qj_c2, qj_c9, qj_c17, qj_c97]
      exact ⟨_, _, bd11 (by omega) H, fun q => Bool.noConfusion q, fun _ => hQ⟩
end BOOK2
