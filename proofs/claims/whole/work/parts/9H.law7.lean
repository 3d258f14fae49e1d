/-! ===== the law read, the reference: the whole call ===== -/
section LAW7
variable {d : Nat} {g : qG1} {I : Nat → Nat → Int32}
theorem sh200l {L k : Nat} (hk : k < 160) : qSH L (328 + 1 + k) = (1, 2) := by
  have h := q2s_328 (L := L) (y := qj (k : Int)) (qIx_z (by omega) (by omega) (by omega))
  rw [qj_nat (by omega), q2_e hk] at h
  exact h
theorem m200l (hd : 1 ≤ d) {m : Nat} (hm : m ≤ 160) : ∃ J, qRun d 200 [.ref 489, .ref 328, .int (qj (m : Int))] (qw g I) (.inl (none, qw g J)) ∧ (∀ k j, k < m → j < 2 → J (328 + 1 + k) j = I (489 + 1 + k) j) ∧ ∀ a, ¬ (328 < a ∧ a ≤ 328 + 160) → J a = I a := by
  have key : ∀ k, k ≤ m → ∀ K : Nat → Nat → Int32, (∀ r j, r < k → j < 2 → K (328 + 1 + r) j = I (489 + 1 + r) j) → (∀ a, ¬ (328 < a ∧ a ≤ 328 + 160) → K a = I a) →
      ∃ J : Nat → Nat → Int32, ((∀ k j, k < m → j < 2 → J (328 + 1 + k) j = I (489 + 1 + k) j) ∧ ∀ a, ¬ (328 < a ∧ a ≤ 328 + 160) → J a = I a) ∧ ∀ Q : qR → Prop, Q (.inl (none, qw g J)) → qwq d 200 2 [(0, .ref 489), (1, .ref 328), (2, .int (qj (m : Int))), (3, .int (qj (k : Int)))] [] (qw g K) Q := by
    refine upto _ (fun K h1 h2 => ⟨K, ⟨h1, h2⟩, fun Q hQ => b200l_2 (by omega) ?_⟩) (fun k hk ih K h1 h2 => ?_)
    · simp (disch := omega) only [qz0, qj_lt, qj_le, qj_eq, qtk, qfk, qbtt, qbft, qbtf, qbff, qIx_z, qj_nat, true_and, and_true, true_implies, false_implies, not_true_eq_false, not_false_eq_true, Bool.true_eq_false, Bool.false_eq_true, qj_sub, qinB_t, qinB_f, q2_e, qj_add, qj_s1, qj_c1, qj_c2, qj_c9, qj_c17, qj_c97]
      exact hQ
    · have hs : Int32.ofNat (qSH g.2.1 (328 + 1 + k)).2 = qj 2 := by rw [sh200l (by omega)]; rfl
      have L2 : ∀ j, j ≤ 2 → ∀ K : Nat → Nat → Int32, (∀ r j, r < k → j < 2 → K (328 + 1 + r) j = I (489 + 1 + r) j) → (∀ i, i < j → K (328 + 1 + k) i = I (489 + 1 + k) i) → (∀ a, ¬ (328 < a ∧ a ≤ 328 + 160) → K a = I a) →
          ∃ J : Nat → Nat → Int32, ((∀ k j, k < m → j < 2 → J (328 + 1 + k) j = I (489 + 1 + k) j) ∧ ∀ a, ¬ (328 < a ∧ a ≤ 328 + 160) → J a = I a) ∧ ∀ Q : qR → Prop, Q (.inl (none, qw g J)) → qwq d 200 10 [(0, .ref 489), (1, .ref 328), (2, .int (qj (m : Int))), (3, .int (qj (k : Int))), (4, .int (qj (j : Int)))] [] (qw g K) Q := by
        refine upto _ (fun K h1 h3 h2 => ?_) (fun j hj ih2 K h1 h3 h2 => ?_)
        · obtain ⟨J, q1, q2⟩ := ih K (fun r i hr hi => by
            by_cases e : r = k
            · rw [e]; exact h3 i hi
            · exact h1 r i (by omega) hi) h2
          refine ⟨J, q1, fun Q hQ => b200l_10 (by omega) ?_⟩
          simp (disch := omega) only [qz0, qj_lt, qj_le, qj_eq, qtk, qfk, qbtt, qbft, qbtf, qbff, qIx_z, qj_nat, true_and, and_true, true_implies, false_implies, not_true_eq_false, not_false_eq_true, Bool.true_eq_false, Bool.false_eq_true, qj_sub, qinB_t, qinB_f, q2_e, qj_add, qj_s1, qj_c1, qj_c2, qj_c9, qj_c17, qj_c97, hs]
          exact q2 Q hQ
        · obtain ⟨J, q1, q2⟩ := ih2 (qup K (328 + 1 + k) j (K (489 + 1 + k) j)) (fun r i hr hi => by rw [qup_ne (by omega)]; exact h1 r i hr hi) (fun i hi => by
            rw [qup_at]; split
            · rename_i e; rw [e, h2 _ (by omega)]
            · exact h3 i (by omega)) (fun a ha => by rw [qup_ne (by omega)]; exact h2 a ha)
          refine ⟨J, q1, fun Q hQ => b200l_10 (by omega) ?_⟩
          simp (disch := omega) only [qz0, qj_lt, qj_le, qj_eq, qtk, qfk, qbtt, qbft, qbtf, qbff, qIx_z, qj_nat, true_and, and_true, true_implies, false_implies, not_true_eq_false, not_false_eq_true, Bool.true_eq_false, Bool.false_eq_true, qj_sub, qinB_t, qinB_f, q2_e, qj_add, qj_s1, qj_c1, qj_c2, qj_c9, qj_c17, qj_c97, hs]
          exact q2 Q hQ
      obtain ⟨J, q1, q2⟩ := L2 0 (Nat.zero_le _) K h1 (fun i hi => absurd hi (Nat.not_lt_zero i)) h2
      refine ⟨J, q1, fun Q hQ => b200l_2 (by omega) ?_⟩
      simp (disch := omega) only [qz0, qj_lt, qj_le, qj_eq, qtk, qfk, qbtt, qbft, qbtf, qbff, qIx_z, qj_nat, true_and, and_true, true_implies, false_implies, not_true_eq_false, not_false_eq_true, Bool.true_eq_false, Bool.false_eq_true, qj_sub, qinB_t, qinB_f, q2_e, qj_add, qj_s1, qj_c1, qj_c2, qj_c9, qj_c17, qj_c97]
      exact q2 Q hQ
  obtain ⟨J, q1, q2⟩ := key 0 (Nat.zero_le _) I (fun r j hr => absurd hr (Nat.not_lt_zero r)) (fun _ _ => rfl)
  exact ⟨J, qRun_of fun Q hQ => b200l_0 (by omega) (q2 Q hQ), q1.1, q1.2⟩
theorem aLw_i {T : Nat → Nat} {n i o : Nat} {L : qLw} (hi : i ≤ n) : ∀ r m, aLw T n r m o L (tBl T n i) = aLw T n r m o L i
  | 0, m => rfl
  | r + 1, m => by rw [aLw, aLw, aLw_i hi r 2, aLw_i hi r 4, tBl_i hi, aNum_i hi, aWrd_i hi]
end LAW7
section R210
variable {d : Nat} {g : qG1} {I : Nat → Nat → Int32} {F : qFam} {L : qLw} {B : qBk} {S S0 : qSt} {Im : Nat → qSt} {C T : Nat → Nat} {P : Int}
theorem r210 (hd : 151 ≤ d) (X : qAbs F L B S S0 Im C T) (H : qMdl I F L B S S0 Im C T P) {z : Int} (hz : -2147483648 ≤ z ∧ z < 2147483648) : qMT d 210 [.ref 245, .int (qj z)] g I C T (rLaw F L B S S0 Im C T z) := by
  have c4 := X.2.2.2.2.2.2.2.2.1
  have hT := X.2.2.2.2.2.2.2.2.2
  have e1 := H.2.2.2.2.2.2.2.2.2.2.2.2.1
  have W := X.1
  have c1 := X.2.2.2.2.2.2.2.1
  unfold rLaw
  by_cases h : (0 ≤ z ∧ z ≤ C 4) ∧ z ≤ 150
  · rw [if_pos h]
    obtain ⟨n, rfl⟩ : ∃ n : Nat, z = n := ⟨z.toNat, by omega⟩
    rw [Int.toNat_natCast]
    have h246 : ∀ j, j < n → qup I 245 0 (qj 0) 246 j = qj (T j : Int) := fun j hj => by rw [qup_ne (by omega)]; exact H.2.2.2.2.2.2.2.2.2.2.2.2.2.1 j (by omega)
    obtain ⟨J3, s1, s2, s5, s6, s7, s8, t1, s9, s10⟩ := m188 (d := d - 1) (g := g) (n := n) (T := T) (I := qup I 245 0 (qj 0)) (by omega) (by omega) (fun j hj => hT j (by omega)) h246
    have R0 : rL ((0, fun _ => 0) : qLw) (qup J3 245 28 (qj 0)) := ⟨by rw [qup_at, if_pos rfl]; rfl, fun i hi => absurd hi (Nat.not_lt_zero i)⟩
    have q0 := (mLw (g := g) (T := T) (n := n) (by omega) (3 * n + 3)).1 0 (0, fun _ => 0) (tBl T n 0) (qup J3 245 28 (qj 0)) (d - 1) (by omega) (by omega) (rX_u s2 (by omega) (by omega)) (by rw [qup_at, if_neg (by omega)]; exact s5) R0 (by rw [qup_at, if_neg (by omega)]; exact s8) (Nat.zero_le _) (by omega)
    rw [aLw_i (Nat.zero_le _)] at q0
    obtain ⟨h1, h2, h3, h4, h5, h6, h7, h8, h9, h10, h11, h12, h13, h14, h15, h16⟩ := H
    -- what stays, from here on
    have fr : ∀ {J : Nat → Nat → Int32}, rG (qup J3 245 28 (qj 0)) J → (∀ a, ¬ a = 245 → ¬ (490 ≤ a ∧ a < 650) → J a = I a) ∧ (∀ j, ¬ j = 0 → ¬ j = 1 → ¬ j = 2 → ¬ (4 ≤ j ∧ j ≤ 8) → ¬ j = 28 → J 245 j = I 245 j) ∧ J 245 0 = qj 0 ∧ J 245 1 = qj 0 := fun hr => ⟨fun a p q => by rw [hr.1 a p q, qup_ne p, s9 a p, qup_ne p], fun j p q r s t => by rw [hr.2 j (by omega) (by omega) (by omega) (by omega) t, qup_at, if_neg t, s10 j q r s, qup_at, if_neg p], by rw [hr.2 0 (by omega) (by omega) (by omega) (by omega) (by omega), qup_at, if_neg (by omega), s10 0 (by omega) (by omega) (by omega), qup_at, if_pos rfl], by rw [hr.2 1 (by omega) (by omega) (by omega) (by omega) (by omega), qup_at, if_neg (by omega)]; exact t1⟩
    have qin : qinB (qj (n : Int)) (qj 0) (I 245 1) = true := by rw [e1]; exact qinB_t (by omega) (by omega) (by omega) (by omega)
    -- a fault stands
    have bad : ∀ (J : Nat → Nat → Int32) (e : Nat × Nat), rE T n J e → rG (qup J3 245 28 (qj 0)) J → (∀ Q : qR → Prop, Q (.inl (some (.int (J 245 5 - qj 10)), qw g (qup J 245 3 (J 245 6)))) → qwp d 210 [.ref 245, .int (qj (n : Int))] (qw g I) Q) → qMT d 210 [.ref 245, .int (qj (n : Int))] g I C T (.inl (qj ((e.1 : Int) - 10), F, L, B, S, S0, Im, iup C 4 0, (e.2 : Int))) := by
      intro J e E hG go
      obtain ⟨v1, v2, v3, v4⟩ := fr hG
      have o5 := E.2.2.1
      have o6 := E.2.2.2.1
      have w1 : ∀ a, ¬ a = 245 → ¬ (490 ≤ a ∧ a < 650) → qup J 245 3 (J 245 6) a = I a := fun a p q => by rw [qup_ne p]; exact v1 a p q
      have w2 : ∀ j, ¬ j = 0 → ¬ j = 1 → ¬ j = 2 → ¬ (3 ≤ j ∧ j ≤ 8) → ¬ j = 28 → qup J 245 3 (J 245 6) 245 j = I 245 j := fun j p q r s t => by rw [qup_at, if_neg (by omega)]; exact v2 j p q r (by omega) t
      refine ⟨qup J 245 3 (J 245 6), qRun_of fun Q hQ => go Q ?_, ⟨qMF_cg h1 (fun a p q => w1 a (by omega) (by omega)) W, qMl_cg h2 (fun a p q => w1 a (by omega) (by omega)) W, qML_cg h3 X.2.1 (w2 27 (by omega) (by omega) (by omega) (by omega) (by omega)) (fun a p q => w1 a (by omega) (by omega)), qMB_cg h4 X.2.2.1.1 (w2 41 (by omega) (by omega) (by omega) (by omega) (by omega)) (fun a p q => w1 a (by omega) (by omega)), qMS_cg h5 (w1 682 (by omega) (by omega)), qMS_cg h6 (w1 683 (by omega) (by omega)), qMS_cg h7 (w1 684 (by omega) (by omega)), fun k hk => qMS_cg (h8 k hk) (w1 _ (by omega) (by omega)), ?_, ?_, ?_, ?_, ?_, fun j hj => absurd hj (Nat.not_lt_zero j), ?_, ?_⟩, ?_, fun a ha => w1 a (by omega) (by omega)⟩
      · rw [o5, qj_sub]; exact hQ
      · rw [w2 42 (by omega) (by omega) (by omega) (by omega) (by omega)]; exact h9
      · rw [w2 43 (by omega) (by omega) (by omega) (by omega) (by omega)]; exact h10
      · rw [w1 247 (by omega) (by omega)]; exact h11
      · rw [w1 247 (by omega) (by omega)]; exact h12
      · rw [qup_at, if_neg (by omega)]; exact v4
      · rw [qup_at, if_pos rfl]; exact o6
      · rw [w2 45 (by omega) (by omega) (by omega) (by omega) (by omega)]; exact h16
      · rw [qup_at, if_neg (by omega)]; exact v3
    unfold aLawT
    cases hr : aLw T n (3 * n + 3) 0 0 (0, fun _ => 0) 0 with
    | inl e =>
      rw [hr] at q0
      obtain ⟨J4, k4, E4, f4⟩ := q0
      obtain ⟨i5, x5⟩ := E4.2.2.2.2
      obtain ⟨J5, k5, x6, f5, z5, z6⟩ := m175 (d := d - 1) (g := g) (by omega) x5
      have E5 : rE T n J5 e := ⟨E4.1, E4.2.1, z5.trans E4.2.2.1, z6.trans E4.2.2.2.1, _, x6⟩
      have ne := rE_ne E5
      refine bad J5 e E5 (rG_tr f4 (rG_f f5)) (fun Q hQ => b210_0 (by omega) ⟨fun q => ?_, fun _ => ?_⟩)
      · rw [qin] at q; exact Bool.noConfusion q
      · simp (disch := omega) only [qj_le]
        exact ⟨fun _ => ⟨_, _, bd0 (by omega) _ _, fun _ => ⟨J3, s1, J4, k4, J5, k5, fun _ => ⟨fun q => absurd q ne, fun _ => hQ⟩, fun q => absurd ne q⟩, fun q => Bool.noConfusion q⟩, fun q => absurd (by omega) q⟩
    | inr q =>
      rw [hr] at q0
      obtain ⟨J4, k4, ⟨x4, z4, R4, -⟩, f4⟩ := q0
      obtain ⟨J5, k5, x5, f5, z5, z6⟩ := m175 (d := d - 1) (g := g) (by omega) x4
      have z5 : J5 245 5 = qj 0 := z5.trans z4
      have R5 : rL q.1 J5 := rL_f R4 f5
      have g5 := rG_tr f4 (rG_f f5)
      have y2 := x5.2.2.1
      have y4 := x5.2.2.2.1
      simp only []
      by_cases ce : n ≤ tBl T n q.2
      · rw [if_pos ce]
        have hLT : aLawT T n = .inr q.1 := by unfold aLawT; rw [hr]; simp only []; rw [if_pos ce]
        have WL' := aLawT_ok hLT (by omega)
        have w150 := WL'.1
        have wpos : 0 < q.1.1 := by
          rcases Nat.eq_zero_or_pos q.1.1 with p | p
          · have := WL'.2.1; rw [p] at this; have t0 : aHg q.1.2 0 = 0 := rfl; omega
          · exact p
        obtain ⟨v1, v2, v3, v4⟩ := fr g5
        obtain ⟨J6, k6, a6, b6⟩ := m200l (d := d - 1) (g := g) (I := qup (qup J5 245 3 (qj (-1))) 245 27 (J5 245 28)) (m := q.1.1) (by omega) (by omega)
        have u6 : ∀ a, ¬ a = 245 → ¬ (328 < a ∧ a < 650) → J6 a = I a := fun a p r => by rw [b6 a (by omega), qup_ne p, qup_ne p]; exact v1 a p (by omega)
        have m6 : qMS F J6 682 S := qMS_cg h5 (u6 682 (by omega) (by omega))
        obtain ⟨J7, k7, m7, n7, o7, f7⟩ := m203 (d := d - 1) (g := g) (by omega) W m6
        have u7 : ∀ a, ¬ a = 245 → ¬ (328 < a ∧ a < 650) → ¬ a = 680 → ¬ a = 681 → ¬ a = 682 → ¬ a = 683 → J7 a = I a := fun a p r s t u v => by rw [f7.1 a p s t u v]; exact u6 a p r
        have u245 : ∀ j, ¬ j = 42 → ¬ j = 44 → J7 245 j = qup (qup J5 245 3 (qj (-1))) 245 27 (J5 245 28) 245 j := fun j p r => by rw [f7.2 j p r, b6 245 (by omega)]
        have v245 : ∀ j, ¬ j = 42 → ¬ j = 44 → ¬ j = 27 → ¬ j = 3 → ¬ j = 0 → ¬ j = 1 → ¬ j = 2 → ¬ (4 ≤ j ∧ j ≤ 8) → ¬ j = 28 → J7 245 j = I 245 j := fun j p r s t a b c e f => by rw [u245 j p r, qup_at, if_neg s, qup_at, if_neg t]; exact v2 j a b c e f
        refine ⟨J7, qRun_of fun Q hQ => b210_0 (by omega) ⟨fun q => ?_, fun _ => ?_⟩, ⟨qMF_cg h1 (fun a p q => u7 a (by omega) (by omega) (by omega) (by omega) (by omega) (by omega)) W, qMl_cg h2 (fun a p q => u7 a (by omega) (by omega) (by omega) (by omega) (by omega) (by omega)) W, Or.inr ⟨wpos, ?_, fun i hi => ?_⟩, qMB_cg h4 X.2.2.1.1 (v245 41 (by omega) (by omega) (by omega) (by omega) (by omega) (by omega) (by omega) (by omega) (by omega)) (fun a p q => u7 a (by omega) (by omega) (by omega) (by omega) (by omega) (by omega)), m7, n7, qMS_cg h7 (u7 684 (by omega) (by omega) (by omega) (by omega) (by omega) (by omega)), fun k hk => qMS_cg (h8 k hk) (u7 _ (by omega) (by omega) (by have : k < C 1 := hk; omega) (by have : k < C 1 := hk; omega) (by have : k < C 1 := hk; omega) (by have : k < C 1 := hk; omega)), o7, ?_, ?_, ?_, ?_, fun j hj => absurd hj (Nat.not_lt_zero j), ?_, ?_⟩, ?_, fun a ha => u7 a (by omega) (by omega) (by omega) (by omega) (by omega) (by omega)⟩
        · rw [qin] at q; exact Bool.noConfusion q
        · simp (disch := omega) only [qj_le]
          refine ⟨fun _ => ⟨_, _, bd0 (by omega) _ _, fun _ => ⟨J3, s1, J4, k4, J5, k5, fun q => absurd z5 q, fun _ => ⟨fun _ => ⟨fun _ => ⟨J6, ?_, J7, k7, hQ⟩, fun q => absurd z5 q⟩, fun q => absurd ?_ q⟩⟩, fun q => Bool.noConfusion q⟩, fun q => absurd (by omega) q⟩
          · rw [R5.1] at k6 ⊢; exact k6
          · rw [y2, y4]; rw [qj_le (by omega) (by have := X.2.2.2; omega) (by omega) (by have := x5.2.1; omega)]; omega
        · rw [u245 27 (by omega) (by omega), qup_at, if_pos rfl]; exact R5.1
        · have e : ∀ j, j < 2 → J7 (328 + 1 + i) j = J5 (489 + 1 + i) j := fun j hj => by rw [f7.1 _ (by omega) (by omega) (by omega) (by omega) (by omega), a6 i j hi hj, qup_ne (by omega), qup_ne (by omega)]
          rw [e 0 (by omega), e 1 (by omega)]
          exact R5.2 i hi
        · rw [v245 43 (by omega) (by omega) (by omega) (by omega) (by omega) (by omega) (by omega) (by omega) (by omega)]; exact h10
        · rw [u7 247 (by omega) (by omega) (by omega) (by omega) (by omega) (by omega)]; exact h11
        · rw [u7 247 (by omega) (by omega) (by omega) (by omega) (by omega) (by omega)]; exact h12
        · rw [u245 1 (by omega) (by omega), qup_at, if_neg (by omega), qup_at, if_neg (by omega)]; exact v4
        · rw [u245 3 (by omega) (by omega), qup_at, if_neg (by omega), qup_at, if_pos rfl]
        · rw [v245 45 (by omega) (by omega) (by omega) (by omega) (by omega) (by omega) (by omega) (by omega) (by omega)]; exact h16
        · rw [u245 0 (by omega) (by omega), qup_at, if_neg (by omega), qup_at, if_neg (by omega)]; exact v3
      · rw [if_neg ce]
        obtain ⟨J9, w1, w2, w5, w6, w3⟩ := m176 (d := d - 1) (g := g) (by omega) x5 z5 1 (tBl T n q.2)
        have w1' : qRun (d - 1) 176 [.ref 245, .int (qj 1), .int (qj (tBl T n q.2 : Int))] (qw g J5) (.inl (none, qw g J9)) := w1
        have E9 : rE T n J9 (1, tBl T n q.2) := ⟨(show ¬ (1 : Nat) = 0 by omega), (show (1 : Nat) ≤ 3 by omega), w5, w6, _, w2⟩
        have ne := rE_ne E9
        refine bad J9 (1, tBl T n q.2) E9 (rG_tr g5 (rG_f w3)) (fun Q hQ => b210_0 (by omega) ⟨fun q => ?_, fun _ => ?_⟩)
        · rw [qin] at q; exact Bool.noConfusion q
        · simp (disch := omega) only [qj_le]
          refine ⟨fun _ => ⟨_, _, bd0 (by omega) _ _, fun _ => ⟨J3, s1, J4, k4, J5, k5, fun q => absurd z5 q, fun _ => ⟨fun q => absurd q ?_, fun _ => ⟨J9, by rw [y4]; exact w1', fun q => absurd q ne, fun _ => hQ⟩⟩⟩, fun q => Bool.noConfusion q⟩, fun q => absurd (by omega) q⟩
          rw [y2, y4, qj_le (by omega) (by omega) (by omega) (by have := x5.2.1; omega)]; omega
  · rw [if_neg h]
    show qRun d 210 [.ref 245, .int (qj z)] (qw g I) _
    refine qRun_of fun Q hQ => b210_0 (by omega) ?_
    rw [e1]
    by_cases c : 0 ≤ z ∧ z ≤ C 4
    · have nz : ¬ z ≤ 150 := fun q => h ⟨c, q⟩
      simp (disch := omega) only [qz0, qj_lt, qj_le, qj_eq, qtk, qfk, qbtt, qbft, qbtf, qbff, qIx_z, qj_nat, true_and, and_true, true_implies, false_implies, not_true_eq_false, not_false_eq_true, Bool.true_eq_false, Bool.false_eq_true, qj_sub, qinB_t, qinB_f, q2_e, qj_add, qj_s1, qj_c1, qj_c2, qj_c9, qj_c17, qj_c97]
      exact ⟨_, _, bd11 (by omega) H, fun q => Bool.noConfusion q, fun _ => hQ⟩
    · simp (disch := omega) only [qz0, qj_lt, qj_le, qj_eq, qtk, qfk, qbtt, qbft, qbtf, qbff, qIx_z, qj_nat, true_and, and_true, true_implies, false_implies, not_true_eq_false, not_false_eq_true, Bool.true_eq_false, Bool.false_eq_true, qj_sub, qinB_t, qinB_f, q2_e, qj_add, qj_s1, qj_c1, qj_c2, qj_c9, qj_c17, qj_c97]
      exact ⟨_, _, bd11 (by omega) H, fun q => Bool.noConfusion q, fun _ => hQ⟩
end R210
