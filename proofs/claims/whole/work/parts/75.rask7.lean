/-! ===== questions, the reference's side, 7: claims, debts, rows of puppets and hands ===== -/
section RASK7
variable {d : Nat} {g : qG1} {I : Nat → Nat → Int32} {F : qFam} {L : qLw} {B : qBk} {S S0 : qSt} {Im : Nat → qSt} {C T : Nat → Nat} {P : Int} {f s : Nat}
theorem r278 (hd : 2 ≤ d) (X : qAbs F L B S S0 Im C T) (H : qMdl I F L B S S0 Im C T P) {z : Int} (hz : -2147483648 ≤ z ∧ z < 2147483648) : qMQ d 278 [.ref 245, .int (qj z)] g I 1 C (rFai F S z) := by
  have W := X.1
  have WL := X.2.1
  have WS := X.2.2.2.1.1
  have hy : S.1 0 0 ≤ 1000 := Nat.le_trans X.2.2.2.1.2.1 (by decide)
  have h9 := W.1
  have h8 := W.2.1
  have w3 := W.2.2.1
  have f1 := H.1.1
  have f2 := H.1.2.1
  have f3 := H.1.2.2.1
  have M0 := qMdl_q H X (qFp_0 (v := qj 0))
  have MF := M0.1
  have R := M0.2.2.2.2.1
  have hr : qisR 682 := by unfold qisR; omega
  have z0 : qup I 245 0 (qj 0) 245 0 = qj 0 := by rw [qup_at, if_pos rfl]
  unfold rFai
  have hp2 : 2 ^ F.1 0 2 ≤ 64 := Nat.pow_le_pow_right (by decide : 0 < 2) w3
  have esh : qj 1 <<< (qj (F.1 0 2 : Nat) &&& 31) = qj ((2 ^ F.1 0 2 : Nat) : Int) := qshl1 (by omega)
  generalize 2 ^ F.1 0 2 = K at hp2 esh ⊢
  by_cases h : 0 ≤ z ∧ z < (K : Int)
  · rw [if_pos h]
    obtain ⟨m, rfl⟩ : ∃ m : Nat, z = m := ⟨z.toNat, by omega⟩
    rw [Int.toNat_natCast]
    have e1 := MF.2.1
    have e2 := MF.2.2.1
    have sb : ∀ n, n ≤ F.1 0 1 → sm n (fun p => aOwn F m p - S.1 3 p) ≤ 54 * n := by
      intro n
      induction n with
      | zero => intro _; exact Nat.le_refl _
      | succ n ih => intro h; have := ih (by omega); have := aOwn_b W m n; rw [sm]; omega
    refine qMQ_inl _ (fun Q hQ => b278_0 (by omega) ?_) qFe_rf
    simp (disch := omega) only [qz0, qj_lt, qj_le, qj_eq, qtk, qfk, qbtt, qbft, qbtf, qbff, qIx_z, qj_nat, true_and, and_true, true_implies, false_implies, not_true_eq_false, not_false_eq_true, Bool.true_eq_false, Bool.false_eq_true, qj_sub, qinB_t, qinB_f, q2_e, qj_add, qj_s1, qj_c1, qj_c2, qj_c9, qj_c17, qj_c97, f3, esh]
    refine ⟨_, _, bd0 (by omega) _ _, ?_⟩
    simp (disch := omega) only [qz0, qj_lt, qj_le, qj_eq, qtk, qfk, qbtt, qbft, qbtf, qbff, qIx_z, qj_nat, true_and, and_true, true_implies, false_implies, not_true_eq_false, not_false_eq_true, Bool.true_eq_false, Bool.false_eq_true, qj_sub, qinB_t, qinB_f, q2_e, qj_add, qj_s1, qj_c1, qj_c2, qj_c9, qj_c17, qj_c97]
    have key : ∀ i, i ≤ F.1 0 1 → qwq d 278 43 [(0, .ref 245), (1, .int (qj m)), (2, .int (qj (sm i (fun p => aOwn F m p - S.1 3 p) : Nat))), (3, .int (qj i))] [] (qw g (qup I 245 0 (qj 0))) Q := by
      refine upto _ (b278_43 (by omega) ?_) (fun i hi ih => b278_43 (by omega) ?_)
      · simp (disch := omega) only [qz0, qj_lt, qj_le, qj_eq, qtk, qfk, qbtt, qbft, qbtf, qbff, qIx_z, qj_nat, true_and, and_true, true_implies, false_implies, not_true_eq_false, not_false_eq_true, Bool.true_eq_false, Bool.false_eq_true, qj_sub, qinB_t, qinB_f, q2_e, qj_add, qj_s1, qj_c1, qj_c2, qj_c9, qj_c17, qj_c97, e1]
        exact hQ
      · simp (disch := omega) only [qz0, qj_lt, qj_le, qj_eq, qtk, qfk, qbtt, qbft, qbtf, qbff, qIx_z, qj_nat, true_and, and_true, true_implies, false_implies, not_true_eq_false, not_false_eq_true, Bool.true_eq_false, Bool.false_eq_true, qj_sub, qinB_t, qinB_f, q2_e, qj_add, qj_s1, qj_c1, qj_c2, qj_c9, qj_c17, qj_c97, e1]
        have s3 := R.2.2.1 i hi
        have b3 := WS.2.2.1 i hi
        have inner : ∀ j, j ≤ F.1 0 2 → qwq d 278 59 [(0, .ref 245), (1, .int (qj m)), (2, .int (qj (sm i (fun p => aOwn F m p - S.1 3 p) : Nat))), (3, .int (qj i)), (4, .int (qj (sm j (fun a => if m.testBit a = true ∧ aBt F a i = true then F.1 7 a else 0) : Nat))), (5, .int (qj j))] [] (qw g (qup I 245 0 (qj 0))) Q := by
          refine upto _ (b278_59 (by omega) ?_) (fun j hj ihj => b278_59 (by omega) ?_)
          · have ho := aOwn_b W m i
            have hsb := sb i (by omega)
            have e : sm (F.1 0 2) (fun a => if m.testBit a = true ∧ aBt F a i = true then F.1 7 a else 0) = aOwn F m i := rfl
            rw [e]
            rw [sm] at ih
            simp (disch := omega) only [qz0, qj_lt, qj_le, qj_eq, qtk, qfk, qbtt, qbft, qbtf, qbff, qIx_z, qj_nat, true_and, and_true, true_implies, false_implies, not_true_eq_false, not_false_eq_true, Bool.true_eq_false, Bool.false_eq_true, qj_sub, qinB_t, qinB_f, q2_e, qj_add, qj_s1, qj_c1, qj_c2, qj_c9, qj_c17, qj_c97, e2, s3, qmax_z]
            rw [show (sm i (fun p => aOwn F m p - S.1 3 p) : Int) + max 0 ((aOwn F m i : Int) - S.1 3 i) = ((sm i (fun p => aOwn F m p - S.1 3 p) + (aOwn F m i - S.1 3 i) : Nat) : Int) by omega]
            exact ih
          · have hb := qhas_n m (k := j) (by omega)
            have k227 := m227 (d := d - 1) (g := g) (by omega) MF W hj
            have hb2 := qhas_bm 8 (aBt F j) (k := i) (by omega) (by omega)
            have e10 := MF.2.2.2.2.2.2.2.2.2.1 j hj
            rw [sm] at ihj
            cases hm : m.testBit j with
            | false =>
              rw [hm] at hb ihj
              rw [if_neg (fun c => Bool.noConfusion c.1), Nat.add_zero] at ihj
              simp (disch := omega) only [qz0, qj_lt, qj_le, qj_eq, qtk, qfk, qbtt, qbft, qbtf, qbff, qIx_z, qj_nat, true_and, and_true, true_implies, false_implies, not_true_eq_false, not_false_eq_true, Bool.true_eq_false, Bool.false_eq_true, qj_sub, qinB_t, qinB_f, q2_e, qj_add, qj_s1, qj_c1, qj_c2, qj_c9, qj_c17, qj_c97, e2, hb, Int.add_zero]
              exact ihj
            | true =>
              rw [hm] at hb ihj
              cases hm2 : aBt F j i with
              | false =>
                rw [hm2] at hb2 ihj
                rw [if_neg (fun c => Bool.noConfusion c.2), Nat.add_zero] at ihj
                simp (disch := omega) only [qz0, qj_lt, qj_le, qj_eq, qtk, qfk, qbtt, qbft, qbtf, qbff, qIx_z, qj_nat, true_and, and_true, true_implies, false_implies, not_true_eq_false, not_false_eq_true, Bool.true_eq_false, Bool.false_eq_true, qj_sub, qinB_t, qinB_f, q2_e, qj_add, qj_s1, qj_c1, qj_c2, qj_c9, qj_c17, qj_c97, e2, hb]
                refine ⟨_, _, k227, ?_⟩
                simp (disch := omega) only [qz0, qj_lt, qj_le, qj_eq, qtk, qfk, qbtt, qbft, qbtf, qbff, qIx_z, qj_nat, true_and, and_true, true_implies, false_implies, not_true_eq_false, not_false_eq_true, Bool.true_eq_false, Bool.false_eq_true, qj_sub, qinB_t, qinB_f, q2_e, qj_add, qj_s1, qj_c1, qj_c2, qj_c9, qj_c17, qj_c97, hb2, Int.add_zero]
                exact ihj
              | true =>
                rw [hm2] at hb2 ihj
                rw [if_pos ⟨rfl, rfl⟩] at ihj
                simp (disch := omega) only [qz0, qj_lt, qj_le, qj_eq, qtk, qfk, qbtt, qbft, qbtf, qbff, qIx_z, qj_nat, true_and, and_true, true_implies, false_implies, not_true_eq_false, not_false_eq_true, Bool.true_eq_false, Bool.false_eq_true, qj_sub, qinB_t, qinB_f, q2_e, qj_add, qj_s1, qj_c1, qj_c2, qj_c9, qj_c17, qj_c97, e2, hb]
                refine ⟨_, _, k227, ?_⟩
                simp (disch := omega) only [qz0, qj_lt, qj_le, qj_eq, qtk, qfk, qbtt, qbft, qbtf, qbff, qIx_z, qj_nat, true_and, and_true, true_implies, false_implies, not_true_eq_false, not_false_eq_true, Bool.true_eq_false, Bool.false_eq_true, qj_sub, qinB_t, qinB_f, q2_e, qj_add, qj_s1, qj_c1, qj_c2, qj_c9, qj_c17, qj_c97, hb2, e10]
                exact ihj
        exact inner 0 (Nat.zero_le _)
    exact key 0 (Nat.zero_le _)
  · rw [if_neg h]
    refine qMQ_1 fun Q hQ => b278_0 (by omega) ?_
    simp (disch := omega) only [qz0, qj_lt, qj_le, qj_eq, qtk, qfk, qbtt, qbft, qbtf, qbff, qIx_z, qj_nat, true_and, and_true, true_implies, false_implies, not_true_eq_false, not_false_eq_true, Bool.true_eq_false, Bool.false_eq_true, qj_sub, qinB_t, qinB_f, q2_e, qj_add, qj_s1, qj_c1, qj_c2, qj_c9, qj_c17, qj_c97, f3, esh]
    refine ⟨_, _, bd11 (by omega) H, ?_⟩
    simp (disch := omega) only [qz0, qj_lt, qj_le, qj_eq, qtk, qfk, qbtt, qbft, qbtf, qbff, qIx_z, qj_nat, true_and, and_true, true_implies, false_implies, not_true_eq_false, not_false_eq_true, Bool.true_eq_false, Bool.false_eq_true, qj_sub, qinB_t, qinB_f, q2_e, qj_add, qj_s1, qj_c1, qj_c2, qj_c9, qj_c17, qj_c97]
    exact hQ
theorem m279 (hd : 3 ≤ d) (X : qAbs F L B S S0 Im C T) (H : qMdl I F L B S S0 Im C T P) {h : Nat} (hh : h < F.1 0 0) : qRun d 279 [.ref 245, .int (qj h)] (qw g (qup I 245 0 (qj 0))) (.inl (some (.int (qj (aCl F S h : Nat))), qw g (qup I 245 0 (qj 0)))) := by
  have W := X.1
  have WL := X.2.1
  have WS := X.2.2.2.1.1
  have hy : S.1 0 0 ≤ 1000 := Nat.le_trans X.2.2.2.1.2.1 (by decide)
  have h9 := W.1
  have h8 := W.2.1
  have w3 := W.2.2.1
  have f1 := H.1.1
  have f2 := H.1.2.1
  have f3 := H.1.2.2.1
  have M0 := qMdl_q H X (qFp_0 (v := qj 0))
  have MF := M0.1
  have R := M0.2.2.2.2.1
  have hr : qisR 682 := by unfold qisR; omega
  have z0 : qup I 245 0 (qj 0) 245 0 = qj 0 := by rw [qup_at, if_pos rfl]
  have e1 := MF.2.1
  have kh := m218 (d := d - 1) (g := g) (by omega) hr MF W R hy (h := h) hh
  refine qRun_of fun Q hQ => b279_0 (by omega) ?_
  have key : ∀ i, i ≤ F.1 0 1 → qwq d 279 4 [(0, .ref 245), (1, .int (qj h)), (2, .int (qj (if aAl F S h = true then sm i (fun p => if S.2.1 h p = true then S.1 3 p else 0) else 0 : Nat))), (3, .int (qj i))] [] (qw g (qup I 245 0 (qj 0))) Q := by
    refine upto _ (b279_4 (by omega) ?_) (fun i hi ih => b279_4 (by omega) ?_)
    · simp (disch := omega) only [qz0, qj_lt, qj_le, qj_eq, qtk, qfk, qbtt, qbft, qbtf, qbff, qIx_z, qj_nat, true_and, and_true, true_implies, false_implies, not_true_eq_false, not_false_eq_true, Bool.true_eq_false, Bool.false_eq_true, qj_sub, qinB_t, qinB_f, q2_e, qj_add, qj_s1, qj_c1, qj_c2, qj_c9, qj_c17, qj_c97, e1]
      exact hQ
    · have s2 := R.2.1 i (by omega)
      have s3 := R.2.2.1 i hi
      cases ha : aAl F S h with
      | false =>
        rw [ha] at kh
        rw [ha, if_neg Bool.false_ne_true] at ih
        rw [if_neg Bool.false_ne_true]
        simp (disch := omega) only [qz0, qj_lt, qj_le, qj_eq, qtk, qfk, qbtt, qbft, qbtf, qbff, qIx_z, qj_nat, true_and, and_true, true_implies, false_implies, not_true_eq_false, not_false_eq_true, Bool.true_eq_false, Bool.false_eq_true, qj_sub, qinB_t, qinB_f, q2_e, qj_add, qj_s1, qj_c1, qj_c2, qj_c9, qj_c17, qj_c97, e1]
        refine ⟨_, _, kh, ?_⟩
        simp (disch := omega) only [qz0, qj_lt, qj_le, qj_eq, qtk, qfk, qbtt, qbft, qbtf, qbff, qIx_z, qj_nat, true_and, and_true, true_implies, false_implies, not_true_eq_false, not_false_eq_true, Bool.true_eq_false, Bool.false_eq_true, qj_sub, qinB_t, qinB_f, q2_e, qj_add, qj_s1, qj_c1, qj_c2, qj_c9, qj_c17, qj_c97, Int.add_zero]
        exact ih
      | true =>
        rw [ha] at kh
        rw [ha, if_pos rfl, sm] at ih
        rw [if_pos rfl]
        simp (disch := omega) only [qz0, qj_lt, qj_le, qj_eq, qtk, qfk, qbtt, qbft, qbtf, qbff, qIx_z, qj_nat, true_and, and_true, true_implies, false_implies, not_true_eq_false, not_false_eq_true, Bool.true_eq_false, Bool.false_eq_true, qj_sub, qinB_t, qinB_f, q2_e, qj_add, qj_s1, qj_c1, qj_c2, qj_c9, qj_c17, qj_c97, e1]
        refine ⟨_, _, kh, ?_⟩
        cases hw : S.2.1 h i with
        | false =>
          rw [hw, if_neg Bool.false_ne_true, Nat.add_zero] at ih
          simp (disch := omega) only [qz0, qj_lt, qj_le, qj_eq, qtk, qfk, qbtt, qbft, qbtf, qbff, qIx_z, qj_nat, true_and, and_true, true_implies, false_implies, not_true_eq_false, not_false_eq_true, Bool.true_eq_false, Bool.false_eq_true, qj_sub, qinB_t, qinB_f, q2_e, qj_add, qj_s1, qj_c1, qj_c2, qj_c9, qj_c17, qj_c97, s2, qhas_bm, hw, Int.add_zero]
          exact ih
        | true =>
          rw [hw, if_pos rfl] at ih
          simp (disch := omega) only [qz0, qj_lt, qj_le, qj_eq, qtk, qfk, qbtt, qbft, qbtf, qbff, qIx_z, qj_nat, true_and, and_true, true_implies, false_implies, not_true_eq_false, not_false_eq_true, Bool.true_eq_false, Bool.false_eq_true, qj_sub, qinB_t, qinB_f, q2_e, qj_add, qj_s1, qj_c1, qj_c2, qj_c9, qj_c17, qj_c97, s2, s3, qhas_bm, hw]
          exact ih
  have := key 0 (Nat.zero_le _)
  have e0 : (if aAl F S h = true then sm 0 (fun p => if S.2.1 h p = true then S.1 3 p else 0) else 0 : Nat) = 0 := by split <;> rfl
  rw [e0] at this
  exact this
theorem m280 (hd : 4 ≤ d) (X : qAbs F L B S S0 Im C T) (H : qMdl I F L B S S0 Im C T P) {x : Nat} (hx : x ≤ 1000) : qRun d 280 [.ref 245, .int (qj x)] (qw g (qup I 245 0 (qj 0))) (.inl (some (.int (qj (aCls F S x : Nat))), qw g (qup I 245 0 (qj 0)))) := by
  have W := X.1
  have WL := X.2.1
  have WS := X.2.2.2.1.1
  have hy : S.1 0 0 ≤ 1000 := Nat.le_trans X.2.2.2.1.2.1 (by decide)
  have h9 := W.1
  have h8 := W.2.1
  have w3 := W.2.2.1
  have f1 := H.1.1
  have f2 := H.1.2.1
  have f3 := H.1.2.2.1
  have M0 := qMdl_q H X (qFp_0 (v := qj 0))
  have MF := M0.1
  have R := M0.2.2.2.2.1
  have hr : qisR 682 := by unfold qisR; omega
  have z0 : qup I 245 0 (qj 0) 245 0 = qj 0 := by rw [qup_at, if_pos rfl]
  have e1 := MF.1
  refine qRun_of fun Q hQ => b280_0 (by omega) ?_
  have key : ∀ i, i ≤ F.1 0 0 → qwq d 280 4 [(0, .ref 245), (1, .int (qj x)), (2, .int (qj (sm i (fun h => min x (aCl F S h)) : Nat))), (3, .int (qj i))] [] (qw g (qup I 245 0 (qj 0))) Q := by
    refine upto _ (b280_4 (by omega) ?_) (fun i hi ih => b280_4 (by omega) ?_)
    · simp (disch := omega) only [qz0, qj_lt, qj_le, qj_eq, qtk, qfk, qbtt, qbft, qbtf, qbff, qIx_z, qj_nat, true_and, and_true, true_implies, false_implies, not_true_eq_false, not_false_eq_true, Bool.true_eq_false, Bool.false_eq_true, qj_sub, qinB_t, qinB_f, q2_e, qj_add, qj_s1, qj_c1, qj_c2, qj_c9, qj_c17, qj_c97, e1]
      exact hQ
    · have k279 := m279 (d := d - 1) (g := g) (by omega) X H (h := i) hi
      have hb := aCl_b W WS i
      rw [show ((sm (i + 1) (fun h => min x (aCl F S h)) : Nat) : Int) = (sm i (fun h => min x (aCl F S h)) : Nat) + min (x : Int) (aCl F S i : Nat) by rw [sm]; omega] at ih
      simp (disch := omega) only [qz0, qj_lt, qj_le, qj_eq, qtk, qfk, qbtt, qbft, qbtf, qbff, qIx_z, qj_nat, true_and, and_true, true_implies, false_implies, not_true_eq_false, not_false_eq_true, Bool.true_eq_false, Bool.false_eq_true, qj_sub, qinB_t, qinB_f, q2_e, qj_add, qj_s1, qj_c1, qj_c2, qj_c9, qj_c17, qj_c97, e1]
      refine ⟨_, _, k279, ?_⟩
      simp (disch := omega) only [qmin_z, qj_add, qj_s1]
      exact ih
  exact key 0 (Nat.zero_le _)
theorem r281 (hd : 5 ≤ d) (X : qAbs F L B S S0 Im C T) (H : qMdl I F L B S S0 Im C T P) {z v w : Int} (hz : -2147483648 ≤ z ∧ z < 2147483648) (hv : -2147483648 ≤ v ∧ v < 2147483648) (hw : -2147483648 ≤ w ∧ w < 2147483648) : qMQ d 281 [.ref 245, .int (qj z), .int (qj v), .int (qj w)] g I 2 C (rGet F S z v w) := by
  have W := X.1
  have WL := X.2.1
  have WS := X.2.2.2.1.1
  have hy : S.1 0 0 ≤ 1000 := Nat.le_trans X.2.2.2.1.2.1 (by decide)
  have h9 := W.1
  have h8 := W.2.1
  have w3 := W.2.2.1
  have f1 := H.1.1
  have f2 := H.1.2.1
  have f3 := H.1.2.2.1
  have M0 := qMdl_q H X (qFp_0 (v := qj 0))
  have MF := M0.1
  have R := M0.2.2.2.2.1
  have hr : qisR 682 := by unfold qisR; omega
  have z0 : qup I 245 0 (qj 0) 245 0 = qj 0 := by rw [qup_at, if_pos rfl]
  unfold rGet
  by_cases h : 0 ≤ z ∧ z < F.1 0 0
  · rw [if_pos h]
    obtain ⟨n, rfl⟩ : ∃ n : Nat, z = n := ⟨z.toNat, by omega⟩
    by_cases h2 : (0 ≤ v ∧ v ≤ 999) ∧ 0 ≤ w ∧ w ≤ 1
    · rw [if_pos h2]
      obtain ⟨e, rfl⟩ : ∃ e : Nat, v = e := ⟨v.toNat, by omega⟩
      obtain ⟨k, rfl⟩ : ∃ k : Nat, w = k := ⟨w.toNat, by omega⟩
      rw [Int.toNat_natCast, Int.toNat_natCast, Int.toNat_natCast]
      have hn : n < F.1 0 0 := by omega
      have k279 := m279 (d := d - 1) (g := g) (by omega) X H hn
      have k280 := m280 (d := d - 1) (g := g) (by omega) X H (x := 999) (by omega)
      rw [aCls_999 W WS] at k280
      have k280' : qRun (d - 1) 280 [.ref 245, .int (qj 999)] (qw g (qup I 245 0 (qj 0))) (.inl (some (.int (qj (aCls F S 240 : Nat))), qw g (qup I 245 0 (qj 0)))) := k280
      have hcl := aCl_b W WS n
      have hcs := aClsn_b F S 240 (F.1 0 0)
      have hcs' : aCls F S 240 ≤ 2160 := by unfold aCls; omega
      refine qMQ_inl _ (fun Q hQ => b281_0 (by omega) ?_) qFe_rf
      unfold aGet at hQ
      simp (disch := omega) only [qz0, qj_lt, qj_le, qj_eq, qtk, qfk, qbtt, qbft, qbtf, qbff, qIx_z, qj_nat, true_and, and_true, true_implies, false_implies, not_true_eq_false, not_false_eq_true, Bool.true_eq_false, Bool.false_eq_true, qj_sub, qinB_t, qinB_f, q2_e, qj_add, qj_s1, qj_c1, qj_c2, qj_c9, qj_c17, qj_c97, f1]
      refine ⟨_, _, bd0 (by omega) _ _, ?_⟩
      simp (disch := omega) only [qz0, qj_lt, qj_le, qj_eq, qtk, qfk, qbtt, qbft, qbtf, qbff, qIx_z, qj_nat, true_and, and_true, true_implies, false_implies, not_true_eq_false, not_false_eq_true, Bool.true_eq_false, Bool.false_eq_true, qj_sub, qinB_t, qinB_f, q2_e, qj_add, qj_s1, qj_c1, qj_c2, qj_c9, qj_c17, qj_c97]
      refine ⟨_, _, bd0 (by omega) _ _, ?_⟩
      simp (disch := omega) only [qz0, qj_lt, qj_le, qj_eq, qtk, qfk, qbtt, qbft, qbtf, qbff, qIx_z, qj_nat, true_and, and_true, true_implies, false_implies, not_true_eq_false, not_false_eq_true, Bool.true_eq_false, Bool.false_eq_true, qj_sub, qinB_t, qinB_f, q2_e, qj_add, qj_s1, qj_c1, qj_c2, qj_c9, qj_c17, qj_c97]
      refine ⟨_, _, k280', ?_⟩
      by_cases c1 : aCls F S 240 ≤ e
      · rw [if_pos c1] at hQ
        simp (disch := omega) only [qz0, qj_lt, qj_le, qj_eq, qtk, qfk, qbtt, qbft, qbtf, qbff, qIx_z, qj_nat, true_and, and_true, true_implies, false_implies, not_true_eq_false, not_false_eq_true, Bool.true_eq_false, Bool.false_eq_true, qj_sub, qinB_t, qinB_f, q2_e, qj_add, qj_s1, qj_c1, qj_c2, qj_c9, qj_c17, qj_c97]
        exact ⟨_, _, k279, hQ⟩
      · rw [if_neg c1] at hQ
        by_cases c2 : k = 0
        · rw [if_pos c2] at hQ
          subst c2
          have he : e * aCl F S n ≤ 999 * 240 := Nat.mul_le_mul (by omega) hcl
          have ed : qj ((e : Int) * (aCl F S n : Nat)) / qj ((aCls F S 240 : Nat) : Int) = qj ((e * aCl F S n / aCls F S 240 : Nat) : Int) := by
            rw [← Int.natCast_mul, qj_dvz (by omega) (by omega) (by omega) (by omega), Int.natCast_ediv]
          simp (disch := omega) only [qz0, qj_lt, qj_le, qj_eq, qtk, qfk, qbtt, qbft, qbtf, qbff, qIx_z, qj_nat, true_and, and_true, true_implies, false_implies, not_true_eq_false, not_false_eq_true, Bool.true_eq_false, Bool.false_eq_true, qj_sub, qinB_t, qinB_f, q2_e, qj_add, qj_s1, qj_c1, qj_c2, qj_c9, qj_c17, qj_c97, Int.natCast_zero]
          refine ⟨_, _, k279, ?_⟩
          simp (disch := omega) only [qz0, qj_lt, qj_le, qj_eq, qtk, qfk, qbtt, qbft, qbtf, qbff, qIx_z, qj_nat, true_and, and_true, true_implies, false_implies, not_true_eq_false, not_false_eq_true, Bool.true_eq_false, Bool.false_eq_true, qj_sub, qinB_t, qinB_f, q2_e, qj_add, qj_s1, qj_c1, qj_c2, qj_c9, qj_c17, qj_c97, qj_mul]
          rw [ed]
          exact ⟨by omega, hQ⟩
        · rw [if_neg c2] at hQ
          have ek : k = 1 := by omega
          subst ek
          have hlv := aCls_lv W WS (show e < aCls F S 240 by omega)
          have key : ∀ x, x ≤ e → aLd (fun x => decide (aCls F S (x + 1) ≤ e)) (e - x) x = aLd (fun x => decide (aCls F S (x + 1) ≤ e)) e 0 →
              qwq d 281 102 [(0, .ref 245), (1, .int (qj n)), (2, .int (qj e)), (5, .int (qj x))] [] (qw g (qup I 245 0 (qj 0))) Q := by
            have stop : ∀ x, x ≤ e → e < aCls F S (x + 1) → x = aLd (fun x => decide (aCls F S (x + 1) ≤ e)) e 0 → qwq d 281 102 [(0, .ref 245), (1, .int (qj n)), (2, .int (qj e)), (5, .int (qj x))] [] (qw g (qup I 245 0 (qj 0))) Q := by
              intro x hx hlt h5
              have k280 := m280 (d := d - 1) (g := g) (by omega) X H (x := x + 1) (by omega)
              have hb := aClsn_b F S (x + 1) (F.1 0 0)
              have hb2 : (x + 1) * F.1 0 0 ≤ 1000 * 9 := Nat.mul_le_mul (by omega) h9
              have hb3 : aCls F S (x + 1) ≤ 9000 := by unfold aCls; omega
              rw [← h5] at hQ
              refine b281_102 (by omega) ?_
              simp (disch := omega) only [qz0, qj_lt, qj_le, qj_eq, qtk, qfk, qbtt, qbft, qbtf, qbff, qIx_z, qj_nat, true_and, and_true, true_implies, false_implies, not_true_eq_false, not_false_eq_true, Bool.true_eq_false, Bool.false_eq_true, qj_sub, qinB_t, qinB_f, q2_e, qj_add, qj_s1, qj_c1, qj_c2, qj_c9, qj_c17, qj_c97]
              refine ⟨_, _, k280, ?_⟩
              simp (disch := omega) only [qz0, qj_lt, qj_le, qj_eq, qtk, qfk, qbtt, qbft, qbtf, qbff, qIx_z, qj_nat, true_and, and_true, true_implies, false_implies, not_true_eq_false, not_false_eq_true, Bool.true_eq_false, Bool.false_eq_true, qj_sub, qinB_t, qinB_f, q2_e, qj_add, qj_s1, qj_c1, qj_c2, qj_c9, qj_c17, qj_c97]
              refine ⟨_, _, k279, ?_⟩
              simp (disch := omega) only [qmin_z]
              rw [show min (x : Int) ((aCl F S n : Nat) : Int) = ((min (aCl F S n) x : Nat) : Int) by omega]
              exact hQ
            refine upto _ (fun h5 => ?_) (fun x hx ih h5 => ?_)
            · rw [Nat.sub_self, aLd] at h5
              exact stop e (Nat.le_refl _) hlv h5
            · rw [show e - x = e - (x + 1) + 1 by omega, aLd] at h5
              by_cases c : aCls F S (x + 1) ≤ e
              · have k280 := m280 (d := d - 1) (g := g) (by omega) X H (x := x + 1) (by omega)
                rw [if_pos (decide_eq_true c)] at h5
                refine b281_102 (by omega) ?_
                simp (disch := omega) only [qz0, qj_lt, qj_le, qj_eq, qtk, qfk, qbtt, qbft, qbtf, qbff, qIx_z, qj_nat, true_and, and_true, true_implies, false_implies, not_true_eq_false, not_false_eq_true, Bool.true_eq_false, Bool.false_eq_true, qj_sub, qinB_t, qinB_f, q2_e, qj_add, qj_s1, qj_c1, qj_c2, qj_c9, qj_c17, qj_c97]
                refine ⟨_, _, k280, ?_⟩
                simp (disch := omega) only [qz0, qj_lt, qj_le, qj_eq, qtk, qfk, qbtt, qbft, qbtf, qbff, qIx_z, qj_nat, true_and, and_true, true_implies, false_implies, not_true_eq_false, not_false_eq_true, Bool.true_eq_false, Bool.false_eq_true, qj_sub, qinB_t, qinB_f, q2_e, qj_add, qj_s1, qj_c1, qj_c2, qj_c9, qj_c17, qj_c97]
                exact ih h5
              · rw [if_neg (fun q => c (of_decide_eq_true q))] at h5
                exact stop x (by omega) (by omega) h5
          simp (disch := omega) only [qz0, qj_lt, qj_le, qj_eq, qtk, qfk, qbtt, qbft, qbtf, qbff, qIx_z, qj_nat, true_and, and_true, true_implies, false_implies, not_true_eq_false, not_false_eq_true, Bool.true_eq_false, Bool.false_eq_true, qj_sub, qinB_t, qinB_f, q2_e, qj_add, qj_s1, qj_c1, qj_c2, qj_c9, qj_c17, qj_c97]
          exact key 0 (Nat.zero_le _) rfl
    · rw [if_neg h2]
      by_cases h3 : 0 ≤ v ∧ v ≤ 999
      · skip
        refine qMQ_2 fun Q hQ => b281_0 (by omega) ?_
        simp (disch := omega) only [qz0, qj_lt, qj_le, qj_eq, qtk, qfk, qbtt, qbft, qbtf, qbff, qIx_z, qj_nat, true_and, and_true, true_implies, false_implies, not_true_eq_false, not_false_eq_true, Bool.true_eq_false, Bool.false_eq_true, qj_sub, qinB_t, qinB_f, q2_e, qj_add, qj_s1, qj_c1, qj_c2, qj_c9, qj_c17, qj_c97, f1]
        refine ⟨_, _, bd0 (by omega) _ _, ?_⟩
        simp (disch := omega) only [qz0, qj_lt, qj_le, qj_eq, qtk, qfk, qbtt, qbft, qbtf, qbff, qIx_z, qj_nat, true_and, and_true, true_implies, false_implies, not_true_eq_false, not_false_eq_true, Bool.true_eq_false, Bool.false_eq_true, qj_sub, qinB_t, qinB_f, q2_e, qj_add, qj_s1, qj_c1, qj_c2, qj_c9, qj_c17, qj_c97, f1]
        refine ⟨_, _, bd21 (by omega) H, ?_⟩
        simp (disch := omega) only [qz0, qj_lt, qj_le, qj_eq, qtk, qfk, qbtt, qbft, qbtf, qbff, qIx_z, qj_nat, true_and, and_true, true_implies, false_implies, not_true_eq_false, not_false_eq_true, Bool.true_eq_false, Bool.false_eq_true, qj_sub, qinB_t, qinB_f, q2_e, qj_add, qj_s1, qj_c1, qj_c2, qj_c9, qj_c17, qj_c97]
        exact hQ
      · skip
        refine qMQ_2 fun Q hQ => b281_0 (by omega) ?_
        simp (disch := omega) only [qz0, qj_lt, qj_le, qj_eq, qtk, qfk, qbtt, qbft, qbtf, qbff, qIx_z, qj_nat, true_and, and_true, true_implies, false_implies, not_true_eq_false, not_false_eq_true, Bool.true_eq_false, Bool.false_eq_true, qj_sub, qinB_t, qinB_f, q2_e, qj_add, qj_s1, qj_c1, qj_c2, qj_c9, qj_c17, qj_c97, f1]
        refine ⟨_, _, bd0 (by omega) _ _, ?_⟩
        simp (disch := omega) only [qz0, qj_lt, qj_le, qj_eq, qtk, qfk, qbtt, qbft, qbtf, qbff, qIx_z, qj_nat, true_and, and_true, true_implies, false_implies, not_true_eq_false, not_false_eq_true, Bool.true_eq_false, Bool.false_eq_true, qj_sub, qinB_t, qinB_f, q2_e, qj_add, qj_s1, qj_c1, qj_c2, qj_c9, qj_c17, qj_c97, f1]
        refine ⟨_, _, bd21 (by omega) H, ?_⟩
        simp (disch := omega) only [qz0, qj_lt, qj_le, qj_eq, qtk, qfk, qbtt, qbft, qbtf, qbff, qIx_z, qj_nat, true_and, and_true, true_implies, false_implies, not_true_eq_false, not_false_eq_true, Bool.true_eq_false, Bool.false_eq_true, qj_sub, qinB_t, qinB_f, q2_e, qj_add, qj_s1, qj_c1, qj_c2, qj_c9, qj_c17, qj_c97]
        exact hQ
  · rw [if_neg h]
    refine qMQ_0 fun Q hQ => b281_0 (by omega) ?_
    simp (disch := omega) only [qz0, qj_lt, qj_le, qj_eq, qtk, qfk, qbtt, qbft, qbtf, qbff, qIx_z, qj_nat, true_and, and_true, true_implies, false_implies, not_true_eq_false, not_false_eq_true, Bool.true_eq_false, Bool.false_eq_true, qj_sub, qinB_t, qinB_f, q2_e, qj_add, qj_s1, qj_c1, qj_c2, qj_c9, qj_c17, qj_c97, f1]
    refine ⟨_, _, bd10 (by omega) H, ?_⟩
    simp (disch := omega) only [qz0, qj_lt, qj_le, qj_eq, qtk, qfk, qbtt, qbft, qbtf, qbff, qIx_z, qj_nat, true_and, and_true, true_implies, false_implies, not_true_eq_false, not_false_eq_true, Bool.true_eq_false, Bool.false_eq_true, qj_sub, qinB_t, qinB_f, q2_e, qj_add, qj_s1, qj_c1, qj_c2, qj_c9, qj_c17, qj_c97]
    exact hQ
theorem r282 (hd : 3 ≤ d) (X : qAbs F L B S S0 Im C T) (H : qMdl I F L B S S0 Im C T P) {z w : Int} (hz : -2147483648 ≤ z ∧ z < 2147483648) (hw : -2147483648 ≤ w ∧ w < 2147483648) : qMQ d 282 [.ref 245, .int (qj z), .int (qj w)] g I 1 C (rOws F z w) := by
  have W := X.1
  have WL := X.2.1
  have WS := X.2.2.2.1.1
  have hy : S.1 0 0 ≤ 1000 := Nat.le_trans X.2.2.2.1.2.1 (by decide)
  have h9 := W.1
  have h8 := W.2.1
  have w3 := W.2.2.1
  have f1 := H.1.1
  have f2 := H.1.2.1
  have f3 := H.1.2.2.1
  have M0 := qMdl_q H X (qFp_0 (v := qj 0))
  have MF := M0.1
  have R := M0.2.2.2.2.1
  have hr : qisR 682 := by unfold qisR; omega
  have z0 : qup I 245 0 (qj 0) 245 0 = qj 0 := by rw [qup_at, if_pos rfl]
  unfold rOws
  by_cases h : (0 ≤ z ∧ z < F.1 0 0) ∧ 0 ≤ w ∧ w < F.1 0 0
  · rw [if_pos h]
    obtain ⟨n, rfl⟩ : ∃ n : Nat, z = n := ⟨z.toNat, by omega⟩
    obtain ⟨m, rfl⟩ : ∃ m : Nat, w = m := ⟨w.toNat, by omega⟩
    have e13 := MF.2.2.2.2.2.2.2.2.2.2.2.2.1 n m (by omega) (by omega)
    refine qMQ_inl _ (fun Q hQ => b282_0 (by omega) ?_) qFe_rf
    simp (disch := omega) only [qz0, qj_lt, qj_le, qj_eq, qtk, qfk, qbtt, qbft, qbtf, qbff, qIx_z, qj_nat, true_and, and_true, true_implies, false_implies, not_true_eq_false, not_false_eq_true, Bool.true_eq_false, Bool.false_eq_true, qj_sub, qinB_t, qinB_f, q2_e, qj_add, qj_s1, qj_c1, qj_c2, qj_c9, qj_c17, qj_c97, f1]
    refine ⟨_, _, bd0 (by omega) _ _, ?_⟩
    simp (disch := omega) only [qz0, qj_lt, qj_le, qj_eq, qtk, qfk, qbtt, qbft, qbtf, qbff, qIx_z, qj_nat, true_and, and_true, true_implies, false_implies, not_true_eq_false, not_false_eq_true, Bool.true_eq_false, Bool.false_eq_true, qj_sub, qinB_t, qinB_f, q2_e, qj_add, qj_s1, qj_c1, qj_c2, qj_c9, qj_c17, qj_c97, e13]
    exact hQ
  · rw [if_neg h]
    by_cases h2 : 0 ≤ z ∧ z < F.1 0 0
    · skip
      refine qMQ_0 fun Q hQ => b282_0 (by omega) ?_
      simp (disch := omega) only [qz0, qj_lt, qj_le, qj_eq, qtk, qfk, qbtt, qbft, qbtf, qbff, qIx_z, qj_nat, true_and, and_true, true_implies, false_implies, not_true_eq_false, not_false_eq_true, Bool.true_eq_false, Bool.false_eq_true, qj_sub, qinB_t, qinB_f, q2_e, qj_add, qj_s1, qj_c1, qj_c2, qj_c9, qj_c17, qj_c97, f1]
      refine ⟨_, _, bd10 (by omega) H, ?_⟩
      simp (disch := omega) only [qz0, qj_lt, qj_le, qj_eq, qtk, qfk, qbtt, qbft, qbtf, qbff, qIx_z, qj_nat, true_and, and_true, true_implies, false_implies, not_true_eq_false, not_false_eq_true, Bool.true_eq_false, Bool.false_eq_true, qj_sub, qinB_t, qinB_f, q2_e, qj_add, qj_s1, qj_c1, qj_c2, qj_c9, qj_c17, qj_c97]
      exact hQ
    · skip
      refine qMQ_0 fun Q hQ => b282_0 (by omega) ?_
      simp (disch := omega) only [qz0, qj_lt, qj_le, qj_eq, qtk, qfk, qbtt, qbft, qbtf, qbff, qIx_z, qj_nat, true_and, and_true, true_implies, false_implies, not_true_eq_false, not_false_eq_true, Bool.true_eq_false, Bool.false_eq_true, qj_sub, qinB_t, qinB_f, q2_e, qj_add, qj_s1, qj_c1, qj_c2, qj_c9, qj_c17, qj_c97, f1]
      refine ⟨_, _, bd10 (by omega) H, ?_⟩
      simp (disch := omega) only [qz0, qj_lt, qj_le, qj_eq, qtk, qfk, qbtt, qbft, qbtf, qbff, qIx_z, qj_nat, true_and, and_true, true_implies, false_implies, not_true_eq_false, not_false_eq_true, Bool.true_eq_false, Bool.false_eq_true, qj_sub, qinB_t, qinB_f, q2_e, qj_add, qj_s1, qj_c1, qj_c2, qj_c9, qj_c17, qj_c97]
      exact hQ
theorem m283 (hd : 1 ≤ d) (X : qAbs F L B S S0 Im C T) (H : qMdl I F L B S S0 Im C T P) {h : Nat} (hh : h < F.1 0 0) : qRun d 283 [.ref 245, .int (qj h)] (qw g (qup I 245 0 (qj 0))) (.inl (some (.int (qj (aNet F h))), qw g (qup I 245 0 (qj 0)))) := by
  have W := X.1
  have WL := X.2.1
  have WS := X.2.2.2.1.1
  have hy : S.1 0 0 ≤ 1000 := Nat.le_trans X.2.2.2.1.2.1 (by decide)
  have h9 := W.1
  have h8 := W.2.1
  have w3 := W.2.2.1
  have f1 := H.1.1
  have f2 := H.1.2.1
  have f3 := H.1.2.2.1
  have M0 := qMdl_q H X (qFp_0 (v := qj 0))
  have MF := M0.1
  have R := M0.2.2.2.2.1
  have hr : qisR 682 := by unfold qisR; omega
  have z0 : qup I 245 0 (qj 0) 245 0 = qj 0 := by rw [qup_at, if_pos rfl]
  have e1 := MF.1
  refine qRun_of fun Q hQ => b283_0 (by omega) ?_
  have key : ∀ i, i ≤ F.1 0 0 → qwq d 283 4 [(0, .ref 245), (1, .int (qj h)), (2, .int (qj (smz i (fun k => (F.1 (20 + k) h : Int) - F.1 (20 + h) k)))), (3, .int (qj i))] [] (qw g (qup I 245 0 (qj 0))) Q := by
    refine upto _ (b283_4 (by omega) ?_) (fun i hi ih => b283_4 (by omega) ?_)
    · simp (disch := omega) only [qz0, qj_lt, qj_le, qj_eq, qtk, qfk, qbtt, qbft, qbtf, qbff, qIx_z, qj_nat, true_and, and_true, true_implies, false_implies, not_true_eq_false, not_false_eq_true, Bool.true_eq_false, Bool.false_eq_true, qj_sub, qinB_t, qinB_f, q2_e, qj_add, qj_s1, qj_c1, qj_c2, qj_c9, qj_c17, qj_c97, e1]
      exact hQ
    · have x1 := MF.2.2.2.2.2.2.2.2.2.2.2.2.1 h i (by omega) (by omega)
      have x2 := MF.2.2.2.2.2.2.2.2.2.2.2.2.1 i h (by omega) (by omega)
      rw [smz] at ih
      simp (disch := omega) only [qz0, qj_lt, qj_le, qj_eq, qtk, qfk, qbtt, qbft, qbtf, qbff, qIx_z, qj_nat, true_and, and_true, true_implies, false_implies, not_true_eq_false, not_false_eq_true, Bool.true_eq_false, Bool.false_eq_true, qj_sub, qinB_t, qinB_f, q2_e, qj_add, qj_s1, qj_c1, qj_c2, qj_c9, qj_c17, qj_c97, e1, x1, x2]
      exact ih
  exact key 0 (Nat.zero_le _)
theorem r284 (hd : 3 ≤ d) (X : qAbs F L B S S0 Im C T) (H : qMdl I F L B S S0 Im C T P) {z : Int} (hz : -2147483648 ≤ z ∧ z < 2147483648) : qMQ d 284 [.ref 245, .int (qj z)] g I 1 C (rNet F z) := by
  have W := X.1
  have WL := X.2.1
  have WS := X.2.2.2.1.1
  have hy : S.1 0 0 ≤ 1000 := Nat.le_trans X.2.2.2.1.2.1 (by decide)
  have h9 := W.1
  have h8 := W.2.1
  have w3 := W.2.2.1
  have f1 := H.1.1
  have f2 := H.1.2.1
  have f3 := H.1.2.2.1
  have M0 := qMdl_q H X (qFp_0 (v := qj 0))
  have MF := M0.1
  have R := M0.2.2.2.2.1
  have hr : qisR 682 := by unfold qisR; omega
  have z0 : qup I 245 0 (qj 0) 245 0 = qj 0 := by rw [qup_at, if_pos rfl]
  unfold rNet
  by_cases h : 0 ≤ z ∧ z < F.1 0 0
  · rw [if_pos h]
    obtain ⟨n, rfl⟩ : ∃ n : Nat, z = n := ⟨z.toNat, by omega⟩
    have k283 := m283 (d := d - 1) (g := g) (by omega) X H (h := n) (by omega)
    refine qMQ_inl _ (fun Q hQ => b284_0 (by omega) ?_) qFe_rf
    simp (disch := omega) only [qz0, qj_lt, qj_le, qj_eq, qtk, qfk, qbtt, qbft, qbtf, qbff, qIx_z, qj_nat, true_and, and_true, true_implies, false_implies, not_true_eq_false, not_false_eq_true, Bool.true_eq_false, Bool.false_eq_true, qj_sub, qinB_t, qinB_f, q2_e, qj_add, qj_s1, qj_c1, qj_c2, qj_c9, qj_c17, qj_c97, f1]
    refine ⟨_, _, bd0 (by omega) _ _, ?_⟩
    simp (disch := omega) only [qz0, qj_lt, qj_le, qj_eq, qtk, qfk, qbtt, qbft, qbtf, qbff, qIx_z, qj_nat, true_and, and_true, true_implies, false_implies, not_true_eq_false, not_false_eq_true, Bool.true_eq_false, Bool.false_eq_true, qj_sub, qinB_t, qinB_f, q2_e, qj_add, qj_s1, qj_c1, qj_c2, qj_c9, qj_c17, qj_c97]
    exact ⟨_, _, k283, hQ⟩
  · rw [if_neg h]
    refine qMQ_0 fun Q hQ => b284_0 (by omega) ?_
    simp (disch := omega) only [qz0, qj_lt, qj_le, qj_eq, qtk, qfk, qbtt, qbft, qbtf, qbff, qIx_z, qj_nat, true_and, and_true, true_implies, false_implies, not_true_eq_false, not_false_eq_true, Bool.true_eq_false, Bool.false_eq_true, qj_sub, qinB_t, qinB_f, q2_e, qj_add, qj_s1, qj_c1, qj_c2, qj_c9, qj_c17, qj_c97, f1]
    refine ⟨_, _, bd10 (by omega) H, ?_⟩
    simp (disch := omega) only [qz0, qj_lt, qj_le, qj_eq, qtk, qfk, qbtt, qbft, qbtf, qbff, qIx_z, qj_nat, true_and, and_true, true_implies, false_implies, not_true_eq_false, not_false_eq_true, Bool.true_eq_false, Bool.false_eq_true, qj_sub, qinB_t, qinB_f, q2_e, qj_add, qj_s1, qj_c1, qj_c2, qj_c9, qj_c17, qj_c97]
    exact hQ
theorem r285 (hd : 3 ≤ d) (X : qAbs F L B S S0 Im C T) (H : qMdl I F L B S S0 Im C T P) {z : Int} (hz : -2147483648 ≤ z ∧ z < 2147483648) : qMQ d 285 [.ref 245, .int (qj z)] g I 1 C (rFst F S z) := by
  have W := X.1
  have WL := X.2.1
  have WS := X.2.2.2.1.1
  have hy : S.1 0 0 ≤ 1000 := Nat.le_trans X.2.2.2.1.2.1 (by decide)
  have h9 := W.1
  have h8 := W.2.1
  have w3 := W.2.2.1
  have f1 := H.1.1
  have f2 := H.1.2.1
  have f3 := H.1.2.2.1
  have M0 := qMdl_q H X (qFp_0 (v := qj 0))
  have MF := M0.1
  have R := M0.2.2.2.2.1
  have hr : qisR 682 := by unfold qisR; omega
  have z0 : qup I 245 0 (qj 0) 245 0 = qj 0 := by rw [qup_at, if_pos rfl]
  unfold rFst
  have e1 := MF.1
  by_cases h : 0 ≤ z ∧ z ≤ 1
  · rw [if_pos h]
    by_cases h0 : z = 0
    · subst h0
      refine qMQ_inl _ (fun Q hQ => b285_0 (by omega) ?_) qFe_rf
      rw [if_pos rfl] at hQ
      simp (disch := omega) only [qz0, qj_lt, qj_le, qj_eq, qtk, qfk, qbtt, qbft, qbtf, qbff, qIx_z, qj_nat, true_and, and_true, true_implies, false_implies, not_true_eq_false, not_false_eq_true, Bool.true_eq_false, Bool.false_eq_true, qj_sub, qinB_t, qinB_f, q2_e, qj_add, qj_s1, qj_c1, qj_c2, qj_c9, qj_c17, qj_c97]
      refine ⟨_, _, bd0 (by omega) _ _, ?_⟩
      simp (disch := omega) only [qz0, qj_lt, qj_le, qj_eq, qtk, qfk, qbtt, qbft, qbtf, qbff, qIx_z, qj_nat, true_and, and_true, true_implies, false_implies, not_true_eq_false, not_false_eq_true, Bool.true_eq_false, Bool.false_eq_true, qj_sub, qinB_t, qinB_f, q2_e, qj_add, qj_s1, qj_c1, qj_c2, qj_c9, qj_c17, qj_c97]
      have key : ∀ i, i ≤ F.1 0 0 → qwq d 285 34 [(0, .ref 245), (1, .int (qj 0)), (2, .int (qj (aEld F S i))), (3, .int (qj i))] [] (qw g (qup I 245 0 (qj 0))) Q := by
        refine upto _ (b285_34 (by omega) ?_) (fun i hi ih => b285_34 (by omega) ?_)
        · simp (disch := omega) only [qz0, qj_lt, qj_le, qj_eq, qtk, qfk, qbtt, qbft, qbtf, qbff, qIx_z, qj_nat, true_and, and_true, true_implies, false_implies, not_true_eq_false, not_false_eq_true, Bool.true_eq_false, Bool.false_eq_true, qj_sub, qinB_t, qinB_f, q2_e, qj_add, qj_s1, qj_c1, qj_c2, qj_c9, qj_c17, qj_c97, e1]
          exact hQ
        · have hb := aEld_b F S i
          have kh := m218 (d := d - 1) (g := g) (by omega) hr MF W R hy (h := i) hi
          have x5 := MF.2.2.2.2.1 i hi
          have b5 := (W.2.2.2.2.1 i hi).2.1
          rw [aEld] at ih
          cases ha : aAl F S i with
          | false =>
            rw [ha] at kh ih
            rw [if_neg (fun q => Bool.noConfusion q.1)] at ih
            simp (disch := omega) only [qz0, qj_lt, qj_le, qj_eq, qtk, qfk, qbtt, qbft, qbtf, qbff, qIx_z, qj_nat, true_and, and_true, true_implies, false_implies, not_true_eq_false, not_false_eq_true, Bool.true_eq_false, Bool.false_eq_true, qj_sub, qinB_t, qinB_f, q2_e, qj_add, qj_s1, qj_c1, qj_c2, qj_c9, qj_c17, qj_c97, e1]
            refine ⟨_, _, kh, ?_⟩
            simp (disch := omega) only [qz0, qj_lt, qj_le, qj_eq, qtk, qfk, qbtt, qbft, qbtf, qbff, qIx_z, qj_nat, true_and, and_true, true_implies, false_implies, not_true_eq_false, not_false_eq_true, Bool.true_eq_false, Bool.false_eq_true, qj_sub, qinB_t, qinB_f, q2_e, qj_add, qj_s1, qj_c1, qj_c2, qj_c9, qj_c17, qj_c97]
            exact ih
          | true =>
            rw [ha] at kh ih
            by_cases c : aEld F S i = -1
            · rw [if_pos ⟨rfl, Or.inl c⟩] at ih
              rw [c]
              simp (disch := omega) only [qz0, qj_lt, qj_le, qj_eq, qtk, qfk, qbtt, qbft, qbtf, qbff, qIx_z, qj_nat, true_and, and_true, true_implies, false_implies, not_true_eq_false, not_false_eq_true, Bool.true_eq_false, Bool.false_eq_true, qj_sub, qinB_t, qinB_f, q2_e, qj_add, qj_s1, qj_c1, qj_c2, qj_c9, qj_c17, qj_c97, e1]
              refine ⟨_, _, kh, ?_⟩
              simp (disch := omega) only [qz0, qj_lt, qj_le, qj_eq, qtk, qfk, qbtt, qbft, qbtf, qbff, qIx_z, qj_nat, true_and, and_true, true_implies, false_implies, not_true_eq_false, not_false_eq_true, Bool.true_eq_false, Bool.false_eq_true, qj_sub, qinB_t, qinB_f, q2_e, qj_add, qj_s1, qj_c1, qj_c2, qj_c9, qj_c17, qj_c97]
              exact ih
            · obtain ⟨k, ek⟩ : ∃ k : Nat, aEld F S i = k := ⟨(aEld F S i).toNat, by omega⟩
              rw [ek] at ih hb ⊢
              have x6 := MF.2.2.2.2.1 k (by omega)
              have b6 := (W.2.2.2.2.1 k (by omega)).2.1
              rw [Int.toNat_natCast] at ih
              by_cases c2 : F.1 2 i < F.1 2 k
              · rw [if_pos ⟨rfl, Or.inr c2⟩] at ih
                simp (disch := omega) only [qz0, qj_lt, qj_le, qj_eq, qtk, qfk, qbtt, qbft, qbtf, qbff, qIx_z, qj_nat, true_and, and_true, true_implies, false_implies, not_true_eq_false, not_false_eq_true, Bool.true_eq_false, Bool.false_eq_true, qj_sub, qinB_t, qinB_f, q2_e, qj_add, qj_s1, qj_c1, qj_c2, qj_c9, qj_c17, qj_c97, e1]
                refine ⟨_, _, kh, ?_⟩
                simp (disch := omega) only [qz0, qj_lt, qj_le, qj_eq, qtk, qfk, qbtt, qbft, qbtf, qbff, qIx_z, qj_nat, true_and, and_true, true_implies, false_implies, not_true_eq_false, not_false_eq_true, Bool.true_eq_false, Bool.false_eq_true, qj_sub, qinB_t, qinB_f, q2_e, qj_add, qj_s1, qj_c1, qj_c2, qj_c9, qj_c17, qj_c97, x5, x6]
                exact ih
              · rw [if_neg (fun q => by
                  rcases q.2 with q | q
                  · omega
                  · exact c2 q)] at ih
                simp (disch := omega) only [qz0, qj_lt, qj_le, qj_eq, qtk, qfk, qbtt, qbft, qbtf, qbff, qIx_z, qj_nat, true_and, and_true, true_implies, false_implies, not_true_eq_false, not_false_eq_true, Bool.true_eq_false, Bool.false_eq_true, qj_sub, qinB_t, qinB_f, q2_e, qj_add, qj_s1, qj_c1, qj_c2, qj_c9, qj_c17, qj_c97, e1]
                refine ⟨_, _, kh, ?_⟩
                simp (disch := omega) only [qz0, qj_lt, qj_le, qj_eq, qtk, qfk, qbtt, qbft, qbtf, qbff, qIx_z, qj_nat, true_and, and_true, true_implies, false_implies, not_true_eq_false, not_false_eq_true, Bool.true_eq_false, Bool.false_eq_true, qj_sub, qinB_t, qinB_f, q2_e, qj_add, qj_s1, qj_c1, qj_c2, qj_c9, qj_c17, qj_c97, x5, x6]
                exact ih
      exact key 0 (Nat.zero_le _)
    · have ez : z = 1 := by omega
      subst ez
      refine qMQ_inl _ (fun Q hQ => b285_0 (by omega) ?_) qFe_rf
      rw [if_neg h0] at hQ
      simp (disch := omega) only [qz0, qj_lt, qj_le, qj_eq, qtk, qfk, qbtt, qbft, qbtf, qbff, qIx_z, qj_nat, true_and, and_true, true_implies, false_implies, not_true_eq_false, not_false_eq_true, Bool.true_eq_false, Bool.false_eq_true, qj_sub, qinB_t, qinB_f, q2_e, qj_add, qj_s1, qj_c1, qj_c2, qj_c9, qj_c17, qj_c97]
      refine ⟨_, _, bd0 (by omega) _ _, ?_⟩
      simp (disch := omega) only [qz0, qj_lt, qj_le, qj_eq, qtk, qfk, qbtt, qbft, qbtf, qbff, qIx_z, qj_nat, true_and, and_true, true_implies, false_implies, not_true_eq_false, not_false_eq_true, Bool.true_eq_false, Bool.false_eq_true, qj_sub, qinB_t, qinB_f, q2_e, qj_add, qj_s1, qj_c1, qj_c2, qj_c9, qj_c17, qj_c97]
      have key : ∀ i, i ≤ F.1 0 0 → qwq d 285 34 [(0, .ref 245), (1, .int (qj 1)), (2, .int (qj (aRch F i))), (3, .int (qj i))] [] (qw g (qup I 245 0 (qj 0))) Q := by
        refine upto _ (b285_34 (by omega) ?_) (fun i hi ih => b285_34 (by omega) ?_)
        · simp (disch := omega) only [qz0, qj_lt, qj_le, qj_eq, qtk, qfk, qbtt, qbft, qbtf, qbff, qIx_z, qj_nat, true_and, and_true, true_implies, false_implies, not_true_eq_false, not_false_eq_true, Bool.true_eq_false, Bool.false_eq_true, qj_sub, qinB_t, qinB_f, q2_e, qj_add, qj_s1, qj_c1, qj_c2, qj_c9, qj_c17, qj_c97, e1]
          exact hQ
        · have hb := aRch_b F i
          have ki := m283 (d := d - 1) (g := g) (by omega) X H (h := i) hi
          have bi := aNet_b W i
          rw [aRch] at ih
          by_cases c : aRch F i = -1
          · rw [if_pos (Or.inl c)] at ih
            rw [c]
            simp (disch := omega) only [qz0, qj_lt, qj_le, qj_eq, qtk, qfk, qbtt, qbft, qbtf, qbff, qIx_z, qj_nat, true_and, and_true, true_implies, false_implies, not_true_eq_false, not_false_eq_true, Bool.true_eq_false, Bool.false_eq_true, qj_sub, qinB_t, qinB_f, q2_e, qj_add, qj_s1, qj_c1, qj_c2, qj_c9, qj_c17, qj_c97, e1]
            exact ih
          · obtain ⟨k, ek⟩ : ∃ k : Nat, aRch F i = k := ⟨(aRch F i).toNat, by omega⟩
            rw [ek] at ih hb ⊢
            have kk := m283 (d := d - 1) (g := g) (by omega) X H (h := k) (by omega)
            have bk := aNet_b W k
            rw [Int.toNat_natCast] at ih
            by_cases c2 : aNet F k < aNet F i
            · rw [if_pos (Or.inr c2)] at ih
              simp (disch := omega) only [qz0, qj_lt, qj_le, qj_eq, qtk, qfk, qbtt, qbft, qbtf, qbff, qIx_z, qj_nat, true_and, and_true, true_implies, false_implies, not_true_eq_false, not_false_eq_true, Bool.true_eq_false, Bool.false_eq_true, qj_sub, qinB_t, qinB_f, q2_e, qj_add, qj_s1, qj_c1, qj_c2, qj_c9, qj_c17, qj_c97, e1]
              refine ⟨_, _, ki, _, _, kk, ?_⟩
              simp (disch := omega) only [qz0, qj_lt, qj_le, qj_eq, qtk, qfk, qbtt, qbft, qbtf, qbff, qIx_z, qj_nat, true_and, and_true, true_implies, false_implies, not_true_eq_false, not_false_eq_true, Bool.true_eq_false, Bool.false_eq_true, qj_sub, qinB_t, qinB_f, q2_e, qj_add, qj_s1, qj_c1, qj_c2, qj_c9, qj_c17, qj_c97]
              exact ih
            · rw [if_neg (fun q => by
                rcases q with q | q
                · omega
                · exact c2 q)] at ih
              simp (disch := omega) only [qz0, qj_lt, qj_le, qj_eq, qtk, qfk, qbtt, qbft, qbtf, qbff, qIx_z, qj_nat, true_and, and_true, true_implies, false_implies, not_true_eq_false, not_false_eq_true, Bool.true_eq_false, Bool.false_eq_true, qj_sub, qinB_t, qinB_f, q2_e, qj_add, qj_s1, qj_c1, qj_c2, qj_c9, qj_c17, qj_c97, e1]
              refine ⟨_, _, ki, _, _, kk, ?_⟩
              simp (disch := omega) only [qz0, qj_lt, qj_le, qj_eq, qtk, qfk, qbtt, qbft, qbtf, qbff, qIx_z, qj_nat, true_and, and_true, true_implies, false_implies, not_true_eq_false, not_false_eq_true, Bool.true_eq_false, Bool.false_eq_true, qj_sub, qinB_t, qinB_f, q2_e, qj_add, qj_s1, qj_c1, qj_c2, qj_c9, qj_c17, qj_c97]
              exact ih
      exact key 0 (Nat.zero_le _)
  · rw [if_neg h]
    refine qMQ_1 fun Q hQ => b285_0 (by omega) ?_
    simp (disch := omega) only [qz0, qj_lt, qj_le, qj_eq, qtk, qfk, qbtt, qbft, qbtf, qbff, qIx_z, qj_nat, true_and, and_true, true_implies, false_implies, not_true_eq_false, not_false_eq_true, Bool.true_eq_false, Bool.false_eq_true, qj_sub, qinB_t, qinB_f, q2_e, qj_add, qj_s1, qj_c1, qj_c2, qj_c9, qj_c17, qj_c97]
    refine ⟨_, _, bd11 (by omega) H, ?_⟩
    simp (disch := omega) only [qz0, qj_lt, qj_le, qj_eq, qtk, qfk, qbtt, qbft, qbtf, qbff, qIx_z, qj_nat, true_and, and_true, true_implies, false_implies, not_true_eq_false, not_false_eq_true, Bool.true_eq_false, Bool.false_eq_true, qj_sub, qinB_t, qinB_f, q2_e, qj_add, qj_s1, qj_c1, qj_c2, qj_c9, qj_c17, qj_c97]
    exact hQ
theorem r286 (hd : 3 ≤ d) (X : qAbs F L B S S0 Im C T) (H : qMdl I F L B S S0 Im C T P) : qMQ d 286 [.ref 245] g I 1 C (.inl (qj (bm (F.1 0 1) (fun p => decide (0 < aLk F S p)) : Nat))) := by
  have W := X.1
  have WL := X.2.1
  have WS := X.2.2.2.1.1
  have hy : S.1 0 0 ≤ 1000 := Nat.le_trans X.2.2.2.1.2.1 (by decide)
  have h9 := W.1
  have h8 := W.2.1
  have w3 := W.2.2.1
  have f1 := H.1.1
  have f2 := H.1.2.1
  have f3 := H.1.2.2.1
  have M0 := qMdl_q H X (qFp_0 (v := qj 0))
  have MF := M0.1
  have R := M0.2.2.2.2.1
  have hr : qisR 682 := by unfold qisR; omega
  have z0 : qup I 245 0 (qj 0) 245 0 = qj 0 := by rw [qup_at, if_pos rfl]
  have e1 := MF.2.1
  refine qMQ_inl _ (fun Q hQ => b286_0 (by omega) ?_) qFe_rf
  have key : ∀ i, i ≤ F.1 0 1 → qwq d 286 9 [(0, .ref 245), (1, .int (qj (bm i (fun p => decide (0 < aLk F S p)) : Nat))), (2, .int (qj i))] [] (qw g (qup I 245 0 (qj 0))) Q := by
    refine upto _ (b286_9 (by omega) ?_) (fun i hi ih => b286_9 (by omega) ?_)
    · simp (disch := omega) only [qz0, qj_lt, qj_le, qj_eq, qtk, qfk, qbtt, qbft, qbtf, qbff, qIx_z, qj_nat, true_and, and_true, true_implies, false_implies, not_true_eq_false, not_false_eq_true, Bool.true_eq_false, Bool.false_eq_true, qj_sub, qinB_t, qinB_f, q2_e, qj_add, qj_s1, qj_c1, qj_c2, qj_c9, qj_c17, qj_c97, e1]
      exact hQ
    · have k224 := m224 (d := d - 1) (g := g) (by omega) hr MF W R (p := i) hi
      have hlk : aLk F S i ≤ F.1 5 i := Nat.sub_le _ _
      have hn5 := (W.2.2.2.2.2.1 i hi).2.2.1
      simp (disch := omega) only [qz0, qj_lt, qj_le, qj_eq, qtk, qfk, qbtt, qbft, qbtf, qbff, qIx_z, qj_nat, true_and, and_true, true_implies, false_implies, not_true_eq_false, not_false_eq_true, Bool.true_eq_false, Bool.false_eq_true, qj_sub, qinB_t, qinB_f, q2_e, qj_add, qj_s1, qj_c1, qj_c2, qj_c9, qj_c17, qj_c97, e1]
      refine ⟨_, _, k224, ?_⟩
      by_cases c : 0 < aLk F S i
      · rw [← bm_st (decide_eq_true c) (by omega)] at ih
        simp (disch := omega) only [qz0, qj_lt, qj_le, qj_eq, qtk, qfk, qbtt, qbft, qbtf, qbff, qIx_z, qj_nat, true_and, and_true, true_implies, false_implies, not_true_eq_false, not_false_eq_true, Bool.true_eq_false, Bool.false_eq_true, qj_sub, qinB_t, qinB_f, q2_e, qj_add, qj_s1, qj_c1, qj_c2, qj_c9, qj_c17, qj_c97]
        exact ih
      · rw [bm_sf (decide_eq_false c)] at ih
        simp (disch := omega) only [qz0, qj_lt, qj_le, qj_eq, qtk, qfk, qbtt, qbft, qbtf, qbff, qIx_z, qj_nat, true_and, and_true, true_implies, false_implies, not_true_eq_false, not_false_eq_true, Bool.true_eq_false, Bool.false_eq_true, qj_sub, qinB_t, qinB_f, q2_e, qj_add, qj_s1, qj_c1, qj_c2, qj_c9, qj_c17, qj_c97, qor_0]
        exact ih
  exact key 0 (Nat.zero_le _)
theorem r287 (hd : 3 ≤ d) (X : qAbs F L B S S0 Im C T) (H : qMdl I F L B S S0 Im C T P) : qMQ d 287 [.ref 245] g I 1 C (.inl (qj (bm (F.1 0 0) (aIdl F S) : Nat))) := by
  have W := X.1
  have WL := X.2.1
  have WS := X.2.2.2.1.1
  have hy : S.1 0 0 ≤ 1000 := Nat.le_trans X.2.2.2.1.2.1 (by decide)
  have h9 := W.1
  have h8 := W.2.1
  have w3 := W.2.2.1
  have f1 := H.1.1
  have f2 := H.1.2.1
  have f3 := H.1.2.2.1
  have M0 := qMdl_q H X (qFp_0 (v := qj 0))
  have MF := M0.1
  have R := M0.2.2.2.2.1
  have hr : qisR 682 := by unfold qisR; omega
  have z0 : qup I 245 0 (qj 0) 245 0 = qj 0 := by rw [qup_at, if_pos rfl]
  have e1 := MF.1
  refine qMQ_inl _ (fun Q hQ => b287_0 (by omega) ?_) qFe_rf
  have key : ∀ i, i ≤ F.1 0 0 → qwq d 287 9 [(0, .ref 245), (1, .int (qj (bm i (aIdl F S) : Nat))), (2, .int (qj i))] [] (qw g (qup I 245 0 (qj 0))) Q := by
    refine upto _ (b287_9 (by omega) ?_) (fun i hi ih => b287_9 (by omega) ?_)
    · simp (disch := omega) only [qz0, qj_lt, qj_le, qj_eq, qtk, qfk, qbtt, qbft, qbtf, qbff, qIx_z, qj_nat, true_and, and_true, true_implies, false_implies, not_true_eq_false, not_false_eq_true, Bool.true_eq_false, Bool.false_eq_true, qj_sub, qinB_t, qinB_f, q2_e, qj_add, qj_s1, qj_c1, qj_c2, qj_c9, qj_c17, qj_c97, e1]
      exact hQ
    · have kh := m218 (d := d - 1) (g := g) (by omega) hr MF W R hy (h := i) hi
      have kw := m222 (d := d - 1) (g := g) (by omega) hr MF W R WS (h := i) hi
      cases ha : aAl F S i with
      | false =>
        rw [ha] at kh
        rw [bm_sf (by unfold aIdl; rw [ha]; rfl)] at ih
        simp (disch := omega) only [qz0, qj_lt, qj_le, qj_eq, qtk, qfk, qbtt, qbft, qbtf, qbff, qIx_z, qj_nat, true_and, and_true, true_implies, false_implies, not_true_eq_false, not_false_eq_true, Bool.true_eq_false, Bool.false_eq_true, qj_sub, qinB_t, qinB_f, q2_e, qj_add, qj_s1, qj_c1, qj_c2, qj_c9, qj_c17, qj_c97, e1]
        refine ⟨_, _, kh, ?_⟩
        simp (disch := omega) only [qz0, qj_lt, qj_le, qj_eq, qtk, qfk, qbtt, qbft, qbtf, qbff, qIx_z, qj_nat, true_and, and_true, true_implies, false_implies, not_true_eq_false, not_false_eq_true, Bool.true_eq_false, Bool.false_eq_true, qj_sub, qinB_t, qinB_f, q2_e, qj_add, qj_s1, qj_c1, qj_c2, qj_c9, qj_c17, qj_c97, qor_0]
        exact ih
      | true =>
        rw [ha] at kh
        simp (disch := omega) only [qz0, qj_lt, qj_le, qj_eq, qtk, qfk, qbtt, qbft, qbtf, qbff, qIx_z, qj_nat, true_and, and_true, true_implies, false_implies, not_true_eq_false, not_false_eq_true, Bool.true_eq_false, Bool.false_eq_true, qj_sub, qinB_t, qinB_f, q2_e, qj_add, qj_s1, qj_c1, qj_c2, qj_c9, qj_c17, qj_c97, e1]
        refine ⟨_, _, kh, ?_⟩
        cases hb : anb 8 (S.2.1 i) with
        | true =>
          have ne : ¬ qj (bm 8 (S.2.1 i) : Nat) = qj 0 := by
            rw [qbm_eq0 (by omega)]
            intro c
            rw [(anb_false _ _).mpr c] at hb
            exact Bool.noConfusion hb
          rw [bm_sf (by unfold aIdl; rw [hb, Bool.not_true, Bool.and_false])] at ih
          simp (disch := omega) only [qbtt, qbft, qbtf, qbff, true_implies, false_implies, and_true, true_and, Bool.true_eq_false, Bool.false_eq_true]
          refine ⟨_, _, kw, ?_⟩
          simp (disch := omega) only [qz0, qtk, qfk, ne, not_false_eq_true, true_implies, not_true_eq_false, false_implies, and_true, true_and, qj_add, qj_s1, qor_0]
          exact ih
        | false =>
          have ee : qj (bm 8 (S.2.1 i) : Nat) = qj 0 := (qbm_eq0 (by omega)).mpr ((anb_false _ _).mp hb)
          rw [← bm_st (by unfold aIdl; rw [ha, hb]; rfl) (by omega)] at ih
          simp (disch := omega) only [qbtt, qbft, qbtf, qbff, true_implies, false_implies, and_true, true_and, Bool.true_eq_false, Bool.false_eq_true]
          refine ⟨_, _, kw, ?_⟩
          simp (disch := omega) only [qz0, ee, not_false_eq_true, true_implies, not_true_eq_false, false_implies, and_true, true_and, qj_add, qj_s1]
          exact ih
  exact key 0 (Nat.zero_le _)
theorem r288 (hd : 3 ≤ d) (X : qAbs F L B S S0 Im C T) (H : qMdl I F L B S S0 Im C T P) : qMQ d 288 [.ref 245] g I 1 C (.inl (qj (bm (F.1 0 1) (aMut F S) : Nat))) := by
  have W := X.1
  have WL := X.2.1
  have WS := X.2.2.2.1.1
  have hy : S.1 0 0 ≤ 1000 := Nat.le_trans X.2.2.2.1.2.1 (by decide)
  have h9 := W.1
  have h8 := W.2.1
  have w3 := W.2.2.1
  have f1 := H.1.1
  have f2 := H.1.2.1
  have f3 := H.1.2.2.1
  have M0 := qMdl_q H X (qFp_0 (v := qj 0))
  have MF := M0.1
  have R := M0.2.2.2.2.1
  have hr : qisR 682 := by unfold qisR; omega
  have z0 : qup I 245 0 (qj 0) 245 0 = qj 0 := by rw [qup_at, if_pos rfl]
  have e1 := MF.2.1
  refine qMQ_inl _ (fun Q hQ => b288_0 (by omega) ?_) qFe_rf
  have key : ∀ i, i ≤ F.1 0 1 → qwq d 288 9 [(0, .ref 245), (1, .int (qj (bm i (aMut F S) : Nat))), (2, .int (qj i))] [] (qw g (qup I 245 0 (qj 0))) Q := by
    refine upto _ (b288_9 (by omega) ?_) (fun i hi ih => b288_9 (by omega) ?_)
    · simp (disch := omega) only [qz0, qj_lt, qj_le, qj_eq, qtk, qfk, qbtt, qbft, qbtf, qbff, qIx_z, qj_nat, true_and, and_true, true_implies, false_implies, not_true_eq_false, not_false_eq_true, Bool.true_eq_false, Bool.false_eq_true, qj_sub, qinB_t, qinB_f, q2_e, qj_add, qj_s1, qj_c1, qj_c2, qj_c9, qj_c17, qj_c97, e1]
      exact hQ
    · have s2 := R.2.1 i (by omega)
      have k252 := m252 (d := d - 1) (g := g) (t := 0) (s := bm 9 (fun h => S.2.1 h i)) (by omega) MF W (by omega) (bm_lt 9 _)
      rw [cSw_0] at k252
      have k252' : qRun (d - 1) 252 [.ref 245, .int (qj 0), .int (qj (bm 9 (fun h => S.2.1 h i) : Nat))] (qw g (qup I 245 0 (qj 0))) (.inl (some (.int (qb (cQt (F.2 2) (bm 9 (fun h => S.2.1 h i))))), qw g (qup I 245 0 (qj 0)))) := k252
      simp (disch := omega) only [qz0, qj_lt, qj_le, qj_eq, qtk, qfk, qbtt, qbft, qbtf, qbff, qIx_z, qj_nat, true_and, and_true, true_implies, false_implies, not_true_eq_false, not_false_eq_true, Bool.true_eq_false, Bool.false_eq_true, qj_sub, qinB_t, qinB_f, q2_e, qj_add, qj_s1, qj_c1, qj_c2, qj_c9, qj_c17, qj_c97, e1, s2]
      refine ⟨_, _, k252', ?_⟩
      cases hq : cQt (F.2 2) (bm 9 (fun h => S.2.1 h i)) with
      | true =>
        rw [bm_sf (by unfold aMut; rw [hq]; rfl)] at ih
        simp (disch := omega) only [qz0, qj_lt, qj_le, qj_eq, qtk, qfk, qbtt, qbft, qbtf, qbff, qIx_z, qj_nat, true_and, and_true, true_implies, false_implies, not_true_eq_false, not_false_eq_true, Bool.true_eq_false, Bool.false_eq_true, qj_sub, qinB_t, qinB_f, q2_e, qj_add, qj_s1, qj_c1, qj_c2, qj_c9, qj_c17, qj_c97, qor_0]
        exact ih
      | false =>
        rw [← bm_st (by unfold aMut; rw [hq]; rfl) (by omega)] at ih
        simp (disch := omega) only [qz0, qj_lt, qj_le, qj_eq, qtk, qfk, qbtt, qbft, qbtf, qbff, qIx_z, qj_nat, true_and, and_true, true_implies, false_implies, not_true_eq_false, not_false_eq_true, Bool.true_eq_false, Bool.false_eq_true, qj_sub, qinB_t, qinB_f, q2_e, qj_add, qj_s1, qj_c1, qj_c2, qj_c9, qj_c17, qj_c97]
        exact ih
  exact key 0 (Nat.zero_le _)
theorem r289 (hd : 2 ≤ d) (X : qAbs F L B S S0 Im C T) (H : qMdl I F L B S S0 Im C T P) {z : Int} (hz : -2147483648 ≤ z ∧ z < 2147483648) : qMQ d 289 [.ref 245, .int (qj z)] g I 1 C (rSlk F S z) := by
  have W := X.1
  have WL := X.2.1
  have WS := X.2.2.2.1.1
  have hy : S.1 0 0 ≤ 1000 := Nat.le_trans X.2.2.2.1.2.1 (by decide)
  have h9 := W.1
  have h8 := W.2.1
  have w3 := W.2.2.1
  have f1 := H.1.1
  have f2 := H.1.2.1
  have f3 := H.1.2.2.1
  have M0 := qMdl_q H X (qFp_0 (v := qj 0))
  have MF := M0.1
  have R := M0.2.2.2.2.1
  have hr : qisR 682 := by unfold qisR; omega
  have z0 : qup I 245 0 (qj 0) 245 0 = qj 0 := by rw [qup_at, if_pos rfl]
  unfold rSlk
  have e1 := MF.2.1
  by_cases h : 0 ≤ z ∧ z ≤ 31
  · rw [if_pos h]
    refine qMQ_inl _ (fun Q hQ => b289_0 (by omega) ?_) qFe_rf
    simp (disch := omega) only [qz0, qj_lt, qj_le, qj_eq, qtk, qfk, qbtt, qbft, qbtf, qbff, qIx_z, qj_nat, true_and, and_true, true_implies, false_implies, not_true_eq_false, not_false_eq_true, Bool.true_eq_false, Bool.false_eq_true, qj_sub, qinB_t, qinB_f, q2_e, qj_add, qj_s1, qj_c1, qj_c2, qj_c9, qj_c17, qj_c97]
    refine ⟨_, _, bd0 (by omega) _ _, ?_⟩
    simp (disch := omega) only [qz0, qj_lt, qj_le, qj_eq, qtk, qfk, qbtt, qbft, qbtf, qbff, qIx_z, qj_nat, true_and, and_true, true_implies, false_implies, not_true_eq_false, not_false_eq_true, Bool.true_eq_false, Bool.false_eq_true, qj_sub, qinB_t, qinB_f, q2_e, qj_add, qj_s1, qj_c1, qj_c2, qj_c9, qj_c17, qj_c97]
    have key : ∀ i, i ≤ F.1 0 1 → qwq d 289 35 [(0, .ref 245), (1, .int (qj z)), (2, .int (qj (bm i (fun p => decide ((S.1 3 p : Int) < z)) : Nat))), (3, .int (qj i))] [] (qw g (qup I 245 0 (qj 0))) Q := by
      refine upto _ (b289_35 (by omega) ?_) (fun i hi ih => b289_35 (by omega) ?_)
      · simp (disch := omega) only [qz0, qj_lt, qj_le, qj_eq, qtk, qfk, qbtt, qbft, qbtf, qbff, qIx_z, qj_nat, true_and, and_true, true_implies, false_implies, not_true_eq_false, not_false_eq_true, Bool.true_eq_false, Bool.false_eq_true, qj_sub, qinB_t, qinB_f, q2_e, qj_add, qj_s1, qj_c1, qj_c2, qj_c9, qj_c17, qj_c97, e1]
        exact hQ
      · have s3 := R.2.2.1 i hi
        have b3 := WS.2.2.1 i hi
        by_cases c : (S.1 3 i : Int) < z
        · rw [← bm_st (decide_eq_true c) (by omega)] at ih
          simp (disch := omega) only [qz0, qj_lt, qj_le, qj_eq, qtk, qfk, qbtt, qbft, qbtf, qbff, qIx_z, qj_nat, true_and, and_true, true_implies, false_implies, not_true_eq_false, not_false_eq_true, Bool.true_eq_false, Bool.false_eq_true, qj_sub, qinB_t, qinB_f, q2_e, qj_add, qj_s1, qj_c1, qj_c2, qj_c9, qj_c17, qj_c97, e1, s3]
          exact ih
        · rw [bm_sf (decide_eq_false c)] at ih
          simp (disch := omega) only [qz0, qj_lt, qj_le, qj_eq, qtk, qfk, qbtt, qbft, qbtf, qbff, qIx_z, qj_nat, true_and, and_true, true_implies, false_implies, not_true_eq_false, not_false_eq_true, Bool.true_eq_false, Bool.false_eq_true, qj_sub, qinB_t, qinB_f, q2_e, qj_add, qj_s1, qj_c1, qj_c2, qj_c9, qj_c17, qj_c97, e1, s3, qor_0]
          exact ih
    exact key 0 (Nat.zero_le _)
  · rw [if_neg h]
    refine qMQ_1 fun Q hQ => b289_0 (by omega) ?_
    simp (disch := omega) only [qz0, qj_lt, qj_le, qj_eq, qtk, qfk, qbtt, qbft, qbtf, qbff, qIx_z, qj_nat, true_and, and_true, true_implies, false_implies, not_true_eq_false, not_false_eq_true, Bool.true_eq_false, Bool.false_eq_true, qj_sub, qinB_t, qinB_f, q2_e, qj_add, qj_s1, qj_c1, qj_c2, qj_c9, qj_c17, qj_c97]
    refine ⟨_, _, bd11 (by omega) H, ?_⟩
    simp (disch := omega) only [qz0, qj_lt, qj_le, qj_eq, qtk, qfk, qbtt, qbft, qbtf, qbff, qIx_z, qj_nat, true_and, and_true, true_implies, false_implies, not_true_eq_false, not_false_eq_true, Bool.true_eq_false, Bool.false_eq_true, qj_sub, qinB_t, qinB_f, q2_e, qj_add, qj_s1, qj_c1, qj_c2, qj_c9, qj_c17, qj_c97]
    exact hQ
end RASK7
