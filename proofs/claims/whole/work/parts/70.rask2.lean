/-! ===== questions, the reference's side, 2 ===== -/
section RASK2
variable {d : Nat} {g : qG1} {I : Nat → Nat → Int32} {F : qFam} {L : qLw} {B : qBk} {S S0 : qSt} {Im : Nat → qSt} {C T : Nat → Nat} {P : Int} {f s : Nat}
/-- the reference still holds all -/
theorem mAf (X : qAbs F L B S S0 Im C T) (H : qMdl I F L B S S0 Im C T P) {J : Nat → Nat → Int32} (h : qFe (qup I 245 0 (qj 0)) J) : qMdl J F L B S S0 Im C T P := qMdl_q H X (qFp_tr qFp_0 h.1)
/-- the trial stands as it is now -/
theorem tr0 (hd : 1 ≤ d) (X : qAbs F L B S S0 Im C T) (H : qMdl I F L B S S0 Im C T P) : ∃ J, qRun d 201 [.ref 682, .ref 685] (qw g (qup I 245 0 (qj 0))) (.inl (none, qw g J)) ∧ qMS F J 685 S ∧ qFe (qup I 245 0 (qj 0)) J := by
  obtain ⟨J, k1, k2, k3⟩ := m201 (g := g) (I := qup I 245 0 (qj 0)) hd (show qisR 682 by unfold qisR; omega) (show qisR 685 by unfold qisR; omega) (by omega)
  exact ⟨J, k1, qMS_cp X.1.2.1 (mAf X H qFe_rf).2.2.2.2.1 k2, qFe_r (Or.inl rfl) k3⟩
/-- it goes a year -/
theorem tr1 (hd : 6 ≤ d) (X : qAbs F L B S S0 Im C T) (H : qMdl I F L B S S0 Im C T P) {r : Nat} (hr : r = 685 ∨ r = 686) {U : qSt} {J : Nat → Nat → Int32} (R : qMS F J r U) (WU : qWS F U) (hyU : U.1 0 0 < 1000) (hU : ∀ k, k < F.1 0 0 → U.1 1 k = F.1 1 k) (hJ : qFe (qup I 245 0 (qj 0)) J) :
    ∃ J', qRun d 238 [.ref 245, .ref r] (qw g J) (.inl (none, qw g J')) ∧ qMS F J' r (aYear F L U) ∧ qFe (qup I 245 0 (qj 0)) J' ∧ qWS F (aYear F L U) ∧ (aYear F L U).1 0 0 = U.1 0 0 + 1 ∧ ∀ k, k < F.1 0 0 → (aYear F L U).1 1 k = F.1 1 k := by
  have M := mAf X H hJ
  obtain ⟨J', k1, k2, k3⟩ := m238y (g := g) hd (show qisR r by unfold qisR; omega) M.1 (qMl_of M.2.1 hU) X.1 R WU hyU M.2.2.1 X.2.1 M.2.2.2.2.2.2.2.2.2.2.2.2.2.2.2
  obtain ⟨y1, y2, y3⟩ := aYear_ok (L := L) (D := fun _ => false) WU X.1
  refine ⟨J', k1, k2, qFe_tr hJ (qFe_m hr k3), y1, y2, fun k hk => ?_⟩
  rw [show (aYear F L U).1 1 = U.1 1 from y3]; exact hU k hk
theorem r230 (hd : 5 ≤ d) (X : qAbs F L B S S0 Im C T) (H : qMdl I F L B S S0 Im C T P) {z w : Int} (hz : -2147483648 ≤ z ∧ z < 2147483648) (hw : -2147483648 ≤ w ∧ w < 2147483648) : qMQ d 230 [.ref 245, .int (qj z), .int (qj w)] g I 1 C (rScore F L S z w) := by
  have W := X.1
  have WL := X.2.1
  have WS := X.2.2.2.1.1
  have hy : S.1 0 0 ≤ 1000 := Nat.le_trans X.2.2.2.1.2.1 (by decide)
  have h9 := W.1
  have h8 := W.2.1
  have w3 := W.2.2.1
  have f1 := H.1.1
  have f2 := H.1.2.1
  have f3 := H.1.2.2.1
  have M0 := qMdl_q H X (qFp_0 (v := qj 0))
  have MF := M0.1
  have R := M0.2.2.2.2.1
  have hr : qisR 682 := by unfold qisR; omega
  have z0 : qup I 245 0 (qj 0) 245 0 = qj 0 := by rw [qup_at, if_pos rfl]
  unfold rScore
  by_cases h : (0 ≤ z ∧ z < F.1 0 1) ∧ 0 ≤ w ∧ w < F.1 0 0
  · rw [if_pos h]
    obtain ⟨n, rfl⟩ : ∃ n : Nat, z = n := ⟨z.toNat, by omega⟩
    obtain ⟨m, rfl⟩ : ∃ m : Nat, w = m := ⟨w.toNat, by omega⟩
    obtain ⟨J, k1, k2⟩ := m229 (d := d - 1) (g := g) (p := n) (h := m) (by omega) hr MF (qMl_of M0.2.1 X.2.2.2.1.2.2) W R WS M0.2.2.1 WL (by omega) (by omega)
    refine qMQ_inl J (fun Q hQ => b230_0 (by omega) ?_) (qFe_s k2)
    simp (disch := omega) only [qz0, qj_lt, qj_le, qj_eq, qtk, qfk, qbtt, qbft, qbtf, qbff, qIx_z, qj_nat, true_and, and_true, true_implies, false_implies, not_true_eq_false, not_false_eq_true, Bool.true_eq_false, Bool.false_eq_true, qj_sub, qinB_t, qinB_f, q2_e, qj_add, qj_s1, qj_c1, qj_c2, qj_c9, qj_c17, qj_c97, f1, f2]
    refine ⟨_, _, bd0 (by omega) _ _, ?_⟩
    simp (disch := omega) only [qz0, qj_lt, qj_le, qj_eq, qtk, qfk, qbtt, qbft, qbtf, qbff, qIx_z, qj_nat, true_and, and_true, true_implies, false_implies, not_true_eq_false, not_false_eq_true, Bool.true_eq_false, Bool.false_eq_true, qj_sub, qinB_t, qinB_f, q2_e, qj_add, qj_s1, qj_c1, qj_c2, qj_c9, qj_c17, qj_c97]
    exact ⟨_, _, k1, hQ⟩
  · rw [if_neg h]
    by_cases h2 : 0 ≤ z ∧ z < F.1 0 1
    · skip
      refine qMQ_0 fun Q hQ => b230_0 (by omega) ?_
      simp (disch := omega) only [qz0, qj_lt, qj_le, qj_eq, qtk, qfk, qbtt, qbft, qbtf, qbff, qIx_z, qj_nat, true_and, and_true, true_implies, false_implies, not_true_eq_false, not_false_eq_true, Bool.true_eq_false, Bool.false_eq_true, qj_sub, qinB_t, qinB_f, q2_e, qj_add, qj_s1, qj_c1, qj_c2, qj_c9, qj_c17, qj_c97, f1, f2]
      refine ⟨_, _, bd10 (by omega) H, ?_⟩
      simp (disch := omega) only [qz0, qj_lt, qj_le, qj_eq, qtk, qfk, qbtt, qbft, qbtf, qbff, qIx_z, qj_nat, true_and, and_true, true_implies, false_implies, not_true_eq_false, not_false_eq_true, Bool.true_eq_false, Bool.false_eq_true, qj_sub, qinB_t, qinB_f, q2_e, qj_add, qj_s1, qj_c1, qj_c2, qj_c9, qj_c17, qj_c97]
      exact hQ
    · skip
      refine qMQ_0 fun Q hQ => b230_0 (by omega) ?_
      simp (disch := omega) only [qz0, qj_lt, qj_le, qj_eq, qtk, qfk, qbtt, qbft, qbtf, qbff, qIx_z, qj_nat, true_and, and_true, true_implies, false_implies, not_true_eq_false, not_false_eq_true, Bool.true_eq_false, Bool.false_eq_true, qj_sub, qinB_t, qinB_f, q2_e, qj_add, qj_s1, qj_c1, qj_c2, qj_c9, qj_c17, qj_c97, f1, f2]
      refine ⟨_, _, bd10 (by omega) H, ?_⟩
      simp (disch := omega) only [qz0, qj_lt, qj_le, qj_eq, qtk, qfk, qbtt, qbft, qbtf, qbff, qIx_z, qj_nat, true_and, and_true, true_implies, false_implies, not_true_eq_false, not_false_eq_true, Bool.true_eq_false, Bool.false_eq_true, qj_sub, qinB_t, qinB_f, q2_e, qj_add, qj_s1, qj_c1, qj_c2, qj_c9, qj_c17, qj_c97]
      exact hQ
theorem r233 (hd : 6 ≤ d) (X : qAbs F L B S S0 Im C T) (H : qMdl I F L B S S0 Im C T P) {z : Int} (hz : -2147483648 ≤ z ∧ z < 2147483648) : qMQ d 233 [.ref 245, .int (qj z)] g I 1 C (rChs F L S z) := by
  have W := X.1
  have WL := X.2.1
  have WS := X.2.2.2.1.1
  have hy : S.1 0 0 ≤ 1000 := Nat.le_trans X.2.2.2.1.2.1 (by decide)
  have h9 := W.1
  have h8 := W.2.1
  have w3 := W.2.2.1
  have f1 := H.1.1
  have f2 := H.1.2.1
  have f3 := H.1.2.2.1
  have M0 := qMdl_q H X (qFp_0 (v := qj 0))
  have MF := M0.1
  have R := M0.2.2.2.2.1
  have hr : qisR 682 := by unfold qisR; omega
  have z0 : qup I 245 0 (qj 0) 245 0 = qj 0 := by rw [qup_at, if_pos rfl]
  unfold rChs
  by_cases h : 0 ≤ z ∧ z < F.1 0 1
  · rw [if_pos h]
    obtain ⟨n, rfl⟩ : ∃ n : Nat, z = n := ⟨z.toNat, by omega⟩
    obtain ⟨J, k1, k2⟩ := m232 (d := d - 1) (g := g) (p := n) (by omega) hr MF (qMl_of M0.2.1 X.2.2.2.1.2.2) W R WS hy M0.2.2.1 WL (by omega)
    refine qMQ_inl J (fun Q hQ => b233_0 (by omega) ?_) (qFe_s k2)
    simp (disch := omega) only [qz0, qj_lt, qj_le, qj_eq, qtk, qfk, qbtt, qbft, qbtf, qbff, qIx_z, qj_nat, true_and, and_true, true_implies, false_implies, not_true_eq_false, not_false_eq_true, Bool.true_eq_false, Bool.false_eq_true, qj_sub, qinB_t, qinB_f, q2_e, qj_add, qj_s1, qj_c1, qj_c2, qj_c9, qj_c17, qj_c97, f2]
    refine ⟨_, _, bd0 (by omega) _ _, ?_⟩
    simp (disch := omega) only [qz0, qj_lt, qj_le, qj_eq, qtk, qfk, qbtt, qbft, qbtf, qbff, qIx_z, qj_nat, true_and, and_true, true_implies, false_implies, not_true_eq_false, not_false_eq_true, Bool.true_eq_false, Bool.false_eq_true, qj_sub, qinB_t, qinB_f, q2_e, qj_add, qj_s1, qj_c1, qj_c2, qj_c9, qj_c17, qj_c97]
    exact ⟨_, _, k1, hQ⟩
  · rw [if_neg h]
    refine qMQ_0 fun Q hQ => b233_0 (by omega) ?_
    simp (disch := omega) only [qz0, qj_lt, qj_le, qj_eq, qtk, qfk, qbtt, qbft, qbtf, qbff, qIx_z, qj_nat, true_and, and_true, true_implies, false_implies, not_true_eq_false, not_false_eq_true, Bool.true_eq_false, Bool.false_eq_true, qj_sub, qinB_t, qinB_f, q2_e, qj_add, qj_s1, qj_c1, qj_c2, qj_c9, qj_c17, qj_c97, f2]
    refine ⟨_, _, bd10 (by omega) H, ?_⟩
    simp (disch := omega) only [qz0, qj_lt, qj_le, qj_eq, qtk, qfk, qbtt, qbft, qbtf, qbff, qIx_z, qj_nat, true_and, and_true, true_implies, false_implies, not_true_eq_false, not_false_eq_true, Bool.true_eq_false, Bool.false_eq_true, qj_sub, qinB_t, qinB_f, q2_e, qj_add, qj_s1, qj_c1, qj_c2, qj_c9, qj_c17, qj_c97]
    exact hQ
theorem r241 (hd : 3 ≤ d) (X : qAbs F L B S S0 Im C T) (H : qMdl I F L B S S0 Im C T P) {z w : Int} (hz : -2147483648 ≤ z ∧ z < 2147483648) (hw : -2147483648 ≤ w ∧ w < 2147483648) : qMQ d 241 [.ref 245, .int (qj z), .int (qj w)] g I 1 C (rSnc F S z w) := by
  have W := X.1
  have WL := X.2.1
  have WS := X.2.2.2.1.1
  have hy : S.1 0 0 ≤ 1000 := Nat.le_trans X.2.2.2.1.2.1 (by decide)
  have h9 := W.1
  have h8 := W.2.1
  have w3 := W.2.2.1
  have f1 := H.1.1
  have f2 := H.1.2.1
  have f3 := H.1.2.2.1
  have M0 := qMdl_q H X (qFp_0 (v := qj 0))
  have MF := M0.1
  have R := M0.2.2.2.2.1
  have hr : qisR 682 := by unfold qisR; omega
  have z0 : qup I 245 0 (qj 0) 245 0 = qj 0 := by rw [qup_at, if_pos rfl]
  unfold rSnc
  by_cases h : (0 ≤ z ∧ z < F.1 0 0) ∧ 0 ≤ w ∧ w < F.1 0 1
  · rw [if_pos h]
    obtain ⟨n, rfl⟩ : ∃ n : Nat, z = n := ⟨z.toNat, by omega⟩
    obtain ⟨m, rfl⟩ : ∃ m : Nat, w = m := ⟨w.toNat, by omega⟩
    have s5 := R.2.2.2.2.1 n m (by omega) (by omega)
    refine qMQ_inl _ (fun Q hQ => b241_0 (by omega) ?_) qFe_rf
    simp (disch := omega) only [qz0, qj_lt, qj_le, qj_eq, qtk, qfk, qbtt, qbft, qbtf, qbff, qIx_z, qj_nat, true_and, and_true, true_implies, false_implies, not_true_eq_false, not_false_eq_true, Bool.true_eq_false, Bool.false_eq_true, qj_sub, qinB_t, qinB_f, q2_e, qj_add, qj_s1, qj_c1, qj_c2, qj_c9, qj_c17, qj_c97, f1, f2]
    refine ⟨_, _, bd0 (by omega) _ _, ?_⟩
    simp (disch := omega) only [qz0, qj_lt, qj_le, qj_eq, qtk, qfk, qbtt, qbft, qbtf, qbff, qIx_z, qj_nat, true_and, and_true, true_implies, false_implies, not_true_eq_false, not_false_eq_true, Bool.true_eq_false, Bool.false_eq_true, qj_sub, qinB_t, qinB_f, q2_e, qj_add, qj_s1, qj_c1, qj_c2, qj_c9, qj_c17, qj_c97]
    simp (disch := omega) only [qz0, qj_lt, qj_le, qj_eq, qtk, qfk, qbtt, qbft, qbtf, qbff, qIx_z, qj_nat, true_and, and_true, true_implies, false_implies, not_true_eq_false, not_false_eq_true, Bool.true_eq_false, Bool.false_eq_true, qj_sub, qinB_t, qinB_f, q2_e, qj_add, qj_s1, qj_c1, qj_c2, qj_c9, qj_c17, qj_c97, qj_mul, qj_c25, s5]
    exact hQ
  · rw [if_neg h]
    by_cases h2 : 0 ≤ z ∧ z < F.1 0 0
    · skip
      refine qMQ_0 fun Q hQ => b241_0 (by omega) ?_
      simp (disch := omega) only [qz0, qj_lt, qj_le, qj_eq, qtk, qfk, qbtt, qbft, qbtf, qbff, qIx_z, qj_nat, true_and, and_true, true_implies, false_implies, not_true_eq_false, not_false_eq_true, Bool.true_eq_false, Bool.false_eq_true, qj_sub, qinB_t, qinB_f, q2_e, qj_add, qj_s1, qj_c1, qj_c2, qj_c9, qj_c17, qj_c97, f1, f2]
      refine ⟨_, _, bd10 (by omega) H, ?_⟩
      simp (disch := omega) only [qz0, qj_lt, qj_le, qj_eq, qtk, qfk, qbtt, qbft, qbtf, qbff, qIx_z, qj_nat, true_and, and_true, true_implies, false_implies, not_true_eq_false, not_false_eq_true, Bool.true_eq_false, Bool.false_eq_true, qj_sub, qinB_t, qinB_f, q2_e, qj_add, qj_s1, qj_c1, qj_c2, qj_c9, qj_c17, qj_c97]
      exact hQ
    · skip
      refine qMQ_0 fun Q hQ => b241_0 (by omega) ?_
      simp (disch := omega) only [qz0, qj_lt, qj_le, qj_eq, qtk, qfk, qbtt, qbft, qbtf, qbff, qIx_z, qj_nat, true_and, and_true, true_implies, false_implies, not_true_eq_false, not_false_eq_true, Bool.true_eq_false, Bool.false_eq_true, qj_sub, qinB_t, qinB_f, q2_e, qj_add, qj_s1, qj_c1, qj_c2, qj_c9, qj_c17, qj_c97, f1, f2]
      refine ⟨_, _, bd10 (by omega) H, ?_⟩
      simp (disch := omega) only [qz0, qj_lt, qj_le, qj_eq, qtk, qfk, qbtt, qbft, qbtf, qbff, qIx_z, qj_nat, true_and, and_true, true_implies, false_implies, not_true_eq_false, not_false_eq_true, Bool.true_eq_false, Bool.false_eq_true, qj_sub, qinB_t, qinB_f, q2_e, qj_add, qj_s1, qj_c1, qj_c2, qj_c9, qj_c17, qj_c97]
      exact hQ
theorem r242 (hd : 3 ≤ d) (X : qAbs F L B S S0 Im C T) (H : qMdl I F L B S S0 Im C T P) {z : Int} (hz : -2147483648 ≤ z ∧ z < 2147483648) : qMQ d 242 [.ref 245, .int (qj z)] g I 1 C (rCho F S z) := by
  have W := X.1
  have WL := X.2.1
  have WS := X.2.2.2.1.1
  have hy : S.1 0 0 ≤ 1000 := Nat.le_trans X.2.2.2.1.2.1 (by decide)
  have h9 := W.1
  have h8 := W.2.1
  have w3 := W.2.2.1
  have f1 := H.1.1
  have f2 := H.1.2.1
  have f3 := H.1.2.2.1
  have M0 := qMdl_q H X (qFp_0 (v := qj 0))
  have MF := M0.1
  have R := M0.2.2.2.2.1
  have hr : qisR 682 := by unfold qisR; omega
  have z0 : qup I 245 0 (qj 0) 245 0 = qj 0 := by rw [qup_at, if_pos rfl]
  unfold rCho
  by_cases h : 0 ≤ z ∧ z < F.1 0 0
  · rw [if_pos h]
    obtain ⟨n, rfl⟩ : ∃ n : Nat, z = n := ⟨z.toNat, by omega⟩
    have s6 := R.2.2.2.2.2.1 n (by omega)
    refine qMQ_inl _ (fun Q hQ => b242_0 (by omega) ?_) qFe_rf
    simp (disch := omega) only [qz0, qj_lt, qj_le, qj_eq, qtk, qfk, qbtt, qbft, qbtf, qbff, qIx_z, qj_nat, true_and, and_true, true_implies, false_implies, not_true_eq_false, not_false_eq_true, Bool.true_eq_false, Bool.false_eq_true, qj_sub, qinB_t, qinB_f, q2_e, qj_add, qj_s1, qj_c1, qj_c2, qj_c9, qj_c17, qj_c97, f1]
    refine ⟨_, _, bd0 (by omega) _ _, ?_⟩
    simp (disch := omega) only [qz0, qj_lt, qj_le, qj_eq, qtk, qfk, qbtt, qbft, qbtf, qbff, qIx_z, qj_nat, true_and, and_true, true_implies, false_implies, not_true_eq_false, not_false_eq_true, Bool.true_eq_false, Bool.false_eq_true, qj_sub, qinB_t, qinB_f, q2_e, qj_add, qj_s1, qj_c1, qj_c2, qj_c9, qj_c17, qj_c97, s6]
    exact hQ
  · rw [if_neg h]
    refine qMQ_0 fun Q hQ => b242_0 (by omega) ?_
    simp (disch := omega) only [qz0, qj_lt, qj_le, qj_eq, qtk, qfk, qbtt, qbft, qbtf, qbff, qIx_z, qj_nat, true_and, and_true, true_implies, false_implies, not_true_eq_false, not_false_eq_true, Bool.true_eq_false, Bool.false_eq_true, qj_sub, qinB_t, qinB_f, q2_e, qj_add, qj_s1, qj_c1, qj_c2, qj_c9, qj_c17, qj_c97, f1]
    refine ⟨_, _, bd10 (by omega) H, ?_⟩
    simp (disch := omega) only [qz0, qj_lt, qj_le, qj_eq, qtk, qfk, qbtt, qbft, qbtf, qbff, qIx_z, qj_nat, true_and, and_true, true_implies, false_implies, not_true_eq_false, not_false_eq_true, Bool.true_eq_false, Bool.false_eq_true, qj_sub, qinB_t, qinB_f, q2_e, qj_add, qj_s1, qj_c1, qj_c2, qj_c9, qj_c17, qj_c97]
    exact hQ
theorem r243 (hd : 7 ≤ d) (X : qAbs F L B S S0 Im C T) (H : qMdl I F L B S S0 Im C T P) {z w : Int} (hz : -2147483648 ≤ z ∧ z < 2147483648) (hw : -2147483648 ≤ w ∧ w < 2147483648) : qMQ d 243 [.ref 245, .int (qj z), .int (qj w)] g I 2 C (rAhd F L S z w) := by
  have W := X.1
  have WL := X.2.1
  have WS := X.2.2.2.1.1
  have hy : S.1 0 0 ≤ 1000 := Nat.le_trans X.2.2.2.1.2.1 (by decide)
  have h9 := W.1
  have h8 := W.2.1
  have w3 := W.2.2.1
  have f1 := H.1.1
  have f2 := H.1.2.1
  have f3 := H.1.2.2.1
  have M0 := qMdl_q H X (qFp_0 (v := qj 0))
  have MF := M0.1
  have R := M0.2.2.2.2.1
  have hr : qisR 682 := by unfold qisR; omega
  have z0 : qup I 245 0 (qj 0) 245 0 = qj 0 := by rw [qup_at, if_pos rfl]
  unfold rAhd
  by_cases h : 0 ≤ z ∧ z < F.1 0 1
  · rw [if_pos h]
    obtain ⟨n, rfl⟩ : ∃ n : Nat, z = n := ⟨z.toNat, by omega⟩
    by_cases h2 : 0 ≤ w ∧ w ≤ 60
    · rw [if_pos h2]
      obtain ⟨m, rfl⟩ : ∃ m : Nat, w = m := ⟨w.toNat, by omega⟩
      have hyy := X.2.2.2.1.2.1
      have key : ∀ i, i ≤ m → ∀ J, qMS F J 685 (itr (aYear F L) i S) → qWS F (itr (aYear F L) i S) → (itr (aYear F L) i S).1 0 0 = S.1 0 0 + i → (∀ k, k < F.1 0 0 → (itr (aYear F L) i S).1 1 k = F.1 1 k) → qFe (qup I 245 0 (qj 0)) J →
          ∃ I', qFe (qup I 245 0 (qj 0)) I' ∧ ∀ Q : qR → Prop, Q (.inl (some (.int (qj (bm 9 (fun h => (itr (aYear F L) m S).2.1 h n) : Nat))), qw g I')) → qwq d 243 66 [(0, .ref 245), (1, .int (qj n)), (2, .int (qj m)), (3, .int (qj i))] [] (qw g J) Q := by
        refine upto _ (fun J h1 h2 h3 h5 h4 => ⟨J, h4, fun Q hQ => b243_66 (by omega) ?_⟩) (fun i hi ih J h1 h2 h3 h5 h4 => ?_)
        · have s2 := h1.2.1 n (by omega)
          simp (disch := omega) only [qz0, qj_lt, qj_le, qj_eq, qtk, qfk, qbtt, qbft, qbtf, qbff, qIx_z, qj_nat, true_and, and_true, true_implies, false_implies, not_true_eq_false, not_false_eq_true, Bool.true_eq_false, Bool.false_eq_true, qj_sub, qinB_t, qinB_f, q2_e, qj_add, qj_s1, qj_c1, qj_c2, qj_c9, qj_c17, qj_c97, s2]
          exact hQ
        · obtain ⟨J', k1, k2, k3, k4, k5, k6⟩ := tr1 (d := d - 1) (by omega) X H (Or.inl rfl) h1 h2 (by omega) h5 h4
          obtain ⟨I', r1, r2⟩ := ih J' k2 k4 (by show (aYear F L (itr (aYear F L) i S)).1 0 0 = _; omega) k6 k3
          refine ⟨I', r1, fun Q hQ => b243_66 (by omega) ?_⟩
          simp (disch := omega) only [qz0, qj_lt, qj_le, qj_eq, qtk, qfk, qbtt, qbft, qbtf, qbff, qIx_z, qj_nat, true_and, and_true, true_implies, false_implies, not_true_eq_false, not_false_eq_true, Bool.true_eq_false, Bool.false_eq_true, qj_sub, qinB_t, qinB_f, q2_e, qj_add, qj_s1, qj_c1, qj_c2, qj_c9, qj_c17, qj_c97]
          exact ⟨_, k1, r2 Q hQ⟩
      obtain ⟨J, k1, k2, k3⟩ := tr0 (d := d - 1) (g := g) (by omega) X H
      obtain ⟨I', r1, r2⟩ := key 0 (Nat.zero_le _) J k2 WS rfl X.2.2.2.1.2.2 k3
      refine qMQ_inl I' (fun Q hQ => b243_0 (by omega) ?_) r1
      simp (disch := omega) only [qz0, qj_lt, qj_le, qj_eq, qtk, qfk, qbtt, qbft, qbtf, qbff, qIx_z, qj_nat, true_and, and_true, true_implies, false_implies, not_true_eq_false, not_false_eq_true, Bool.true_eq_false, Bool.false_eq_true, qj_sub, qinB_t, qinB_f, q2_e, qj_add, qj_s1, qj_c1, qj_c2, qj_c9, qj_c17, qj_c97, f2]
      refine ⟨_, _, bd0 (by omega) _ _, ?_⟩
      simp (disch := omega) only [qz0, qj_lt, qj_le, qj_eq, qtk, qfk, qbtt, qbft, qbtf, qbff, qIx_z, qj_nat, true_and, and_true, true_implies, false_implies, not_true_eq_false, not_false_eq_true, Bool.true_eq_false, Bool.false_eq_true, qj_sub, qinB_t, qinB_f, q2_e, qj_add, qj_s1, qj_c1, qj_c2, qj_c9, qj_c17, qj_c97]
      refine ⟨_, _, bd0 (by omega) _ _, ?_⟩
      simp (disch := omega) only [qz0, qj_lt, qj_le, qj_eq, qtk, qfk, qbtt, qbft, qbtf, qbff, qIx_z, qj_nat, true_and, and_true, true_implies, false_implies, not_true_eq_false, not_false_eq_true, Bool.true_eq_false, Bool.false_eq_true, qj_sub, qinB_t, qinB_f, q2_e, qj_add, qj_s1, qj_c1, qj_c2, qj_c9, qj_c17, qj_c97]
      exact ⟨_, k1, r2 Q hQ⟩
    · rw [if_neg h2]
      refine qMQ_2 fun Q hQ => b243_0 (by omega) ?_
      simp (disch := omega) only [qz0, qj_lt, qj_le, qj_eq, qtk, qfk, qbtt, qbft, qbtf, qbff, qIx_z, qj_nat, true_and, and_true, true_implies, false_implies, not_true_eq_false, not_false_eq_true, Bool.true_eq_false, Bool.false_eq_true, qj_sub, qinB_t, qinB_f, q2_e, qj_add, qj_s1, qj_c1, qj_c2, qj_c9, qj_c17, qj_c97, f2]
      refine ⟨_, _, bd0 (by omega) _ _, ?_⟩
      simp (disch := omega) only [qz0, qj_lt, qj_le, qj_eq, qtk, qfk, qbtt, qbft, qbtf, qbff, qIx_z, qj_nat, true_and, and_true, true_implies, false_implies, not_true_eq_false, not_false_eq_true, Bool.true_eq_false, Bool.false_eq_true, qj_sub, qinB_t, qinB_f, q2_e, qj_add, qj_s1, qj_c1, qj_c2, qj_c9, qj_c17, qj_c97, f2]
      refine ⟨_, _, bd21 (by omega) H, ?_⟩
      simp (disch := omega) only [qz0, qj_lt, qj_le, qj_eq, qtk, qfk, qbtt, qbft, qbtf, qbff, qIx_z, qj_nat, true_and, and_true, true_implies, false_implies, not_true_eq_false, not_false_eq_true, Bool.true_eq_false, Bool.false_eq_true, qj_sub, qinB_t, qinB_f, q2_e, qj_add, qj_s1, qj_c1, qj_c2, qj_c9, qj_c17, qj_c97]
      exact hQ
  · rw [if_neg h]
    refine qMQ_0 fun Q hQ => b243_0 (by omega) ?_
    simp (disch := omega) only [qz0, qj_lt, qj_le, qj_eq, qtk, qfk, qbtt, qbft, qbtf, qbff, qIx_z, qj_nat, true_and, and_true, true_implies, false_implies, not_true_eq_false, not_false_eq_true, Bool.true_eq_false, Bool.false_eq_true, qj_sub, qinB_t, qinB_f, q2_e, qj_add, qj_s1, qj_c1, qj_c2, qj_c9, qj_c17, qj_c97, f2]
    refine ⟨_, _, bd10 (by omega) H, ?_⟩
    simp (disch := omega) only [qz0, qj_lt, qj_le, qj_eq, qtk, qfk, qbtt, qbft, qbtf, qbff, qIx_z, qj_nat, true_and, and_true, true_implies, false_implies, not_true_eq_false, not_false_eq_true, Bool.true_eq_false, Bool.false_eq_true, qj_sub, qinB_t, qinB_f, q2_e, qj_add, qj_s1, qj_c1, qj_c2, qj_c9, qj_c17, qj_c97]
    exact hQ
theorem r244 (hd : 7 ≤ d) (X : qAbs F L B S S0 Im C T) (H : qMdl I F L B S S0 Im C T P) {z w : Int} (hz : -2147483648 ≤ z ∧ z < 2147483648) (hw : -2147483648 ≤ w ∧ w < 2147483648) : qMQ d 244 [.ref 245, .int (qj z), .int (qj w)] g I 1 C (rWhn F L S z w) := by
  have W := X.1
  have WL := X.2.1
  have WS := X.2.2.2.1.1
  have hy : S.1 0 0 ≤ 1000 := Nat.le_trans X.2.2.2.1.2.1 (by decide)
  have h9 := W.1
  have h8 := W.2.1
  have w3 := W.2.2.1
  have f1 := H.1.1
  have f2 := H.1.2.1
  have f3 := H.1.2.2.1
  have M0 := qMdl_q H X (qFp_0 (v := qj 0))
  have MF := M0.1
  have R := M0.2.2.2.2.1
  have hr : qisR 682 := by unfold qisR; omega
  have z0 : qup I 245 0 (qj 0) 245 0 = qj 0 := by rw [qup_at, if_pos rfl]
  unfold rWhn
  by_cases h : (0 ≤ z ∧ z < F.1 0 0) ∧ 0 ≤ w ∧ w < F.1 0 1
  · rw [if_pos h]
    obtain ⟨n, rfl⟩ : ∃ n : Nat, z = n := ⟨z.toNat, by omega⟩
    obtain ⟨m, rfl⟩ : ∃ m : Nat, w = m := ⟨w.toNat, by omega⟩
    have hyy := X.2.2.2.1.2.1
    let q : qSt → Bool := fun T => T.2.1 n m
    have key : ∀ i, i ≤ 60 → ∀ U J, qMS F J 685 U → qWS F U → U.1 0 0 = S.1 0 0 + i → (∀ k, k < F.1 0 0 → U.1 1 k = F.1 1 k) → qFe (qup I 245 0 (qj 0)) J → aWh F L q (60 - i) U = aWh F L q 60 S →
        ∃ I', qFe (qup I 245 0 (qj 0)) I' ∧ ∀ Q : qR → Prop, Q (.inl (some (.int (qj (aWh F L q 60 S))), qw g I')) → qwq d 244 50 [(0, .ref 245), (1, .int (qj n)), (2, .int (qj m)), (3, .int (qj i))] [] (qw g J) Q := by
      refine upto _ (fun U J h1 h2 h3 h6 h4 h5 => ⟨J, h4, fun Q hQ => b244_50 (by omega) ?_⟩) (fun i hi ih U J h1 h2 h3 h6 h4 h5 => ?_)
      · rw [← h5] at hQ
        simp (disch := omega) only [qz0, qj_lt, qj_le, qj_eq, qtk, qfk, qbtt, qbft, qbtf, qbff, qIx_z, qj_nat, true_and, and_true, true_implies, false_implies, not_true_eq_false, not_false_eq_true, Bool.true_eq_false, Bool.false_eq_true, qj_sub, qinB_t, qinB_f, q2_e, qj_add, qj_s1, qj_c1, qj_c2, qj_c9, qj_c17, qj_c97]
        exact hQ
      · obtain ⟨J', k1, k2, k3, k4, k5, k6⟩ := tr1 (d := d - 1) (by omega) X H (Or.inl rfl) h1 h2 (by omega) h6 h4
        have s2 := k2.2.1 m (by omega)
        have s1 := k2.2.2.2.2.2.2
        have e5 : aWh F L q (60 - i) U = if q (aYear F L U) = true then ((aYear F L U).1 0 0 : Int) else aWh F L q (60 - (i + 1)) (aYear F L U) := by rw [show 60 - i = 60 - (i + 1) + 1 by omega]; rfl
        cases hq : q (aYear F L U) with
        | true =>
          refine ⟨J', k3, fun Q hQ => b244_50 (by omega) ?_⟩
          rw [← h5, e5, hq, if_pos rfl] at hQ
          have hq' : (aYear F L U).2.1 n m = true := hq
          simp (disch := omega) only [qz0, qj_lt, qj_le, qj_eq, qtk, qfk, qbtt, qbft, qbtf, qbff, qIx_z, qj_nat, true_and, and_true, true_implies, false_implies, not_true_eq_false, not_false_eq_true, Bool.true_eq_false, Bool.false_eq_true, qj_sub, qinB_t, qinB_f, q2_e, qj_add, qj_s1, qj_c1, qj_c2, qj_c9, qj_c17, qj_c97]
          refine ⟨_, k1, ?_⟩
          simp (disch := omega) only [qz0, qj_lt, qj_le, qj_eq, qtk, qfk, qbtt, qbft, qbtf, qbff, qIx_z, qj_nat, true_and, and_true, true_implies, false_implies, not_true_eq_false, not_false_eq_true, Bool.true_eq_false, Bool.false_eq_true, qj_sub, qinB_t, qinB_f, q2_e, qj_add, qj_s1, qj_c1, qj_c2, qj_c9, qj_c17, qj_c97, s2, qhas_bm, hq', s1]
          exact hQ
        | false =>
          rw [e5, hq, if_neg Bool.false_ne_true] at h5
          obtain ⟨I', r1, r2⟩ := ih _ J' k2 k4 (by omega) k6 k3 h5
          refine ⟨I', r1, fun Q hQ => b244_50 (by omega) ?_⟩
          have hq' : (aYear F L U).2.1 n m = false := hq
          simp (disch := omega) only [qz0, qj_lt, qj_le, qj_eq, qtk, qfk, qbtt, qbft, qbtf, qbff, qIx_z, qj_nat, true_and, and_true, true_implies, false_implies, not_true_eq_false, not_false_eq_true, Bool.true_eq_false, Bool.false_eq_true, qj_sub, qinB_t, qinB_f, q2_e, qj_add, qj_s1, qj_c1, qj_c2, qj_c9, qj_c17, qj_c97]
          refine ⟨_, k1, ?_⟩
          simp (disch := omega) only [qz0, qj_lt, qj_le, qj_eq, qtk, qfk, qbtt, qbft, qbtf, qbff, qIx_z, qj_nat, true_and, and_true, true_implies, false_implies, not_true_eq_false, not_false_eq_true, Bool.true_eq_false, Bool.false_eq_true, qj_sub, qinB_t, qinB_f, q2_e, qj_add, qj_s1, qj_c1, qj_c2, qj_c9, qj_c17, qj_c97, s2, qhas_bm, hq']
          exact r2 Q hQ
    obtain ⟨J, k1, k2, k3⟩ := tr0 (d := d - 1) (g := g) (by omega) X H
    obtain ⟨I', r1, r2⟩ := key 0 (Nat.zero_le _) S J k2 WS rfl X.2.2.2.1.2.2 k3 rfl
    refine qMQ_inl I' (fun Q hQ => b244_0 (by omega) ?_) r1
    simp (disch := omega) only [qz0, qj_lt, qj_le, qj_eq, qtk, qfk, qbtt, qbft, qbtf, qbff, qIx_z, qj_nat, true_and, and_true, true_implies, false_implies, not_true_eq_false, not_false_eq_true, Bool.true_eq_false, Bool.false_eq_true, qj_sub, qinB_t, qinB_f, q2_e, qj_add, qj_s1, qj_c1, qj_c2, qj_c9, qj_c17, qj_c97, f1, f2]
    refine ⟨_, _, bd0 (by omega) _ _, ?_⟩
    simp (disch := omega) only [qz0, qj_lt, qj_le, qj_eq, qtk, qfk, qbtt, qbft, qbtf, qbff, qIx_z, qj_nat, true_and, and_true, true_implies, false_implies, not_true_eq_false, not_false_eq_true, Bool.true_eq_false, Bool.false_eq_true, qj_sub, qinB_t, qinB_f, q2_e, qj_add, qj_s1, qj_c1, qj_c2, qj_c9, qj_c17, qj_c97]
    exact ⟨_, k1, r2 Q hQ⟩
  · rw [if_neg h]
    by_cases h2 : 0 ≤ z ∧ z < F.1 0 0
    · skip
      refine qMQ_0 fun Q hQ => b244_0 (by omega) ?_
      simp (disch := omega) only [qz0, qj_lt, qj_le, qj_eq, qtk, qfk, qbtt, qbft, qbtf, qbff, qIx_z, qj_nat, true_and, and_true, true_implies, false_implies, not_true_eq_false, not_false_eq_true, Bool.true_eq_false, Bool.false_eq_true, qj_sub, qinB_t, qinB_f, q2_e, qj_add, qj_s1, qj_c1, qj_c2, qj_c9, qj_c17, qj_c97, f1, f2]
      refine ⟨_, _, bd10 (by omega) H, ?_⟩
      simp (disch := omega) only [qz0, qj_lt, qj_le, qj_eq, qtk, qfk, qbtt, qbft, qbtf, qbff, qIx_z, qj_nat, true_and, and_true, true_implies, false_implies, not_true_eq_false, not_false_eq_true, Bool.true_eq_false, Bool.false_eq_true, qj_sub, qinB_t, qinB_f, q2_e, qj_add, qj_s1, qj_c1, qj_c2, qj_c9, qj_c17, qj_c97]
      exact hQ
    · skip
      refine qMQ_0 fun Q hQ => b244_0 (by omega) ?_
      simp (disch := omega) only [qz0, qj_lt, qj_le, qj_eq, qtk, qfk, qbtt, qbft, qbtf, qbff, qIx_z, qj_nat, true_and, and_true, true_implies, false_implies, not_true_eq_false, not_false_eq_true, Bool.true_eq_false, Bool.false_eq_true, qj_sub, qinB_t, qinB_f, q2_e, qj_add, qj_s1, qj_c1, qj_c2, qj_c9, qj_c17, qj_c97, f1, f2]
      refine ⟨_, _, bd10 (by omega) H, ?_⟩
      simp (disch := omega) only [qz0, qj_lt, qj_le, qj_eq, qtk, qfk, qbtt, qbft, qbtf, qbff, qIx_z, qj_nat, true_and, and_true, true_implies, false_implies, not_true_eq_false, not_false_eq_true, Bool.true_eq_false, Bool.false_eq_true, qj_sub, qinB_t, qinB_f, q2_e, qj_add, qj_s1, qj_c1, qj_c2, qj_c9, qj_c17, qj_c97]
      exact hQ
theorem r245 (hd : 63 ≤ d) (X : qAbs F L B S S0 Im C T) (H : qMdl I F L B S S0 Im C T P) {z : Int} (hz : -2147483648 ≤ z ∧ z < 2147483648) : qMQ d 245 [.ref 245, .int (qj z)] g I 1 C (rLst F L S z) := by
  have W := X.1
  have WL := X.2.1
  have WS := X.2.2.2.1.1
  have hy : S.1 0 0 ≤ 1000 := Nat.le_trans X.2.2.2.1.2.1 (by decide)
  have h9 := W.1
  have h8 := W.2.1
  have w3 := W.2.2.1
  have f1 := H.1.1
  have f2 := H.1.2.1
  have f3 := H.1.2.2.1
  have M0 := qMdl_q H X (qFp_0 (v := qj 0))
  have MF := M0.1
  have R := M0.2.2.2.2.1
  have hr : qisR 682 := by unfold qisR; omega
  have z0 : qup I 245 0 (qj 0) 245 0 = qj 0 := by rw [qup_at, if_pos rfl]
  unfold rLst
  have hr5 : qisR 685 := by unfold qisR; omega
  by_cases h : 0 ≤ z ∧ z < F.1 0 2
  · rw [if_pos h]
    obtain ⟨n, rfl⟩ : ∃ n : Nat, z = n := ⟨z.toNat, by omega⟩
    have hyy := X.2.2.2.1.2.1
    let q : qSt → Bool := fun T => !aPld F T (aAlv F T) n
    have key : ∀ i, i ≤ 60 → ∀ U J, qMS F J 685 U → qWS F U → U.1 0 0 = S.1 0 0 + i → (∀ k, k < F.1 0 0 → U.1 1 k = F.1 1 k) → qFe (qup I 245 0 (qj 0)) J → aWh F L q (60 - i) U = aWh F L q 60 S →
        ∃ I', qFe (qup I 245 0 (qj 0)) I' ∧ ∀ Q : qR → Prop, Q (.inl (some (.int (qj (aWh F L q 60 S))), qw g I')) → qwq d 245 42 [(0, .ref 245), (1, .int (qj n)), (2, .int (qj i))] [] (qw g J) Q := by
      refine upto _ (fun U J h1 h2 h3 h6 h4 h5 => ⟨J, h4, fun Q hQ => b245_42 (by omega) ?_⟩) (fun i hi ih U J h1 h2 h3 h6 h4 h5 => ?_)
      · rw [← h5] at hQ
        simp (disch := omega) only [qz0, qj_lt, qj_le, qj_eq, qtk, qfk, qbtt, qbft, qbtf, qbff, qIx_z, qj_nat, true_and, and_true, true_implies, false_implies, not_true_eq_false, not_false_eq_true, Bool.true_eq_false, Bool.false_eq_true, qj_sub, qinB_t, qinB_f, q2_e, qj_add, qj_s1, qj_c1, qj_c2, qj_c9, qj_c17, qj_c97]
        exact hQ
      · obtain ⟨J', k1, k2, k3, k4, k5, k6⟩ := tr1 (d := d - 1) (by omega) X H (Or.inl rfl) h1 h2 (by omega) h6 h4
        obtain ⟨J2, e1, e2⟩ := m256 (d := d - 1) (g := g) (a := n) (by omega) hr5 (mAf X H k3).1 k2 W k4 (by omega) (by omega)
        have hJ2 := qFe_tr k3 (qFe_k e2)
        have k22 := qFk_S e2 hr5 k2
        have s1 := k22.2.2.2.2.2.2
        have e5 : aWh F L q (60 - i) U = if q (aYear F L U) = true then ((aYear F L U).1 0 0 : Int) else aWh F L q (60 - (i + 1)) (aYear F L U) := by rw [show 60 - i = 60 - (i + 1) + 1 by omega]; rfl
        cases hq : aPld F (aYear F L U) (aAlv F (aYear F L U)) n with
        | false =>
          have hq' : q (aYear F L U) = true := by show (!aPld F _ _ n) = true; rw [hq]; rfl
          refine ⟨J2, hJ2, fun Q hQ => b245_42 (by omega) ?_⟩
          rw [← h5, e5, if_pos hq'] at hQ
          rw [hq] at e1
          simp (disch := omega) only [qz0, qj_lt, qj_le, qj_eq, qtk, qfk, qbtt, qbft, qbtf, qbff, qIx_z, qj_nat, true_and, and_true, true_implies, false_implies, not_true_eq_false, not_false_eq_true, Bool.true_eq_false, Bool.false_eq_true, qj_sub, qinB_t, qinB_f, q2_e, qj_add, qj_s1, qj_c1, qj_c2, qj_c9, qj_c17, qj_c97]
          refine ⟨_, k1, _, _, e1, ?_⟩
          simp (disch := omega) only [qz0, qj_lt, qj_le, qj_eq, qtk, qfk, qbtt, qbft, qbtf, qbff, qIx_z, qj_nat, true_and, and_true, true_implies, false_implies, not_true_eq_false, not_false_eq_true, Bool.true_eq_false, Bool.false_eq_true, qj_sub, qinB_t, qinB_f, q2_e, qj_add, qj_s1, qj_c1, qj_c2, qj_c9, qj_c17, qj_c97, s1]
          exact hQ
        | true =>
          have hq' : q (aYear F L U) = false := by show (!aPld F _ _ n) = false; rw [hq]; rfl
          rw [e5, hq', if_neg Bool.false_ne_true] at h5
          rw [hq] at e1
          obtain ⟨I', r1, r2⟩ := ih _ J2 k22 k4 (by omega) k6 hJ2 h5
          refine ⟨I', r1, fun Q hQ => b245_42 (by omega) ?_⟩
          simp (disch := omega) only [qz0, qj_lt, qj_le, qj_eq, qtk, qfk, qbtt, qbft, qbtf, qbff, qIx_z, qj_nat, true_and, and_true, true_implies, false_implies, not_true_eq_false, not_false_eq_true, Bool.true_eq_false, Bool.false_eq_true, qj_sub, qinB_t, qinB_f, q2_e, qj_add, qj_s1, qj_c1, qj_c2, qj_c9, qj_c17, qj_c97]
          refine ⟨_, k1, _, _, e1, ?_⟩
          simp (disch := omega) only [qz0, qj_lt, qj_le, qj_eq, qtk, qfk, qbtt, qbft, qbtf, qbff, qIx_z, qj_nat, true_and, and_true, true_implies, false_implies, not_true_eq_false, not_false_eq_true, Bool.true_eq_false, Bool.false_eq_true, qj_sub, qinB_t, qinB_f, q2_e, qj_add, qj_s1, qj_c1, qj_c2, qj_c9, qj_c17, qj_c97]
          exact r2 Q hQ
    obtain ⟨J, k1, k2, k3⟩ := tr0 (d := d - 1) (g := g) (by omega) X H
    obtain ⟨I', r1, r2⟩ := key 0 (Nat.zero_le _) S J k2 WS rfl X.2.2.2.1.2.2 k3 rfl
    refine qMQ_inl I' (fun Q hQ => b245_0 (by omega) ?_) r1
    simp (disch := omega) only [qz0, qj_lt, qj_le, qj_eq, qtk, qfk, qbtt, qbft, qbtf, qbff, qIx_z, qj_nat, true_and, and_true, true_implies, false_implies, not_true_eq_false, not_false_eq_true, Bool.true_eq_false, Bool.false_eq_true, qj_sub, qinB_t, qinB_f, q2_e, qj_add, qj_s1, qj_c1, qj_c2, qj_c9, qj_c17, qj_c97, f3]
    refine ⟨_, _, bd0 (by omega) _ _, ?_⟩
    simp (disch := omega) only [qz0, qj_lt, qj_le, qj_eq, qtk, qfk, qbtt, qbft, qbtf, qbff, qIx_z, qj_nat, true_and, and_true, true_implies, false_implies, not_true_eq_false, not_false_eq_true, Bool.true_eq_false, Bool.false_eq_true, qj_sub, qinB_t, qinB_f, q2_e, qj_add, qj_s1, qj_c1, qj_c2, qj_c9, qj_c17, qj_c97]
    exact ⟨_, k1, r2 Q hQ⟩
  · rw [if_neg h]
    refine qMQ_0 fun Q hQ => b245_0 (by omega) ?_
    simp (disch := omega) only [qz0, qj_lt, qj_le, qj_eq, qtk, qfk, qbtt, qbft, qbtf, qbff, qIx_z, qj_nat, true_and, and_true, true_implies, false_implies, not_true_eq_false, not_false_eq_true, Bool.true_eq_false, Bool.false_eq_true, qj_sub, qinB_t, qinB_f, q2_e, qj_add, qj_s1, qj_c1, qj_c2, qj_c9, qj_c17, qj_c97, f3]
    refine ⟨_, _, bd10 (by omega) H, ?_⟩
    simp (disch := omega) only [qz0, qj_lt, qj_le, qj_eq, qtk, qfk, qbtt, qbft, qbtf, qbff, qIx_z, qj_nat, true_and, and_true, true_implies, false_implies, not_true_eq_false, not_false_eq_true, Bool.true_eq_false, Bool.false_eq_true, qj_sub, qinB_t, qinB_f, q2_e, qj_add, qj_s1, qj_c1, qj_c2, qj_c9, qj_c17, qj_c97]
    exact hQ
theorem r246 (hd : 7 ≤ d) (X : qAbs F L B S S0 Im C T) (H : qMdl I F L B S S0 Im C T P) {z : Int} (hz : -2147483648 ≤ z ∧ z < 2147483648) : qMQ d 246 [.ref 245, .int (qj z)] g I 1 C (rFad F L S z) := by
  have W := X.1
  have WL := X.2.1
  have WS := X.2.2.2.1.1
  have hy : S.1 0 0 ≤ 1000 := Nat.le_trans X.2.2.2.1.2.1 (by decide)
  have h9 := W.1
  have h8 := W.2.1
  have w3 := W.2.2.1
  have f1 := H.1.1
  have f2 := H.1.2.1
  have f3 := H.1.2.2.1
  have M0 := qMdl_q H X (qFp_0 (v := qj 0))
  have MF := M0.1
  have R := M0.2.2.2.2.1
  have hr : qisR 682 := by unfold qisR; omega
  have z0 : qup I 245 0 (qj 0) 245 0 = qj 0 := by rw [qup_at, if_pos rfl]
  unfold rFad
  by_cases h : 0 ≤ z ∧ z < F.1 0 1
  · rw [if_pos h]
    obtain ⟨n, rfl⟩ : ∃ n : Nat, z = n := ⟨z.toNat, by omega⟩
    have hsn := WS.2.2.1 n (by omega)
    have s3 := R.2.2.1 n (by omega)
    by_cases h0 : S.1 3 n = 0
    · refine qMQ_inl _ (fun Q hQ => b246_0 (by omega) ?_) qFe_rf
      rw [if_pos (show S.1 3 (n : Int).toNat = 0 from h0)] at hQ
      simp (disch := omega) only [qz0, qj_lt, qj_le, qj_eq, qtk, qfk, qbtt, qbft, qbtf, qbff, qIx_z, qj_nat, true_and, and_true, true_implies, false_implies, not_true_eq_false, not_false_eq_true, Bool.true_eq_false, Bool.false_eq_true, qj_sub, qinB_t, qinB_f, q2_e, qj_add, qj_s1, qj_c1, qj_c2, qj_c9, qj_c17, qj_c97, f2]
      refine ⟨_, _, bd0 (by omega) _ _, ?_⟩
      simp (disch := omega) only [qz0, qj_lt, qj_le, qj_eq, qtk, qfk, qbtt, qbft, qbtf, qbff, qIx_z, qj_nat, true_and, and_true, true_implies, false_implies, not_true_eq_false, not_false_eq_true, Bool.true_eq_false, Bool.false_eq_true, qj_sub, qinB_t, qinB_f, q2_e, qj_add, qj_s1, qj_c1, qj_c2, qj_c9, qj_c17, qj_c97, s3]
      exact hQ
    · rw [if_neg (show ¬ S.1 3 (n : Int).toNat = 0 from h0)]
      have hyy := X.2.2.2.1.2.1
      let q : qSt → Bool := fun T => T.1 3 n == 0
      have key : ∀ i, i ≤ 60 → ∀ U J, qMS F J 685 U → qWS F U → U.1 0 0 = S.1 0 0 + i → (∀ k, k < F.1 0 0 → U.1 1 k = F.1 1 k) → qFe (qup I 245 0 (qj 0)) J → aWh F L q (60 - i) U = aWh F L q 60 S →
          ∃ I', qFe (qup I 245 0 (qj 0)) I' ∧ ∀ Q : qR → Prop, Q (.inl (some (.int (qj (aWh F L q 60 S))), qw g I')) → qwq d 246 56 [(0, .ref 245), (1, .int (qj n)), (2, .int (qj i))] [] (qw g J) Q := by
        refine upto _ (fun U J h1 h2 h3 h6 h4 h5 => ⟨J, h4, fun Q hQ => b246_56 (by omega) ?_⟩) (fun i hi ih U J h1 h2 h3 h6 h4 h5 => ?_)
        · rw [← h5] at hQ
          simp (disch := omega) only [qz0, qj_lt, qj_le, qj_eq, qtk, qfk, qbtt, qbft, qbtf, qbff, qIx_z, qj_nat, true_and, and_true, true_implies, false_implies, not_true_eq_false, not_false_eq_true, Bool.true_eq_false, Bool.false_eq_true, qj_sub, qinB_t, qinB_f, q2_e, qj_add, qj_s1, qj_c1, qj_c2, qj_c9, qj_c17, qj_c97]
          exact hQ
        · obtain ⟨J', k1, k2, k3, k4, k5, k6⟩ := tr1 (d := d - 1) (by omega) X H (Or.inl rfl) h1 h2 (by omega) h6 h4
          have s3 := k2.2.2.1 n (by omega)
          have s1 := k2.2.2.2.2.2.2
          have hs30 := k4.2.2.1 n (by omega)
          have e5 : aWh F L q (60 - i) U = if q (aYear F L U) = true then ((aYear F L U).1 0 0 : Int) else aWh F L q (60 - (i + 1)) (aYear F L U) := by rw [show 60 - i = 60 - (i + 1) + 1 by omega]; rfl
          by_cases hq : (aYear F L U).1 3 n = 0
          · have hq' : q (aYear F L U) = true := beq_iff_eq.mpr hq
            refine ⟨J', k3, fun Q hQ => b246_56 (by omega) ?_⟩
            rw [← h5, e5, if_pos hq'] at hQ
            simp (disch := omega) only [qz0, qj_lt, qj_le, qj_eq, qtk, qfk, qbtt, qbft, qbtf, qbff, qIx_z, qj_nat, true_and, and_true, true_implies, false_implies, not_true_eq_false, not_false_eq_true, Bool.true_eq_false, Bool.false_eq_true, qj_sub, qinB_t, qinB_f, q2_e, qj_add, qj_s1, qj_c1, qj_c2, qj_c9, qj_c17, qj_c97]
            refine ⟨_, k1, ?_⟩
            simp (disch := omega) only [qz0, qj_lt, qj_le, qj_eq, qtk, qfk, qbtt, qbft, qbtf, qbff, qIx_z, qj_nat, true_and, and_true, true_implies, false_implies, not_true_eq_false, not_false_eq_true, Bool.true_eq_false, Bool.false_eq_true, qj_sub, qinB_t, qinB_f, q2_e, qj_add, qj_s1, qj_c1, qj_c2, qj_c9, qj_c17, qj_c97, s3, s1]
            exact hQ
          · have hq' : ¬ q (aYear F L U) = true := fun c => hq (beq_iff_eq.mp c)
            rw [e5, if_neg hq'] at h5
            obtain ⟨I', r1, r2⟩ := ih _ J' k2 k4 (by omega) k6 k3 h5
            refine ⟨I', r1, fun Q hQ => b246_56 (by omega) ?_⟩
            simp (disch := omega) only [qz0, qj_lt, qj_le, qj_eq, qtk, qfk, qbtt, qbft, qbtf, qbff, qIx_z, qj_nat, true_and, and_true, true_implies, false_implies, not_true_eq_false, not_false_eq_true, Bool.true_eq_false, Bool.false_eq_true, qj_sub, qinB_t, qinB_f, q2_e, qj_add, qj_s1, qj_c1, qj_c2, qj_c9, qj_c17, qj_c97]
            refine ⟨_, k1, ?_⟩
            simp (disch := omega) only [qz0, qj_lt, qj_le, qj_eq, qtk, qfk, qbtt, qbft, qbtf, qbff, qIx_z, qj_nat, true_and, and_true, true_implies, false_implies, not_true_eq_false, not_false_eq_true, Bool.true_eq_false, Bool.false_eq_true, qj_sub, qinB_t, qinB_f, q2_e, qj_add, qj_s1, qj_c1, qj_c2, qj_c9, qj_c17, qj_c97, s3]
            exact r2 Q hQ
      obtain ⟨J, k1, k2, k3⟩ := tr0 (d := d - 1) (g := g) (by omega) X H
      obtain ⟨I', r1, r2⟩ := key 0 (Nat.zero_le _) S J k2 WS rfl X.2.2.2.1.2.2 k3 rfl
      refine qMQ_inl I' (fun Q hQ => b246_0 (by omega) ?_) r1
      simp (disch := omega) only [qz0, qj_lt, qj_le, qj_eq, qtk, qfk, qbtt, qbft, qbtf, qbff, qIx_z, qj_nat, true_and, and_true, true_implies, false_implies, not_true_eq_false, not_false_eq_true, Bool.true_eq_false, Bool.false_eq_true, qj_sub, qinB_t, qinB_f, q2_e, qj_add, qj_s1, qj_c1, qj_c2, qj_c9, qj_c17, qj_c97, f2]
      refine ⟨_, _, bd0 (by omega) _ _, ?_⟩
      simp (disch := omega) only [qz0, qj_lt, qj_le, qj_eq, qtk, qfk, qbtt, qbft, qbtf, qbff, qIx_z, qj_nat, true_and, and_true, true_implies, false_implies, not_true_eq_false, not_false_eq_true, Bool.true_eq_false, Bool.false_eq_true, qj_sub, qinB_t, qinB_f, q2_e, qj_add, qj_s1, qj_c1, qj_c2, qj_c9, qj_c17, qj_c97, s3]
      exact ⟨_, k1, r2 Q hQ⟩
  · rw [if_neg h]
    refine qMQ_0 fun Q hQ => b246_0 (by omega) ?_
    simp (disch := omega) only [qz0, qj_lt, qj_le, qj_eq, qtk, qfk, qbtt, qbft, qbtf, qbff, qIx_z, qj_nat, true_and, and_true, true_implies, false_implies, not_true_eq_false, not_false_eq_true, Bool.true_eq_false, Bool.false_eq_true, qj_sub, qinB_t, qinB_f, q2_e, qj_add, qj_s1, qj_c1, qj_c2, qj_c9, qj_c17, qj_c97, f2]
    refine ⟨_, _, bd10 (by omega) H, ?_⟩
    simp (disch := omega) only [qz0, qj_lt, qj_le, qj_eq, qtk, qfk, qbtt, qbft, qbtf, qbff, qIx_z, qj_nat, true_and, and_true, true_implies, false_implies, not_true_eq_false, not_false_eq_true, Bool.true_eq_false, Bool.false_eq_true, qj_sub, qinB_t, qinB_f, q2_e, qj_add, qj_s1, qj_c1, qj_c2, qj_c9, qj_c17, qj_c97]
    exact hQ
theorem r250 (hd : 6 ≤ d) (X : qAbs F L B S S0 Im C T) (H : qMdl I F L B S S0 Im C T P) {z w : Int} (hz : -2147483648 ≤ z ∧ z < 2147483648) (hw : -2147483648 ≤ w ∧ w < 2147483648) : qMQ d 250 [.ref 245, .int (qj z), .int (qj w)] g I 1 C (rHei F L S z w) := by
  have W := X.1
  have WL := X.2.1
  have WS := X.2.2.2.1.1
  have hy : S.1 0 0 ≤ 1000 := Nat.le_trans X.2.2.2.1.2.1 (by decide)
  have h9 := W.1
  have h8 := W.2.1
  have w3 := W.2.2.1
  have f1 := H.1.1
  have f2 := H.1.2.1
  have f3 := H.1.2.2.1
  have M0 := qMdl_q H X (qFp_0 (v := qj 0))
  have MF := M0.1
  have R := M0.2.2.2.2.1
  have hr : qisR 682 := by unfold qisR; omega
  have z0 : qup I 245 0 (qj 0) 245 0 = qj 0 := by rw [qup_at, if_pos rfl]
  unfold rHei
  have hr5 : qisR 685 := by unfold qisR; omega
  by_cases h : (0 ≤ z ∧ z < F.1 0 1) ∧ 0 ≤ w ∧ w < F.1 0 0
  · rw [if_pos h]
    obtain ⟨n, rfl⟩ : ∃ n : Nat, z = n := ⟨z.toNat, by omega⟩
    obtain ⟨m, rfl⟩ : ∃ m : Nat, w = m := ⟨w.toNat, by omega⟩
    rw [Int.toNat_natCast, Int.toNat_natCast]
    have s2 := R.2.1 n (by omega)
    cases hwk : S.2.1 m n with
    | false =>
      refine qMQ_inl _ (fun Q hQ => b250_0 (by omega) ?_) qFe_rf
      rw [if_neg Bool.false_ne_true] at hQ
      simp (disch := omega) only [qz0, qj_lt, qj_le, qj_eq, qtk, qfk, qbtt, qbft, qbtf, qbff, qIx_z, qj_nat, true_and, and_true, true_implies, false_implies, not_true_eq_false, not_false_eq_true, Bool.true_eq_false, Bool.false_eq_true, qj_sub, qinB_t, qinB_f, q2_e, qj_add, qj_s1, qj_c1, qj_c2, qj_c9, qj_c17, qj_c97, f1, f2]
      refine ⟨_, _, bd0 (by omega) _ _, ?_⟩
      simp (disch := omega) only [qz0, qj_lt, qj_le, qj_eq, qtk, qfk, qbtt, qbft, qbtf, qbff, qIx_z, qj_nat, true_and, and_true, true_implies, false_implies, not_true_eq_false, not_false_eq_true, Bool.true_eq_false, Bool.false_eq_true, qj_sub, qinB_t, qinB_f, q2_e, qj_add, qj_s1, qj_c1, qj_c2, qj_c9, qj_c17, qj_c97, s2, qhas_bm, hwk]
      exact hQ
    | true =>
      obtain ⟨J1, k1, k2, k3⟩ := tr0 (d := d - 1) (g := g) (by omega) X H
      obtain ⟨J2, r1, r2, r3⟩ := m237 (d := d - 1) (g := g) (h := m) (by omega) hr5 (mAf X H k3).1 W k2 WS (by omega)
      obtain ⟨o1, o2, o3⟩ := qOK_bur WS (show m < F.1 0 0 by omega)
      have hJ2 := qFe_tr k3 (qFe_r (Or.inl rfl) r3)
      have M2 := mAf X H hJ2
      obtain ⟨J3, q1, q2⟩ := m232 (d := d - 1) (g := g) (p := n) (by omega) hr5 M2.1 (qMl_of M2.2.1 (U := aBur S m) (fun k hk => by rw [o3]; exact X.2.2.2.1.2.2 k hk)) W r2 o1 (by omega) M2.2.2.1 WL (by omega)
      refine qMQ_inl J3 (fun Q hQ => b250_0 (by omega) ?_) (qFe_tr hJ2 (qFe_s q2))
      rw [if_pos rfl] at hQ
      simp (disch := omega) only [qz0, qj_lt, qj_le, qj_eq, qtk, qfk, qbtt, qbft, qbtf, qbff, qIx_z, qj_nat, true_and, and_true, true_implies, false_implies, not_true_eq_false, not_false_eq_true, Bool.true_eq_false, Bool.false_eq_true, qj_sub, qinB_t, qinB_f, q2_e, qj_add, qj_s1, qj_c1, qj_c2, qj_c9, qj_c17, qj_c97, f1, f2]
      refine ⟨_, _, bd0 (by omega) _ _, ?_⟩
      simp (disch := omega) only [qz0, qj_lt, qj_le, qj_eq, qtk, qfk, qbtt, qbft, qbtf, qbff, qIx_z, qj_nat, true_and, and_true, true_implies, false_implies, not_true_eq_false, not_false_eq_true, Bool.true_eq_false, Bool.false_eq_true, qj_sub, qinB_t, qinB_f, q2_e, qj_add, qj_s1, qj_c1, qj_c2, qj_c9, qj_c17, qj_c97, s2, qhas_bm, hwk]
      exact ⟨_, k1, _, r1, _, _, q1, hQ⟩
  · rw [if_neg h]
    by_cases h2 : 0 ≤ z ∧ z < F.1 0 1
    · skip
      refine qMQ_0 fun Q hQ => b250_0 (by omega) ?_
      simp (disch := omega) only [qz0, qj_lt, qj_le, qj_eq, qtk, qfk, qbtt, qbft, qbtf, qbff, qIx_z, qj_nat, true_and, and_true, true_implies, false_implies, not_true_eq_false, not_false_eq_true, Bool.true_eq_false, Bool.false_eq_true, qj_sub, qinB_t, qinB_f, q2_e, qj_add, qj_s1, qj_c1, qj_c2, qj_c9, qj_c17, qj_c97, f1, f2]
      refine ⟨_, _, bd10 (by omega) H, ?_⟩
      simp (disch := omega) only [qz0, qj_lt, qj_le, qj_eq, qtk, qfk, qbtt, qbft, qbtf, qbff, qIx_z, qj_nat, true_and, and_true, true_implies, false_implies, not_true_eq_false, not_false_eq_true, Bool.true_eq_false, Bool.false_eq_true, qj_sub, qinB_t, qinB_f, q2_e, qj_add, qj_s1, qj_c1, qj_c2, qj_c9, qj_c17, qj_c97]
      exact hQ
    · skip
      refine qMQ_0 fun Q hQ => b250_0 (by omega) ?_
      simp (disch := omega) only [qz0, qj_lt, qj_le, qj_eq, qtk, qfk, qbtt, qbft, qbtf, qbff, qIx_z, qj_nat, true_and, and_true, true_implies, false_implies, not_true_eq_false, not_false_eq_true, Bool.true_eq_false, Bool.false_eq_true, qj_sub, qinB_t, qinB_f, q2_e, qj_add, qj_s1, qj_c1, qj_c2, qj_c9, qj_c17, qj_c97, f1, f2]
      refine ⟨_, _, bd10 (by omega) H, ?_⟩
      simp (disch := omega) only [qz0, qj_lt, qj_le, qj_eq, qtk, qfk, qbtt, qbft, qbtf, qbff, qIx_z, qj_nat, true_and, and_true, true_implies, false_implies, not_true_eq_false, not_false_eq_true, Bool.true_eq_false, Bool.false_eq_true, qj_sub, qinB_t, qinB_f, q2_e, qj_add, qj_s1, qj_c1, qj_c2, qj_c9, qj_c17, qj_c97]
      exact hQ
end RASK2
