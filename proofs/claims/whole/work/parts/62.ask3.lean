/-! ===== questions, the class' side, 3 ===== -/
section ASK3
variable {d : Nat} {g : qG1} {I : Nat → Nat → Int32} {F : qFam} {L : qLw} {B : qBk} {S S0 : qSt} {Im : Nat → qSt} {C T : Nat → Nat} {P : Int} {f s : Nat}
/-- the class still holds all, in a memory that a question left -/
theorem qAfF (X : qAbs F L B S S0 Im C T) (H : qCls g I F L B S S0 Im C T P) {J : Nat → Nat → Int32} (h : qFq g I J) : qRF F J (g.2.2.1 1) := (qCls_q H X.2.2.2.2.2.2.2.1 h).2.1
theorem qAfC (X : qAbs F L B S S0 Im C T) (H : qCls g I F L B S S0 Im C T P) {J : Nat → Nat → Int32} (h : qFq g I J) : qCst J := (qCls_q H X.2.2.2.2.2.2.2.1 h).2.2.2.2.2.2.2.2.2.2.2.2.2.2.1
theorem qAfS (X : qAbs F L B S S0 Im C T) (H : qCls g I F L B S S0 Im C T P) {J : Nat → Nat → Int32} (h : qFq g I J) : qRS F J 139 S := (qCls_q H X.2.2.2.2.2.2.2.1 h).2.2.2.2.1
theorem qFc_171 {I J : Nat → Nat → Int32} {F : qFam} {U : qSt} (h : qFc I J) (R : qRS F I 171 U) : qRS F J 171 U := qFc_S h (by unfold qisS; omega) R
theorem f102 (hd : 9 ≤ d) (X : qAbs F L B S S0 Im C T) (H : qCls g I F L B S S0 Im C T P) {z : Int} (hz : -2147483648 ≤ z ∧ z < 2147483648) : qCQ d 102 [.ref 64, .int (qj z)] g I (rLst F L S z) := by
  have W := X.1
  have WS := X.2.2.2.1.1
  have hy : S.1 0 0 ≤ 1000 := Nat.le_trans X.2.2.2.1.2.1 (by decide)
  have h9 := W.1
  have h8 := W.2.1
  have w3 := W.2.2.1
  have hf := H.1.1
  have hl := H.1.2.2.2.1
  have hb := H.1.2.2.2.2.2.2.1
  have RF := H.2.1
  have RS := H.2.2.2.2.1
  have hs9 : qisS 139 := by unfold qisS; omega
  have hC := H.2.2.2.2.2.2.2.2.2.2.2.2.2.2.1
  unfold rLst
  have f3 := RF.2.2.1
  have hs171 : qisS 171 := by unfold qisS; omega
  by_cases h : 0 ≤ z ∧ z < F.1 0 2
  · rw [if_pos h]
    obtain ⟨n, rfl⟩ : ∃ n : Nat, z = n := ⟨z.toNat, by omega⟩
    have hyy := X.2.2.2.1.2.1
    let q : qSt → Bool := fun T => !aPld F T (aAlv F T) n
    have key : ∀ i, i ≤ 60 → ∀ U J, qRS F J 171 U → qWS F U → U.1 0 0 = S.1 0 0 + i → qFq g I J → aWh F L q (60 - i) U = aWh F L q 60 S →
        ∃ I', qFq g I I' ∧ ∀ Q : qR → Prop, Q (.inl (some (.int (qj (aWh F L q 60 S))), qw g I')) → qwq d 102 18 [(0, .ref 64), (1, .int (qj n)), (2, .int (qj i))] [] (qw g J) Q := by
      refine upto _ (fun U J h1 h2 h3 h4 h5 => ⟨J, h4, fun Q hQ => b102_18 hf hl rfl rfl (by omega) ?_⟩) (fun i hi ih U J h1 h2 h3 h4 h5 => ?_)
      · rw [← h5] at hQ
        simp (disch := omega) only [qz0, qj_lt, qj_le, qj_eq, qtk, qfk, qbtt, qbft, qbtf, qbff, qIx_z, qj_nat, true_and, and_true, true_implies, false_implies, not_true_eq_false, not_false_eq_true, Bool.true_eq_false, Bool.false_eq_true]
        exact hQ
      · obtain ⟨J', k1, k2, k3, k4, k5, -⟩ := ask1 (d := d - 1) (by omega) X H h1 h2 (by omega) h4
        have k55 := c55' (d := d - 1) (g := g) (by omega) hs171 hf (qAfF X H k3) W k2 (by omega)
        obtain ⟨J2, e1, e2, -⟩ := c148 (d := d - 1) (g := g) (by omega) hf hs171 rfl (qAfF X H k3) k2 W k4 (qAfC X H k3) (al := aAlv F (aYear F L U)) (fun h => aAlv_h) (a := n) (by omega)
        have hJ2 := qFq_tr k3 (qFq_c e2)
        have k22 := qFc_171 e2 k2
        have hln := aAct_len (S := aYear F L U) (al := aAlv F (aYear F L U)) W (show n < F.1 0 2 by omega)
        have e5 : aWh F L q (60 - i) U = if q (aYear F L U) = true then ((aYear F L U).1 0 0 : Int) else aWh F L q (60 - (i + 1)) (aYear F L U) := by rw [show 60 - i = 60 - (i + 1) + 1 by omega]; rfl
        cases hq : aAct F (aYear F L U) (aAlv F (aYear F L U)) n with
        | nil =>
          have hq' : q (aYear F L U) = true := by show (!aPld F _ _ n) = true; unfold aPld; rw [hq]; rfl
          refine ⟨J2, hJ2, fun Q hQ => b102_18 hf hl rfl rfl (by omega) ?_⟩
          rw [← h5, e5, if_pos hq'] at hQ
          rw [hq] at e1
          simp (disch := omega) only [qz0, qj_lt, qj_le, qj_eq, qtk, qfk, qbtt, qbft, qbtf, qbff, qIx_z, qj_nat, true_and, and_true, true_implies, false_implies, not_true_eq_false, not_false_eq_true, Bool.true_eq_false, Bool.false_eq_true]
          refine ⟨_, k1, _, _, k55, _, _, e1, ?_⟩
          simp (disch := omega) only [qz0, qj_lt, qj_le, qj_eq, qtk, qfk, qbtt, qbft, qbtf, qbff, qIx_z, qj_nat, true_and, and_true, true_implies, false_implies, not_true_eq_false, not_false_eq_true, Bool.true_eq_false, Bool.false_eq_true, (qAsk k22).1, List.length_nil]
          exact hQ
        | cons c l =>
          have hq' : q (aYear F L U) = false := by show (!aPld F _ _ n) = false; unfold aPld; rw [hq]; rfl
          rw [e5, hq', if_neg Bool.false_ne_true] at h5
          rw [hq] at e1 hln
          have hp : 0 < (c :: l).length := Nat.succ_pos _
          obtain ⟨I', r1, r2⟩ := ih _ J2 k22 k4 (by omega) hJ2 h5
          refine ⟨I', r1, fun Q hQ => b102_18 hf hl rfl rfl (by omega) ?_⟩
          simp (disch := omega) only [qz0, qj_lt, qj_le, qj_eq, qtk, qfk, qbtt, qbft, qbtf, qbff, qIx_z, qj_nat, true_and, and_true, true_implies, false_implies, not_true_eq_false, not_false_eq_true, Bool.true_eq_false, Bool.false_eq_true]
          refine ⟨_, k1, _, _, k55, _, _, e1, ?_⟩
          simp (disch := omega) only [qz0, qj_lt, qj_le, qj_eq, qtk, qfk, qbtt, qbft, qbtf, qbff, qIx_z, qj_nat, true_and, and_true, true_implies, false_implies, not_true_eq_false, not_false_eq_true, Bool.true_eq_false, Bool.false_eq_true, qj_add, qj_s1]
          exact r2 Q hQ
    obtain ⟨J, k1, k2, k3⟩ := ask0 (d := d - 1) (by omega) X H
    obtain ⟨I', r1, r2⟩ := key 0 (Nat.zero_le _) S J k2 WS rfl k3 rfl
    refine qCQ_inl I' (fun Q hQ => b102_0 hf rfl (by omega) ?_) r1
    simp (disch := omega) only [qz0, qj_lt, qj_le, qj_eq, qtk, qfk, qbtt, qbft, qbtf, qbff, qIx_z, qj_nat, true_and, and_true, true_implies, false_implies, not_true_eq_false, not_false_eq_true, Bool.true_eq_false, Bool.false_eq_true, f3]
    exact ⟨_, k1, r2 Q hQ⟩
  · rw [if_neg h]
    refine qCQ_0 fun Q hQ => b102_0 hf rfl (by omega) ?_
    simp (disch := omega) only [qz0, qj_lt, qj_le, f3]
    exact qrfu hQ (fun c => qrfu hQ (fun c => by omega))
theorem f131 (hd : 9 ≤ d) (X : qAbs F L B S S0 Im C T) (H : qCls g I F L B S S0 Im C T P) {z : Int} (hz : -2147483648 ≤ z ∧ z < 2147483648) : qCQ d 131 [.ref 64, .int (qj z)] g I (rFad F L S z) := by
  have W := X.1
  have WS := X.2.2.2.1.1
  have hy : S.1 0 0 ≤ 1000 := Nat.le_trans X.2.2.2.1.2.1 (by decide)
  have h9 := W.1
  have h8 := W.2.1
  have w3 := W.2.2.1
  have hf := H.1.1
  have hl := H.1.2.2.2.1
  have hb := H.1.2.2.2.2.2.2.1
  have RF := H.2.1
  have RS := H.2.2.2.2.1
  have hs9 : qisS 139 := by unfold qisS; omega
  have hC := H.2.2.2.2.2.2.2.2.2.2.2.2.2.2.1
  unfold rFad
  have f2 := RF.2.1
  by_cases h : 0 ≤ z ∧ z < F.1 0 1
  · rw [if_pos h]
    obtain ⟨n, rfl⟩ : ∃ n : Nat, z = n := ⟨z.toNat, by omega⟩
    have s7 := (qNow RS).2.2.2.2.2.2.1 n (by omega)
    have hsn := WS.2.2.1 n (by omega)
    have hyy := X.2.2.2.1.2.1
    let q : qSt → Bool := fun T => T.1 3 n == 0
    have key : ∀ i, i ≤ 60 → ∀ U J, qRS F J 171 U → qWS F U → U.1 0 0 = S.1 0 0 + i → qFq g I J → aWh F L q (60 - i) U = aWh F L q 60 S →
        ∃ I', qFq g I I' ∧ ∀ Q : qR → Prop, Q (.inl (some (.int (qj (aWh F L q 60 S))), qw g I')) → qwq d 131 32 [(0, .ref 64), (1, .int (qj n)), (2, .int (qj i))] [] (qw g J) Q := by
      refine upto _ (fun U J h1 h2 h3 h4 h5 => ⟨J, h4, fun Q hQ => b131_32 hf hl rfl rfl (by omega) ?_⟩) (fun i hi ih U J h1 h2 h3 h4 h5 => ?_)
      · rw [← h5] at hQ
        simp (disch := omega) only [qz0, qj_lt, qj_le, qj_eq, qtk, qfk, qbtt, qbft, qbtf, qbff, qIx_z, qj_nat, true_and, and_true, true_implies, false_implies, not_true_eq_false, not_false_eq_true, Bool.true_eq_false, Bool.false_eq_true]
        exact hQ
      · obtain ⟨J', k1, k2, k3, k4, k5, -⟩ := ask1 (d := d - 1) (by omega) X H h1 h2 (by omega) h4
        have s4 := (qAsk k2).2.2 n (by omega)
        have hb := k4.2.2.1 n (by omega)
        have e5 : aWh F L q (60 - i) U = if q (aYear F L U) = true then ((aYear F L U).1 0 0 : Int) else aWh F L q (60 - (i + 1)) (aYear F L U) := by rw [show 60 - i = 60 - (i + 1) + 1 by omega]; rfl
        by_cases hq : (aYear F L U).1 3 n = 0
        · have hq' : q (aYear F L U) = true := beq_iff_eq.mpr hq
          refine ⟨J', k3, fun Q hQ => b131_32 hf hl rfl rfl (by omega) ?_⟩
          rw [← h5, e5, if_pos hq'] at hQ
          simp (disch := omega) only [qz0, qj_lt, qj_le, qj_eq, qtk, qfk, qbtt, qbft, qbtf, qbff, qIx_z, qj_nat, true_and, and_true, true_implies, false_implies, not_true_eq_false, not_false_eq_true, Bool.true_eq_false, Bool.false_eq_true]
          refine ⟨_, k1, ?_⟩
          simp (disch := omega) only [qz0, qj_lt, qj_le, qj_eq, qtk, qfk, qbtt, qbft, qbtf, qbff, qIx_z, qj_nat, true_and, and_true, true_implies, false_implies, not_true_eq_false, not_false_eq_true, Bool.true_eq_false, Bool.false_eq_true, s4, (qAsk k2).1]
          exact hQ
        · have hq' : q (aYear F L U) = false := beq_eq_false_iff_ne.mpr hq
          rw [e5, hq', if_neg Bool.false_ne_true] at h5
          obtain ⟨I', r1, r2⟩ := ih _ J' k2 k4 (by omega) k3 h5
          refine ⟨I', r1, fun Q hQ => b131_32 hf hl rfl rfl (by omega) ?_⟩
          simp (disch := omega) only [qz0, qj_lt, qj_le, qj_eq, qtk, qfk, qbtt, qbft, qbtf, qbff, qIx_z, qj_nat, true_and, and_true, true_implies, false_implies, not_true_eq_false, not_false_eq_true, Bool.true_eq_false, Bool.false_eq_true]
          refine ⟨_, k1, ?_⟩
          simp (disch := omega) only [qz0, qj_lt, qj_le, qj_eq, qtk, qfk, qbtt, qbft, qbtf, qbff, qIx_z, qj_nat, true_and, and_true, true_implies, false_implies, not_true_eq_false, not_false_eq_true, Bool.true_eq_false, Bool.false_eq_true, s4, qj_add, qj_s1]
          exact r2 Q hQ
    obtain ⟨J, k1, k2, k3⟩ := ask0 (d := d - 1) (by omega) X H
    obtain ⟨I', r1, r2⟩ := key 0 (Nat.zero_le _) S J k2 WS rfl k3 rfl
    by_cases h0 : S.1 3 n = 0
    · refine qCQ_inl I (fun Q hQ => b131_0 hf rfl (by omega) ?_) qFq_rf
      simp (disch := omega) only [qz0, qj_lt, qj_le, qj_eq, qtk, qfk, qbtt, qbft, qbtf, qbff, qIx_z, qj_nat, true_and, and_true, true_implies, false_implies, not_true_eq_false, not_false_eq_true, Bool.true_eq_false, Bool.false_eq_true, f2, s7]
      rw [Int.toNat_natCast, if_pos h0] at hQ
      exact hQ
    · refine qCQ_inl I' (fun Q hQ => b131_0 hf rfl (by omega) ?_) r1
      simp (disch := omega) only [qz0, qj_lt, qj_le, qj_eq, qtk, qfk, qbtt, qbft, qbtf, qbff, qIx_z, qj_nat, true_and, and_true, true_implies, false_implies, not_true_eq_false, not_false_eq_true, Bool.true_eq_false, Bool.false_eq_true, f2, s7]
      rw [Int.toNat_natCast, if_neg h0] at hQ
      exact ⟨_, k1, r2 Q hQ⟩
  · rw [if_neg h]
    refine qCQ_0 fun Q hQ => b131_0 hf rfl (by omega) ?_
    simp (disch := omega) only [qz0, qj_lt, qj_le, f2]
    exact qrfu hQ (fun c => qrfu hQ (fun c => by omega))
theorem f106 (hd : 9 ≤ d) (X : qAbs F L B S S0 Im C T) (H : qCls g I F L B S S0 Im C T P) {z : Int} (hz : -2147483648 ≤ z ∧ z < 2147483648) : qCQ d 106 [.ref 64, .int (qj z)] g I (rCsts F S z) := by
  have W := X.1
  have WS := X.2.2.2.1.1
  have hy : S.1 0 0 ≤ 1000 := Nat.le_trans X.2.2.2.1.2.1 (by decide)
  have h9 := W.1
  have h8 := W.2.1
  have w3 := W.2.2.1
  have hf := H.1.1
  have hl := H.1.2.2.2.1
  have hb := H.1.2.2.2.2.2.2.1
  have RF := H.2.1
  have RS := H.2.2.2.2.1
  have hs9 : qisS 139 := by unfold qisS; omega
  have hC := H.2.2.2.2.2.2.2.2.2.2.2.2.2.2.1
  unfold rCsts
  have f3 := RF.2.2.1
  by_cases h : 0 ≤ z ∧ z < F.1 0 2
  · rw [if_pos h]
    obtain ⟨n, rfl⟩ : ∃ n : Nat, z = n := ⟨z.toNat, by omega⟩
    obtain ⟨J2, e1, e2, -⟩ := c148 (d := d - 1) (g := g) (by omega) hf hs9 rfl RF RS W WS hC (al := aAlv F S) (fun h => aAlv_h) (a := n) (by omega)
    have hln := aAct_len (S := S) (al := aAlv F S) W (show n < F.1 0 2 by omega)
    refine qCQ_inl J2 (fun Q hQ => b106_0 hf rfl (by omega) ?_) (qFq_c e2)
    simp (disch := omega) only [qz0, qj_lt, qj_le, qj_eq, qtk, qfk, qbtt, qbft, qbtf, qbff, qIx_z, qj_nat, true_and, and_true, true_implies, false_implies, not_true_eq_false, not_false_eq_true, Bool.true_eq_false, Bool.false_eq_true, f3]
    refine ⟨_, _, c55' (by omega) hs9 hf RF W RS hy, _, _, e1, ?_⟩
    rw [qmin_z (by omega) (by omega) (by omega) (by omega), show min (1000000 : Int) ((aAct F S (aAlv F S) n).length : Int) = ((aAct F S (aAlv F S) n).length : Int) by omega]
    exact hQ
  · rw [if_neg h]
    refine qCQ_0 fun Q hQ => b106_0 hf rfl (by omega) ?_
    simp (disch := omega) only [qz0, qj_lt, qj_le, f3]
    exact qrfu hQ (fun c => qrfu hQ (fun c => by omega))
theorem f107 (hd : 9 ≤ d) (X : qAbs F L B S S0 Im C T) (H : qCls g I F L B S S0 Im C T P) {z w : Int} (hz : -2147483648 ≤ z ∧ z < 2147483648) (hw : -2147483648 ≤ w ∧ w < 2147483648) : qCQ d 107 [.ref 64, .int (qj z), .int (qj w)] g I (rCst F S z w) := by
  have W := X.1
  have WS := X.2.2.2.1.1
  have hy : S.1 0 0 ≤ 1000 := Nat.le_trans X.2.2.2.1.2.1 (by decide)
  have h9 := W.1
  have h8 := W.2.1
  have w3 := W.2.2.1
  have hf := H.1.1
  have hl := H.1.2.2.2.1
  have hb := H.1.2.2.2.2.2.2.1
  have RF := H.2.1
  have RS := H.2.2.2.2.1
  have hs9 : qisS 139 := by unfold qisS; omega
  have hC := H.2.2.2.2.2.2.2.2.2.2.2.2.2.2.1
  unfold rCst
  have f2 := RF.2.1
  have f3 := RF.2.2.1
  by_cases h : (0 ≤ z ∧ z < F.1 0 2) ∧ 0 ≤ w ∧ w < F.1 0 1
  · rw [if_pos h]
    obtain ⟨n, rfl⟩ : ∃ n : Nat, z = n := ⟨z.toNat, by omega⟩
    obtain ⟨m, rfl⟩ : ∃ m : Nat, w = m := ⟨w.toNat, by omega⟩
    have hwa := W.2.2.2.2.2.2.1 n (by omega)
    obtain ⟨J2, e1, e2, e3⟩ := c148 (d := d - 1) (g := g) (by omega) hf hs9 rfl RF RS W WS hC (al := aAlv F S) (fun h => aAlv_h) (a := n) (by omega)
    have hln := aAct_len (S := S) (al := aAlv F S) W (show n < F.1 0 2 by omega)
    refine qCQ_inl J2 (fun Q hQ => b107_0 hf rfl (by omega) ?_) (qFq_c e2)
    simp (disch := omega) only [qz0, qj_lt, qj_le, qj_eq, qtk, qfk, qbtt, qbft, qbtf, qbff, qIx_z, qj_nat, true_and, and_true, true_implies, false_implies, not_true_eq_false, not_false_eq_true, Bool.true_eq_false, Bool.false_eq_true, f2, f3]
    refine ⟨_, _, c55' (by omega) hs9 hf RF W RS hy, _, _, e1, ?_⟩
    rw [Int.toNat_natCast, Int.toNat_natCast] at hQ
    cases hq : aAct F S (aAlv F S) n with
    | nil =>
      rw [hq] at hQ
      simp (disch := omega) only [qz0, qj_lt, qj_le, qj_eq, qtk, qfk, qbtt, qbft, qbtf, qbff, qIx_z, qj_nat, true_and, and_true, true_implies, false_implies, not_true_eq_false, not_false_eq_true, Bool.true_eq_false, Bool.false_eq_true, List.length_nil]
      exact hQ
    | cons c l =>
      rw [hq] at hQ hln
      have hp : 0 < (c :: l).length := Nat.succ_pos _
      obtain ⟨a1, a2, a3⟩ := e3 (by rw [hq]; exact List.cons_ne_nil _ _)
      simp (disch := omega) only [qz0, qj_lt, qj_le, qj_eq, qtk, qfk, qbtt, qbft, qbtf, qbff, qIx_z, qj_nat, true_and, and_true, true_implies, false_implies, not_true_eq_false, not_false_eq_true, Bool.true_eq_false, Bool.false_eq_true]
      exact ⟨_, _, c11 (by omega) W (qFc_C e2 hC) (fun i hi => hwa.2.2.2.1 i hi) a1 a2 (by omega) (a3.symm.trans hq), hQ⟩
  · rw [if_neg h]
    refine qCQ_0 fun Q hQ => b107_0 hf rfl (by omega) ?_
    simp (disch := omega) only [qz0, qj_lt, qj_le, f2, f3]
    exact qrfu hQ (fun c => qrfu hQ (fun c => qrfu hQ (fun c => qrfu hQ (fun c => by omega))))
theorem f109 (hd : 7 ≤ d) (X : qAbs F L B S S0 Im C T) (H : qCls g I F L B S S0 Im C T P) : qCQ d 109 [.ref 64] g I (.inl (qj (bm (F.1 0 2) (aPld F S (aAlv F S)) : Nat))) := by
  have W := X.1
  have WS := X.2.2.2.1.1
  have hy : S.1 0 0 ≤ 1000 := Nat.le_trans X.2.2.2.1.2.1 (by decide)
  have h9 := W.1
  have h8 := W.2.1
  have w3 := W.2.2.1
  have hf := H.1.1
  have hl := H.1.2.2.2.1
  have hb := H.1.2.2.2.2.2.2.1
  have RF := H.2.1
  have RS := H.2.2.2.2.1
  have hs9 : qisS 139 := by unfold qisS; omega
  have hC := H.2.2.2.2.2.2.2.2.2.2.2.2.2.2.1
  obtain ⟨J2, e1, e2⟩ := c149 (d := d - 1) (g := g) (by omega) hf hs9 rfl RF RS W WS hC (al := aAlv F S) (fun h => aAlv_h)
  exact qCQ_inl J2 (fun Q hQ => b109_0 hf rfl (by omega) ⟨_, _, c55' (by omega) hs9 hf RF W RS hy, _, _, e1, hQ⟩) (qFq_c e2)
end ASK3
