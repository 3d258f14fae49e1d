/-! ===== questions, the class' side, 2 ===== -/
section ASK2
variable {d : Nat} {g : qG1} {I : Nat → Nat → Int32} {F : qFam} {L : qLw} {B : qBk} {S S0 : qSt} {Im : Nat → qSt} {C T : Nat → Nat} {P : Int} {f s : Nat}
theorem qNow (R : qRS F I 139 S) : I 139 0 = qj (S.1 0 0) ∧ I 139 1 = qj (bm 9 S.2.2 : Nat) ∧ (∀ h, h < F.1 0 0 → I 140 h = qj (S.1 1 h)) ∧ (∀ h, h < 9 → I 141 h = qj (bm 8 (S.2.1 h) : Nat)) ∧
  (∀ h, h < 9 → I 142 h = qj ((S.1 2 h : Int) - 1)) ∧ (∀ h p, h < 9 → p < 8 → I (143 + 1 + h) p = qj ((S.1 (5 + h) p : Int) - 1)) ∧
  (∀ p, p < F.1 0 1 → I 153 p = qj (S.1 3 p)) ∧ ∀ p, p < 8 → I 154 p = qj ((S.1 4 p : Int) - 1) := R
theorem qAsk (R : qRS F I 171 S) : I 171 0 = qj (S.1 0 0) ∧ (∀ h, h < 9 → I 173 h = qj (bm 8 (S.2.1 h) : Nat)) ∧ (∀ p, p < F.1 0 1 → I 185 p = qj (S.1 3 p)) := ⟨R.1, R.2.2.2.1, R.2.2.2.2.2.2.1⟩
theorem cnAlv (W : qWF F) : cn (F.1 0 0) (aAl F S) = cn 9 (aAlv F S) := (cn_mono (aAl F S) 9 W.1).symm
theorem f89 (hd : 1 ≤ d) (X : qAbs F L B S S0 Im C T) (H : qCls g I F L B S S0 Im C T P) : qCQ d 89 [.ref 64] g I (.inl (qj P)) := by
  refine qCQ_inl I (fun Q hQ => b89_0 (by omega) ?_) qFq_rf
  rw [H.2.2.2.2.2.2.2.2.2.2.2.2.2.1]; exact hQ
theorem f90 (hd : 8 ≤ d) (X : qAbs F L B S S0 Im C T) (H : qCls g I F L B S S0 Im C T P) {w : Int} (hw : -2147483648 ≤ w ∧ w < 2147483648) : qCQ d 90 [.ref 64, .int (qj w)] g I (rTold F B S w) := by
  have W := X.1
  have WS := X.2.2.2.1.1
  have hy : S.1 0 0 ≤ 1000 := Nat.le_trans X.2.2.2.1.2.1 (by decide)
  have h9 := W.1
  have h8 := W.2.1
  have w3 := W.2.2.1
  have hf := H.1.1
  have hl := H.1.2.2.2.1
  have hb := H.1.2.2.2.2.2.2.1
  have RF := H.2.1
  have RS := H.2.2.2.2.1
  have hs9 : qisS 139 := by unfold qisS; omega
  have hC := H.2.2.2.2.2.2.2.2.2.2.2.2.2.2.1
  unfold rTold
  by_cases h : 0 ≤ w ∧ w ≤ 6
  · rw [if_pos h]
    have f1 := RF.1
    have f2 := RF.2.1
    have f3 := RF.2.2.1
    have s1 := (qNow RS).1
    have bl := H.2.2.2.1.1
    have hv : w = 0 ∨ w = 1 ∨ w = 2 ∨ w = 3 ∨ w = 4 ∨ w = 5 ∨ w = 6 := by omega
    refine qCQ_inl I (fun Q hQ => b90_0 hb hf rfl rfl (by omega) ?_) qFq_rf
    rcases hv with rfl | rfl | rfl | rfl | rfl | rfl | rfl
    · simp (disch := omega) only [qz0, qj_lt, qj_le, qj_eq, qtk, qfk, qbtt, qbft, qbtf, qbff, qIx_z, qj_nat, true_and, and_true, true_implies, false_implies, not_true_eq_false, not_false_eq_true, Bool.true_eq_false, Bool.false_eq_true, f1]; exact hQ
    · simp (disch := omega) only [qz0, qj_lt, qj_le, qj_eq, qtk, qfk, qbtt, qbft, qbtf, qbff, qIx_z, qj_nat, true_and, and_true, true_implies, false_implies, not_true_eq_false, not_false_eq_true, Bool.true_eq_false, Bool.false_eq_true, f2]; exact hQ
    · simp (disch := omega) only [qz0, qj_lt, qj_le, qj_eq, qtk, qfk, qbtt, qbft, qbtf, qbff, qIx_z, qj_nat, true_and, and_true, true_implies, false_implies, not_true_eq_false, not_false_eq_true, Bool.true_eq_false, Bool.false_eq_true, f3]; exact hQ
    · simp (disch := omega) only [qz0, qj_lt, qj_le, qj_eq, qtk, qfk, qbtt, qbft, qbtf, qbff, qIx_z, qj_nat, true_and, and_true, true_implies, false_implies, not_true_eq_false, not_false_eq_true, Bool.true_eq_false, Bool.false_eq_true, s1]; exact hQ
    · simp (disch := omega) only [qz0, qj_lt, qj_le, qj_eq, qtk, qfk, qbtt, qbft, qbtf, qbff, qIx_z, qj_nat, true_and, and_true, true_implies, false_implies, not_true_eq_false, not_false_eq_true, Bool.true_eq_false, Bool.false_eq_true]
      refine ⟨_, _, c55' (by omega) hs9 hf RF W RS hy, ?_⟩
      rw [qpc_bm (by omega)]; exact hQ
    · simp (disch := omega) only [qz0, qj_lt, qj_le, qj_eq, qtk, qfk, qbtt, qbft, qbtf, qbff, qIx_z, qj_nat, true_and, and_true, true_implies, false_implies, not_true_eq_false, not_false_eq_true, Bool.true_eq_false, Bool.false_eq_true]
      exact ⟨_, _, c61 (by omega) hs9 hf RF W RS, hQ⟩
    · simp (disch := omega) only [qz0, qj_lt, qj_le, qj_eq, qtk, qfk, qbtt, qbft, qbtf, qbff, qIx_z, qj_nat, true_and, and_true, true_implies, false_implies, not_true_eq_false, not_false_eq_true, Bool.true_eq_false, Bool.false_eq_true, bl]; exact hQ
  · rw [if_neg h]
    refine qCQ_1 fun Q hQ => b90_0 hb hf rfl rfl (by omega) ?_
    simp (disch := omega) only [qz0, qj_lt]
    exact qrfu hQ (fun c => qrfu hQ (fun c => by omega))
theorem f91 (hd : 9 ≤ d) (X : qAbs F L B S S0 Im C T) (H : qCls g I F L B S S0 Im C T P) {z w : Int} (hz : -2147483648 ≤ z ∧ z < 2147483648) (hw : -2147483648 ≤ w ∧ w < 2147483648) : qCQ d 91 [.ref 64, .int (qj z), .int (qj w)] g I (rHand F S z w) := by
  have W := X.1
  have WS := X.2.2.2.1.1
  have hy : S.1 0 0 ≤ 1000 := Nat.le_trans X.2.2.2.1.2.1 (by decide)
  have h9 := W.1
  have h8 := W.2.1
  have w3 := W.2.2.1
  have hf := H.1.1
  have hl := H.1.2.2.2.1
  have hb := H.1.2.2.2.2.2.2.1
  have RF := H.2.1
  have RS := H.2.2.2.2.1
  have hs9 : qisS 139 := by unfold qisS; omega
  have hC := H.2.2.2.2.2.2.2.2.2.2.2.2.2.2.1
  unfold rHand
  have f1 := RF.1
  by_cases h : 0 ≤ z ∧ z < F.1 0 0
  · rw [if_pos h]
    obtain ⟨n, rfl⟩ : ∃ n : Nat, z = n := ⟨z.toNat, by omega⟩
    by_cases h2 : 0 ≤ w ∧ w ≤ 5
    · rw [if_pos h2]
      have f5 := RF.2.2.2.2.1 n (by omega)
      have f6 := RF.2.2.2.2.2.1 n (by omega)
      have f7 := RF.2.2.2.2.2.2.1 n (by omega)
      have s4 := (qNow RS).2.2.2.1 n (by omega)
      have hv : w = 0 ∨ w = 1 ∨ w = 2 ∨ w = 3 ∨ w = 4 ∨ w = 5 := by omega
      refine qCQ_inl I (fun Q hQ => b91_0 hf rfl (by omega) ?_) qFq_rf
      rcases hv with rfl | rfl | rfl | rfl | rfl | rfl
      · simp (disch := omega) only [qz0, qj_lt, qj_le, qj_eq, qtk, qfk, qbtt, qbft, qbtf, qbff, qIx_z, qj_nat, true_and, and_true, true_implies, false_implies, not_true_eq_false, not_false_eq_true, Bool.true_eq_false, Bool.false_eq_true, f1, f5]; exact hQ
      · simp (disch := omega) only [qz0, qj_lt, qj_le, qj_eq, qtk, qfk, qbtt, qbft, qbtf, qbff, qIx_z, qj_nat, true_and, and_true, true_implies, false_implies, not_true_eq_false, not_false_eq_true, Bool.true_eq_false, Bool.false_eq_true, f1, f6]; exact hQ
      · simp (disch := omega) only [qz0, qj_lt, qj_le, qj_eq, qtk, qfk, qbtt, qbft, qbtf, qbff, qIx_z, qj_nat, true_and, and_true, true_implies, false_implies, not_true_eq_false, not_false_eq_true, Bool.true_eq_false, Bool.false_eq_true, f1, f7]; exact hQ
      · simp (disch := omega) only [qz0, qj_lt, qj_le, qj_eq, qtk, qfk, qbtt, qbft, qbtf, qbff, qIx_z, qj_nat, true_and, and_true, true_implies, false_implies, not_true_eq_false, not_false_eq_true, Bool.true_eq_false, Bool.false_eq_true, f1]
        exact ⟨_, _, c56 (by omega) hs9 hf RF W RS hy (by omega), hQ⟩
      · simp (disch := omega) only [qz0, qj_lt, qj_le, qj_eq, qtk, qfk, qbtt, qbft, qbtf, qbff, qIx_z, qj_nat, true_and, and_true, true_implies, false_implies, not_true_eq_false, not_false_eq_true, Bool.true_eq_false, Bool.false_eq_true, f1, s4]; exact hQ
      · simp (disch := omega) only [qz0, qj_lt, qj_le, qj_eq, qtk, qfk, qbtt, qbft, qbtf, qbff, qIx_z, qj_nat, true_and, and_true, true_implies, false_implies, not_true_eq_false, not_false_eq_true, Bool.true_eq_false, Bool.false_eq_true, f1]
        exact ⟨_, _, c57 (by omega) hs9 hf RF W RS hy (by omega), hQ⟩
    · rw [if_neg h2]
      refine qCQ_1 fun Q hQ => b91_0 hf rfl (by omega) ?_
      simp (disch := omega) only [qz0, qj_lt, qj_le, qj_eq, qtk, qfk, qbtt, qbft, qbtf, qbff, qIx_z, qj_nat, true_and, and_true, true_implies, false_implies, not_true_eq_false, not_false_eq_true, Bool.true_eq_false, Bool.false_eq_true, f1]
      exact qrfu hQ (fun c => qrfu hQ (fun c => by omega))
  · rw [if_neg h]
    refine qCQ_0 fun Q hQ => b91_0 hf rfl (by omega) ?_
    simp (disch := omega) only [qz0, qj_lt, qj_le, f1]
    exact qrfu hQ (fun c => qrfu hQ (fun c => by omega))
theorem f92 (hd : 9 ≤ d) (X : qAbs F L B S S0 Im C T) (H : qCls g I F L B S S0 Im C T P) {z w : Int} (hz : -2147483648 ≤ z ∧ z < 2147483648) (hw : -2147483648 ≤ w ∧ w < 2147483648) : qCQ d 92 [.ref 64, .int (qj z), .int (qj w)] g I (rPup F S z w) := by
  have W := X.1
  have WS := X.2.2.2.1.1
  have hy : S.1 0 0 ≤ 1000 := Nat.le_trans X.2.2.2.1.2.1 (by decide)
  have h9 := W.1
  have h8 := W.2.1
  have w3 := W.2.2.1
  have hf := H.1.1
  have hl := H.1.2.2.2.1
  have hb := H.1.2.2.2.2.2.2.1
  have RF := H.2.1
  have RS := H.2.2.2.2.1
  have hs9 : qisS 139 := by unfold qisS; omega
  have hC := H.2.2.2.2.2.2.2.2.2.2.2.2.2.2.1
  unfold rPup
  have f2 := RF.2.1
  by_cases h : 0 ≤ z ∧ z < F.1 0 1
  · rw [if_pos h]
    obtain ⟨n, rfl⟩ : ∃ n : Nat, z = n := ⟨z.toNat, by omega⟩
    by_cases h2 : 0 ≤ w ∧ w ≤ 5
    · rw [if_pos h2]
      have f12 := RF.2.2.2.2.2.2.2.2.2.2.2.1 n (by omega)
      have f13 := RF.2.2.2.2.2.2.2.2.2.2.2.2.1 n (by omega)
      have s7 := (qNow RS).2.2.2.2.2.2.1 n (by omega)
      have s8 := (qNow RS).2.2.2.2.2.2.2 n (by omega)
      have hv : w = 0 ∨ w = 1 ∨ w = 2 ∨ w = 3 ∨ w = 4 ∨ w = 5 := by omega
      refine qCQ_inl I (fun Q hQ => b92_0 hf rfl (by omega) ?_) qFq_rf
      rcases hv with rfl | rfl | rfl | rfl | rfl | rfl
      · simp (disch := omega) only [qz0, qj_lt, qj_le, qj_eq, qtk, qfk, qbtt, qbft, qbtf, qbff, qIx_z, qj_nat, true_and, and_true, true_implies, false_implies, not_true_eq_false, not_false_eq_true, Bool.true_eq_false, Bool.false_eq_true, f2, f12]; exact hQ
      · simp (disch := omega) only [qz0, qj_lt, qj_le, qj_eq, qtk, qfk, qbtt, qbft, qbtf, qbff, qIx_z, qj_nat, true_and, and_true, true_implies, false_implies, not_true_eq_false, not_false_eq_true, Bool.true_eq_false, Bool.false_eq_true, f2, f13]; exact hQ
      · simp (disch := omega) only [qz0, qj_lt, qj_le, qj_eq, qtk, qfk, qbtt, qbft, qbtf, qbff, qIx_z, qj_nat, true_and, and_true, true_implies, false_implies, not_true_eq_false, not_false_eq_true, Bool.true_eq_false, Bool.false_eq_true, f2, s7]; exact hQ
      · simp (disch := omega) only [qz0, qj_lt, qj_le, qj_eq, qtk, qfk, qbtt, qbft, qbtf, qbff, qIx_z, qj_nat, true_and, and_true, true_implies, false_implies, not_true_eq_false, not_false_eq_true, Bool.true_eq_false, Bool.false_eq_true, f2]
        exact ⟨_, _, c58 (by omega) hs9 RS (by omega), hQ⟩
      · simp (disch := omega) only [qz0, qj_lt, qj_le, qj_eq, qtk, qfk, qbtt, qbft, qbtf, qbff, qIx_z, qj_nat, true_and, and_true, true_implies, false_implies, not_true_eq_false, not_false_eq_true, Bool.true_eq_false, Bool.false_eq_true, f2]
        exact ⟨_, _, c59 (by omega) hs9 hf RF W RS (by omega), hQ⟩
      · simp (disch := omega) only [qz0, qj_lt, qj_le, qj_eq, qtk, qfk, qbtt, qbft, qbtf, qbff, qIx_z, qj_nat, true_and, and_true, true_implies, false_implies, not_true_eq_false, not_false_eq_true, Bool.true_eq_false, Bool.false_eq_true, f2, s8]; exact hQ
    · rw [if_neg h2]
      refine qCQ_1 fun Q hQ => b92_0 hf rfl (by omega) ?_
      simp (disch := omega) only [qz0, qj_lt, qj_le, qj_eq, qtk, qfk, qbtt, qbft, qbtf, qbff, qIx_z, qj_nat, true_and, and_true, true_implies, false_implies, not_true_eq_false, not_false_eq_true, Bool.true_eq_false, Bool.false_eq_true, f2]
      exact qrfu hQ (fun c => qrfu hQ (fun c => by omega))
  · rw [if_neg h]
    refine qCQ_0 fun Q hQ => b92_0 hf rfl (by omega) ?_
    simp (disch := omega) only [qz0, qj_lt, qj_le, f2]
    exact qrfu hQ (fun c => qrfu hQ (fun c => by omega))
theorem f93 (hd : 9 ≤ d) (X : qAbs F L B S S0 Im C T) (H : qCls g I F L B S S0 Im C T P) {z w : Int} (hz : -2147483648 ≤ z ∧ z < 2147483648) (hw : -2147483648 ≤ w ∧ w < 2147483648) : qCQ d 93 [.ref 64, .int (qj z), .int (qj w)] g I (rAct F z w) := by
  have W := X.1
  have WS := X.2.2.2.1.1
  have hy : S.1 0 0 ≤ 1000 := Nat.le_trans X.2.2.2.1.2.1 (by decide)
  have h9 := W.1
  have h8 := W.2.1
  have w3 := W.2.2.1
  have hf := H.1.1
  have hl := H.1.2.2.2.1
  have hb := H.1.2.2.2.2.2.2.1
  have RF := H.2.1
  have RS := H.2.2.2.2.1
  have hs9 : qisS 139 := by unfold qisS; omega
  have hC := H.2.2.2.2.2.2.2.2.2.2.2.2.2.2.1
  unfold rAct
  have f3 := RF.2.2.1
  by_cases h : 0 ≤ z ∧ z < F.1 0 2
  · rw [if_pos h]
    obtain ⟨n, rfl⟩ : ∃ n : Nat, z = n := ⟨z.toNat, by omega⟩
    by_cases h2 : 0 ≤ w ∧ w ≤ 2
    · rw [if_pos h2]
      have f15 := RF.2.2.2.2.2.2.2.2.2.2.2.2.2.2.1 n (by omega)
      have hwa := W.2.2.2.2.2.2.1 n (by omega)
      have hv : w = 0 ∨ w = 1 ∨ w = 2 := by omega
      refine qCQ_inl I (fun Q hQ => b93_0 hf rfl (by omega) ?_) qFq_rf
      rcases hv with rfl | rfl | rfl
      · simp (disch := omega) only [qz0, qj_lt, qj_le, qj_eq, qtk, qfk, qbtt, qbft, qbtf, qbff, qIx_z, qj_nat, true_and, and_true, true_implies, false_implies, not_true_eq_false, not_false_eq_true, Bool.true_eq_false, Bool.false_eq_true, f3, f15]; exact hQ
      · simp (disch := omega) only [qz0, qj_lt, qj_le, qj_eq, qtk, qfk, qbtt, qbft, qbtf, qbff, qIx_z, qj_nat, true_and, and_true, true_implies, false_implies, not_true_eq_false, not_false_eq_true, Bool.true_eq_false, Bool.false_eq_true, f3]
        exact ⟨_, _, c32 (by omega) hf RF W (by omega), hQ⟩
      · simp (disch := omega) only [qz0, qj_lt, qj_le, qj_eq, qtk, qfk, qbtt, qbft, qbtf, qbff, qIx_z, qj_nat, true_and, and_true, true_implies, false_implies, not_true_eq_false, not_false_eq_true, Bool.true_eq_false, Bool.false_eq_true, f3]
        refine ⟨_, _, c32 (by omega) hf RF W (by omega), _, _, c33 (by omega) hf RF W (by omega) (aBt F n) rfl, ?_⟩
        have e := sm_inj (n := F.1 8 n) (ord := F.1 (10 + n)) (f := F.1 5) (N := F.1 0 1) hwa.2.2.2.1 hwa.2.2.2.2
        have e2 : sm (F.1 0 1) (fun p => if aBt F n p = true then F.1 5 p else 0) = _ := e
        rw [e2]; exact hQ
    · rw [if_neg h2]
      refine qCQ_1 fun Q hQ => b93_0 hf rfl (by omega) ?_
      simp (disch := omega) only [qz0, qj_lt, qj_le, qj_eq, qtk, qfk, qbtt, qbft, qbtf, qbff, qIx_z, qj_nat, true_and, and_true, true_implies, false_implies, not_true_eq_false, not_false_eq_true, Bool.true_eq_false, Bool.false_eq_true, f3]
      exact qrfu hQ (fun c => qrfu hQ (fun c => by omega))
  · rw [if_neg h]
    refine qCQ_0 fun Q hQ => b93_0 hf rfl (by omega) ?_
    simp (disch := omega) only [qz0, qj_lt, qj_le, f3]
    exact qrfu hQ (fun c => qrfu hQ (fun c => by omega))
theorem f94 (hd : 9 ≤ d) (X : qAbs F L B S S0 Im C T) (H : qCls g I F L B S S0 Im C T P) {z w : Int} (hz : -2147483648 ≤ z ∧ z < 2147483648) (hw : -2147483648 ≤ w ∧ w < 2147483648) : qCQ d 94 [.ref 64, .int (qj z), .int (qj w)] g I (rScore F L S z w) := by
  have W := X.1
  have WS := X.2.2.2.1.1
  have hy : S.1 0 0 ≤ 1000 := Nat.le_trans X.2.2.2.1.2.1 (by decide)
  have h9 := W.1
  have h8 := W.2.1
  have w3 := W.2.2.1
  have hf := H.1.1
  have hl := H.1.2.2.2.1
  have hb := H.1.2.2.2.2.2.2.1
  have RF := H.2.1
  have RS := H.2.2.2.2.1
  have hs9 : qisS 139 := by unfold qisS; omega
  have hC := H.2.2.2.2.2.2.2.2.2.2.2.2.2.2.1
  unfold rScore
  have f1 := RF.1
  have f2 := RF.2.1
  by_cases h : (0 ≤ z ∧ z < F.1 0 1) ∧ 0 ≤ w ∧ w < F.1 0 0
  · rw [if_pos h]
    obtain ⟨n, rfl⟩ : ∃ n : Nat, z = n := ⟨z.toNat, by omega⟩
    obtain ⟨m, rfl⟩ : ∃ m : Nat, w = m := ⟨w.toNat, by omega⟩
    obtain ⟨I', k1, k2⟩ := c44 (d := d - 1) (g := g) (by omega) hs9 hf hl RF W RS WS H.2.2.1 X.2.1 (p := n) (h := m) (by omega) (by omega)
    refine qCQ_inl I' (fun Q hQ => b94_0 hf hl rfl rfl (by omega) ?_) (qFq_l k2)
    simp (disch := omega) only [qz0, qj_lt, qj_le, qj_eq, qtk, qfk, qbtt, qbft, qbtf, qbff, qIx_z, qj_nat, true_and, and_true, true_implies, false_implies, not_true_eq_false, not_false_eq_true, Bool.true_eq_false, Bool.false_eq_true, f1, f2]
    exact ⟨_, _, k1, hQ⟩
  · rw [if_neg h]
    refine qCQ_0 fun Q hQ => b94_0 hf hl rfl rfl (by omega) ?_
    simp (disch := omega) only [qz0, qj_lt, qj_le, f1, f2]
    exact qrfu hQ (fun c => qrfu hQ (fun c => qrfu hQ (fun c => qrfu hQ (fun c => by omega))))
theorem f95 (hd : 9 ≤ d) (X : qAbs F L B S S0 Im C T) (H : qCls g I F L B S S0 Im C T P) {z : Int} (hz : -2147483648 ≤ z ∧ z < 2147483648) : qCQ d 95 [.ref 64, .int (qj z)] g I (rChs F L S z) := by
  have W := X.1
  have WS := X.2.2.2.1.1
  have hy : S.1 0 0 ≤ 1000 := Nat.le_trans X.2.2.2.1.2.1 (by decide)
  have h9 := W.1
  have h8 := W.2.1
  have w3 := W.2.2.1
  have hf := H.1.1
  have hl := H.1.2.2.2.1
  have hb := H.1.2.2.2.2.2.2.1
  have RF := H.2.1
  have RS := H.2.2.2.2.1
  have hs9 : qisS 139 := by unfold qisS; omega
  have hC := H.2.2.2.2.2.2.2.2.2.2.2.2.2.2.1
  unfold rChs
  have f2 := RF.2.1
  by_cases h : 0 ≤ z ∧ z < F.1 0 1
  · rw [if_pos h]
    obtain ⟨n, rfl⟩ : ∃ n : Nat, z = n := ⟨z.toNat, by omega⟩
    obtain ⟨I', k1, k2⟩ := c47 (d := d - 1) (g := g) (by omega) hs9 hf hl RF W RS WS hy H.2.2.1 X.2.1 (p := n) (by omega)
    refine qCQ_inl I' (fun Q hQ => b95_0 hf hl rfl rfl (by omega) ?_) (qFq_l k2)
    simp (disch := omega) only [qz0, qj_lt, qj_le, qj_eq, qtk, qfk, qbtt, qbft, qbtf, qbff, qIx_z, qj_nat, true_and, and_true, true_implies, false_implies, not_true_eq_false, not_false_eq_true, Bool.true_eq_false, Bool.false_eq_true, f2]
    exact ⟨_, _, k1, hQ⟩
  · rw [if_neg h]
    refine qCQ_0 fun Q hQ => b95_0 hf hl rfl rfl (by omega) ?_
    simp (disch := omega) only [qz0, qj_lt, qj_le, f2]
    exact qrfu hQ (fun c => qrfu hQ (fun c => by omega))
theorem f98 (hd : 9 ≤ d) (X : qAbs F L B S S0 Im C T) (H : qCls g I F L B S S0 Im C T P) {z w : Int} (hz : -2147483648 ≤ z ∧ z < 2147483648) (hw : -2147483648 ≤ w ∧ w < 2147483648) : qCQ d 98 [.ref 64, .int (qj z), .int (qj w)] g I (rSnc F S z w) := by
  have W := X.1
  have WS := X.2.2.2.1.1
  have hy : S.1 0 0 ≤ 1000 := Nat.le_trans X.2.2.2.1.2.1 (by decide)
  have h9 := W.1
  have h8 := W.2.1
  have w3 := W.2.2.1
  have hf := H.1.1
  have hl := H.1.2.2.2.1
  have hb := H.1.2.2.2.2.2.2.1
  have RF := H.2.1
  have RS := H.2.2.2.2.1
  have hs9 : qisS 139 := by unfold qisS; omega
  have hC := H.2.2.2.2.2.2.2.2.2.2.2.2.2.2.1
  unfold rSnc
  have f1 := RF.1
  have f2 := RF.2.1
  by_cases h : (0 ≤ z ∧ z < F.1 0 0) ∧ 0 ≤ w ∧ w < F.1 0 1
  · rw [if_pos h]
    obtain ⟨n, rfl⟩ : ∃ n : Nat, z = n := ⟨z.toNat, by omega⟩
    obtain ⟨m, rfl⟩ : ∃ m : Nat, w = m := ⟨w.toNat, by omega⟩
    have s6 := (qNow RS).2.2.2.2.2.1 n m (by omega) (by omega)
    refine qCQ_inl I (fun Q hQ => b98_0 hf rfl (by omega) ?_) qFq_rf
    simp (disch := omega) only [qz0, qj_lt, qj_le, qj_eq, qtk, qfk, qbtt, qbft, qbtf, qbff, qIx_z, qj_nat, true_and, and_true, true_implies, false_implies, not_true_eq_false, not_false_eq_true, Bool.true_eq_false, Bool.false_eq_true, f1, f2, q2_e, s6]
    exact hQ
  · rw [if_neg h]
    refine qCQ_0 fun Q hQ => b98_0 hf rfl (by omega) ?_
    simp (disch := omega) only [qz0, qj_lt, qj_le, f1, f2]
    exact qrfu hQ (fun c => qrfu hQ (fun c => qrfu hQ (fun c => qrfu hQ (fun c => by omega))))
theorem f99 (hd : 9 ≤ d) (X : qAbs F L B S S0 Im C T) (H : qCls g I F L B S S0 Im C T P) {z : Int} (hz : -2147483648 ≤ z ∧ z < 2147483648) : qCQ d 99 [.ref 64, .int (qj z)] g I (rCho F S z) := by
  have W := X.1
  have WS := X.2.2.2.1.1
  have hy : S.1 0 0 ≤ 1000 := Nat.le_trans X.2.2.2.1.2.1 (by decide)
  have h9 := W.1
  have h8 := W.2.1
  have w3 := W.2.2.1
  have hf := H.1.1
  have hl := H.1.2.2.2.1
  have hb := H.1.2.2.2.2.2.2.1
  have RF := H.2.1
  have RS := H.2.2.2.2.1
  have hs9 : qisS 139 := by unfold qisS; omega
  have hC := H.2.2.2.2.2.2.2.2.2.2.2.2.2.2.1
  unfold rCho
  have f1 := RF.1
  by_cases h : 0 ≤ z ∧ z < F.1 0 0
  · rw [if_pos h]
    obtain ⟨n, rfl⟩ : ∃ n : Nat, z = n := ⟨z.toNat, by omega⟩
    have s5 := (qNow RS).2.2.2.2.1 n (by omega)
    refine qCQ_inl I (fun Q hQ => b99_0 hf rfl (by omega) ?_) qFq_rf
    simp (disch := omega) only [qz0, qj_lt, qj_le, qj_eq, qtk, qfk, qbtt, qbft, qbtf, qbff, qIx_z, qj_nat, true_and, and_true, true_implies, false_implies, not_true_eq_false, not_false_eq_true, Bool.true_eq_false, Bool.false_eq_true, f1, s5]
    exact hQ
  · rw [if_neg h]
    refine qCQ_0 fun Q hQ => b99_0 hf rfl (by omega) ?_
    simp (disch := omega) only [qz0, qj_lt, qj_le, f1]
    exact qrfu hQ (fun c => qrfu hQ (fun c => by omega))
/-- the asked state is a copy -/
theorem ask0 (hd : 1 ≤ d) (X : qAbs F L B S S0 Im C T) (H : qCls g I F L B S S0 Im C T P) : ∃ J, qRun d 53 [.ref 171, .ref 139] (qw g I) (.inl (none, qw g J)) ∧ qRS F J 171 S ∧ qFq g I J := by
  obtain ⟨J, k1, k2, k3⟩ := c53 (g := g) hd (show qisS 171 by unfold qisS; omega) (show qisS 139 by unfold qisS; omega) (by omega) X.1 H.2.2.2.2.1
  exact ⟨J, k1, k2, qFq_a (fun a ha => k3 a (by omega))⟩
/-- it lives a year -/
theorem ask1 (hd : 6 ≤ d) (X : qAbs F L B S S0 Im C T) (H : qCls g I F L B S S0 Im C T P) {U : qSt} {J : Nat → Nat → Int32} (R : qRS F J 171 U) (WU : qWS F U) (hyU : U.1 0 0 < 1000) (hJ : qFq g I J) :
    ∃ J', qRun d 67 [.ref 171, .ref (g.2.2.1 1), .ref (g.2.2.1 3)] (qw g J) (.inl (none, qw g J')) ∧ qRS F J' 171 (aYear F L U) ∧ qFq g I J' ∧ qWS F (aYear F L U) ∧ (aYear F L U).1 0 0 = U.1 0 0 + 1 ∧ (aYear F L U).1 1 = U.1 1 := by
  have HJ := qCls_q H X.2.2.2.2.2.2.2.1 hJ
  obtain ⟨J', k1, k2, k3⟩ := c67 (g := g) hd (show qisS 171 by unfold qisS; omega) H.1.1 H.1.2.2.2.1 HJ.2.1 X.1 R WU hyU HJ.2.2.1 X.2.1
  obtain ⟨y1, y2, y3⟩ := aYear_ok (L := L) (D := fun _ => false) WU X.1
  exact ⟨J', k1, k2, qFq_tr hJ (qFq_s k3), y1, y2, y3⟩
theorem f100 (hd : 9 ≤ d) (X : qAbs F L B S S0 Im C T) (H : qCls g I F L B S S0 Im C T P) {z w : Int} (hz : -2147483648 ≤ z ∧ z < 2147483648) (hw : -2147483648 ≤ w ∧ w < 2147483648) : qCQ d 100 [.ref 64, .int (qj z), .int (qj w)] g I (rAhd F L S z w) := by
  have W := X.1
  have WS := X.2.2.2.1.1
  have hy : S.1 0 0 ≤ 1000 := Nat.le_trans X.2.2.2.1.2.1 (by decide)
  have h9 := W.1
  have h8 := W.2.1
  have w3 := W.2.2.1
  have hf := H.1.1
  have hl := H.1.2.2.2.1
  have hb := H.1.2.2.2.2.2.2.1
  have RF := H.2.1
  have RS := H.2.2.2.2.1
  have hs9 : qisS 139 := by unfold qisS; omega
  have hC := H.2.2.2.2.2.2.2.2.2.2.2.2.2.2.1
  unfold rAhd
  have f2 := RF.2.1
  by_cases h : 0 ≤ z ∧ z < F.1 0 1
  · rw [if_pos h]
    obtain ⟨n, rfl⟩ : ∃ n : Nat, z = n := ⟨z.toNat, by omega⟩
    by_cases h2 : 0 ≤ w ∧ w ≤ 60
    · rw [if_pos h2]
      obtain ⟨m, rfl⟩ : ∃ m : Nat, w = m := ⟨w.toNat, by omega⟩
      have hyy := X.2.2.2.1.2.1
      have key : ∀ i, i ≤ m → ∀ J, qRS F J 171 (itr (aYear F L) i S) → qWS F (itr (aYear F L) i S) → (itr (aYear F L) i S).1 0 0 = S.1 0 0 + i → qFq g I J →
          ∃ I', qFq g I I' ∧ ∀ Q : qR → Prop, Q (.inl (some (.int (qj (bm 9 (fun h => (itr (aYear F L) m S).2.1 h n) : Nat))), qw g I')) → qwq d 100 37 [(0, .ref 64), (1, .int (qj n)), (2, .int (qj m)), (3, .int (qj i))] [] (qw g J) Q := by
        refine upto _ (fun J h1 h2 h3 h4 => ⟨J, h4, fun Q hQ => b100_37 hf hl rfl rfl (by omega) ?_⟩) (fun i hi ih J h1 h2 h3 h4 => ?_)
        · simp (disch := omega) only [qz0, qj_lt, qj_le, qj_eq, qtk, qfk, qbtt, qbft, qbtf, qbff, qIx_z, qj_nat, true_and, and_true, true_implies, false_implies, not_true_eq_false, not_false_eq_true, Bool.true_eq_false, Bool.false_eq_true]
          exact ⟨_, _, c58 (by omega) (show qisS 171 by unfold qisS; omega) h1 (by omega), hQ⟩
        · obtain ⟨J', k1, k2, k3, k4, k5, -⟩ := ask1 (d := d - 1) (by omega) X H h1 h2 (by omega) h4
          obtain ⟨I', r1, r2⟩ := ih J' k2 k4 (by show (aYear F L (itr (aYear F L) i S)).1 0 0 = _; omega) k3
          refine ⟨I', r1, fun Q hQ => b100_37 hf hl rfl rfl (by omega) ?_⟩
          simp (disch := omega) only [qz0, qj_lt, qj_le, qj_eq, qtk, qfk, qbtt, qbft, qbtf, qbff, qIx_z, qj_nat, true_and, and_true, true_implies, false_implies, not_true_eq_false, not_false_eq_true, Bool.true_eq_false, Bool.false_eq_true, qj_add, qj_s1]
          exact ⟨_, k1, r2 Q hQ⟩
      obtain ⟨J, k1, k2, k3⟩ := ask0 (d := d - 1) (by omega) X H
      obtain ⟨I', r1, r2⟩ := key 0 (Nat.zero_le _) J k2 WS rfl k3
      refine qCQ_inl I' (fun Q hQ => b100_0 hf rfl (by omega) ?_) r1
      simp (disch := omega) only [qz0, qj_lt, qj_le, qj_eq, qtk, qfk, qbtt, qbft, qbtf, qbff, qIx_z, qj_nat, true_and, and_true, true_implies, false_implies, not_true_eq_false, not_false_eq_true, Bool.true_eq_false, Bool.false_eq_true, f2]
      exact ⟨_, k1, r2 Q hQ⟩
    · rw [if_neg h2]
      refine qCQ_1 fun Q hQ => b100_0 hf rfl (by omega) ?_
      simp (disch := omega) only [qz0, qj_lt, qj_le, qj_eq, qtk, qfk, qbtt, qbft, qbtf, qbff, qIx_z, qj_nat, true_and, and_true, true_implies, false_implies, not_true_eq_false, not_false_eq_true, Bool.true_eq_false, Bool.false_eq_true, f2]
      exact qrfu hQ (fun c => qrfu hQ (fun c => by omega))
  · rw [if_neg h]
    refine qCQ_0 fun Q hQ => b100_0 hf rfl (by omega) ?_
    simp (disch := omega) only [qz0, qj_lt, qj_le, f2]
    exact qrfu hQ (fun c => qrfu hQ (fun c => by omega))
theorem f101 (hd : 9 ≤ d) (X : qAbs F L B S S0 Im C T) (H : qCls g I F L B S S0 Im C T P) {z w : Int} (hz : -2147483648 ≤ z ∧ z < 2147483648) (hw : -2147483648 ≤ w ∧ w < 2147483648) : qCQ d 101 [.ref 64, .int (qj z), .int (qj w)] g I (rWhn F L S z w) := by
  have W := X.1
  have WS := X.2.2.2.1.1
  have hy : S.1 0 0 ≤ 1000 := Nat.le_trans X.2.2.2.1.2.1 (by decide)
  have h9 := W.1
  have h8 := W.2.1
  have w3 := W.2.2.1
  have hf := H.1.1
  have hl := H.1.2.2.2.1
  have hb := H.1.2.2.2.2.2.2.1
  have RF := H.2.1
  have RS := H.2.2.2.2.1
  have hs9 : qisS 139 := by unfold qisS; omega
  have hC := H.2.2.2.2.2.2.2.2.2.2.2.2.2.2.1
  unfold rWhn
  have f1 := RF.1
  have f2 := RF.2.1
  by_cases h : (0 ≤ z ∧ z < F.1 0 0) ∧ 0 ≤ w ∧ w < F.1 0 1
  · rw [if_pos h]
    obtain ⟨n, rfl⟩ : ∃ n : Nat, z = n := ⟨z.toNat, by omega⟩
    obtain ⟨m, rfl⟩ : ∃ m : Nat, w = m := ⟨w.toNat, by omega⟩
    have hyy := X.2.2.2.1.2.1
    let q : qSt → Bool := fun T => T.2.1 n m
    have key : ∀ i, i ≤ 60 → ∀ U J, qRS F J 171 U → qWS F U → U.1 0 0 = S.1 0 0 + i → qFq g I J → aWh F L q (60 - i) U = aWh F L q 60 S →
        ∃ I', qFq g I I' ∧ ∀ Q : qR → Prop, Q (.inl (some (.int (qj (aWh F L q 60 S))), qw g I')) → qwq d 101 23 [(0, .ref 64), (1, .int (qj n)), (2, .int (qj m)), (3, .int (qj i))] [] (qw g J) Q := by
      refine upto _ (fun U J h1 h2 h3 h4 h5 => ⟨J, h4, fun Q hQ => b101_23 hf hl rfl rfl (by omega) ?_⟩) (fun i hi ih U J h1 h2 h3 h4 h5 => ?_)
      · rw [← h5] at hQ
        simp (disch := omega) only [qz0, qj_lt, qj_le, qj_eq, qtk, qfk, qbtt, qbft, qbtf, qbff, qIx_z, qj_nat, true_and, and_true, true_implies, false_implies, not_true_eq_false, not_false_eq_true, Bool.true_eq_false, Bool.false_eq_true]
        exact hQ
      · obtain ⟨J', k1, k2, k3, k4, k5, -⟩ := ask1 (d := d - 1) (by omega) X H h1 h2 (by omega) h4
        have s4 := (qAsk k2).2.1 n (by omega)
        have e5 : aWh F L q (60 - i) U = if q (aYear F L U) = true then ((aYear F L U).1 0 0 : Int) else aWh F L q (60 - (i + 1)) (aYear F L U) := by rw [show 60 - i = 60 - (i + 1) + 1 by omega]; rfl
        cases hq : q (aYear F L U) with
        | true =>
          refine ⟨J', k3, fun Q hQ => b101_23 hf hl rfl rfl (by omega) ?_⟩
          rw [← h5, e5, hq, if_pos rfl] at hQ
          have hq' : (aYear F L U).2.1 n m = true := hq
          simp (disch := omega) only [qz0, qj_lt, qj_le, qj_eq, qtk, qfk, qbtt, qbft, qbtf, qbff, qIx_z, qj_nat, true_and, and_true, true_implies, false_implies, not_true_eq_false, not_false_eq_true, Bool.true_eq_false, Bool.false_eq_true, s4, qhas_bm, hq']
          refine ⟨_, k1, ?_⟩
          simp (disch := omega) only [qz0, qj_lt, qj_le, qj_eq, qtk, qfk, qbtt, qbft, qbtf, qbff, qIx_z, qj_nat, true_and, and_true, true_implies, false_implies, not_true_eq_false, not_false_eq_true, Bool.true_eq_false, Bool.false_eq_true, s4, qhas_bm, hq', (qAsk k2).1]
          exact hQ
        | false =>
          rw [e5, hq, if_neg Bool.false_ne_true] at h5
          obtain ⟨I', r1, r2⟩ := ih _ J' k2 k4 (by omega) k3 h5
          refine ⟨I', r1, fun Q hQ => b101_23 hf hl rfl rfl (by omega) ?_⟩
          have hq' : (aYear F L U).2.1 n m = false := hq
          simp (disch := omega) only [qz0, qj_lt, qj_le, qj_eq, qtk, qfk, qbtt, qbft, qbtf, qbff, qIx_z, qj_nat, true_and, and_true, true_implies, false_implies, not_true_eq_false, not_false_eq_true, Bool.true_eq_false, Bool.false_eq_true]
          refine ⟨_, k1, ?_⟩
          simp (disch := omega) only [qz0, qj_lt, qj_le, qj_eq, qtk, qfk, qbtt, qbft, qbtf, qbff, qIx_z, qj_nat, true_and, and_true, true_implies, false_implies, not_true_eq_false, not_false_eq_true, Bool.true_eq_false, Bool.false_eq_true, s4, qhas_bm, hq', qj_add, qj_s1]
          exact r2 Q hQ
    obtain ⟨J, k1, k2, k3⟩ := ask0 (d := d - 1) (by omega) X H
    obtain ⟨I', r1, r2⟩ := key 0 (Nat.zero_le _) S J k2 WS rfl k3 rfl
    refine qCQ_inl I' (fun Q hQ => b101_0 hf rfl (by omega) ?_) r1
    simp (disch := omega) only [qz0, qj_lt, qj_le, qj_eq, qtk, qfk, qbtt, qbft, qbtf, qbff, qIx_z, qj_nat, true_and, and_true, true_implies, false_implies, not_true_eq_false, not_false_eq_true, Bool.true_eq_false, Bool.false_eq_true, f1, f2]
    exact ⟨_, k1, r2 Q hQ⟩
  · rw [if_neg h]
    refine qCQ_0 fun Q hQ => b101_0 hf rfl (by omega) ?_
    simp (disch := omega) only [qz0, qj_lt, qj_le, f1, f2]
    exact qrfu hQ (fun c => qrfu hQ (fun c => qrfu hQ (fun c => qrfu hQ (fun c => by omega))))
end ASK2
