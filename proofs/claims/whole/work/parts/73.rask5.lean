/-! ===== questions, the reference's side, 5: casts ===== -/
theorem aWoh_b (al : Nat → Bool) {h : Nat} (hh : h < 9) : qj (bm 9 al : Nat) &&& ((qj 1 <<< (qj (h : Int) &&& 31)) ^^^ qj (-1)) = qj (bm 9 (aWoh al h) : Nat) := by
  rw [bm_clr hh (by omega)]
  congr 2
  refine bm_ext (fun k _ => ?_)
  show (if k = h then false else al k) = (al k && !(k == h))
  by_cases e : k = h
  · rw [if_pos e, e, beq_self_eq_true]; cases al h <;> rfl
  · rw [if_neg e, beq_eq_false_iff_ne.mpr e]; cases al k <;> rfl
theorem aDr_n (F : qFam) (S : qSt) : ∀ i, ((aDr F S i).1 = -1 ∧ (aDr F S i).2 = -1) ∨ (0 ≤ (aDr F S i).1 ∧ 0 ≤ (aDr F S i).2)
  | 0 => Or.inl ⟨rfl, rfl⟩
  | i + 1 => by
    have := aDr_n F S i
    rw [aDr]
    split
    · exact Or.inr ⟨Int.natCast_nonneg _, Int.natCast_nonneg _⟩
    · exact this
section RASK5
variable {d : Nat} {g : qG1} {I : Nat → Nat → Int32} {F : qFam} {L : qLw} {B : qBk} {S S0 : qSt} {Im : Nat → qSt} {C T : Nat → Nat} {P : Int} {f s : Nat}
theorem r257 (hd : 63 ≤ d) (X : qAbs F L B S S0 Im C T) (H : qMdl I F L B S S0 Im C T P) {z : Int} (hz : -2147483648 ≤ z ∧ z < 2147483648) : qMQ d 257 [.ref 245, .int (qj z)] g I 1 C (rCsts F S z) := by
  have W := X.1
  have WL := X.2.1
  have WS := X.2.2.2.1.1
  have hy : S.1 0 0 ≤ 1000 := Nat.le_trans X.2.2.2.1.2.1 (by decide)
  have h9 := W.1
  have h8 := W.2.1
  have w3 := W.2.2.1
  have f1 := H.1.1
  have f2 := H.1.2.1
  have f3 := H.1.2.2.1
  have M0 := qMdl_q H X (qFp_0 (v := qj 0))
  have MF := M0.1
  have R := M0.2.2.2.2.1
  have hr : qisR 682 := by unfold qisR; omega
  have z0 : qup I 245 0 (qj 0) 245 0 = qj 0 := by rw [qup_at, if_pos rfl]
  unfold rCsts
  by_cases h : 0 ≤ z ∧ z < F.1 0 2
  · rw [if_pos h]
    obtain ⟨n, rfl⟩ : ∃ n : Nat, z = n := ⟨z.toNat, by omega⟩
    obtain ⟨J, k1, k2, -⟩ := m255 (d := d - 1) (g := g) (a := n) (by omega) MF R W WS hy (by omega)
    refine qMQ_inl J (fun Q hQ => b257_0 (by omega) ?_) (qFe_k k2)
    simp (disch := omega) only [qz0, qj_lt, qj_le, qj_eq, qtk, qfk, qbtt, qbft, qbtf, qbff, qIx_z, qj_nat, true_and, and_true, true_implies, false_implies, not_true_eq_false, not_false_eq_true, Bool.true_eq_false, Bool.false_eq_true, qj_sub, qinB_t, qinB_f, q2_e, qj_add, qj_s1, qj_c1, qj_c2, qj_c9, qj_c17, qj_c97, f3]
    refine ⟨_, _, bd0 (by omega) _ _, ?_⟩
    simp (disch := omega) only [qz0, qj_lt, qj_le, qj_eq, qtk, qfk, qbtt, qbft, qbtf, qbff, qIx_z, qj_nat, true_and, and_true, true_implies, false_implies, not_true_eq_false, not_false_eq_true, Bool.true_eq_false, Bool.false_eq_true, qj_sub, qinB_t, qinB_f, q2_e, qj_add, qj_s1, qj_c1, qj_c2, qj_c9, qj_c17, qj_c97]
    exact ⟨_, _, k1, hQ⟩
  · rw [if_neg h]
    refine qMQ_0 fun Q hQ => b257_0 (by omega) ?_
    simp (disch := omega) only [qz0, qj_lt, qj_le, qj_eq, qtk, qfk, qbtt, qbft, qbtf, qbff, qIx_z, qj_nat, true_and, and_true, true_implies, false_implies, not_true_eq_false, not_false_eq_true, Bool.true_eq_false, Bool.false_eq_true, qj_sub, qinB_t, qinB_f, q2_e, qj_add, qj_s1, qj_c1, qj_c2, qj_c9, qj_c17, qj_c97, f3]
    refine ⟨_, _, bd10 (by omega) H, ?_⟩
    simp (disch := omega) only [qz0, qj_lt, qj_le, qj_eq, qtk, qfk, qbtt, qbft, qbtf, qbff, qIx_z, qj_nat, true_and, and_true, true_implies, false_implies, not_true_eq_false, not_false_eq_true, Bool.true_eq_false, Bool.false_eq_true, qj_sub, qinB_t, qinB_f, q2_e, qj_add, qj_s1, qj_c1, qj_c2, qj_c9, qj_c17, qj_c97]
    exact hQ
theorem r258 (hd : 62 ≤ d) (X : qAbs F L B S S0 Im C T) (H : qMdl I F L B S S0 Im C T P) {z w : Int} (hz : -2147483648 ≤ z ∧ z < 2147483648) (hw : -2147483648 ≤ w ∧ w < 2147483648) : qMQ d 258 [.ref 245, .int (qj z), .int (qj w)] g I 1 C (rCst F S z w) := by
  have W := X.1
  have WL := X.2.1
  have WS := X.2.2.2.1.1
  have hy : S.1 0 0 ≤ 1000 := Nat.le_trans X.2.2.2.1.2.1 (by decide)
  have h9 := W.1
  have h8 := W.2.1
  have w3 := W.2.2.1
  have f1 := H.1.1
  have f2 := H.1.2.1
  have f3 := H.1.2.2.1
  have M0 := qMdl_q H X (qFp_0 (v := qj 0))
  have MF := M0.1
  have R := M0.2.2.2.2.1
  have hr : qisR 682 := by unfold qisR; omega
  have z0 : qup I 245 0 (qj 0) 245 0 = qj 0 := by rw [qup_at, if_pos rfl]
  unfold rCst
  by_cases h : (0 ≤ z ∧ z < F.1 0 2) ∧ 0 ≤ w ∧ w < F.1 0 1
  · rw [if_pos h]
    obtain ⟨n, rfl⟩ : ∃ n : Nat, z = n := ⟨z.toNat, by omega⟩
    obtain ⟨m, rfl⟩ : ∃ m : Nat, w = m := ⟨w.toNat, by omega⟩
    rw [Int.toNat_natCast, Int.toNat_natCast]
    have hn : n < F.1 0 2 := by omega
    have hwa := W.2.2.2.2.2.2.1 n hn
    obtain ⟨J1, a1, a2, a3⟩ := m251' (d := d - 1) (g := g) (by omega) MF W hn
    have k219 := m219' (d := d - 1) (g := g) (by omega) hr (qFk_F a3 W MF) W (qFk_S a3 hr R) hy
    obtain ⟨J2, b1, b2, b3⟩ := m254 (d := d - 1) (g := g) (by omega) hr (qFk_F a3 W MF) (qFk_S a3 hr R) W WS (fun h e => aAlv_h e) (n := F.1 8 n) (by omega) (fun i hi => hwa.2.2.2.1 i hi) (fun i hi => hwa.1) a2 true
    have hE : (cE (F.2 2) (cK F (F.1 (10 + n))) (cA F (aAlv F S) (F.1 (10 + n))) (fun i => decide (F.1 7 n ≤ S.1 3 (F.1 (10 + n) i))) (F.1 8 n) 0 0) = aAct F S (aAlv F S) n := rfl
    rw [hE] at b1 b3
    have b1' : qRun (d - 1) 254 [.ref 245, .ref 682, .int (qj (bm 9 (aAlv F S) : Nat)), .int (qj 1)] (qw g J1) (.inl (some (.int (qj (capV true (aAct F S (aAlv F S) n)).length)), qw g J2)) := b1
    refine qMQ_inl J2 (fun Q hQ => b258_0 (by omega) ?_) (qFe_tr (qFe_k a3) (qFe_k (qFg_k b2)))
    simp (disch := omega) only [qz0, qj_lt, qj_le, qj_eq, qtk, qfk, qbtt, qbft, qbtf, qbff, qIx_z, qj_nat, true_and, and_true, true_implies, false_implies, not_true_eq_false, not_false_eq_true, Bool.true_eq_false, Bool.false_eq_true, qj_sub, qinB_t, qinB_f, q2_e, qj_add, qj_s1, qj_c1, qj_c2, qj_c9, qj_c17, qj_c97, f2, f3]
    refine ⟨_, _, bd0 (by omega) _ _, ?_⟩
    simp (disch := omega) only [qz0, qj_lt, qj_le, qj_eq, qtk, qfk, qbtt, qbft, qbtf, qbff, qIx_z, qj_nat, true_and, and_true, true_implies, false_implies, not_true_eq_false, not_false_eq_true, Bool.true_eq_false, Bool.false_eq_true, qj_sub, qinB_t, qinB_f, q2_e, qj_add, qj_s1, qj_c1, qj_c2, qj_c9, qj_c17, qj_c97]
    refine ⟨_, a1, _, _, k219, _, _, b1', ?_⟩
    generalize aAct F S (aAlv F S) n = E at hQ b3
    cases E with
    | nil =>
      have e0 : (capV true ([] : List (List Nat))).length = 0 := rfl
      rw [e0]
      simp (disch := omega) only [qz0, qj_lt, qj_le, qj_eq, qtk, qfk, qbtt, qbft, qbtf, qbff, qIx_z, qj_nat, true_and, and_true, true_implies, false_implies, not_true_eq_false, not_false_eq_true, Bool.true_eq_false, Bool.false_eq_true, qj_sub, qinB_t, qinB_f, q2_e, qj_add, qj_s1, qj_c1, qj_c2, qj_c9, qj_c17, qj_c97]
      exact hQ
    | cons c l =>
      have e0 : (capV true (c :: l)).length = 1 := rfl
      rw [e0]
      have hb : ∀ i, i < F.1 8 n → J2 690 i = qj (c.getD i 0 : Nat) := fun i hi => b3.2.2.1 (by intro q; exact List.noConfusion rfl (heq_of_eq q)) i hi
      have hn51 : J2 245 51 = qj (F.1 8 n) := (b2.2 51 (by omega) (by omega)).trans a2.1
      have h687 : ∀ i, i < F.1 8 n → J2 687 i = qj (F.1 (10 + n) i) := fun i hi => by rw [b2.1 687 (by omega) (by omega) (by omega) (by omega)]; exact (a2.2 i hi).1
      simp (disch := omega) only [qz0, qj_lt, qj_le, qj_eq, qtk, qfk, qbtt, qbft, qbtf, qbff, qIx_z, qj_nat, true_and, and_true, true_implies, false_implies, not_true_eq_false, not_false_eq_true, Bool.true_eq_false, Bool.false_eq_true, qj_sub, qinB_t, qinB_f, q2_e, qj_add, qj_s1, qj_c1, qj_c2, qj_c9, qj_c17, qj_c97]
      have key : ∀ i, i ≤ F.1 8 n → cGv (F.1 (10 + n)) m c (F.1 8 n - i) i = cGv (F.1 (10 + n)) m c (F.1 8 n) 0 → qwq d 258 67 [(0, .ref 245), (2, .int (qj m)), (3, .int (qj i))] [] (qw g J2) Q := by
        refine upto _ (fun h5 => b258_67 (by omega) ?_) (fun i hi ih h5 => b258_67 (by omega) ?_)
        · rw [Nat.sub_self, cGv] at h5
          have hQ' : Q (.inl (some (.int (qj (cGv (F.1 (10 + n)) m c (F.1 8 n) 0 : Nat))), qw g J2)) := hQ
          rw [← h5] at hQ'
          simp (disch := omega) only [qz0, qj_lt, qj_le, qj_eq, qtk, qfk, qbtt, qbft, qbtf, qbff, qIx_z, qj_nat, true_and, and_true, true_implies, false_implies, not_true_eq_false, not_false_eq_true, Bool.true_eq_false, Bool.false_eq_true, qj_sub, qinB_t, qinB_f, q2_e, qj_add, qj_s1, qj_c1, qj_c2, qj_c9, qj_c17, qj_c97, hn51]
          exact hQ'
        · rw [show F.1 8 n - i = F.1 8 n - (i + 1) + 1 by omega, cGv] at h5
          have hp := hwa.2.2.2.1 i hi
          have e7 := h687 i hi
          have e9 := hb i hi
          by_cases e : F.1 (10 + n) i = m
          · rw [if_pos e] at h5
            have hQ' : Q (.inl (some (.int (qj (cGv (F.1 (10 + n)) m c (F.1 8 n) 0 : Nat))), qw g J2)) := hQ
            rw [← h5] at hQ'
            simp (disch := omega) only [qz0, qj_lt, qj_le, qj_eq, qtk, qfk, qbtt, qbft, qbtf, qbff, qIx_z, qj_nat, true_and, and_true, true_implies, false_implies, not_true_eq_false, not_false_eq_true, Bool.true_eq_false, Bool.false_eq_true, qj_sub, qinB_t, qinB_f, q2_e, qj_add, qj_s1, qj_c1, qj_c2, qj_c9, qj_c17, qj_c97, hn51, e7, e9]
            exact hQ'
          · rw [if_neg e] at h5
            simp (disch := omega) only [qz0, qj_lt, qj_le, qj_eq, qtk, qfk, qbtt, qbft, qbtf, qbff, qIx_z, qj_nat, true_and, and_true, true_implies, false_implies, not_true_eq_false, not_false_eq_true, Bool.true_eq_false, Bool.false_eq_true, qj_sub, qinB_t, qinB_f, q2_e, qj_add, qj_s1, qj_c1, qj_c2, qj_c9, qj_c17, qj_c97, hn51, e7]
            exact ih h5
      exact key 0 (Nat.zero_le _) rfl
  · rw [if_neg h]
    by_cases h2 : 0 ≤ z ∧ z < F.1 0 2
    · skip
      refine qMQ_0 fun Q hQ => b258_0 (by omega) ?_
      simp (disch := omega) only [qz0, qj_lt, qj_le, qj_eq, qtk, qfk, qbtt, qbft, qbtf, qbff, qIx_z, qj_nat, true_and, and_true, true_implies, false_implies, not_true_eq_false, not_false_eq_true, Bool.true_eq_false, Bool.false_eq_true, qj_sub, qinB_t, qinB_f, q2_e, qj_add, qj_s1, qj_c1, qj_c2, qj_c9, qj_c17, qj_c97, f2, f3]
      refine ⟨_, _, bd10 (by omega) H, ?_⟩
      simp (disch := omega) only [qz0, qj_lt, qj_le, qj_eq, qtk, qfk, qbtt, qbft, qbtf, qbff, qIx_z, qj_nat, true_and, and_true, true_implies, false_implies, not_true_eq_false, not_false_eq_true, Bool.true_eq_false, Bool.false_eq_true, qj_sub, qinB_t, qinB_f, q2_e, qj_add, qj_s1, qj_c1, qj_c2, qj_c9, qj_c17, qj_c97]
      exact hQ
    · skip
      refine qMQ_0 fun Q hQ => b258_0 (by omega) ?_
      simp (disch := omega) only [qz0, qj_lt, qj_le, qj_eq, qtk, qfk, qbtt, qbft, qbtf, qbff, qIx_z, qj_nat, true_and, and_true, true_implies, false_implies, not_true_eq_false, not_false_eq_true, Bool.true_eq_false, Bool.false_eq_true, qj_sub, qinB_t, qinB_f, q2_e, qj_add, qj_s1, qj_c1, qj_c2, qj_c9, qj_c17, qj_c97, f2, f3]
      refine ⟨_, _, bd10 (by omega) H, ?_⟩
      simp (disch := omega) only [qz0, qj_lt, qj_le, qj_eq, qtk, qfk, qbtt, qbft, qbtf, qbff, qIx_z, qj_nat, true_and, and_true, true_implies, false_implies, not_true_eq_false, not_false_eq_true, Bool.true_eq_false, Bool.false_eq_true, qj_sub, qinB_t, qinB_f, q2_e, qj_add, qj_s1, qj_c1, qj_c2, qj_c9, qj_c17, qj_c97]
      exact hQ
theorem r259 (hd : 63 ≤ d) (X : qAbs F L B S S0 Im C T) (H : qMdl I F L B S S0 Im C T P) {z : Int} (hz : -2147483648 ≤ z ∧ z < 2147483648) : qMQ d 259 [.ref 245, .int (qj z)] g I 1 C (rThm F S z) := by
  have W := X.1
  have WL := X.2.1
  have WS := X.2.2.2.1.1
  have hy : S.1 0 0 ≤ 1000 := Nat.le_trans X.2.2.2.1.2.1 (by decide)
  have h9 := W.1
  have h8 := W.2.1
  have w3 := W.2.2.1
  have f1 := H.1.1
  have f2 := H.1.2.1
  have f3 := H.1.2.2.1
  have M0 := qMdl_q H X (qFp_0 (v := qj 0))
  have MF := M0.1
  have R := M0.2.2.2.2.1
  have hr : qisR 682 := by unfold qisR; omega
  have z0 : qup I 245 0 (qj 0) 245 0 = qj 0 := by rw [qup_at, if_pos rfl]
  unfold rThm
  by_cases h : 0 ≤ z ∧ z < F.1 0 2
  · rw [if_pos h]
    obtain ⟨n, rfl⟩ : ∃ n : Nat, z = n := ⟨z.toNat, by omega⟩
    rw [Int.toNat_natCast]
    obtain ⟨J, k1, k2, -, k3⟩ := m255 (d := d - 1) (g := g) (a := n) (by omega) MF R W WS hy (by omega)
    have hln := aAct_len (S := S) (al := aAlv F S) W (show n < F.1 0 2 by omega)
    have e53 : J 245 53 = qj (bm 9 (aThm F S n) : Nat) := k3.2.1
    refine qMQ_inl J (fun Q hQ => b259_0 (by omega) ?_) (qFe_k k2)
    simp (disch := omega) only [qz0, qj_lt, qj_le, qj_eq, qtk, qfk, qbtt, qbft, qbtf, qbff, qIx_z, qj_nat, true_and, and_true, true_implies, false_implies, not_true_eq_false, not_false_eq_true, Bool.true_eq_false, Bool.false_eq_true, qj_sub, qinB_t, qinB_f, q2_e, qj_add, qj_s1, qj_c1, qj_c2, qj_c9, qj_c17, qj_c97, f3]
    refine ⟨_, _, bd0 (by omega) _ _, ?_⟩
    simp (disch := omega) only [qz0, qj_lt, qj_le, qj_eq, qtk, qfk, qbtt, qbft, qbtf, qbff, qIx_z, qj_nat, true_and, and_true, true_implies, false_implies, not_true_eq_false, not_false_eq_true, Bool.true_eq_false, Bool.false_eq_true, qj_sub, qinB_t, qinB_f, q2_e, qj_add, qj_s1, qj_c1, qj_c2, qj_c9, qj_c17, qj_c97]
    refine ⟨_, _, k1, ?_⟩
    cases hq : aAct F S (aAlv F S) n with
    | nil =>
      rw [hq] at hQ
      simp (disch := omega) only [qz0, qj_lt, qj_le, qj_eq, qtk, qfk, qbtt, qbft, qbtf, qbff, qIx_z, qj_nat, true_and, and_true, true_implies, false_implies, not_true_eq_false, not_false_eq_true, Bool.true_eq_false, Bool.false_eq_true, qj_sub, qinB_t, qinB_f, q2_e, qj_add, qj_s1, qj_c1, qj_c2, qj_c9, qj_c17, qj_c97, List.length_nil, Int.natCast_zero]
      exact hQ
    | cons c l =>
      rw [hq] at hQ hln
      have hp : 0 < (c :: l).length := Nat.succ_pos _
      simp (disch := omega) only [qz0, qj_lt, qj_le, qj_eq, qtk, qfk, qbtt, qbft, qbtf, qbff, qIx_z, qj_nat, true_and, and_true, true_implies, false_implies, not_true_eq_false, not_false_eq_true, Bool.true_eq_false, Bool.false_eq_true, qj_sub, qinB_t, qinB_f, q2_e, qj_add, qj_s1, qj_c1, qj_c2, qj_c9, qj_c17, qj_c97, e53]
      exact hQ
  · rw [if_neg h]
    refine qMQ_0 fun Q hQ => b259_0 (by omega) ?_
    simp (disch := omega) only [qz0, qj_lt, qj_le, qj_eq, qtk, qfk, qbtt, qbft, qbtf, qbff, qIx_z, qj_nat, true_and, and_true, true_implies, false_implies, not_true_eq_false, not_false_eq_true, Bool.true_eq_false, Bool.false_eq_true, qj_sub, qinB_t, qinB_f, q2_e, qj_add, qj_s1, qj_c1, qj_c2, qj_c9, qj_c17, qj_c97, f3]
    refine ⟨_, _, bd10 (by omega) H, ?_⟩
    simp (disch := omega) only [qz0, qj_lt, qj_le, qj_eq, qtk, qfk, qbtt, qbft, qbtf, qbff, qIx_z, qj_nat, true_and, and_true, true_implies, false_implies, not_true_eq_false, not_false_eq_true, Bool.true_eq_false, Bool.false_eq_true, qj_sub, qinB_t, qinB_f, q2_e, qj_add, qj_s1, qj_c1, qj_c2, qj_c9, qj_c17, qj_c97]
    exact hQ
theorem r260 (hd : 63 ≤ d) (X : qAbs F L B S S0 Im C T) (H : qMdl I F L B S S0 Im C T P) {z : Int} (hz : -2147483648 ≤ z ∧ z < 2147483648) : qMQ d 260 [.ref 245, .int (qj z)] g I 1 C (rRea F S z) := by
  have W := X.1
  have WL := X.2.1
  have WS := X.2.2.2.1.1
  have hy : S.1 0 0 ≤ 1000 := Nat.le_trans X.2.2.2.1.2.1 (by decide)
  have h9 := W.1
  have h8 := W.2.1
  have w3 := W.2.2.1
  have f1 := H.1.1
  have f2 := H.1.2.1
  have f3 := H.1.2.2.1
  have M0 := qMdl_q H X (qFp_0 (v := qj 0))
  have MF := M0.1
  have R := M0.2.2.2.2.1
  have hr : qisR 682 := by unfold qisR; omega
  have z0 : qup I 245 0 (qj 0) 245 0 = qj 0 := by rw [qup_at, if_pos rfl]
  unfold rRea
  by_cases h : 0 ≤ z ∧ z < F.1 0 0
  · rw [if_pos h]
    obtain ⟨n, rfl⟩ : ∃ n : Nat, z = n := ⟨z.toNat, by omega⟩
    rw [Int.toNat_natCast]
    have key : ∀ a, a ≤ F.1 0 2 → ∀ J, qFe (qup I 245 0 (qj 0)) J → ∃ I', qFe (qup I 245 0 (qj 0)) I' ∧ ∀ Q : qR → Prop, Q (.inl (some (.int (qj (bm 8 (fun p => anb (F.1 0 2) (fun a => aRe F S n a p)) : Nat))), qw g I')) →
        qwq d 260 33 [(0, .ref 245), (1, .int (qj n)), (2, .int (qj (bm 8 (fun p => anb a (fun a => aRe F S n a p)) : Nat))), (3, .int (qj a))] [] (qw g J) Q := by
      refine upto _ (fun J hJ => ⟨J, hJ, fun Q hQ => b260_33 (by omega) ?_⟩) (fun a ha ih J hJ => ?_)
      · have j3 := (mAf X H hJ).1.2.2.1
        simp (disch := omega) only [qz0, qj_lt, qj_le, qj_eq, qtk, qfk, qbtt, qbft, qbtf, qbff, qIx_z, qj_nat, true_and, and_true, true_implies, false_implies, not_true_eq_false, not_false_eq_true, Bool.true_eq_false, Bool.false_eq_true, qj_sub, qinB_t, qinB_f, q2_e, qj_add, qj_s1, qj_c1, qj_c2, qj_c9, qj_c17, qj_c97, j3]
        exact hQ
      · have M := mAf X H hJ
        have j3 := M.1.2.2.1
        have hwa := W.2.2.2.2.2.2.1 a ha
        obtain ⟨J1, k1, k2, k3, k4⟩ := m255 (d := d - 1) (g := g) (a := a) (by omega) M.1 M.2.2.2.2.1 W WS hy ha
        have hJ1 := qFe_tr hJ (qFe_k k2)
        obtain ⟨I', q1, q2⟩ := ih J1 hJ1
        refine ⟨I', q1, fun Q hQ => b260_33 (by omega) ?_⟩
        simp (disch := omega) only [qz0, qj_lt, qj_le, qj_eq, qtk, qfk, qbtt, qbft, qbtf, qbff, qIx_z, qj_nat, true_and, and_true, true_implies, false_implies, not_true_eq_false, not_false_eq_true, Bool.true_eq_false, Bool.false_eq_true, qj_sub, qinB_t, qinB_f, q2_e, qj_add, qj_s1, qj_c1, qj_c2, qj_c9, qj_c17, qj_c97, j3]
        refine ⟨_, _, k1, ?_⟩
        have inner : ∀ i, i ≤ F.1 8 a → qwq d 260 52 [(0, .ref 245), (1, .int (qj n)), (2, .int (qj (bm 8 (fun p => anb a (fun a => aRe F S n a p) || anb i (fun i => (F.1 (10 + a) i == p) && (aAct F S (aAlv F S) a).any (fun c => (c.getD i 0).testBit n))) : Nat))), (3, .int (qj a)), (4, .int (qj i))] [] (qw g J1) Q := by
          refine upto _ (b260_52 (by omega) ?_) (fun i hi ihi => b260_52 (by omega) ?_)
          · have e51 := k3.1
            simp (disch := omega) only [qz0, qj_lt, qj_le, qj_eq, qtk, qfk, qbtt, qbft, qbtf, qbff, qIx_z, qj_nat, true_and, and_true, true_implies, false_implies, not_true_eq_false, not_false_eq_true, Bool.true_eq_false, Bool.false_eq_true, qj_sub, qinB_t, qinB_f, q2_e, qj_add, qj_s1, qj_c1, qj_c2, qj_c9, qj_c17, qj_c97, e51]
            exact q2 Q hQ
          · have e51 := k3.1
            have e7 := (k3.2 i hi).1
            have e1 := k4.2.2.2 i hi
            have hp := hwa.2.2.2.1 i hi
            cases hv : (aAct F S (aAlv F S) a).any (fun c => (c.getD i 0).testBit n) with
            | false =>
              have e : bm 8 (fun p => anb a (fun a => aRe F S n a p) || anb (i + 1) (fun i => (F.1 (10 + a) i == p) && (aAct F S (aAlv F S) a).any (fun c => (c.getD i 0).testBit n))) = bm 8 (fun p => anb a (fun a => aRe F S n a p) || anb i (fun i => (F.1 (10 + a) i == p) && (aAct F S (aAlv F S) a).any (fun c => (c.getD i 0).testBit n))) := bm_ext (fun k _ => by
                show (_ || (_ || ((F.1 (10 + a) i == k) && (aAct F S (aAlv F S) a).any (fun c => (c.getD i 0).testBit n)))) = (_ || _)
                rw [hv, Bool.and_false, Bool.or_false])
              rw [e] at ihi
              simp (disch := omega) only [qz0, qj_lt, qj_le, qj_eq, qtk, qfk, qbtt, qbft, qbtf, qbff, qIx_z, qj_nat, true_and, and_true, true_implies, false_implies, not_true_eq_false, not_false_eq_true, Bool.true_eq_false, Bool.false_eq_true, qj_sub, qinB_t, qinB_f, q2_e, qj_add, qj_s1, qj_c1, qj_c2, qj_c9, qj_c17, qj_c97, e51, e1, qhas_bm, hv, qor_0]
              exact ihi
            | true =>
              have e : bm 8 (fun q => if q = F.1 (10 + a) i then true else anb a (fun a => aRe F S n a q) || anb i (fun i => (F.1 (10 + a) i == q) && (aAct F S (aAlv F S) a).any (fun c => (c.getD i 0).testBit n))) = bm 8 (fun p => anb a (fun a => aRe F S n a p) || anb (i + 1) (fun i => (F.1 (10 + a) i == p) && (aAct F S (aAlv F S) a).any (fun c => (c.getD i 0).testBit n))) := bm_ext (fun k _ => by
                show (if k = F.1 (10 + a) i then true else _) = (_ || (_ || ((F.1 (10 + a) i == k) && (aAct F S (aAlv F S) a).any (fun c => (c.getD i 0).testBit n))))
                rw [hv, Bool.and_true]
                by_cases ek : k = F.1 (10 + a) i
                · rw [if_pos ek, ek, beq_self_eq_true, Bool.or_true, Bool.or_true]
                · rw [if_neg ek, beq_eq_false_iff_ne.mpr (fun q => ek q.symm), Bool.or_false])
              rw [← e] at ihi
              simp (disch := omega) only [qz0, qj_lt, qj_le, qj_eq, qtk, qfk, qbtt, qbft, qbtf, qbff, qIx_z, qj_nat, true_and, and_true, true_implies, false_implies, not_true_eq_false, not_false_eq_true, Bool.true_eq_false, Bool.false_eq_true, qj_sub, qinB_t, qinB_f, q2_e, qj_add, qj_s1, qj_c1, qj_c2, qj_c9, qj_c17, qj_c97, e51, e1, e7, qhas_bm, hv, bm_set]
              exact ihi
        have := inner 0 (Nat.zero_le _)
        have e0 : bm 8 (fun p => anb a (fun a => aRe F S n a p) || anb 0 (fun i => (F.1 (10 + a) i == p) && (aAct F S (aAlv F S) a).any (fun c => (c.getD i 0).testBit n))) = bm 8 (fun p => anb a (fun a => aRe F S n a p)) := bm_ext (fun k _ => by
          show (_ || false) = _
          rw [Bool.or_false])
        rw [e0] at this
        exact this
    obtain ⟨I', q1, q2⟩ := key 0 (Nat.zero_le _) _ qFe_rf
    refine qMQ_inl I' (fun Q hQ => b260_0 (by omega) ?_) q1
    simp (disch := omega) only [qz0, qj_lt, qj_le, qj_eq, qtk, qfk, qbtt, qbft, qbtf, qbff, qIx_z, qj_nat, true_and, and_true, true_implies, false_implies, not_true_eq_false, not_false_eq_true, Bool.true_eq_false, Bool.false_eq_true, qj_sub, qinB_t, qinB_f, q2_e, qj_add, qj_s1, qj_c1, qj_c2, qj_c9, qj_c17, qj_c97, f1]
    refine ⟨_, _, bd0 (by omega) _ _, ?_⟩
    simp (disch := omega) only [qz0, qj_lt, qj_le, qj_eq, qtk, qfk, qbtt, qbft, qbtf, qbff, qIx_z, qj_nat, true_and, and_true, true_implies, false_implies, not_true_eq_false, not_false_eq_true, Bool.true_eq_false, Bool.false_eq_true, qj_sub, qinB_t, qinB_f, q2_e, qj_add, qj_s1, qj_c1, qj_c2, qj_c9, qj_c17, qj_c97]
    have := q2 Q hQ
    have e0 : bm 8 (fun p => anb 0 (fun a => aRe F S n a p)) = 0 := bm_zero.mpr (fun _ _ => rfl)
    rw [e0] at this
    exact this
  · rw [if_neg h]
    refine qMQ_0 fun Q hQ => b260_0 (by omega) ?_
    simp (disch := omega) only [qz0, qj_lt, qj_le, qj_eq, qtk, qfk, qbtt, qbft, qbtf, qbff, qIx_z, qj_nat, true_and, and_true, true_implies, false_implies, not_true_eq_false, not_false_eq_true, Bool.true_eq_false, Bool.false_eq_true, qj_sub, qinB_t, qinB_f, q2_e, qj_add, qj_s1, qj_c1, qj_c2, qj_c9, qj_c17, qj_c97, f1]
    refine ⟨_, _, bd10 (by omega) H, ?_⟩
    simp (disch := omega) only [qz0, qj_lt, qj_le, qj_eq, qtk, qfk, qbtt, qbft, qbtf, qbff, qIx_z, qj_nat, true_and, and_true, true_implies, false_implies, not_true_eq_false, not_false_eq_true, Bool.true_eq_false, Bool.false_eq_true, qj_sub, qinB_t, qinB_f, q2_e, qj_add, qj_s1, qj_c1, qj_c2, qj_c9, qj_c17, qj_c97]
    exact hQ
theorem r263 (hd : 63 ≤ d) (X : qAbs F L B S S0 Im C T) (H : qMdl I F L B S S0 Im C T P) : qMQ d 263 [.ref 245] g I 1 C (.inl (qj (bm (F.1 0 2) (aPld F S (aAlv F S)) : Nat))) := by
  have W := X.1
  have WL := X.2.1
  have WS := X.2.2.2.1.1
  have hy : S.1 0 0 ≤ 1000 := Nat.le_trans X.2.2.2.1.2.1 (by decide)
  have h9 := W.1
  have h8 := W.2.1
  have w3 := W.2.2.1
  have f1 := H.1.1
  have f2 := H.1.2.1
  have f3 := H.1.2.2.1
  have M0 := qMdl_q H X (qFp_0 (v := qj 0))
  have MF := M0.1
  have R := M0.2.2.2.2.1
  have hr : qisR 682 := by unfold qisR; omega
  have z0 : qup I 245 0 (qj 0) 245 0 = qj 0 := by rw [qup_at, if_pos rfl]
  have key : ∀ a, a ≤ F.1 0 2 → ∀ J, qFe (qup I 245 0 (qj 0)) J → ∃ I', qFe (qup I 245 0 (qj 0)) I' ∧ ∀ Q : qR → Prop, Q (.inl (some (.int (qj (bm (F.1 0 2) (aPld F S (aAlv F S)) : Nat))), qw g I')) →
      qwq d 263 9 [(0, .ref 245), (1, .int (qj (bm a (aPld F S (aAlv F S)) : Nat))), (2, .int (qj a))] [] (qw g J) Q := by
    refine upto _ (fun J hJ => ⟨J, hJ, fun Q hQ => b263_9 (by omega) ?_⟩) (fun a ha ih J hJ => ?_)
    · have j3 := (mAf X H hJ).1.2.2.1
      simp (disch := omega) only [qz0, qj_lt, qj_le, qj_eq, qtk, qfk, qbtt, qbft, qbtf, qbff, qIx_z, qj_nat, true_and, and_true, true_implies, false_implies, not_true_eq_false, not_false_eq_true, Bool.true_eq_false, Bool.false_eq_true, qj_sub, qinB_t, qinB_f, q2_e, qj_add, qj_s1, qj_c1, qj_c2, qj_c9, qj_c17, qj_c97, j3]
      exact hQ
    · have M := mAf X H hJ
      have j3 := M.1.2.2.1
      obtain ⟨J1, k1, k2⟩ := m256 (d := d - 1) (g := g) (a := a) (by omega) hr M.1 M.2.2.2.2.1 W WS hy ha
      obtain ⟨I', q1, q2⟩ := ih J1 (qFe_tr hJ (qFe_k k2))
      refine ⟨I', q1, fun Q hQ => b263_9 (by omega) ?_⟩
      have q3 := q2 Q hQ
      simp (disch := omega) only [qz0, qj_lt, qj_le, qj_eq, qtk, qfk, qbtt, qbft, qbtf, qbff, qIx_z, qj_nat, true_and, and_true, true_implies, false_implies, not_true_eq_false, not_false_eq_true, Bool.true_eq_false, Bool.false_eq_true, qj_sub, qinB_t, qinB_f, q2_e, qj_add, qj_s1, qj_c1, qj_c2, qj_c9, qj_c17, qj_c97, j3]
      refine ⟨_, _, k1, ?_⟩
      cases hp : aPld F S (aAlv F S) a with
      | false =>
        rw [bm_sf hp] at q3
        simp (disch := omega) only [qz0, qj_lt, qj_le, qj_eq, qtk, qfk, qbtt, qbft, qbtf, qbff, qIx_z, qj_nat, true_and, and_true, true_implies, false_implies, not_true_eq_false, not_false_eq_true, Bool.true_eq_false, Bool.false_eq_true, qj_sub, qinB_t, qinB_f, q2_e, qj_add, qj_s1, qj_c1, qj_c2, qj_c9, qj_c17, qj_c97, qor_0]
        exact q3
      | true =>
        rw [← bm_st hp (by omega)] at q3
        simp (disch := omega) only [qz0, qj_lt, qj_le, qj_eq, qtk, qfk, qbtt, qbft, qbtf, qbff, qIx_z, qj_nat, true_and, and_true, true_implies, false_implies, not_true_eq_false, not_false_eq_true, Bool.true_eq_false, Bool.false_eq_true, qj_sub, qinB_t, qinB_f, q2_e, qj_add, qj_s1, qj_c1, qj_c2, qj_c9, qj_c17, qj_c97]
        exact q3
  obtain ⟨I', q1, q2⟩ := key 0 (Nat.zero_le _) _ qFe_rf
  exact qMQ_inl I' (fun Q hQ => b263_0 (by omega) (q2 Q hQ)) q1
theorem m264 (hd : 63 ≤ d) (X : qAbs F L B S S0 Im C T) (H : qMdl I F L B S S0 Im C T P) {J : Nat → Nat → Int32} (hJ : qFe (qup I 245 0 (qj 0)) J) {h : Nat} (hh : h < F.1 0 0) :
    ∃ I', qRun d 264 [.ref 245, .int (qj h)] (qw g J) (.inl (some (.int (qj (aCo F S h : Nat))), qw g I')) ∧ qFe (qup I 245 0 (qj 0)) I' := by
  have W := X.1
  have WL := X.2.1
  have WS := X.2.2.2.1.1
  have hy : S.1 0 0 ≤ 1000 := Nat.le_trans X.2.2.2.1.2.1 (by decide)
  have h9 := W.1
  have h8 := W.2.1
  have w3 := W.2.2.1
  have f1 := H.1.1
  have f2 := H.1.2.1
  have f3 := H.1.2.2.1
  have M0 := qMdl_q H X (qFp_0 (v := qj 0))
  have MF := M0.1
  have R := M0.2.2.2.2.1
  have hr : qisR 682 := by unfold qisR; omega
  have z0 : qup I 245 0 (qj 0) 245 0 = qj 0 := by rw [qup_at, if_pos rfl]
  have key : ∀ a, a ≤ F.1 0 2 → ∀ J, qFe (qup I 245 0 (qj 0)) J → ∃ I', qFe (qup I 245 0 (qj 0)) I' ∧ ∀ Q : qR → Prop, Q (.inl (some (.int (qj (aCo F S h : Nat))), qw g I')) →
      qwq d 264 4 [(0, .ref 245), (1, .int (qj h)), (2, .int (qj (cn a (fun a => aPld F S (aAlv F S) a && !aPld F S (aWoh (aAlv F S) h) a) : Nat))), (3, .int (qj a))] [] (qw g J) Q := by
    refine upto _ (fun J hJ => ⟨J, hJ, fun Q hQ => b264_4 (by omega) ?_⟩) (fun a ha ih J hJ => ?_)
    · have j3 := (mAf X H hJ).1.2.2.1
      simp (disch := omega) only [qz0, qj_lt, qj_le, qj_eq, qtk, qfk, qbtt, qbft, qbtf, qbff, qIx_z, qj_nat, true_and, and_true, true_implies, false_implies, not_true_eq_false, not_false_eq_true, Bool.true_eq_false, Bool.false_eq_true, qj_sub, qinB_t, qinB_f, q2_e, qj_add, qj_s1, qj_c1, qj_c2, qj_c9, qj_c17, qj_c97, j3]
      exact hQ
    · have M := mAf X H hJ
      have j3 := M.1.2.2.1
      have hwa := W.2.2.2.2.2.2.1 a ha
      obtain ⟨J1, k1, k2⟩ := m256 (d := d - 1) (g := g) (a := a) (by omega) hr M.1 M.2.2.2.2.1 W WS hy ha
      have hJ1 := qFe_tr hJ (qFe_k k2)
      have M1 := mAf X H hJ1
      cases hp : aPld F S (aAlv F S) a with
      | false =>
        obtain ⟨I', q1, q2⟩ := ih J1 hJ1
        refine ⟨I', q1, fun Q hQ => b264_4 (by omega) ?_⟩
        have q3 := q2 Q hQ
        rw [cn_sf (by rw [hp]; rfl)] at q3
        rw [hp] at k1
        simp (disch := omega) only [qz0, qj_lt, qj_le, qj_eq, qtk, qfk, qbtt, qbft, qbtf, qbff, qIx_z, qj_nat, true_and, and_true, true_implies, false_implies, not_true_eq_false, not_false_eq_true, Bool.true_eq_false, Bool.false_eq_true, qj_sub, qinB_t, qinB_f, q2_e, qj_add, qj_s1, qj_c1, qj_c2, qj_c9, qj_c17, qj_c97, j3]
        refine ⟨_, _, k1, ?_⟩
        simp (disch := omega) only [qz0, qj_lt, qj_le, qj_eq, qtk, qfk, qbtt, qbft, qbtf, qbff, qIx_z, qj_nat, true_and, and_true, true_implies, false_implies, not_true_eq_false, not_false_eq_true, Bool.true_eq_false, Bool.false_eq_true, qj_sub, qinB_t, qinB_f, q2_e, qj_add, qj_s1, qj_c1, qj_c2, qj_c9, qj_c17, qj_c97]
        exact q3
      | true =>
        obtain ⟨J2, a1, a2, a3⟩ := m251' (d := d - 1) (g := g) (by omega) M1.1 W ha
        have hJ2 := qFe_tr hJ1 (qFe_k a3)
        have M2 := mAf X H hJ2
        have k219 := m219' (d := d - 1) (g := g) (by omega) hr M2.1 W M2.2.2.2.2.1 hy
        obtain ⟨J3, b1, b2, b3⟩ := m254 (d := d - 1) (g := g) (al := aWoh (aAlv F S) h) (by omega) hr M2.1 M2.2.2.2.2.1 W WS (fun k e => by
          unfold aWoh at e
          rw [Bool.and_eq_true] at e
          exact aAlv_h e.1) (n := F.1 8 a) (by omega) (fun i hi => hwa.2.2.2.1 i hi) (fun i hi => hwa.1) a2 true
        have hE : (cE (F.2 2) (cK F (F.1 (10 + a))) (cA F (aWoh (aAlv F S) h) (F.1 (10 + a))) (fun i => decide (F.1 7 a ≤ S.1 3 (F.1 (10 + a) i))) (F.1 8 a) 0 0) = aAct F S (aWoh (aAlv F S) h) a := rfl
        rw [hE] at b1
        have b1' : qRun (d - 1) 254 [.ref 245, .ref 682, .int (qj (bm 9 (aWoh (aAlv F S) h) : Nat)), .int (qj 1)] (qw g J2) (.inl (some (.int (qj (capV true (aAct F S (aWoh (aAlv F S) h) a)).length)), qw g J3)) := b1
        obtain ⟨I', q1, q2⟩ := ih J3 (qFe_tr hJ2 (qFe_k (qFg_k b2)))
        refine ⟨I', q1, fun Q hQ => b264_4 (by omega) ?_⟩
        have q3 := q2 Q hQ
        have ew : aPld F S (aWoh (aAlv F S) h) a = !(aAct F S (aWoh (aAlv F S) h) a).isEmpty := rfl
        rw [hp] at k1
        simp (disch := omega) only [qz0, qj_lt, qj_le, qj_eq, qtk, qfk, qbtt, qbft, qbtf, qbff, qIx_z, qj_nat, true_and, and_true, true_implies, false_implies, not_true_eq_false, not_false_eq_true, Bool.true_eq_false, Bool.false_eq_true, qj_sub, qinB_t, qinB_f, q2_e, qj_add, qj_s1, qj_c1, qj_c2, qj_c9, qj_c17, qj_c97, j3]
        refine ⟨_, _, k1, ?_⟩
        simp (disch := omega) only [qz0, qj_lt, qj_le, qj_eq, qtk, qfk, qbtt, qbft, qbtf, qbff, qIx_z, qj_nat, true_and, and_true, true_implies, false_implies, not_true_eq_false, not_false_eq_true, Bool.true_eq_false, Bool.false_eq_true, qj_sub, qinB_t, qinB_f, q2_e, qj_add, qj_s1, qj_c1, qj_c2, qj_c9, qj_c17, qj_c97]
        refine ⟨_, a1, _, _, k219, ?_⟩
        rw [aWoh_b _ (by omega)]
        refine ⟨_, _, b1', ?_⟩
        generalize aAct F S (aWoh (aAlv F S) h) a = E at ew
        cases E with
        | nil =>
          rw [cn_st (by rw [hp, ew]; rfl)] at q3
          have e0 : (capV true ([] : List (List Nat))).length = 0 := rfl
          rw [e0]
          simp (disch := omega) only [qz0, qj_lt, qj_le, qj_eq, qtk, qfk, qbtt, qbft, qbtf, qbff, qIx_z, qj_nat, true_and, and_true, true_implies, false_implies, not_true_eq_false, not_false_eq_true, Bool.true_eq_false, Bool.false_eq_true, qj_sub, qinB_t, qinB_f, q2_e, qj_add, qj_s1, qj_c1, qj_c2, qj_c9, qj_c17, qj_c97]
          exact q3
        | cons c l =>
          rw [cn_sf (by rw [hp, ew]; rfl)] at q3
          have e0 : (capV true (c :: l)).length = 1 := rfl
          rw [e0]
          simp (disch := omega) only [qz0, qj_lt, qj_le, qj_eq, qtk, qfk, qbtt, qbft, qbtf, qbff, qIx_z, qj_nat, true_and, and_true, true_implies, false_implies, not_true_eq_false, not_false_eq_true, Bool.true_eq_false, Bool.false_eq_true, qj_sub, qinB_t, qinB_f, q2_e, qj_add, qj_s1, qj_c1, qj_c2, qj_c9, qj_c17, qj_c97, Int.add_zero]
          exact q3
  obtain ⟨I', q1, q2⟩ := key 0 (Nat.zero_le _) J hJ
  exact ⟨I', qRun_of fun Q hQ => b264_0 (by omega) (q2 Q hQ), q1⟩
theorem r265 (hd : 64 ≤ d) (X : qAbs F L B S S0 Im C T) (H : qMdl I F L B S S0 Im C T P) {z : Int} (hz : -2147483648 ≤ z ∧ z < 2147483648) : qMQ d 265 [.ref 245, .int (qj z)] g I 1 C (rCost F S z) := by
  have W := X.1
  have WL := X.2.1
  have WS := X.2.2.2.1.1
  have hy : S.1 0 0 ≤ 1000 := Nat.le_trans X.2.2.2.1.2.1 (by decide)
  have h9 := W.1
  have h8 := W.2.1
  have w3 := W.2.2.1
  have f1 := H.1.1
  have f2 := H.1.2.1
  have f3 := H.1.2.2.1
  have M0 := qMdl_q H X (qFp_0 (v := qj 0))
  have MF := M0.1
  have R := M0.2.2.2.2.1
  have hr : qisR 682 := by unfold qisR; omega
  have z0 : qup I 245 0 (qj 0) 245 0 = qj 0 := by rw [qup_at, if_pos rfl]
  unfold rCost
  by_cases h : 0 ≤ z ∧ z < F.1 0 0
  · rw [if_pos h]
    obtain ⟨n, rfl⟩ : ∃ n : Nat, z = n := ⟨z.toNat, by omega⟩
    obtain ⟨J, k1, k2⟩ := m264 (d := d - 1) (g := g) (h := n) (by omega) X H qFe_rf (by omega)
    refine qMQ_inl J (fun Q hQ => b265_0 (by omega) ?_) k2
    simp (disch := omega) only [qz0, qj_lt, qj_le, qj_eq, qtk, qfk, qbtt, qbft, qbtf, qbff, qIx_z, qj_nat, true_and, and_true, true_implies, false_implies, not_true_eq_false, not_false_eq_true, Bool.true_eq_false, Bool.false_eq_true, qj_sub, qinB_t, qinB_f, q2_e, qj_add, qj_s1, qj_c1, qj_c2, qj_c9, qj_c17, qj_c97, f1]
    refine ⟨_, _, bd0 (by omega) _ _, ?_⟩
    simp (disch := omega) only [qz0, qj_lt, qj_le, qj_eq, qtk, qfk, qbtt, qbft, qbtf, qbff, qIx_z, qj_nat, true_and, and_true, true_implies, false_implies, not_true_eq_false, not_false_eq_true, Bool.true_eq_false, Bool.false_eq_true, qj_sub, qinB_t, qinB_f, q2_e, qj_add, qj_s1, qj_c1, qj_c2, qj_c9, qj_c17, qj_c97]
    exact ⟨_, _, k1, hQ⟩
  · rw [if_neg h]
    refine qMQ_0 fun Q hQ => b265_0 (by omega) ?_
    simp (disch := omega) only [qz0, qj_lt, qj_le, qj_eq, qtk, qfk, qbtt, qbft, qbtf, qbff, qIx_z, qj_nat, true_and, and_true, true_implies, false_implies, not_true_eq_false, not_false_eq_true, Bool.true_eq_false, Bool.false_eq_true, qj_sub, qinB_t, qinB_f, q2_e, qj_add, qj_s1, qj_c1, qj_c2, qj_c9, qj_c17, qj_c97, f1]
    refine ⟨_, _, bd10 (by omega) H, ?_⟩
    simp (disch := omega) only [qz0, qj_lt, qj_le, qj_eq, qtk, qfk, qbtt, qbft, qbtf, qbff, qIx_z, qj_nat, true_and, and_true, true_implies, false_implies, not_true_eq_false, not_false_eq_true, Bool.true_eq_false, Bool.false_eq_true, qj_sub, qinB_t, qinB_f, q2_e, qj_add, qj_s1, qj_c1, qj_c2, qj_c9, qj_c17, qj_c97]
    exact hQ
theorem r266 (hd : 64 ≤ d) (X : qAbs F L B S S0 Im C T) (H : qMdl I F L B S S0 Im C T P) : qMQ d 266 [.ref 245] g I 1 C (.inl (qj (aDr F S (F.1 0 0)).1)) := by
  have W := X.1
  have WL := X.2.1
  have WS := X.2.2.2.1.1
  have hy : S.1 0 0 ≤ 1000 := Nat.le_trans X.2.2.2.1.2.1 (by decide)
  have h9 := W.1
  have h8 := W.2.1
  have w3 := W.2.2.1
  have f1 := H.1.1
  have f2 := H.1.2.1
  have f3 := H.1.2.2.1
  have M0 := qMdl_q H X (qFp_0 (v := qj 0))
  have MF := M0.1
  have R := M0.2.2.2.2.1
  have hr : qisR 682 := by unfold qisR; omega
  have z0 : qup I 245 0 (qj 0) 245 0 = qj 0 := by rw [qup_at, if_pos rfl]
  have key : ∀ i, i ≤ F.1 0 0 → ∀ J, qFe (qup I 245 0 (qj 0)) J → ∃ I', qFe (qup I 245 0 (qj 0)) I' ∧ ∀ Q : qR → Prop, Q (.inl (some (.int (qj (aDr F S (F.1 0 0)).1)), qw g I')) →
      qwq d 266 11 [(0, .ref 245), (1, .int (qj (aDr F S i).1)), (2, .int (qj (if (aDr F S i).1 = -1 then 0 else (aDr F S i).2))), (3, .int (qj i))] [] (qw g J) Q := by
    refine upto _ (fun J hJ => ⟨J, hJ, fun Q hQ => b266_11 (by omega) ?_⟩) (fun i hi ih J hJ => ?_)
    · have j1 := (mAf X H hJ).1.1
      simp (disch := omega) only [qz0, qj_lt, qj_le, qj_eq, qtk, qfk, qbtt, qbft, qbtf, qbff, qIx_z, qj_nat, true_and, and_true, true_implies, false_implies, not_true_eq_false, not_false_eq_true, Bool.true_eq_false, Bool.false_eq_true, qj_sub, qinB_t, qinB_f, q2_e, qj_add, qj_s1, qj_c1, qj_c2, qj_c9, qj_c17, qj_c97, j1]
      exact hQ
    · have M := mAf X H hJ
      have j1 := M.1.1
      obtain ⟨c1, c2, c3, c4⟩ := aDr_b F S w3 i
      have hn := aDr_n F S i
      have hco : aCo F S i ≤ 6 := Nat.le_trans (cn_le _ _) w3
      have k218 := m218 (d := d - 1) (g := g) (by omega) hr M.1 W M.2.2.2.2.1 hy (h := i) (by omega)
      cases ha : aAl F S i with
      | false =>
        obtain ⟨I', q1, q2⟩ := ih J hJ
        have e : aDr F S (i + 1) = aDr F S i := by rw [aDr, if_neg (by rw [ha]; exact fun q => Bool.noConfusion q.1)]
        rw [e] at q2
        rw [ha] at k218
        refine ⟨I', q1, fun Q hQ => b266_11 (by omega) ?_⟩
        simp (disch := omega) only [qz0, qj_lt, qj_le, qj_eq, qtk, qfk, qbtt, qbft, qbtf, qbff, qIx_z, qj_nat, true_and, and_true, true_implies, false_implies, not_true_eq_false, not_false_eq_true, Bool.true_eq_false, Bool.false_eq_true, qj_sub, qinB_t, qinB_f, q2_e, qj_add, qj_s1, qj_c1, qj_c2, qj_c9, qj_c17, qj_c97, j1]
        refine ⟨_, _, k218, ?_⟩
        simp (disch := omega) only [qz0, qj_lt, qj_le, qj_eq, qtk, qfk, qbtt, qbft, qbtf, qbff, qIx_z, qj_nat, true_and, and_true, true_implies, false_implies, not_true_eq_false, not_false_eq_true, Bool.true_eq_false, Bool.false_eq_true, qj_sub, qinB_t, qinB_f, q2_e, qj_add, qj_s1, qj_c1, qj_c2, qj_c9, qj_c17, qj_c97]
        exact q2 Q hQ
      | true =>
        rw [ha] at k218
        obtain ⟨J1, k1, k2⟩ := m264 (d := d - 1) (g := g) (h := i) (by omega) X H hJ hi
        by_cases hb : (aDr F S i).1 = -1
        · obtain ⟨I', q1, q2⟩ := ih J1 k2
          have e : aDr F S (i + 1) = ((i : Int), (aCo F S i : Int)) := by rw [aDr, if_pos ⟨ha, by omega⟩]
          have e1 : (if (aDr F S (i + 1)).1 = -1 then 0 else (aDr F S (i + 1)).2) = (aCo F S i : Int) := by rw [e, if_neg (by show ¬ (i : Int) = -1; omega)]
          rw [e1, e] at q2
          refine ⟨I', q1, fun Q hQ => b266_11 (by omega) ?_⟩
          rw [if_pos hb, hb]
          simp (disch := omega) only [qz0, qj_lt, qj_le, qj_eq, qtk, qfk, qbtt, qbft, qbtf, qbff, qIx_z, qj_nat, true_and, and_true, true_implies, false_implies, not_true_eq_false, not_false_eq_true, Bool.true_eq_false, Bool.false_eq_true, qj_sub, qinB_t, qinB_f, q2_e, qj_add, qj_s1, qj_c1, qj_c2, qj_c9, qj_c17, qj_c97, j1]
          refine ⟨_, _, k218, ?_⟩
          simp (disch := omega) only [qz0, qj_lt, qj_le, qj_eq, qtk, qfk, qbtt, qbft, qbtf, qbff, qIx_z, qj_nat, true_and, and_true, true_implies, false_implies, not_true_eq_false, not_false_eq_true, Bool.true_eq_false, Bool.false_eq_true, qj_sub, qinB_t, qinB_f, q2_e, qj_add, qj_s1, qj_c1, qj_c2, qj_c9, qj_c17, qj_c97]
          exact ⟨_, _, k1, q2 Q hQ⟩
        · rw [if_neg hb]
          by_cases hc : (aDr F S i).2 < aCo F S i
          · obtain ⟨J2, k3, k4⟩ := m264 (d := d - 1) (g := g) (h := i) (by omega) X H k2 hi
            obtain ⟨I', q1, q2⟩ := ih J2 k4
            have e : aDr F S (i + 1) = ((i : Int), (aCo F S i : Int)) := by rw [aDr, if_pos ⟨ha, hc⟩]
            have e1 : (if (aDr F S (i + 1)).1 = -1 then 0 else (aDr F S (i + 1)).2) = (aCo F S i : Int) := by rw [e, if_neg (by show ¬ (i : Int) = -1; omega)]
            rw [e1, e] at q2
            refine ⟨I', q1, fun Q hQ => b266_11 (by omega) ?_⟩
            simp (disch := omega) only [qz0, qj_lt, qj_le, qj_eq, qtk, qfk, qbtt, qbft, qbtf, qbff, qIx_z, qj_nat, true_and, and_true, true_implies, false_implies, not_true_eq_false, not_false_eq_true, Bool.true_eq_false, Bool.false_eq_true, qj_sub, qinB_t, qinB_f, q2_e, qj_add, qj_s1, qj_c1, qj_c2, qj_c9, qj_c17, qj_c97, j1]
            refine ⟨_, _, k218, ?_⟩
            simp (disch := omega) only [qz0, qj_lt, qj_le, qj_eq, qtk, qfk, qbtt, qbft, qbtf, qbff, qIx_z, qj_nat, true_and, and_true, true_implies, false_implies, not_true_eq_false, not_false_eq_true, Bool.true_eq_false, Bool.false_eq_true, qj_sub, qinB_t, qinB_f, q2_e, qj_add, qj_s1, qj_c1, qj_c2, qj_c9, qj_c17, qj_c97]
            refine ⟨_, _, k1, ?_⟩
            simp (disch := omega) only [qz0, qj_lt, qj_le, qj_eq, qtk, qfk, qbtt, qbft, qbtf, qbff, qIx_z, qj_nat, true_and, and_true, true_implies, false_implies, not_true_eq_false, not_false_eq_true, Bool.true_eq_false, Bool.false_eq_true, qj_sub, qinB_t, qinB_f, q2_e, qj_add, qj_s1, qj_c1, qj_c2, qj_c9, qj_c17, qj_c97]
            exact ⟨_, _, k3, q2 Q hQ⟩
          · obtain ⟨I', q1, q2⟩ := ih J1 k2
            have e : aDr F S (i + 1) = aDr F S i := by rw [aDr, if_neg (fun q => hc q.2)]
            rw [e, if_neg hb] at q2
            refine ⟨I', q1, fun Q hQ => b266_11 (by omega) ?_⟩
            simp (disch := omega) only [qz0, qj_lt, qj_le, qj_eq, qtk, qfk, qbtt, qbft, qbtf, qbff, qIx_z, qj_nat, true_and, and_true, true_implies, false_implies, not_true_eq_false, not_false_eq_true, Bool.true_eq_false, Bool.false_eq_true, qj_sub, qinB_t, qinB_f, q2_e, qj_add, qj_s1, qj_c1, qj_c2, qj_c9, qj_c17, qj_c97, j1]
            refine ⟨_, _, k218, ?_⟩
            simp (disch := omega) only [qz0, qj_lt, qj_le, qj_eq, qtk, qfk, qbtt, qbft, qbtf, qbff, qIx_z, qj_nat, true_and, and_true, true_implies, false_implies, not_true_eq_false, not_false_eq_true, Bool.true_eq_false, Bool.false_eq_true, qj_sub, qinB_t, qinB_f, q2_e, qj_add, qj_s1, qj_c1, qj_c2, qj_c9, qj_c17, qj_c97]
            refine ⟨_, _, k1, ?_⟩
            simp (disch := omega) only [qz0, qj_lt, qj_le, qj_eq, qtk, qfk, qbtt, qbft, qbtf, qbff, qIx_z, qj_nat, true_and, and_true, true_implies, false_implies, not_true_eq_false, not_false_eq_true, Bool.true_eq_false, Bool.false_eq_true, qj_sub, qinB_t, qinB_f, q2_e, qj_add, qj_s1, qj_c1, qj_c2, qj_c9, qj_c17, qj_c97]
            exact q2 Q hQ
  obtain ⟨I', q1, q2⟩ := key 0 (Nat.zero_le _) _ qFe_rf
  exact qMQ_inl I' (fun Q hQ => b266_0 (by omega) (q2 Q hQ)) q1
theorem r261 (hd : 62 ≤ d) (X : qAbs F L B S S0 Im C T) (H : qMdl I F L B S S0 Im C T P) {z w : Int} (hz : -2147483648 ≤ z ∧ z < 2147483648) (hw : -2147483648 ≤ w ∧ w < 2147483648) : qMQ d 261 [.ref 245, .int (qj z), .int (qj w)] g I 2 C (rBth F S z w) := by
  have W := X.1
  have WL := X.2.1
  have WS := X.2.2.2.1.1
  have hy : S.1 0 0 ≤ 1000 := Nat.le_trans X.2.2.2.1.2.1 (by decide)
  have h9 := W.1
  have h8 := W.2.1
  have w3 := W.2.2.1
  have f1 := H.1.1
  have f2 := H.1.2.1
  have f3 := H.1.2.2.1
  have M0 := qMdl_q H X (qFp_0 (v := qj 0))
  have MF := M0.1
  have R := M0.2.2.2.2.1
  have hr : qisR 682 := by unfold qisR; omega
  have z0 : qup I 245 0 (qj 0) 245 0 = qj 0 := by rw [qup_at, if_pos rfl]
  unfold rBth
  by_cases h : (0 ≤ z ∧ z < F.1 0 2) ∧ 0 ≤ w ∧ w < F.1 0 2
  · rw [if_pos h]
    by_cases h2 : z = w
    · rw [if_pos h2]
      refine qMQ_2 fun Q hQ => b261_0 (by omega) ?_
      simp (disch := omega) only [qz0, qj_lt, qj_le, qj_eq, qtk, qfk, qbtt, qbft, qbtf, qbff, qIx_z, qj_nat, true_and, and_true, true_implies, false_implies, not_true_eq_false, not_false_eq_true, Bool.true_eq_false, Bool.false_eq_true, qj_sub, qinB_t, qinB_f, q2_e, qj_add, qj_s1, qj_c1, qj_c2, qj_c9, qj_c17, qj_c97, f3]
      refine ⟨_, _, bd0 (by omega) _ _, ?_⟩
      simp (disch := omega) only [qz0, qj_lt, qj_le, qj_eq, qtk, qfk, qbtt, qbft, qbtf, qbff, qIx_z, qj_nat, true_and, and_true, true_implies, false_implies, not_true_eq_false, not_false_eq_true, Bool.true_eq_false, Bool.false_eq_true, qj_sub, qinB_t, qinB_f, q2_e, qj_add, qj_s1, qj_c1, qj_c2, qj_c9, qj_c17, qj_c97]
      refine ⟨_, _, bd21 (by omega) H, ?_⟩
      simp (disch := omega) only [qz0, qj_lt, qj_le, qj_eq, qtk, qfk, qbtt, qbft, qbtf, qbff, qIx_z, qj_nat, true_and, and_true, true_implies, false_implies, not_true_eq_false, not_false_eq_true, Bool.true_eq_false, Bool.false_eq_true, qj_sub, qinB_t, qinB_f, q2_e, qj_add, qj_s1, qj_c1, qj_c2, qj_c9, qj_c17, qj_c97]
      exact hQ
    · rw [if_neg h2]
      obtain ⟨a, rfl⟩ : ∃ n : Nat, z = n := ⟨z.toNat, by omega⟩
      obtain ⟨b, rfl⟩ : ∃ m : Nat, w = m := ⟨w.toNat, by omega⟩
      rw [Int.toNat_natCast, Int.toNat_natCast]
      have ha : a < F.1 0 2 := by omega
      have hb : b < F.1 0 2 := by omega
      have hwa := W.2.2.2.2.2.2.1 a ha
      have hwb := W.2.2.2.2.2.2.1 b hb
      have ka := m227 (d := d - 1) (g := g) (by omega) MF W ha
      have kb := m227 (d := d - 1) (g := g) (by omega) MF W hb
      cases hq : anb 8 (fun p => aBt F a p && aBt F b p) with
      | true =>
        refine qMQ_inl _ (fun Q hQ => b261_0 (by omega) ?_) qFe_rf
        have eb : aBth F S a b = false := by unfold aBth; rw [hq]; rfl
        rw [eb] at hQ
        have ne : ¬ (qj (bm 8 (aBt F a) : Nat) &&& qj (bm 8 (aBt F b) : Nat)) = qj 0 := by
          rw [qbm_and, qbm_eq0 (by omega)]
          intro c
          rw [(anb_false _ _).mpr c] at hq
          exact Bool.noConfusion hq
        simp (disch := omega) only [qz0, qj_lt, qj_le, qj_eq, qtk, qfk, qbtt, qbft, qbtf, qbff, qIx_z, qj_nat, true_and, and_true, true_implies, false_implies, not_true_eq_false, not_false_eq_true, Bool.true_eq_false, Bool.false_eq_true, qj_sub, qinB_t, qinB_f, q2_e, qj_add, qj_s1, qj_c1, qj_c2, qj_c9, qj_c17, qj_c97, f3]
        refine ⟨_, _, bd0 (by omega) _ _, ?_⟩
        simp (disch := omega) only [qz0, qj_lt, qj_le, qj_eq, qtk, qfk, qbtt, qbft, qbtf, qbff, qIx_z, qj_nat, true_and, and_true, true_implies, false_implies, not_true_eq_false, not_false_eq_true, Bool.true_eq_false, Bool.false_eq_true, qj_sub, qinB_t, qinB_f, q2_e, qj_add, qj_s1, qj_c1, qj_c2, qj_c9, qj_c17, qj_c97]
        refine ⟨_, _, bd0 (by omega) _ _, ?_⟩
        simp (disch := omega) only [qz0, qj_lt, qj_le, qj_eq, qtk, qfk, qbtt, qbft, qbtf, qbff, qIx_z, qj_nat, true_and, and_true, true_implies, false_implies, not_true_eq_false, not_false_eq_true, Bool.true_eq_false, Bool.false_eq_true, qj_sub, qinB_t, qinB_f, q2_e, qj_add, qj_s1, qj_c1, qj_c2, qj_c9, qj_c17, qj_c97]
        refine ⟨_, _, ka, _, _, kb, ?_⟩
        simp (disch := omega) only [qz0, qj_lt, qj_le, qj_eq, qtk, qfk, qbtt, qbft, qbtf, qbff, qIx_z, qj_nat, true_and, and_true, true_implies, false_implies, not_true_eq_false, not_false_eq_true, Bool.true_eq_false, Bool.false_eq_true, qj_sub, qinB_t, qinB_f, q2_e, qj_add, qj_s1, qj_c1, qj_c2, qj_c9, qj_c17, qj_c97, ne]
        exact hQ
      | false =>
        have ee : (qj (bm 8 (aBt F a) : Nat) &&& qj (bm 8 (aBt F b) : Nat)) = qj 0 := by
          rw [qbm_and]
          exact (qbm_eq0 (by omega)).mpr ((anb_false _ _).mp hq)
        obtain ⟨J1, a1, a2, a3⟩ := m251' (d := d - 1) (g := g) (by omega) MF W ha
        have MF1 := qFk_F a3 W MF
        obtain ⟨J2, b1, b2, b3, b4, b5, b6⟩ := m251 (d := d - 1) (g := g) (n := F.1 8 a) (by omega) MF1 W hb hwa.2.2.1
        have hk2 : qFk J1 J2 := ⟨fun c p q => b5 c p (by omega) (by omega), fun j p _ _ => b6 j p⟩
        have hJ2 := qFk_tr a3 hk2
        have MC : qMC J2 (aPs F a b) (aLs F a b) (F.1 8 a + F.1 8 b) := by
          refine ⟨b2, fun i hi => ?_⟩
          unfold aPs aLs
          by_cases c : i < F.1 8 a
          · rw [if_pos c, if_pos c, (b4 i c).1, (b4 i c).2]
            exact a2.2 i c
          · rw [if_neg c, if_neg c]
            have := b3 (i - F.1 8 a) (by omega)
            rw [show F.1 8 a + (i - F.1 8 a) = i by omega] at this
            exact this
        have k219 := m219' (d := d - 1) (g := g) (by omega) hr (qFk_F hJ2 W MF) W (qFk_S hJ2 hr R) hy
        obtain ⟨J3, c1, c2, c3⟩ := m254 (d := d - 1) (g := g) (by omega) hr (qFk_F hJ2 W MF) (qFk_S hJ2 hr R) W WS (fun h e => aAlv_h e) (n := F.1 8 a + F.1 8 b) (by omega) (aPs_ok W ha hb) (fun i hi => by
          unfold aLs; split
          · exact hwa.1
          · exact hwb.1) MC true
        have hE : (cE (F.2 2) (cK F (aPs F a b)) (cA F (aAlv F S) (aPs F a b)) (fun i => decide (aLs F a b i ≤ S.1 3 (aPs F a b i))) (F.1 8 a + F.1 8 b) 0 0) = aTwo F S a b := rfl
        rw [hE] at c1
        have c1' : qRun (d - 1) 254 [.ref 245, .ref 682, .int (qj (bm 9 (aAlv F S) : Nat)), .int (qj 1)] (qw g J2) (.inl (some (.int (qj (capV true (aTwo F S a b)).length)), qw g J3)) := c1
        have e11 := MF1.2.2.2.2.2.2.2.2.2.2.1 a ha
        refine qMQ_inl J3 (fun Q hQ => b261_0 (by omega) ?_) (qFe_k (qFk_tr hJ2 (qFg_k c2)))
        have eb : aBth F S a b = !(aTwo F S a b).isEmpty := by unfold aBth; rw [hq]; rfl
        rw [eb] at hQ
        simp (disch := omega) only [qz0, qj_lt, qj_le, qj_eq, qtk, qfk, qbtt, qbft, qbtf, qbff, qIx_z, qj_nat, true_and, and_true, true_implies, false_implies, not_true_eq_false, not_false_eq_true, Bool.true_eq_false, Bool.false_eq_true, qj_sub, qinB_t, qinB_f, q2_e, qj_add, qj_s1, qj_c1, qj_c2, qj_c9, qj_c17, qj_c97, f3]
        refine ⟨_, _, bd0 (by omega) _ _, ?_⟩
        simp (disch := omega) only [qz0, qj_lt, qj_le, qj_eq, qtk, qfk, qbtt, qbft, qbtf, qbff, qIx_z, qj_nat, true_and, and_true, true_implies, false_implies, not_true_eq_false, not_false_eq_true, Bool.true_eq_false, Bool.false_eq_true, qj_sub, qinB_t, qinB_f, q2_e, qj_add, qj_s1, qj_c1, qj_c2, qj_c9, qj_c17, qj_c97]
        refine ⟨_, _, bd0 (by omega) _ _, ?_⟩
        simp (disch := omega) only [qz0, qj_lt, qj_le, qj_eq, qtk, qfk, qbtt, qbft, qbtf, qbff, qIx_z, qj_nat, true_and, and_true, true_implies, false_implies, not_true_eq_false, not_false_eq_true, Bool.true_eq_false, Bool.false_eq_true, qj_sub, qinB_t, qinB_f, q2_e, qj_add, qj_s1, qj_c1, qj_c2, qj_c9, qj_c17, qj_c97]
        refine ⟨_, _, ka, _, _, kb, ?_⟩
        simp (disch := omega) only [qz0, qj_lt, qj_le, qj_eq, qtk, qfk, qbtt, qbft, qbtf, qbff, qIx_z, qj_nat, true_and, and_true, true_implies, false_implies, not_true_eq_false, not_false_eq_true, Bool.true_eq_false, Bool.false_eq_true, qj_sub, qinB_t, qinB_f, q2_e, qj_add, qj_s1, qj_c1, qj_c2, qj_c9, qj_c17, qj_c97, ee]
        refine ⟨_, a1, ?_⟩
        simp (disch := omega) only [qz0, qj_lt, qj_le, qj_eq, qtk, qfk, qbtt, qbft, qbtf, qbff, qIx_z, qj_nat, true_and, and_true, true_implies, false_implies, not_true_eq_false, not_false_eq_true, Bool.true_eq_false, Bool.false_eq_true, qj_sub, qinB_t, qinB_f, q2_e, qj_add, qj_s1, qj_c1, qj_c2, qj_c9, qj_c17, qj_c97, e11]
        refine ⟨_, b1, _, _, k219, _, _, c1', ?_⟩
        generalize aTwo F S a b = E at hQ
        cases E with
        | nil =>
          have e0 : (capV true ([] : List (List Nat))).length = 0 := rfl
          rw [e0]
          simp (disch := omega) only [qz0, qj_lt, qj_le, qj_eq, qtk, qfk, qbtt, qbft, qbtf, qbff, qIx_z, qj_nat, true_and, and_true, true_implies, false_implies, not_true_eq_false, not_false_eq_true, Bool.true_eq_false, Bool.false_eq_true, qj_sub, qinB_t, qinB_f, q2_e, qj_add, qj_s1, qj_c1, qj_c2, qj_c9, qj_c17, qj_c97]
          exact hQ
        | cons c l =>
          have e0 : (capV true (c :: l)).length = 1 := rfl
          rw [e0]
          simp (disch := omega) only [qz0, qj_lt, qj_le, qj_eq, qtk, qfk, qbtt, qbft, qbtf, qbff, qIx_z, qj_nat, true_and, and_true, true_implies, false_implies, not_true_eq_false, not_false_eq_true, Bool.true_eq_false, Bool.false_eq_true, qj_sub, qinB_t, qinB_f, q2_e, qj_add, qj_s1, qj_c1, qj_c2, qj_c9, qj_c17, qj_c97]
          exact hQ
  · rw [if_neg h]
    by_cases h2 : 0 ≤ z ∧ z < F.1 0 2
    · skip
      refine qMQ_0 fun Q hQ => b261_0 (by omega) ?_
      simp (disch := omega) only [qz0, qj_lt, qj_le, qj_eq, qtk, qfk, qbtt, qbft, qbtf, qbff, qIx_z, qj_nat, true_and, and_true, true_implies, false_implies, not_true_eq_false, not_false_eq_true, Bool.true_eq_false, Bool.false_eq_true, qj_sub, qinB_t, qinB_f, q2_e, qj_add, qj_s1, qj_c1, qj_c2, qj_c9, qj_c17, qj_c97, f3]
      refine ⟨_, _, bd10 (by omega) H, ?_⟩
      simp (disch := omega) only [qz0, qj_lt, qj_le, qj_eq, qtk, qfk, qbtt, qbft, qbtf, qbff, qIx_z, qj_nat, true_and, and_true, true_implies, false_implies, not_true_eq_false, not_false_eq_true, Bool.true_eq_false, Bool.false_eq_true, qj_sub, qinB_t, qinB_f, q2_e, qj_add, qj_s1, qj_c1, qj_c2, qj_c9, qj_c17, qj_c97]
      exact hQ
    · skip
      refine qMQ_0 fun Q hQ => b261_0 (by omega) ?_
      simp (disch := omega) only [qz0, qj_lt, qj_le, qj_eq, qtk, qfk, qbtt, qbft, qbtf, qbff, qIx_z, qj_nat, true_and, and_true, true_implies, false_implies, not_true_eq_false, not_false_eq_true, Bool.true_eq_false, Bool.false_eq_true, qj_sub, qinB_t, qinB_f, q2_e, qj_add, qj_s1, qj_c1, qj_c2, qj_c9, qj_c17, qj_c97, f3]
      refine ⟨_, _, bd10 (by omega) H, ?_⟩
      simp (disch := omega) only [qz0, qj_lt, qj_le, qj_eq, qtk, qfk, qbtt, qbft, qbtf, qbff, qIx_z, qj_nat, true_and, and_true, true_implies, false_implies, not_true_eq_false, not_false_eq_true, Bool.true_eq_false, Bool.false_eq_true, qj_sub, qinB_t, qinB_f, q2_e, qj_add, qj_s1, qj_c1, qj_c2, qj_c9, qj_c17, qj_c97]
      exact hQ
end RASK5
