/-! ===== questions, the reference's side, 4: fates ===== -/
section RASK4
variable {d : Nat} {g : qG1} {I : Nat → Nat → Int32} {F : qFam} {L : qLw} {B : qBk} {S S0 : qSt} {Im : Nat → qSt} {C T : Nat → Nat} {P : Int} {f s : Nat}
theorem aFt_l {x : Int32} {q : Nat} (W : qWF F) (WS : qWS F S) : ∀ n, (itr (aFs F L q) n (S, x)).1.1 1 = S.1 1
  | 0 => rfl
  | n + 1 => by
    obtain ⟨a, b⟩ := aFt_ok (L := L) (x := x) (q := q) W WS n
    obtain ⟨y1, y2, y3⟩ := aYear_ok (L := L) (D := aDm F (aYr (itr (aFs F L q) n (S, x)).1) (itr (aFs F L q) n (S, x)).2 (qj q)) a W
    exact Eq.trans y3 (aFt_l W WS n)
theorem qFe_45 {I J : Nat → Nat → Int32} {v : Int32} (h : qFm 685 I J) : qFe (qup I 245 45 v) (qup J 245 45 v) := by
  refine ⟨⟨fun a p q r s => ?_, fun j p q r s t => ?_⟩, ?_⟩
  · rw [qup_ne p, qup_ne p]; exact h.1 a (by omega) q r p
  · rw [qup_at, qup_at]; split
    · rfl
    · exact h.2 j q
  · rw [qup_at, qup_at, if_neg (by omega), if_neg (by omega)]; exact h.2 0 (by omega)
theorem m290 (hd : 7 ≤ d) (X : qAbs F L B S S0 Im C T) (H : qMdl I F L B S S0 Im C T P) {x : Int32} {q n : Nat} (hq : q ≤ 16) (hn : n ≤ 40) {J : Nat → Nat → Int32} (hJ : qFe (qup I 245 0 (qj 0)) J) :
    ∃ I', qRun d 290 [.ref 245, .int x, .int (qj q), .int (qj n)] (qw g J) (.inl (none, qw g I')) ∧ qMS F I' 685 (aFt F L S x q n) ∧ qFe (qup I 245 0 (qj 0)) I' ∧ qWS F (aFt F L S x q n) ∧ (aFt F L S x q n).1 0 0 = S.1 0 0 + n := by
  have W := X.1
  have WL := X.2.1
  have WS := X.2.2.2.1.1
  have h8 := W.2.1
  have hyy := X.2.2.2.1.2.1
  have hr5 : qisR 685 := by unfold qisR; omega
  have MJ := mAf X H hJ
  obtain ⟨J1, a1, a2, a3⟩ := m201 (d := d - 1) (g := g) (I := J) (by omega) (show qisR 682 by unfold qisR; omega) hr5 (by omega)
  have R1 : qMS F J1 685 S := qMS_cp h8 MJ.2.2.2.2.1 a2
  have hJ1 : qFe (qup I 245 0 (qj 0)) J1 := qFe_tr hJ (qFe_r (Or.inl rfl) a3)
  have M1 := mAf X H hJ1
  have e45 : J1 245 45 = qj 0 := M1.2.2.2.2.2.2.2.2.2.2.2.2.2.2.2
  have key : ∀ i, i ≤ n → ∀ K, qMS F K 685 (itr (aFs F L q) i (S, x)).1 → K 245 45 = qj q → (0 < q → K 245 44 = (itr (aFs F L q) i (S, x)).2) → qFe (qup I 245 0 (qj 0)) (qup K 245 45 (qj 0)) →
      ∃ I', (qMS F I' 685 (aFt F L S x q n) ∧ qFe (qup I 245 0 (qj 0)) I') ∧ ∀ Q : qR → Prop, Q (.inl (none, qw g I')) → qwq d 290 24 [(0, .ref 245), (3, .int (qj n)), (4, .int (qj i))] [] (qw g K) Q := by
    refine upto _ (fun K h1 h2 h3 h4 => ⟨qup K 245 45 (qj 0), ⟨qMS_cg h1 (qup_ne (by omega)), h4⟩, fun Q hQ => b290_24 (by omega) ?_⟩) (fun i hi ih K h1 h2 h3 h4 => ?_)
    · simp (disch := omega) only [qz0, qj_lt, qj_le, qj_eq, qtk, qfk, qbtt, qbft, qbtf, qbff, qIx_z, qj_nat, true_and, and_true, true_implies, false_implies, not_true_eq_false, not_false_eq_true, Bool.true_eq_false, Bool.false_eq_true, qj_sub, qinB_t, qinB_f, q2_e, qj_add, qj_s1, qj_c1, qj_c2, qj_c9, qj_c17, qj_c97]
      exact hQ
    · obtain ⟨w1, w2⟩ := aFt_ok (L := L) (x := x) (q := q) W WS i
      have wl := aFt_l (L := L) (x := x) (q := q) W WS i
      have M := mAf X H h4
      have MF : qMF F K := qMF_cg M.1 (fun a p q => (qup_ne (by omega)).symm) W
      have Ml : qMl F K (itr (aFs F L q) i (S, x)).1 := qMl_of (qMl_cg M.2.1 (fun a p q => (qup_ne (by omega)).symm) W) (fun k hk => by rw [wl]; exact X.2.2.2.1.2.2 k hk)
      have ML : qML L K := qML_cg M.2.2.1 WL (by rw [qup_at, if_neg (by omega)]) (fun a p q => (qup_ne (by omega)).symm)
      obtain ⟨K2, k1, k2, k3, k4⟩ := m238 (d := d - 1) (g := g) (by omega) hr5 MF Ml W h1 w1 (by omega) ML WL hq h2 (rfl : K 245 44 = K 245 44)
      have eS : aLiv F L (aDm F (aYr (itr (aFs F L q) i (S, x)).1) (K 245 44) (qj q)) (aYr (itr (aFs F L q) i (S, x)).1) = (itr (aFs F L q) (i + 1) (S, x)).1 := by
        by_cases c : 0 < q
        · rw [h3 c]; rfl
        · have e0 : q = 0 := by omega
          subst e0
          exact aLiv_ext (fun k _ => (aDm_0 F _ _ k).trans (aDm_0 F _ _ k).symm)
      rw [eS] at k2
      obtain ⟨I', q1, q2⟩ := ih K2 k2 (by rw [k3.2 45 (by omega)]; exact h2) (fun c => by rw [k4 c, h3 c]; rfl) (qFe_tr h4 (qFe_45 k3))
      refine ⟨I', q1, fun Q hQ => b290_24 (by omega) ?_⟩
      simp (disch := omega) only [qz0, qj_lt, qj_le, qj_eq, qtk, qfk, qbtt, qbft, qbtf, qbff, qIx_z, qj_nat, true_and, and_true, true_implies, false_implies, not_true_eq_false, not_false_eq_true, Bool.true_eq_false, Bool.false_eq_true, qj_sub, qinB_t, qinB_f, q2_e, qj_add, qj_s1, qj_c1, qj_c2, qj_c9, qj_c17, qj_c97]
      exact ⟨_, k1, q2 Q hQ⟩
  obtain ⟨I', ⟨q1, q2⟩, q3⟩ := key 0 (Nat.zero_le _) (qup (qup J1 245 44 x) 245 45 (qj q)) (qMS_cg R1 (by rw [qup_ne (by omega), qup_ne (by omega)])) (by rw [qup_at, if_pos rfl]) (fun _ => by rw [qup_at, if_neg (by omega), qup_at, if_pos rfl]; rfl) (by
    rw [qup_qup]
    refine qFe_tr hJ1 ⟨⟨fun a p _ _ _ => by rw [qup_ne p, qup_ne p], fun j p q r s t => ?_⟩, ?_⟩
    · rw [qup_at]
      by_cases c : j = 45
      · rw [if_pos c, c, e45]
      · rw [if_neg c, qup_at, if_neg q]
    · rw [qup_at, if_neg (by omega), qup_at, if_neg (by omega)])
  obtain ⟨w1, w2⟩ := aFt_ok (L := L) (x := x) (q := q) W WS n
  exact ⟨I', qRun_of fun Q hQ => b290_0 (by omega) ⟨_, a1, q3 Q hQ⟩, q1, q2, w1, w2⟩
theorem r291 (hd : 63 ≤ d) (X : qAbs F L B S S0 Im C T) (H : qMdl I F L B S S0 Im C T P) {x : Int32} {z v w : Int} (hz : -2147483648 ≤ z ∧ z < 2147483648) (hv : -2147483648 ≤ v ∧ v < 2147483648) (hw : -2147483648 ≤ w ∧ w < 2147483648) : qMQ d 291 [.ref 245, .int x, .int (qj z), .int (qj v), .int (qj w)] g I 1 C (rFat F L S x z v w) := by
  have W := X.1
  have WL := X.2.1
  have WS := X.2.2.2.1.1
  have hy : S.1 0 0 ≤ 1000 := Nat.le_trans X.2.2.2.1.2.1 (by decide)
  have h9 := W.1
  have h8 := W.2.1
  have w3 := W.2.2.1
  have f1 := H.1.1
  have f2 := H.1.2.1
  have f3 := H.1.2.2.1
  have M0 := qMdl_q H X (qFp_0 (v := qj 0))
  have MF := M0.1
  have R := M0.2.2.2.2.1
  have hr : qisR 682 := by unfold qisR; omega
  have z0 : qup I 245 0 (qj 0) 245 0 = qj 0 := by rw [qup_at, if_pos rfl]
  unfold rFat
  have hr5 : qisR 685 := by unfold qisR; omega
  have hyy := X.2.2.2.1.2.1
  by_cases h : (0 ≤ z ∧ z ≤ 16) ∧ (1 ≤ v ∧ v ≤ 40) ∧ 0 ≤ w ∧ w ≤ 3
  · rw [if_pos h]
    obtain ⟨q, rfl⟩ : ∃ q : Nat, z = q := ⟨z.toNat, by omega⟩
    obtain ⟨n, rfl⟩ : ∃ n : Nat, v = n := ⟨v.toNat, by omega⟩
    rw [Int.toNat_natCast, Int.toNat_natCast]
    obtain ⟨J, k1, k2, k3, k4, k5⟩ := m290 (d := d - 1) (g := g) (x := x) (q := q) (n := n) (by omega) X H (by omega) (by omega) qFe_rf
    have M := mAf X H k3
    generalize aFt F L S x q n = U at k2 k4 k5 ⊢
    have hv : w = 0 ∨ w = 3 ∨ w = 1 ∨ w = 2 := by omega
    have j1 := M.1.2.1
    have j2 := M.1.2.2.1
    rcases hv with rfl | rfl | rfl | rfl
    · refine qMQ_inl J (fun Q hQ => b291_0 (by omega) ?_) k3
      simp (disch := omega) only [qz0, qj_lt, qj_le, qj_eq, qtk, qfk, qbtt, qbft, qbtf, qbff, qIx_z, qj_nat, true_and, and_true, true_implies, false_implies, not_true_eq_false, not_false_eq_true, Bool.true_eq_false, Bool.false_eq_true, qj_sub, qinB_t, qinB_f, q2_e, qj_add, qj_s1, qj_c1, qj_c2, qj_c9, qj_c17, qj_c97]
      refine ⟨_, _, bd0 (by omega) _ _, ?_⟩
      simp (disch := omega) only [qz0, qj_lt, qj_le, qj_eq, qtk, qfk, qbtt, qbft, qbtf, qbff, qIx_z, qj_nat, true_and, and_true, true_implies, false_implies, not_true_eq_false, not_false_eq_true, Bool.true_eq_false, Bool.false_eq_true, qj_sub, qinB_t, qinB_f, q2_e, qj_add, qj_s1, qj_c1, qj_c2, qj_c9, qj_c17, qj_c97]
      refine ⟨_, k1, ?_⟩
      refine ⟨_, _, m219' (by omega) hr5 M.1 W k2 (by omega), _, _, m172 (by omega) _, ?_⟩
      rw [qones (by omega)]; exact hQ
    · refine qMQ_inl J (fun Q hQ => b291_0 (by omega) ?_) k3
      simp (disch := omega) only [qz0, qj_lt, qj_le, qj_eq, qtk, qfk, qbtt, qbft, qbtf, qbff, qIx_z, qj_nat, true_and, and_true, true_implies, false_implies, not_true_eq_false, not_false_eq_true, Bool.true_eq_false, Bool.false_eq_true, qj_sub, qinB_t, qinB_f, q2_e, qj_add, qj_s1, qj_c1, qj_c2, qj_c9, qj_c17, qj_c97]
      refine ⟨_, _, bd0 (by omega) _ _, ?_⟩
      simp (disch := omega) only [qz0, qj_lt, qj_le, qj_eq, qtk, qfk, qbtt, qbft, qbtf, qbff, qIx_z, qj_nat, true_and, and_true, true_implies, false_implies, not_true_eq_false, not_false_eq_true, Bool.true_eq_false, Bool.false_eq_true, qj_sub, qinB_t, qinB_f, q2_e, qj_add, qj_s1, qj_c1, qj_c2, qj_c9, qj_c17, qj_c97]
      refine ⟨_, k1, ?_⟩
      exact ⟨_, _, m220 (by omega) hr5 M.1 W k2, hQ⟩
    · refine qMQ_inl J (fun Q hQ => b291_0 (by omega) ?_) k3
      have hQ' : Q (.inl (some (.int (qj (cn (F.1 0 1) (fun p => decide (0 < aLk F U p)) : Nat))), qw g J)) := hQ
      simp (disch := omega) only [qz0, qj_lt, qj_le, qj_eq, qtk, qfk, qbtt, qbft, qbtf, qbff, qIx_z, qj_nat, true_and, and_true, true_implies, false_implies, not_true_eq_false, not_false_eq_true, Bool.true_eq_false, Bool.false_eq_true, qj_sub, qinB_t, qinB_f, q2_e, qj_add, qj_s1, qj_c1, qj_c2, qj_c9, qj_c17, qj_c97]
      refine ⟨_, _, bd0 (by omega) _ _, ?_⟩
      simp (disch := omega) only [qz0, qj_lt, qj_le, qj_eq, qtk, qfk, qbtt, qbft, qbtf, qbff, qIx_z, qj_nat, true_and, and_true, true_implies, false_implies, not_true_eq_false, not_false_eq_true, Bool.true_eq_false, Bool.false_eq_true, qj_sub, qinB_t, qinB_f, q2_e, qj_add, qj_s1, qj_c1, qj_c2, qj_c9, qj_c17, qj_c97]
      refine ⟨_, k1, ?_⟩
      have key : ∀ i, i ≤ F.1 0 1 → qwq d 291 96 [(0, .ref 245), (4, .int (qj 1)), (5, .int (qj (cn i (fun p => decide (0 < aLk F U p)) : Nat))), (6, .int (qj i))] [] (qw g J) Q := by
        refine upto _ (b291_96 (by omega) ?_) (fun i hi ih => b291_96 (by omega) ?_)
        · simp (disch := omega) only [qz0, qj_lt, qj_le, qj_eq, qtk, qfk, qbtt, qbft, qbtf, qbff, qIx_z, qj_nat, true_and, and_true, true_implies, false_implies, not_true_eq_false, not_false_eq_true, Bool.true_eq_false, Bool.false_eq_true, qj_sub, qinB_t, qinB_f, q2_e, qj_add, qj_s1, qj_c1, qj_c2, qj_c9, qj_c17, qj_c97, j1]
          refine b291_145 (by omega) ?_
          by_cases c : F.1 0 2 ≤ 0
          · simp (disch := omega) only [qz0, qj_lt, qj_le, qj_eq, qtk, qfk, qbtt, qbft, qbtf, qbff, qIx_z, qj_nat, true_and, and_true, true_implies, false_implies, not_true_eq_false, not_false_eq_true, Bool.true_eq_false, Bool.false_eq_true, qj_sub, qinB_t, qinB_f, q2_e, qj_add, qj_s1, qj_c1, qj_c2, qj_c9, qj_c17, qj_c97, j2]
            exact hQ'
          · simp (disch := omega) only [qz0, qj_lt, qj_le, qj_eq, qtk, qfk, qbtt, qbft, qbtf, qbff, qIx_z, qj_nat, true_and, and_true, true_implies, false_implies, not_true_eq_false, not_false_eq_true, Bool.true_eq_false, Bool.false_eq_true, qj_sub, qinB_t, qinB_f, q2_e, qj_add, qj_s1, qj_c1, qj_c2, qj_c9, qj_c17, qj_c97, j2]
            exact hQ'
        · have k224 := m224 (d := d - 1) (g := g) (by omega) hr5 M.1 W k2 (p := i) hi
          have hlk : aLk F U i ≤ F.1 5 i := Nat.sub_le _ _
          have hn5 := (W.2.2.2.2.2.1 i hi).2.2.1
          simp (disch := omega) only [qz0, qj_lt, qj_le, qj_eq, qtk, qfk, qbtt, qbft, qbtf, qbff, qIx_z, qj_nat, true_and, and_true, true_implies, false_implies, not_true_eq_false, not_false_eq_true, Bool.true_eq_false, Bool.false_eq_true, qj_sub, qinB_t, qinB_f, q2_e, qj_add, qj_s1, qj_c1, qj_c2, qj_c9, qj_c17, qj_c97, j1]
          refine ⟨_, _, k224, ?_⟩
          by_cases c : 0 < aLk F U i
          · rw [cn_st (decide_eq_true c)] at ih
            simp (disch := omega) only [qz0, qj_lt, qj_le, qj_eq, qtk, qfk, qbtt, qbft, qbtf, qbff, qIx_z, qj_nat, true_and, and_true, true_implies, false_implies, not_true_eq_false, not_false_eq_true, Bool.true_eq_false, Bool.false_eq_true, qj_sub, qinB_t, qinB_f, q2_e, qj_add, qj_s1, qj_c1, qj_c2, qj_c9, qj_c17, qj_c97]
            exact ih
          · rw [cn_sf (decide_eq_false c)] at ih
            simp (disch := omega) only [qz0, qj_lt, qj_le, qj_eq, qtk, qfk, qbtt, qbft, qbtf, qbff, qIx_z, qj_nat, true_and, and_true, true_implies, false_implies, not_true_eq_false, not_false_eq_true, Bool.true_eq_false, Bool.false_eq_true, qj_sub, qinB_t, qinB_f, q2_e, qj_add, qj_s1, qj_c1, qj_c2, qj_c9, qj_c17, qj_c97, Int.add_zero]
            exact ih
      exact key 0 (Nat.zero_le _)
    · have key : ∀ i, i ≤ F.1 0 2 → ∀ K, qFk J K → ∃ I', qFe (qup I 245 0 (qj 0)) I' ∧ ∀ Q : qR → Prop, Q (.inl (some (.int (qj (cn (F.1 0 2) (aPld F U (aAlv F U)) : Nat))), qw g I')) → qwq d 291 145 [(0, .ref 245), (4, .int (qj 2)), (5, .int (qj (cn i (aPld F U (aAlv F U)) : Nat))), (6, .int (qj i))] [] (qw g K) Q := by
        refine upto _ (fun K hK => ⟨K, qFe_tr k3 (qFe_k hK), fun Q hQ => b291_145 (by omega) ?_⟩) (fun i hi ih K hK => ?_)
        · have j2 := (qFk_F hK W M.1).2.2.1
          simp (disch := omega) only [qz0, qj_lt, qj_le, qj_eq, qtk, qfk, qbtt, qbft, qbtf, qbff, qIx_z, qj_nat, true_and, and_true, true_implies, false_implies, not_true_eq_false, not_false_eq_true, Bool.true_eq_false, Bool.false_eq_true, qj_sub, qinB_t, qinB_f, q2_e, qj_add, qj_s1, qj_c1, qj_c2, qj_c9, qj_c17, qj_c97, j2]
          exact hQ
        · have j2 := (qFk_F hK W M.1).2.2.1
          obtain ⟨K2, e1, e2⟩ := m256 (d := d - 1) (g := g) (a := i) (by omega) hr5 (qFk_F hK W M.1) (qFk_S hK hr5 k2) W k4 (by omega) hi
          obtain ⟨I', q1, q2⟩ := ih K2 (qFk_tr hK e2)
          refine ⟨I', q1, fun Q hQ => b291_145 (by omega) ?_⟩
          have q3 := q2 Q hQ
          simp (disch := omega) only [qz0, qj_lt, qj_le, qj_eq, qtk, qfk, qbtt, qbft, qbtf, qbff, qIx_z, qj_nat, true_and, and_true, true_implies, false_implies, not_true_eq_false, not_false_eq_true, Bool.true_eq_false, Bool.false_eq_true, qj_sub, qinB_t, qinB_f, q2_e, qj_add, qj_s1, qj_c1, qj_c2, qj_c9, qj_c17, qj_c97, j2]
          refine ⟨_, _, e1, ?_⟩
          cases c : aPld F U (aAlv F U) i with
          | true =>
            rw [cn_st c] at q3
            simp (disch := omega) only [qz0, qj_lt, qj_le, qj_eq, qtk, qfk, qbtt, qbft, qbtf, qbff, qIx_z, qj_nat, true_and, and_true, true_implies, false_implies, not_true_eq_false, not_false_eq_true, Bool.true_eq_false, Bool.false_eq_true, qj_sub, qinB_t, qinB_f, q2_e, qj_add, qj_s1, qj_c1, qj_c2, qj_c9, qj_c17, qj_c97]
            exact q3
          | false =>
            rw [cn_sf c] at q3
            simp (disch := omega) only [qz0, qj_lt, qj_le, qj_eq, qtk, qfk, qbtt, qbft, qbtf, qbff, qIx_z, qj_nat, true_and, and_true, true_implies, false_implies, not_true_eq_false, not_false_eq_true, Bool.true_eq_false, Bool.false_eq_true, qj_sub, qinB_t, qinB_f, q2_e, qj_add, qj_s1, qj_c1, qj_c2, qj_c9, qj_c17, qj_c97, Int.add_zero]
            exact q3
      obtain ⟨I', q1, q2⟩ := key 0 (Nat.zero_le _) J qFk_rf
      refine qMQ_inl I' (fun Q hQ => b291_0 (by omega) ?_) q1
      have q3 := q2 Q hQ
      simp (disch := omega) only [qz0, qj_lt, qj_le, qj_eq, qtk, qfk, qbtt, qbft, qbtf, qbff, qIx_z, qj_nat, true_and, and_true, true_implies, false_implies, not_true_eq_false, not_false_eq_true, Bool.true_eq_false, Bool.false_eq_true, qj_sub, qinB_t, qinB_f, q2_e, qj_add, qj_s1, qj_c1, qj_c2, qj_c9, qj_c17, qj_c97]
      refine ⟨_, _, bd0 (by omega) _ _, ?_⟩
      simp (disch := omega) only [qz0, qj_lt, qj_le, qj_eq, qtk, qfk, qbtt, qbft, qbtf, qbff, qIx_z, qj_nat, true_and, and_true, true_implies, false_implies, not_true_eq_false, not_false_eq_true, Bool.true_eq_false, Bool.false_eq_true, qj_sub, qinB_t, qinB_f, q2_e, qj_add, qj_s1, qj_c1, qj_c2, qj_c9, qj_c17, qj_c97]
      refine ⟨_, k1, ?_⟩
      refine b291_96 (by omega) ?_
      by_cases c : F.1 0 1 ≤ 0
      · simp (disch := omega) only [qz0, qj_lt, qj_le, qj_eq, qtk, qfk, qbtt, qbft, qbtf, qbff, qIx_z, qj_nat, true_and, and_true, true_implies, false_implies, not_true_eq_false, not_false_eq_true, Bool.true_eq_false, Bool.false_eq_true, qj_sub, qinB_t, qinB_f, q2_e, qj_add, qj_s1, qj_c1, qj_c2, qj_c9, qj_c17, qj_c97, j1]
        exact q3
      · simp (disch := omega) only [qz0, qj_lt, qj_le, qj_eq, qtk, qfk, qbtt, qbft, qbtf, qbff, qIx_z, qj_nat, true_and, and_true, true_implies, false_implies, not_true_eq_false, not_false_eq_true, Bool.true_eq_false, Bool.false_eq_true, qj_sub, qinB_t, qinB_f, q2_e, qj_add, qj_s1, qj_c1, qj_c2, qj_c9, qj_c17, qj_c97, j1]
        exact q3
  · rw [if_neg h]
    by_cases h1 : 0 ≤ z ∧ z ≤ 16
    · by_cases h2 : 1 ≤ v ∧ v ≤ 40
      · skip
        refine qMQ_1 fun Q hQ => b291_0 (by omega) ?_
        simp (disch := omega) only [qz0, qj_lt, qj_le, qj_eq, qtk, qfk, qbtt, qbft, qbtf, qbff, qIx_z, qj_nat, true_and, and_true, true_implies, false_implies, not_true_eq_false, not_false_eq_true, Bool.true_eq_false, Bool.false_eq_true, qj_sub, qinB_t, qinB_f, q2_e, qj_add, qj_s1, qj_c1, qj_c2, qj_c9, qj_c17, qj_c97]
        refine ⟨_, _, bd11 (by omega) H, ?_⟩
        simp (disch := omega) only [qz0, qj_lt, qj_le, qj_eq, qtk, qfk, qbtt, qbft, qbtf, qbff, qIx_z, qj_nat, true_and, and_true, true_implies, false_implies, not_true_eq_false, not_false_eq_true, Bool.true_eq_false, Bool.false_eq_true, qj_sub, qinB_t, qinB_f, q2_e, qj_add, qj_s1, qj_c1, qj_c2, qj_c9, qj_c17, qj_c97]
        exact hQ
      · skip
        refine qMQ_1 fun Q hQ => b291_0 (by omega) ?_
        simp (disch := omega) only [qz0, qj_lt, qj_le, qj_eq, qtk, qfk, qbtt, qbft, qbtf, qbff, qIx_z, qj_nat, true_and, and_true, true_implies, false_implies, not_true_eq_false, not_false_eq_true, Bool.true_eq_false, Bool.false_eq_true, qj_sub, qinB_t, qinB_f, q2_e, qj_add, qj_s1, qj_c1, qj_c2, qj_c9, qj_c17, qj_c97]
        refine ⟨_, _, bd11 (by omega) H, ?_⟩
        simp (disch := omega) only [qz0, qj_lt, qj_le, qj_eq, qtk, qfk, qbtt, qbft, qbtf, qbff, qIx_z, qj_nat, true_and, and_true, true_implies, false_implies, not_true_eq_false, not_false_eq_true, Bool.true_eq_false, Bool.false_eq_true, qj_sub, qinB_t, qinB_f, q2_e, qj_add, qj_s1, qj_c1, qj_c2, qj_c9, qj_c17, qj_c97]
        exact hQ
    · skip
      refine qMQ_1 fun Q hQ => b291_0 (by omega) ?_
      simp (disch := omega) only [qz0, qj_lt, qj_le, qj_eq, qtk, qfk, qbtt, qbft, qbtf, qbff, qIx_z, qj_nat, true_and, and_true, true_implies, false_implies, not_true_eq_false, not_false_eq_true, Bool.true_eq_false, Bool.false_eq_true, qj_sub, qinB_t, qinB_f, q2_e, qj_add, qj_s1, qj_c1, qj_c2, qj_c9, qj_c17, qj_c97]
      refine ⟨_, _, bd11 (by omega) H, ?_⟩
      simp (disch := omega) only [qz0, qj_lt, qj_le, qj_eq, qtk, qfk, qbtt, qbft, qbtf, qbff, qIx_z, qj_nat, true_and, and_true, true_implies, false_implies, not_true_eq_false, not_false_eq_true, Bool.true_eq_false, Bool.false_eq_true, qj_sub, qinB_t, qinB_f, q2_e, qj_add, qj_s1, qj_c1, qj_c2, qj_c9, qj_c17, qj_c97]
      exact hQ
theorem r292 (hd : 8 ≤ d) (X : qAbs F L B S S0 Im C T) (H : qMdl I F L B S S0 Im C T P) {x : Int32} {m z v w k : Int} (hm : -2147483648 ≤ m ∧ m < 2147483648) (hz : -2147483648 ≤ z ∧ z < 2147483648) (hv : -2147483648 ≤ v ∧ v < 2147483648) (hw : -2147483648 ≤ w ∧ w < 2147483648) (hk : -2147483648 ≤ k ∧ k < 2147483648) :
    qMQ d 292 [.ref 245, .int x, .int (qj m), .int (qj z), .int (qj v), .int (qj w), .int (qj k)] g I 1 C (rSpn F L S x m z v w k) := by
  have W := X.1
  have WL := X.2.1
  have WS := X.2.2.2.1.1
  have hy : S.1 0 0 ≤ 1000 := Nat.le_trans X.2.2.2.1.2.1 (by decide)
  have h9 := W.1
  have h8 := W.2.1
  have w3 := W.2.2.1
  have f1 := H.1.1
  have f2 := H.1.2.1
  have f3 := H.1.2.2.1
  have M0 := qMdl_q H X (qFp_0 (v := qj 0))
  have MF := M0.1
  have R := M0.2.2.2.2.1
  have hr : qisR 682 := by unfold qisR; omega
  have z0 : qup I 245 0 (qj 0) 245 0 = qj 0 := by rw [qup_at, if_pos rfl]
  unfold rSpn
  have hr5 : qisR 685 := by unfold qisR; omega
  have hyy := X.2.2.2.1.2.1
  by_cases h : ((1 ≤ m ∧ m ≤ 20) ∧ (0 ≤ z ∧ z ≤ 16) ∧ (1 ≤ v ∧ v ≤ 40)) ∧ (0 ≤ w ∧ w ≤ 2) ∧ 0 ≤ k ∧ k < F.1 0 0
  · rw [if_pos h]
    obtain ⟨m, rfl⟩ : ∃ q : Nat, m = q := ⟨m.toNat, by omega⟩
    obtain ⟨q, rfl⟩ : ∃ q : Nat, z = q := ⟨z.toNat, by omega⟩
    obtain ⟨n, rfl⟩ : ∃ n : Nat, v = n := ⟨v.toNat, by omega⟩
    obtain ⟨w, rfl⟩ : ∃ q : Nat, w = q := ⟨w.toNat, by omega⟩
    obtain ⟨k, rfl⟩ : ∃ q : Nat, k = q := ⟨k.toNat, by omega⟩
    rw [Int.toNat_natCast, Int.toNat_natCast, Int.toNat_natCast, Int.toNat_natCast, Int.toNat_natCast]
    let c : Nat → Nat := fun i => cn 9 (aAlv F (aFt F L S (x + qj i) q n))
    let p : Nat → Bool := fun i => aAlv F (aFt F L S (x + qj i) q n) k
    have hc : ∀ i, c i ≤ 9 := fun i => cn_le _ _
    have key : ∀ i, i ≤ m → ∀ J, qFe (qup I 245 0 (qj 0)) J →
        ∃ I', qFe (qup I 245 0 (qj 0)) I' ∧ ∀ Q : qR → Prop, Q (.inl (some (.int (qj (aSpn F L S x m q n w k : Nat))), qw g I')) → qwq d 292 83 [(0, .ref 245), (1, .int x), (2, .int (qj m)), (3, .int (qj q)), (4, .int (qj n)), (5, .int (qj w)), (6, .int (qj k)), (7, .int (qj (if i = 0 then -1 else (aMn c i : Nat)))), (8, .int (qj (aMx c i : Nat))), (9, .int (qj (cn i p : Nat))), (10, .int (qj i))] [] (qw g J) Q := by
      refine upto _ (fun J hJ => ⟨J, hJ, fun Q hQ => b292_83 (by omega) ?_⟩) (fun i hi ih J hJ => ?_)
      · unfold aSpn at hQ
        rw [if_neg (show ¬ m = 0 by omega)]
        have hv : w = 0 ∨ w = 1 ∨ w = 2 := by omega
        rcases hv with rfl | rfl | rfl
        · rw [if_pos rfl] at hQ
          simp (disch := omega) only [qz0, qj_lt, qj_le, qj_eq, qtk, qfk, qbtt, qbft, qbtf, qbff, qIx_z, qj_nat, true_and, and_true, true_implies, false_implies, not_true_eq_false, not_false_eq_true, Bool.true_eq_false, Bool.false_eq_true, qj_sub, qinB_t, qinB_f, q2_e, qj_add, qj_s1, qj_c1, qj_c2, qj_c9, qj_c17, qj_c97, Int.natCast_zero]
          exact hQ
        · rw [if_neg (by omega), if_pos rfl] at hQ
          simp (disch := omega) only [qz0, qj_lt, qj_le, qj_eq, qtk, qfk, qbtt, qbft, qbtf, qbff, qIx_z, qj_nat, true_and, and_true, true_implies, false_implies, not_true_eq_false, not_false_eq_true, Bool.true_eq_false, Bool.false_eq_true, qj_sub, qinB_t, qinB_f, q2_e, qj_add, qj_s1, qj_c1, qj_c2, qj_c9, qj_c17, qj_c97, Int.natCast_one]
          exact hQ
        · rw [if_neg (by omega), if_neg (by omega)] at hQ
          simp (disch := omega) only [qz0, qj_lt, qj_le, qj_eq, qtk, qfk, qbtt, qbft, qbtf, qbff, qIx_z, qj_nat, true_and, and_true, true_implies, false_implies, not_true_eq_false, not_false_eq_true, Bool.true_eq_false, Bool.false_eq_true, qj_sub, qinB_t, qinB_f, q2_e, qj_add, qj_s1, qj_c1, qj_c2, qj_c9, qj_c17, qj_c97]
          exact hQ
      · obtain ⟨J2, k1, k2, k3, k4, k5⟩ := m290 (d := d - 1) (g := g) (x := x + qj i) (q := q) (n := n) (by omega) X H (by omega) (by omega) hJ
        have M := mAf X H k3
        have k219 := m219' (d := d - 1) (g := g) (by omega) hr5 M.1 W k2 (by omega)
        have k172 := m172 (d := d - 1) (g := g) (I := J2) (by omega) (qj (bm 9 (aAlv F (aFt F L S (x + qj i) q n)) : Nat))
        rw [qones (by omega)] at k172
        have k218 := m218 (d := d - 1) (g := g) (by omega) hr5 M.1 W k2 (by omega) (h := k) (by omega)
        have ep : aAl F (aFt F L S (x + qj i) q n) k = p i := by
          show _ = (decide (k < F.1 0 0) && aAl F (aFt F L S (x + qj i) q n) k)
          rw [decide_eq_true (by omega), Bool.true_and]
        rw [ep] at k218
        have e2 : ((aMx c (i + 1) : Nat) : Int) = max (aMx c i : Int) (c i : Nat) := by rw [aMx]; omega
        have n1 := aMn_b c i
        have n2 := aMx_b hc i
        have n3 := hc i
        have ec : cn 9 (aAlv F (aFt F L S (x + qj i) q n)) = c i := rfl
        rw [ec] at k172
        obtain ⟨I', q1, q2⟩ := ih J2 k3
        refine ⟨I', q1, fun Q hQ => b292_83 (by omega) ?_⟩
        have q3 := q2 Q hQ
        rw [if_neg (Nat.succ_ne_zero i), e2, ← qmax_z (by omega) (by omega) (by omega) (by omega)] at q3
        simp (disch := omega) only [qz0, qj_lt, qj_le, qj_eq, qtk, qfk, qbtt, qbft, qbtf, qbff, qIx_z, qj_nat, true_and, and_true, true_implies, false_implies, not_true_eq_false, not_false_eq_true, Bool.true_eq_false, Bool.false_eq_true, qj_sub, qinB_t, qinB_f, q2_e, qj_add, qj_s1, qj_c1, qj_c2, qj_c9, qj_c17, qj_c97]
        refine ⟨_, k1, _, _, k219, _, _, k172, ?_⟩
        by_cases hi0 : i = 0
        · subst hi0
          have e1 : ((aMn c (0 + 1) : Nat) : Int) = (c 0 : Nat) := by rw [aMn, aMn]; omega
          rw [e1] at q3
          rw [if_pos rfl]
          simp (disch := omega) only [qz0, qj_lt, qj_le, qj_eq, qtk, qfk, qbtt, qbft, qbtf, qbff, qIx_z, qj_nat, true_and, and_true, true_implies, false_implies, not_true_eq_false, not_false_eq_true, Bool.true_eq_false, Bool.false_eq_true, qj_sub, qinB_t, qinB_f, q2_e, qj_add, qj_s1, qj_c1, qj_c2, qj_c9, qj_c17, qj_c97]
          refine ⟨_, _, k218, ?_⟩
          cases hp : p 0 with
          | false =>
            rw [cn_sf hp] at q3
            simp (disch := omega) only [qz0, qj_lt, qj_le, qj_eq, qtk, qfk, qbtt, qbft, qbtf, qbff, qIx_z, qj_nat, true_and, and_true, true_implies, false_implies, not_true_eq_false, not_false_eq_true, Bool.true_eq_false, Bool.false_eq_true, qj_sub, qinB_t, qinB_f, q2_e, qj_add, qj_s1, qj_c1, qj_c2, qj_c9, qj_c17, qj_c97, Int.add_zero]
            exact q3
          | true =>
            rw [cn_st hp] at q3
            simp (disch := omega) only [qz0, qj_lt, qj_le, qj_eq, qtk, qfk, qbtt, qbft, qbtf, qbff, qIx_z, qj_nat, true_and, and_true, true_implies, false_implies, not_true_eq_false, not_false_eq_true, Bool.true_eq_false, Bool.false_eq_true, qj_sub, qinB_t, qinB_f, q2_e, qj_add, qj_s1, qj_c1, qj_c2, qj_c9, qj_c17, qj_c97]
            exact q3
        · have e1 : ((aMn c (i + 1) : Nat) : Int) = min (aMn c i : Int) (c i : Nat) := by rw [aMn]; omega
          rw [e1, ← qmin_z (by omega) (by omega) (by omega) (by omega)] at q3
          rw [if_neg hi0]
          simp (disch := omega) only [qz0, qj_lt, qj_le, qj_eq, qtk, qfk, qbtt, qbft, qbtf, qbff, qIx_z, qj_nat, true_and, and_true, true_implies, false_implies, not_true_eq_false, not_false_eq_true, Bool.true_eq_false, Bool.false_eq_true, qj_sub, qinB_t, qinB_f, q2_e, qj_add, qj_s1, qj_c1, qj_c2, qj_c9, qj_c17, qj_c97]
          refine ⟨_, _, k218, ?_⟩
          cases hp : p i with
          | false =>
            rw [cn_sf hp] at q3
            simp (disch := omega) only [qz0, qj_lt, qj_le, qj_eq, qtk, qfk, qbtt, qbft, qbtf, qbff, qIx_z, qj_nat, true_and, and_true, true_implies, false_implies, not_true_eq_false, not_false_eq_true, Bool.true_eq_false, Bool.false_eq_true, qj_sub, qinB_t, qinB_f, q2_e, qj_add, qj_s1, qj_c1, qj_c2, qj_c9, qj_c17, qj_c97, Int.add_zero]
            exact q3
          | true =>
            rw [cn_st hp] at q3
            simp (disch := omega) only [qz0, qj_lt, qj_le, qj_eq, qtk, qfk, qbtt, qbft, qbtf, qbff, qIx_z, qj_nat, true_and, and_true, true_implies, false_implies, not_true_eq_false, not_false_eq_true, Bool.true_eq_false, Bool.false_eq_true, qj_sub, qinB_t, qinB_f, q2_e, qj_add, qj_s1, qj_c1, qj_c2, qj_c9, qj_c17, qj_c97]
            exact q3
    obtain ⟨I', r1, r2⟩ := key 0 (Nat.zero_le _) _ qFe_rf
    refine qMQ_inl I' (fun Q hQ => b292_0 (by omega) ?_) r1
    simp (disch := omega) only [qz0, qj_lt, qj_le, qj_eq, qtk, qfk, qbtt, qbft, qbtf, qbff, qIx_z, qj_nat, true_and, and_true, true_implies, false_implies, not_true_eq_false, not_false_eq_true, Bool.true_eq_false, Bool.false_eq_true, qj_sub, qinB_t, qinB_f, q2_e, qj_add, qj_s1, qj_c1, qj_c2, qj_c9, qj_c17, qj_c97, f1]
    refine ⟨_, _, bd0 (by omega) _ _, ?_⟩
    simp (disch := omega) only [qz0, qj_lt, qj_le, qj_eq, qtk, qfk, qbtt, qbft, qbtf, qbff, qIx_z, qj_nat, true_and, and_true, true_implies, false_implies, not_true_eq_false, not_false_eq_true, Bool.true_eq_false, Bool.false_eq_true, qj_sub, qinB_t, qinB_f, q2_e, qj_add, qj_s1, qj_c1, qj_c2, qj_c9, qj_c17, qj_c97]
    exact r2 Q hQ
  · rw [if_neg h]
    by_cases h1 : 1 ≤ m ∧ m ≤ 20
    · by_cases h2 : 0 ≤ z ∧ z ≤ 16
      · by_cases h3 : 1 ≤ v ∧ v ≤ 40
        · by_cases h4 : 0 ≤ w ∧ w ≤ 2
          · skip
            refine qMQ_1 fun Q hQ => b292_0 (by omega) ?_
            simp (disch := omega) only [qz0, qj_lt, qj_le, qj_eq, qtk, qfk, qbtt, qbft, qbtf, qbff, qIx_z, qj_nat, true_and, and_true, true_implies, false_implies, not_true_eq_false, not_false_eq_true, Bool.true_eq_false, Bool.false_eq_true, qj_sub, qinB_t, qinB_f, q2_e, qj_add, qj_s1, qj_c1, qj_c2, qj_c9, qj_c17, qj_c97, f1]
            refine ⟨_, _, bd11 (by omega) H, ?_⟩
            simp (disch := omega) only [qz0, qj_lt, qj_le, qj_eq, qtk, qfk, qbtt, qbft, qbtf, qbff, qIx_z, qj_nat, true_and, and_true, true_implies, false_implies, not_true_eq_false, not_false_eq_true, Bool.true_eq_false, Bool.false_eq_true, qj_sub, qinB_t, qinB_f, q2_e, qj_add, qj_s1, qj_c1, qj_c2, qj_c9, qj_c17, qj_c97]
            exact hQ
          · skip
            refine qMQ_1 fun Q hQ => b292_0 (by omega) ?_
            simp (disch := omega) only [qz0, qj_lt, qj_le, qj_eq, qtk, qfk, qbtt, qbft, qbtf, qbff, qIx_z, qj_nat, true_and, and_true, true_implies, false_implies, not_true_eq_false, not_false_eq_true, Bool.true_eq_false, Bool.false_eq_true, qj_sub, qinB_t, qinB_f, q2_e, qj_add, qj_s1, qj_c1, qj_c2, qj_c9, qj_c17, qj_c97, f1]
            refine ⟨_, _, bd11 (by omega) H, ?_⟩
            simp (disch := omega) only [qz0, qj_lt, qj_le, qj_eq, qtk, qfk, qbtt, qbft, qbtf, qbff, qIx_z, qj_nat, true_and, and_true, true_implies, false_implies, not_true_eq_false, not_false_eq_true, Bool.true_eq_false, Bool.false_eq_true, qj_sub, qinB_t, qinB_f, q2_e, qj_add, qj_s1, qj_c1, qj_c2, qj_c9, qj_c17, qj_c97]
            exact hQ
        · skip
          refine qMQ_1 fun Q hQ => b292_0 (by omega) ?_
          simp (disch := omega) only [qz0, qj_lt, qj_le, qj_eq, qtk, qfk, qbtt, qbft, qbtf, qbff, qIx_z, qj_nat, true_and, and_true, true_implies, false_implies, not_true_eq_false, not_false_eq_true, Bool.true_eq_false, Bool.false_eq_true, qj_sub, qinB_t, qinB_f, q2_e, qj_add, qj_s1, qj_c1, qj_c2, qj_c9, qj_c17, qj_c97, f1]
          refine ⟨_, _, bd11 (by omega) H, ?_⟩
          simp (disch := omega) only [qz0, qj_lt, qj_le, qj_eq, qtk, qfk, qbtt, qbft, qbtf, qbff, qIx_z, qj_nat, true_and, and_true, true_implies, false_implies, not_true_eq_false, not_false_eq_true, Bool.true_eq_false, Bool.false_eq_true, qj_sub, qinB_t, qinB_f, q2_e, qj_add, qj_s1, qj_c1, qj_c2, qj_c9, qj_c17, qj_c97]
          exact hQ
      · skip
        refine qMQ_1 fun Q hQ => b292_0 (by omega) ?_
        simp (disch := omega) only [qz0, qj_lt, qj_le, qj_eq, qtk, qfk, qbtt, qbft, qbtf, qbff, qIx_z, qj_nat, true_and, and_true, true_implies, false_implies, not_true_eq_false, not_false_eq_true, Bool.true_eq_false, Bool.false_eq_true, qj_sub, qinB_t, qinB_f, q2_e, qj_add, qj_s1, qj_c1, qj_c2, qj_c9, qj_c17, qj_c97, f1]
        refine ⟨_, _, bd11 (by omega) H, ?_⟩
        simp (disch := omega) only [qz0, qj_lt, qj_le, qj_eq, qtk, qfk, qbtt, qbft, qbtf, qbff, qIx_z, qj_nat, true_and, and_true, true_implies, false_implies, not_true_eq_false, not_false_eq_true, Bool.true_eq_false, Bool.false_eq_true, qj_sub, qinB_t, qinB_f, q2_e, qj_add, qj_s1, qj_c1, qj_c2, qj_c9, qj_c17, qj_c97]
        exact hQ
    · skip
      refine qMQ_1 fun Q hQ => b292_0 (by omega) ?_
      simp (disch := omega) only [qz0, qj_lt, qj_le, qj_eq, qtk, qfk, qbtt, qbft, qbtf, qbff, qIx_z, qj_nat, true_and, and_true, true_implies, false_implies, not_true_eq_false, not_false_eq_true, Bool.true_eq_false, Bool.false_eq_true, qj_sub, qinB_t, qinB_f, q2_e, qj_add, qj_s1, qj_c1, qj_c2, qj_c9, qj_c17, qj_c97, f1]
      refine ⟨_, _, bd11 (by omega) H, ?_⟩
      simp (disch := omega) only [qz0, qj_lt, qj_le, qj_eq, qtk, qfk, qbtt, qbft, qbtf, qbff, qIx_z, qj_nat, true_and, and_true, true_implies, false_implies, not_true_eq_false, not_false_eq_true, Bool.true_eq_false, Bool.false_eq_true, qj_sub, qinB_t, qinB_f, q2_e, qj_add, qj_s1, qj_c1, qj_c2, qj_c9, qj_c17, qj_c97]
      exact hQ
end RASK4
