/-! ===== questions, the reference's side, 3: limps tried, the book's lines ===== -/
def aFlg (F : qFam) (L : qLw) (B : qBk) (U : qSt) (j k : Nat) : Bool := decide (B.2 0 k ≤ j) && aRtk F L B U k
theorem aFlg_s {F : qFam} {L : qLw} {B : qBk} {U : qSt} {j k : Nat} (c : B.2 0 k = j + 1) : aFlg F L B U (j + 1) k = (itr (aYear F L) (j + 1) U).2.1 (B.2 2 k) (B.2 1 k) := by
  unfold aFlg
  rw [decide_eq_true (by omega : B.2 0 k ≤ j + 1), Bool.true_and]
  unfold aRtk; rw [c]
theorem aFlg_n {F : qFam} {L : qLw} {B : qBk} {U : qSt} {j k : Nat} (c : ¬ B.2 0 k = j + 1) : aFlg F L B U (j + 1) k = aFlg F L B U j k := by
  unfold aFlg
  rw [decide_eq_decide.mpr (show B.2 0 k ≤ j + 1 ↔ B.2 0 k ≤ j by omega)]
theorem aFlg_e {F : qFam} {L : qLw} {B : qBk} {U : qSt} {j k : Nat} (c : B.2 0 k = j + 1) : aFlg F L B U j k = false := by
  unfold aFlg
  rw [decide_eq_false (by omega), Bool.false_and]
/-- what the lines' trial may write -/
def qFb (I J : Nat → Nat → Int32) : Prop := (∀ a, ¬ a = 245 → ¬ a = 680 → ¬ a = 681 → ¬ a = 686 → ¬ a = 692 → J a = I a) ∧ ∀ j, ¬ j = 44 → J 245 j = I 245 j
theorem qFb_rf {I : Nat → Nat → Int32} : qFb I I := ⟨fun _ _ _ _ _ _ => rfl, fun _ _ => rfl⟩
theorem qFb_tr {I J K : Nat → Nat → Int32} (h : qFb I J) (h2 : qFb J K) : qFb I K := ⟨fun a p q r s t => (h2.1 a p q r s t).trans (h.1 a p q r s t), fun j p => (h2.2 j p).trans (h.2 j p)⟩
theorem qFb_92 {I J : Nat → Nat → Int32} (h : qFb I J) {k : Nat} {v : Int32} : qFb I (qup J 692 k v) := ⟨fun a p q r s t => by rw [qup_ne t]; exact h.1 a p q r s t, fun j p => by rw [qup_ne (by omega)]; exact h.2 j p⟩
theorem qFb_m {I J : Nat → Nat → Int32} (h : qFm 686 I J) : qFb I J := ⟨fun a p q r s _ => h.1 a s q r p, fun j p => h.2 j p⟩
theorem qFe_b {I J : Nat → Nat → Int32} (h : qFb I J) : qFe I J := ⟨⟨fun a p q r s => h.1 a p q r (by omega) (by omega), fun j _ q _ _ _ => h.2 j q⟩, h.2 0 (by omega)⟩
section RASK3
variable {d : Nat} {g : qG1} {I : Nat → Nat → Int32} {F : qFam} {L : qLw} {B : qBk} {S S0 : qSt} {Im : Nat → qSt} {C T : Nat → Nat} {P : Int} {f s : Nat}
theorem m270 (hd : 7 ≤ d) (W : qWF F) (WL : qWL L) (MF : qMF F I) (ML : qML L I) (MB : qMB B I) (hB : B.1 ≤ 12 ∧ ∀ k, k < B.1 → 1 ≤ B.2 0 k ∧ B.2 0 k ≤ 60 ∧ B.2 1 k < F.1 0 1 ∧ B.2 2 k < F.1 0 0) {U : qSt} (Ml : qMl F I U) (R : qMS F I 684 U) (WU : qWS F U) (h0 : U.1 0 0 = 0) (h45 : I 245 45 = qj 0) :
    ∃ I', qRun d 270 [.ref 245] (qw g I) (.inl (some (.int (qj (aLd (aRtk F L B U) B.1 0 : Nat))), qw g I')) ∧ qFb I I' := by
  have h9 := W.1
  have h8 := W.2.1
  obtain ⟨hB1, hB2⟩ := hB
  have hlt : aLt B B.1 ≤ 60 := aLt_le _ (fun k hk => (hB2 k hk).2.1)
  have hr6 : qisR 686 := by unfold qisR; omega
  have hr4 : qisR 684 := by unfold qisR; omega
  -- the pictures in a memory that the trial left
  have toF : ∀ {J : Nat → Nat → Int32}, qFb I J → qMF F J := fun h => qMF_cg MF (fun a p q => h.1 a (by
    intro e; omega) (by omega) (by omega) (by omega) (by omega)) W
  have toL : ∀ {J : Nat → Nat → Int32}, qFb I J → qML L J := fun h => qML_cg ML WL (h.2 27 (by omega)) (fun a p q => h.1 a (by omega) (by omega) (by omega) (by omega) (by omega))
  have tol : ∀ {J : Nat → Nat → Int32}, qFb I J → qMl F J U := fun h => qMl_cg Ml (fun a p q => h.1 a (by omega) (by omega) (by omega) (by omega) (by omega)) W
  have toB : ∀ {J : Nat → Nat → Int32}, qFb I J → qMB B J := fun h => qMB_cg MB hB1 (h.2 41 (by omega)) (fun a p q => h.1 a (by omega) (by omega) (by omega) (by omega) (by omega))
  -- the last loop
  have fin : ∀ (J : Nat → Nat → Int32), qFb I J → (∀ k, k < B.1 → J 692 k = qb (aRtk F L B U k)) → ∀ Q : qR → Prop, Q (.inl (some (.int (qj (aLd (aRtk F L B U) B.1 0 : Nat))), qw g J)) → ∀ i, i ≤ B.1 → aLd (aRtk F L B U) (B.1 - i) i = aLd (aRtk F L B U) B.1 0 → qwq d 270 156 [(0, .ref 245), (2, .int (qj i))] [] (qw g J) Q := by
    intro J hJ hR Q hQ
    have b1 := (toB hJ).1
    refine upto _ (fun h5 => b270_156 (by omega) ?_) (fun i hi ih h5 => b270_156 (by omega) ?_)
    · rw [Nat.sub_self, aLd] at h5
      rw [← h5] at hQ
      simp (disch := omega) only [qz0, qj_lt, qj_le, qj_eq, qtk, qfk, qbtt, qbft, qbtf, qbff, qIx_z, qj_nat, true_and, and_true, true_implies, false_implies, not_true_eq_false, not_false_eq_true, Bool.true_eq_false, Bool.false_eq_true, qj_sub, qinB_t, qinB_f, q2_e, qj_add, qj_s1, qj_c1, qj_c2, qj_c9, qj_c17, qj_c97, b1]
      exact hQ
    · rw [show B.1 - i = B.1 - (i + 1) + 1 by omega, aLd] at h5
      have e := hR i hi
      cases hq : aRtk F L B U i with
      | false =>
        rw [hq, if_neg Bool.false_ne_true] at h5
        rw [← h5] at hQ
        rw [hq] at e
        simp (disch := omega) only [qz0, qj_lt, qj_le, qj_eq, qtk, qfk, qbtt, qbft, qbtf, qbff, qIx_z, qj_nat, true_and, and_true, true_implies, false_implies, not_true_eq_false, not_false_eq_true, Bool.true_eq_false, Bool.false_eq_true, qj_sub, qinB_t, qinB_f, q2_e, qj_add, qj_s1, qj_c1, qj_c2, qj_c9, qj_c17, qj_c97, b1, e, qb_f]
        exact hQ
      | true =>
        rw [hq, if_pos rfl] at h5
        rw [hq] at e
        simp (disch := omega) only [qz0, qj_lt, qj_le, qj_eq, qtk, qfk, qbtt, qbft, qbtf, qbff, qIx_z, qj_nat, true_and, and_true, true_implies, false_implies, not_true_eq_false, not_false_eq_true, Bool.true_eq_false, Bool.false_eq_true, qj_sub, qinB_t, qinB_f, q2_e, qj_add, qj_s1, qj_c1, qj_c2, qj_c9, qj_c17, qj_c97, b1, e, qb_t]
        exact ih h5
  -- the years
  have yrs : ∀ j, j ≤ aLt B B.1 → ∀ J, qMS F J 686 (itr (aYear F L) j U) → qFb I J → (∀ k, k < B.1 → J 692 k = qb (aFlg F L B U j k)) → (∀ k, k < F.1 0 0 → (itr (aYear F L) j U).1 1 k = U.1 1 k) →
      ∃ I', qFb I I' ∧ ∀ Q : qR → Prop, Q (.inl (some (.int (qj (aLd (aRtk F L B U) B.1 0 : Nat))), qw g I')) → qwq d 270 53 [(0, .ref 245), (1, .int (qj (aLt B B.1 : Nat))), (2, .int (qj 0)), (3, .int (qj ((j + 1 : Nat) : Int)))] [] (qw g J) Q := by
    refine upto _ (fun J R1 hJ hR hU => ⟨J, hJ, fun Q hQ => b270_53 (by omega) ?_⟩) (fun j hj ih J R1 hJ hR hU => ?_)
    · simp (disch := omega) only [qz0, qj_lt, qj_le, qj_eq, qtk, qfk, qbtt, qbft, qbtf, qbff, qIx_z, qj_nat, true_and, and_true, true_implies, false_implies, not_true_eq_false, not_false_eq_true, Bool.true_eq_false, Bool.false_eq_true, qj_sub, qinB_t, qinB_f, q2_e, qj_add, qj_s1, qj_c1, qj_c2, qj_c9, qj_c17, qj_c97]
      exact fin J hJ (fun k hk => by rw [hR k hk]; unfold aFlg; rw [decide_eq_true (aLt_ge B _ k hk), Bool.true_and]) Q hQ 0 (Nat.zero_le _) rfl
    · obtain ⟨w1, w2⟩ := itr_ok (L := L) W WU j
      obtain ⟨y1, y2, y3⟩ := aYear_ok (L := L) (D := fun _ => false) w1 W
      obtain ⟨J1, k1, k2, k3⟩ := m238y (d := d - 1) (g := g) (by omega) hr6 (toF hJ) (fun k hk => by rw [hU k hk]; exact tol hJ k hk) W R1 w1 (by omega) (toL hJ) WL (by rw [hJ.2 45 (by omega)]; exact h45)
      have hJ1 := qFb_tr hJ (qFb_m k3)
      have hRow : ∀ k, k < B.1 → J1 692 k = qb (aFlg F L B U j k) := fun k hk => by rw [k3.1 692 (by omega) (by omega) (by omega) (by omega)]; exact hR k hk
      have k2' : qMS F J1 686 (itr (aYear F L) (j + 1) U) := k2
      have inner : ∀ i, i ≤ B.1 → ∀ J, qMS F J 686 (itr (aYear F L) (j + 1) U) → qFb I J → (∀ k, k < B.1 → J 692 k = qb (if k < i then aFlg F L B U (j + 1) k else aFlg F L B U j k)) →
          ∃ I', qFb I I' ∧ ∀ Q : qR → Prop, Q (.inl (some (.int (qj (aLd (aRtk F L B U) B.1 0 : Nat))), qw g I')) → qwq d 270 69 [(0, .ref 245), (1, .int (qj (aLt B B.1 : Nat))), (2, .int (qj 0)), (3, .int (qj ((j + 1 : Nat) : Int))), (4, .int (qj i))] [] (qw g J) Q := by
        refine upto _ (fun J R2 hJ2 hR2 => ?_) (fun i hi ih2 J R2 hJ2 hR2 => ?_)
        · obtain ⟨I', q1, q2⟩ := ih J R2 hJ2 (fun k hk => by rw [hR2 k hk, if_pos hk]) (fun k hk => by rw [show (itr (aYear F L) (j + 1) U).1 1 = (itr (aYear F L) j U).1 1 from y3]; exact hU k hk)
          refine ⟨I', q1, fun Q hQ => b270_69 (by omega) ?_⟩
          have b1 := (toB hJ2).1
          simp (disch := omega) only [qz0, qj_lt, qj_le, qj_eq, qtk, qfk, qbtt, qbft, qbtf, qbff, qIx_z, qj_nat, true_and, and_true, true_implies, false_implies, not_true_eq_false, not_false_eq_true, Bool.true_eq_false, Bool.false_eq_true, qj_sub, qinB_t, qinB_f, q2_e, qj_add, qj_s1, qj_c1, qj_c2, qj_c9, qj_c17, qj_c97, b1]
          exact q2 Q hQ
        · have b1 := (toB hJ2).1
          obtain ⟨e1, e2, e3⟩ := (toB hJ2).2 i hi
          obtain ⟨l1, l2, l3, l4⟩ := hB2 i hi
          have er := hR2 i hi
          rw [if_neg (Nat.lt_irrefl i)] at er
          have step : ∀ v : Bool, v = aFlg F L B U (j + 1) i → ∃ I', qFb I I' ∧ ∀ Q : qR → Prop, Q (.inl (some (.int (qj (aLd (aRtk F L B U) B.1 0 : Nat))), qw g I')) → qwq d 270 69 [(0, .ref 245), (1, .int (qj (aLt B B.1 : Nat))), (2, .int (qj 0)), (3, .int (qj ((j + 1 : Nat) : Int))), (4, .int (qj ((i + 1 : Nat) : Int)))] [] (qw g (qup J 692 i (qb v))) Q := fun v hv => by
            refine ih2 _ (qMS_cg R2 (qup_ne (by omega))) (qFb_92 hJ2) (fun k hk => ?_)
            rw [qup_at]
            by_cases e : k = i
            · rw [if_pos e, e, if_pos (Nat.lt_succ_self i), hv]
            · rw [if_neg e, hR2 k hk]
              by_cases c : k < i
              · rw [if_pos c, if_pos (by omega)]
              · rw [if_neg c, if_neg (by omega)]
          cases hq : aFlg F L B U j i with
          | true =>
            rw [hq, qb_t] at er
            have hv : true = aFlg F L B U (j + 1) i := by
              by_cases c : B.2 0 i = j + 1
              · rw [aFlg_e c] at hq; exact Bool.noConfusion hq
              · rw [aFlg_n c, hq]
            obtain ⟨I', q1, q2⟩ := step true hv
            refine ⟨I', q1, fun Q hQ => b270_69 (by omega) ?_⟩
            simp (disch := omega) only [qz0, qj_lt, qj_le, qj_eq, qtk, qfk, qbtt, qbft, qbtf, qbff, qIx_z, qj_nat, true_and, and_true, true_implies, false_implies, not_true_eq_false, not_false_eq_true, Bool.true_eq_false, Bool.false_eq_true, qj_sub, qinB_t, qinB_f, q2_e, qj_add, qj_s1, qj_c1, qj_c2, qj_c9, qj_c17, qj_c97, b1, er]
            exact q2 Q hQ
          | false =>
            rw [hq, qb_f] at er
            by_cases c : B.2 0 i = j + 1
            · have s2 := R2.2.1 (B.2 1 i) (by omega)
              have hv := aFlg_s (F := F) (L := L) (B := B) (U := U) c
              cases hw : (itr (aYear F L) (j + 1) U).2.1 (B.2 2 i) (B.2 1 i) with
              | true =>
                obtain ⟨I', q1, q2⟩ := step true (by rw [hv, hw])
                refine ⟨I', q1, fun Q hQ => b270_69 (by omega) ?_⟩
                simp (disch := omega) only [qz0, qj_lt, qj_le, qj_eq, qtk, qfk, qbtt, qbft, qbtf, qbff, qIx_z, qj_nat, true_and, and_true, true_implies, false_implies, not_true_eq_false, not_false_eq_true, Bool.true_eq_false, Bool.false_eq_true, qj_sub, qinB_t, qinB_f, q2_e, qj_add, qj_s1, qj_c1, qj_c2, qj_c9, qj_c17, qj_c97, b1, er, e1, e2, e3, s2, qhas_bm, hw]
                exact q2 Q hQ
              | false =>
                obtain ⟨I', q1, q2⟩ := step false (by rw [hv, hw])
                refine ⟨I', q1, fun Q hQ => b270_69 (by omega) ?_⟩
                simp (disch := omega) only [qz0, qj_lt, qj_le, qj_eq, qtk, qfk, qbtt, qbft, qbtf, qbff, qIx_z, qj_nat, true_and, and_true, true_implies, false_implies, not_true_eq_false, not_false_eq_true, Bool.true_eq_false, Bool.false_eq_true, qj_sub, qinB_t, qinB_f, q2_e, qj_add, qj_s1, qj_c1, qj_c2, qj_c9, qj_c17, qj_c97, b1, er, e1, e2, e3, s2, qhas_bm, hw]
                exact q2 Q hQ
            · obtain ⟨I', q1, q2⟩ := step false (by rw [aFlg_n c, hq])
              refine ⟨I', q1, fun Q hQ => b270_69 (by omega) ?_⟩
              simp (disch := omega) only [qz0, qj_lt, qj_le, qj_eq, qtk, qfk, qbtt, qbft, qbtf, qbff, qIx_z, qj_nat, true_and, and_true, true_implies, false_implies, not_true_eq_false, not_false_eq_true, Bool.true_eq_false, Bool.false_eq_true, qj_sub, qinB_t, qinB_f, q2_e, qj_add, qj_s1, qj_c1, qj_c2, qj_c9, qj_c17, qj_c97, b1, er, e1]
              exact q2 Q hQ
      obtain ⟨I', q1, q2⟩ := inner 0 (Nat.zero_le _) J1 k2' hJ1 (fun k hk => by rw [hRow k hk, if_neg (Nat.not_lt_zero k)])
      refine ⟨I', q1, fun Q hQ => b270_53 (by omega) ?_⟩
      simp (disch := omega) only [qz0, qj_lt, qj_le, qj_eq, qtk, qfk, qbtt, qbft, qbtf, qbff, qIx_z, qj_nat, true_and, and_true, true_implies, false_implies, not_true_eq_false, not_false_eq_true, Bool.true_eq_false, Bool.false_eq_true, qj_sub, qinB_t, qinB_f, q2_e, qj_add, qj_s1, qj_c1, qj_c2, qj_c9, qj_c17, qj_c97]
      exact ⟨_, k1, q2 Q hQ⟩
  -- the first loop
  have frs : ∀ i, i ≤ B.1 → ∀ J, qFb I J → J 684 = I 684 → (∀ k, k < i → J 692 k = qj 0) →
      ∃ I', qFb I I' ∧ ∀ Q : qR → Prop, Q (.inl (some (.int (qj (aLd (aRtk F L B U) B.1 0 : Nat))), qw g I')) → qwq d 270 6 [(0, .ref 245), (1, .int (qj (aLt B i : Nat))), (2, .int (qj 0)), (3, .int (qj i))] [] (qw g J) Q := by
    refine upto _ (fun J hJ h4 hR => ?_) (fun i hi ih J hJ h4 hR => ?_)
    · obtain ⟨J1, k1, k2, k3⟩ := m201 (d := d - 1) (g := g) (I := J) (by omega) hr4 hr6 (by omega)
      have R6 : qMS F J1 686 U := qMS_cp h8 (qMS_cg R h4) k2
      obtain ⟨I', q1, q2⟩ := yrs 0 (Nat.zero_le _) J1 R6 (qFb_tr hJ ⟨fun a p q r s t => k3 a s, fun j p => by rw [k3 245 (by omega)]⟩) (fun k hk => by
        have := (hB2 k hk).1
        rw [k3 692 (by omega), hR k hk]
        unfold aFlg
        rw [decide_eq_false (by omega), Bool.false_and]; rfl) (fun _ _ => rfl)
      refine ⟨I', q1, fun Q hQ => b270_6 (by omega) ?_⟩
      have b1 := (toB hJ).1
      simp (disch := omega) only [qz0, qj_lt, qj_le, qj_eq, qtk, qfk, qbtt, qbft, qbtf, qbff, qIx_z, qj_nat, true_and, and_true, true_implies, false_implies, not_true_eq_false, not_false_eq_true, Bool.true_eq_false, Bool.false_eq_true, qj_sub, qinB_t, qinB_f, q2_e, qj_add, qj_s1, qj_c1, qj_c2, qj_c9, qj_c17, qj_c97, b1]
      exact ⟨_, k1, q2 Q hQ⟩
    · have b1 := (toB hJ).1
      have e1 := ((toB hJ).2 i hi).1
      have h1 := aLt_le i (fun k hk => (hB2 k (by omega)).2.1)
      have h2 := (hB2 i hi).2.1
      obtain ⟨I', q1, q2⟩ := ih (qup J 692 i (qj 0)) (qFb_92 hJ) (by rw [qup_ne (by omega)]; exact h4) (fun k hk => by
        rw [qup_at]; split
        · rfl
        · exact hR k (by omega))
      refine ⟨I', q1, fun Q hQ => b270_6 (by omega) ?_⟩
      have q3 := q2 Q hQ
      rw [show ((aLt B (i + 1) : Nat) : Int) = max (aLt B i : Int) (B.2 0 i) by rw [aLt]; omega] at q3
      simp (disch := omega) only [qz0, qj_lt, qj_le, qj_eq, qtk, qfk, qbtt, qbft, qbtf, qbff, qIx_z, qj_nat, true_and, and_true, true_implies, false_implies, not_true_eq_false, not_false_eq_true, Bool.true_eq_false, Bool.false_eq_true, qj_sub, qinB_t, qinB_f, q2_e, qj_add, qj_s1, qj_c1, qj_c2, qj_c9, qj_c17, qj_c97, b1, e1, qmax_z]
      exact q3
  obtain ⟨I', q1, q2⟩ := frs 0 (Nat.zero_le _) I qFb_rf rfl (fun k hk => absurd hk (Nat.not_lt_zero k))
  exact ⟨I', qRun_of fun Q hQ => b270_0 (by omega) (q2 Q hQ), q1⟩
theorem r271 (hd : 8 ≤ d) (X : qAbs F L B S S0 Im C T) (H : qMdl I F L B S S0 Im C T P) : qMQ d 271 [.ref 245] g I 1 C (.inl (qj (aLd (aRtk F L B (aTold F)) B.1 0 : Nat))) := by
  have W := X.1
  have WL := X.2.1
  have WS := X.2.2.2.1.1
  have hy : S.1 0 0 ≤ 1000 := Nat.le_trans X.2.2.2.1.2.1 (by decide)
  have h9 := W.1
  have h8 := W.2.1
  have w3 := W.2.2.1
  have f1 := H.1.1
  have f2 := H.1.2.1
  have f3 := H.1.2.2.1
  have M0 := qMdl_q H X (qFp_0 (v := qj 0))
  have MF := M0.1
  have R := M0.2.2.2.2.1
  have hr : qisR 682 := by unfold qisR; omega
  have z0 : qup I 245 0 (qj 0) 245 0 = qj 0 := by rw [qup_at, if_pos rfl]
  obtain ⟨J, k1, k2⟩ := m270 (d := d - 1) (g := g) (by omega) W WL MF M0.2.2.1 M0.2.2.2.1 X.2.2.1 M0.2.1 M0.2.2.2.2.2.2.1 (qWS_told W) rfl M0.2.2.2.2.2.2.2.2.2.2.2.2.2.2.2
  exact qMQ_inl J (fun Q hQ => b271_0 (by omega) ⟨_, _, k1, hQ⟩) (qFe_b k2)
theorem qMF_lmp {h : Nat} {v : Int32} (MF : qMF F I) (W : qWF F) (hh : h < F.1 0 0) : qMF F (qup I (266 + 1 + h) 0 v) := by
  have w1 := W.1
  have w2 := W.2.1
  have w3 := W.2.2.1
  obtain ⟨h1, h2, h3, h4, h5, h6, h7, h8, h9, h10, h11, h12, h13, h14, h15, h16⟩ := MF
  have c : ∀ (k j : Nat), ¬ j = 0 → qup I (266 + 1 + h) 0 v (266 + 1 + k) j = I (266 + 1 + k) j := fun k j hj => by
    by_cases e : k = h
    · rw [e, qup_at, if_neg hj]
    · rw [qup_ne (by omega)]
  refine ⟨?_, ?_, ?_, ?_, fun k hk => (c k 1 (by omega)).trans (h5 k hk), fun k hk => (c k 2 (by omega)).trans (h6 k hk), ?_, ?_, ?_, ?_, ?_, ?_, ?_, ?_, ?_, ?_⟩
  · rw [qup_ne (by omega)]; exact h1
  · rw [qup_ne (by omega)]; exact h2
  · rw [qup_ne (by omega)]; exact h3
  · rw [qup_ne (by omega)]; exact h4
  · intro k hk; rw [qup_ne (by omega)]; exact h7 k hk
  · intro k hk; rw [qup_ne (by omega)]; exact h8 k hk
  · intro k hk; rw [qup_ne (by omega)]; exact h9 k hk
  · intro k hk; rw [qup_ne (by omega)]; exact h10 k hk
  · intro k hk; rw [qup_ne (by omega)]; exact h11 k hk
  · intro a i ha hi; rw [qup_ne (by omega)]; exact h12 a i ha hi
  · intro k j hk hj; rw [qup_ne (by omega)]; exact h13 k j hk hj
  · intro k hk; rw [qup_ne (by omega)]; exact h14 k hk
  · intro k hk; rw [qup_ne (by omega)]; exact h15 k hk
  · intro k hk; rw [qup_ne (by omega)]; exact h16 k hk
theorem qMl_lmp {U : qSt} {h x : Nat} (Ml : qMl F I U) : qMl F (qup I (266 + 1 + h) 0 (qj (x : Int))) (aLmp U h x) := fun k hk => by
  show _ = qj ((qup U.1 1 h x 1 k : Nat) : Int)
  rw [qup_at]
  by_cases e : k = h
  · rw [e, qup_at, if_pos rfl, if_pos rfl]
  · rw [qup_ne (by omega), if_neg e]; exact Ml k hk
theorem qMS_lmp {U : qSt} {r h x : Nat} (R : qMS F I r U) : qMS F I r (aLmp U h x) := by
  obtain ⟨s1, s2, s3, s4, s5, s6, s7⟩ := R
  refine ⟨s1, s2, ?_, ?_, ?_, ?_, ?_⟩
  · intro p hp; show _ = qj ((qup U.1 1 h x 3 p : Nat) : Int); rw [qup_ne (by omega)]; exact s3 p hp
  · intro p hp; show _ = qj (((qup U.1 1 h x 4 p : Nat) : Int) - 1); rw [qup_ne (by omega)]; exact s4 p hp
  · intro k p hk hp; show _ = qj (((qup U.1 1 h x (5 + k) p : Nat) : Int) - 1); rw [qup_ne (by omega)]; exact s5 k p hk hp
  · intro k hk; show _ = qj (((qup U.1 1 h x 2 k : Nat) : Int) - 1); rw [qup_ne (by omega)]; exact s6 k hk
  · show _ = qj ((qup U.1 1 h x 0 0 : Nat) : Int); rw [qup_ne (by omega)]; exact s7
/-- all but one hand's limp stands, beside what a question may write -/
def qFh (n : Nat) (I J : Nat → Nat → Int32) : Prop := qFe I (qup J (266 + 1 + n) 0 (I (266 + 1 + n) 0))
theorem qFh_rf {n : Nat} : qFh n I I := by
  unfold qFh; rw [qup_self]; exact qFe_rf
theorem qup_cm {α : Type} {f : Nat → Nat → α} {a b i j : Nat} {v w : α} (h : ¬ a = b) : qup (qup f a i v) b j w = qup (qup f b j w) a i v := by
  funext c k
  by_cases e : c = a
  · subst e
    rw [qup_ne h, qup_at, qup_at, qup_ne h]
  · by_cases e2 : c = b
    · subst e2
      rw [qup_at, qup_ne e, qup_ne e, qup_at]
    · rw [qup_ne e2, qup_ne e, qup_ne e, qup_ne e2]
/-- the limp of a hand, tried -/
theorem lmp1 (X : qAbs F L B S S0 Im C T) (H : qMdl I F L B S S0 Im C T P) {n : Nat} (hn : n < F.1 0 0) {J : Nat → Nat → Int32} (hJ : qFh n (qup I 245 0 (qj 0)) J) {i : Nat} :
    qMF F (qup J (266 + 1 + n) 0 (qj (i : Int))) ∧ (∀ U : qSt, (∀ k, k < F.1 0 0 → U.1 1 k = F.1 1 k) → qMl F (qup J (266 + 1 + n) 0 (qj (i : Int))) (aLmp U n i)) ∧ qML L (qup J (266 + 1 + n) 0 (qj (i : Int))) ∧ qMB B (qup J (266 + 1 + n) 0 (qj (i : Int))) ∧ qMS F (qup J (266 + 1 + n) 0 (qj (i : Int))) 682 S ∧ qMS F (qup J (266 + 1 + n) 0 (qj (i : Int))) 684 (aTold F) ∧ qup J (266 + 1 + n) 0 (qj (i : Int)) 245 45 = qj 0 ∧ qup J (266 + 1 + n) 0 (qj (i : Int)) 245 41 = qj (B.1 : Int) := by
  have W := X.1
  have w1 := W.1
  have M := mAf X H hJ
  have e : qup J (266 + 1 + n) 0 (qj (i : Int)) = qup (qup J (266 + 1 + n) 0 (qup I 245 0 (qj 0) (266 + 1 + n) 0)) (266 + 1 + n) 0 (qj (i : Int)) := qup_qup.symm
  rw [e]
  refine ⟨qMF_lmp M.1 W hn, fun U hU => qMl_lmp (qMl_of M.2.1 hU), qML_cg M.2.2.1 X.2.1 (by rw [qup_ne (by omega)]) (fun a p q => by rw [qup_ne (by omega)]), qMB_cg M.2.2.2.1 X.2.2.1.1 (by rw [qup_ne (by omega)]) (fun a p q => by rw [qup_ne (by omega)]), qMS_cg M.2.2.2.2.1 (qup_ne (by omega)), qMS_cg M.2.2.2.2.2.2.1 (qup_ne (by omega)), ?_, ?_⟩
  · rw [qup_ne (by omega)]; exact M.2.2.2.2.2.2.2.2.2.2.2.2.2.2.2
  · rw [qup_ne (by omega)]; exact M.2.2.2.1.1
/-- what left the limps alone -/
theorem qFh_st {n i : Nat} {I0 J K : Nat → Nat → Int32} (hJ : qFh n I0 J) (hn : n < 9) (h : qFb (qup J (266 + 1 + n) 0 (qj (i : Int))) K) : qFh n I0 K := by
  unfold qFh at hJ ⊢
  refine qFe_tr hJ (qFe_b ⟨fun a p q r s t => ?_, fun j p => ?_⟩)
  · by_cases e : a = 266 + 1 + n
    · subst e
      funext j
      rw [qup_at, qup_at]
      split
      · rfl
      · rename_i c
        rw [h.1 _ p q r s t, qup_at, if_neg c]
    · rw [qup_ne e, qup_ne e, h.1 a p q r s t, qup_ne e]
  · rw [qup_ne (by omega), qup_ne (by omega), h.2 j p, qup_ne (by omega)]
theorem r272 (hd : 8 ≤ d) (X : qAbs F L B S S0 Im C T) (H : qMdl I F L B S S0 Im C T P) {z : Int} (hz : -2147483648 ≤ z ∧ z < 2147483648) : qMQ d 272 [.ref 245, .int (qj z)] g I 1 C (rLms F L B z) := by
  have W := X.1
  have WL := X.2.1
  have WS := X.2.2.2.1.1
  have hy : S.1 0 0 ≤ 1000 := Nat.le_trans X.2.2.2.1.2.1 (by decide)
  have h9 := W.1
  have h8 := W.2.1
  have w3 := W.2.2.1
  have f1 := H.1.1
  have f2 := H.1.2.1
  have f3 := H.1.2.2.1
  have M0 := qMdl_q H X (qFp_0 (v := qj 0))
  have MF := M0.1
  have R := M0.2.2.2.2.1
  have hr : qisR 682 := by unfold qisR; omega
  have z0 : qup I 245 0 (qj 0) 245 0 = qj 0 := by rw [qup_at, if_pos rfl]
  unfold rLms
  by_cases h : 0 ≤ z ∧ z < F.1 0 0
  · rw [if_pos h]
    obtain ⟨n, rfl⟩ : ∃ n : Nat, z = n := ⟨z.toNat, by omega⟩
    have hB1 := X.2.2.1.1
    have key : ∀ i, i ≤ 10 → ∀ J, qFh n (qup I 245 0 (qj 0)) J →
        ∃ I', qFe (qup I 245 0 (qj 0)) I' ∧ ∀ Q : qR → Prop, Q (.inl (some (.int (qj (bm 10 (aLms F L B n) : Nat))), qw g I')) → qwq d 272 43 [(0, .ref 245), (1, .int (qj n)), (2, .int (qup I 245 0 (qj 0) (266 + 1 + n) 0)), (3, .int (qj (bm i (aLms F L B n) : Nat))), (4, .int (qj i))] [] (qw g J) Q := by
      refine upto _ (fun J hJ => ⟨_, hJ, fun Q hQ => b272_43 (by omega) ?_⟩) (fun i hi ih J hJ => ?_)
      · simp (disch := omega) only [qz0, qj_lt, qj_le, qj_eq, qtk, qfk, qbtt, qbft, qbtf, qbff, qIx_z, qj_nat, true_and, and_true, true_implies, false_implies, not_true_eq_false, not_false_eq_true, Bool.true_eq_false, Bool.false_eq_true, qj_sub, qinB_t, qinB_f, q2_e, qj_add, qj_s1, qj_c1, qj_c2, qj_c9, qj_c17, qj_c97]
        exact hQ
      · obtain ⟨p1, p2, p3, p4, p5, p6, p7, p8⟩ := lmp1 X H (show n < F.1 0 0 by omega) hJ (i := i)
        obtain ⟨K, k1, k2⟩ := m270 (d := d - 1) (g := g) (U := aLmp (aTold F) n i) (by omega) W WL p1 p3 p4 X.2.2.1 (p2 _ (fun _ _ => rfl)) (qMS_lmp p6) (qWS_lmp (qWS_told W)) (by show qup (aTold F).1 1 n i 0 0 = 0; rw [qup_ne (by omega)]; rfl) p7
        have hle := aLd_le (aRtk F L B (aLmp (aTold F) n i)) B.1 0
        have b1 : K 245 41 = qj (B.1 : Int) := by rw [k2.2 41 (by omega)]; exact p8
        obtain ⟨I', q1, q2⟩ := ih K (qFh_st hJ (by omega) k2)
        refine ⟨I', q1, fun Q hQ => b272_43 (by omega) ?_⟩
        by_cases e : aLd (aRtk F L B (aLmp (aTold F) n i)) B.1 0 = B.1
        · rw [← bm_st (show aLms F L B n i = true from beq_iff_eq.mpr e) (by omega)] at q2
          simp (disch := omega) only [qz0, qj_lt, qj_le, qj_eq, qtk, qfk, qbtt, qbft, qbtf, qbff, qIx_z, qj_nat, true_and, and_true, true_implies, false_implies, not_true_eq_false, not_false_eq_true, Bool.true_eq_false, Bool.false_eq_true, qj_sub, qinB_t, qinB_f, q2_e, qj_add, qj_s1, qj_c1, qj_c2, qj_c9, qj_c17, qj_c97]
          refine ⟨_, _, k1, ?_⟩
          simp (disch := omega) only [qz0, qj_lt, qj_le, qj_eq, qtk, qfk, qbtt, qbft, qbtf, qbff, qIx_z, qj_nat, true_and, and_true, true_implies, false_implies, not_true_eq_false, not_false_eq_true, Bool.true_eq_false, Bool.false_eq_true, qj_sub, qinB_t, qinB_f, q2_e, qj_add, qj_s1, qj_c1, qj_c2, qj_c9, qj_c17, qj_c97, b1]
          exact q2 Q hQ
        · rw [bm_sf (show aLms F L B n i = false from beq_eq_false_iff_ne.mpr e)] at q2
          simp (disch := omega) only [qz0, qj_lt, qj_le, qj_eq, qtk, qfk, qbtt, qbft, qbtf, qbff, qIx_z, qj_nat, true_and, and_true, true_implies, false_implies, not_true_eq_false, not_false_eq_true, Bool.true_eq_false, Bool.false_eq_true, qj_sub, qinB_t, qinB_f, q2_e, qj_add, qj_s1, qj_c1, qj_c2, qj_c9, qj_c17, qj_c97]
          refine ⟨_, _, k1, ?_⟩
          simp (disch := omega) only [qz0, qj_lt, qj_le, qj_eq, qtk, qfk, qbtt, qbft, qbtf, qbff, qIx_z, qj_nat, true_and, and_true, true_implies, false_implies, not_true_eq_false, not_false_eq_true, Bool.true_eq_false, Bool.false_eq_true, qj_sub, qinB_t, qinB_f, q2_e, qj_add, qj_s1, qj_c1, qj_c2, qj_c9, qj_c17, qj_c97, b1, qor_0]
          exact q2 Q hQ
    obtain ⟨I', r1, r2⟩ := key 0 (Nat.zero_le _) _ qFh_rf
    refine qMQ_inl I' (fun Q hQ => b272_0 (by omega) ?_) r1
    simp (disch := omega) only [qz0, qj_lt, qj_le, qj_eq, qtk, qfk, qbtt, qbft, qbtf, qbff, qIx_z, qj_nat, true_and, and_true, true_implies, false_implies, not_true_eq_false, not_false_eq_true, Bool.true_eq_false, Bool.false_eq_true, qj_sub, qinB_t, qinB_f, q2_e, qj_add, qj_s1, qj_c1, qj_c2, qj_c9, qj_c17, qj_c97, f1]
    refine ⟨_, _, bd0 (by omega) _ _, ?_⟩
    simp (disch := omega) only [qz0, qj_lt, qj_le, qj_eq, qtk, qfk, qbtt, qbft, qbtf, qbff, qIx_z, qj_nat, true_and, and_true, true_implies, false_implies, not_true_eq_false, not_false_eq_true, Bool.true_eq_false, Bool.false_eq_true, qj_sub, qinB_t, qinB_f, q2_e, qj_add, qj_s1, qj_c1, qj_c2, qj_c9, qj_c17, qj_c97]
    exact r2 Q hQ
  · rw [if_neg h]
    refine qMQ_0 fun Q hQ => b272_0 (by omega) ?_
    simp (disch := omega) only [qz0, qj_lt, qj_le, qj_eq, qtk, qfk, qbtt, qbft, qbtf, qbff, qIx_z, qj_nat, true_and, and_true, true_implies, false_implies, not_true_eq_false, not_false_eq_true, Bool.true_eq_false, Bool.false_eq_true, qj_sub, qinB_t, qinB_f, q2_e, qj_add, qj_s1, qj_c1, qj_c2, qj_c9, qj_c17, qj_c97, f1]
    refine ⟨_, _, bd10 (by omega) H, ?_⟩
    simp (disch := omega) only [qz0, qj_lt, qj_le, qj_eq, qtk, qfk, qbtt, qbft, qbtf, qbff, qIx_z, qj_nat, true_and, and_true, true_implies, false_implies, not_true_eq_false, not_false_eq_true, Bool.true_eq_false, Bool.false_eq_true, qj_sub, qinB_t, qinB_f, q2_e, qj_add, qj_s1, qj_c1, qj_c2, qj_c9, qj_c17, qj_c97]
    exact hQ
theorem r234 (hd : 6 ≤ d) (X : qAbs F L B S S0 Im C T) (H : qMdl I F L B S S0 Im C T P) {z w : Int} (hz : -2147483648 ≤ z ∧ z < 2147483648) (hw : -2147483648 ≤ w ∧ w < 2147483648) : qMQ d 234 [.ref 245, .int (qj z), .int (qj w)] g I 1 C (rPrc F L S z w) := by
  have W := X.1
  have WL := X.2.1
  have WS := X.2.2.2.1.1
  have hy : S.1 0 0 ≤ 1000 := Nat.le_trans X.2.2.2.1.2.1 (by decide)
  have h9 := W.1
  have h8 := W.2.1
  have w3 := W.2.2.1
  have f1 := H.1.1
  have f2 := H.1.2.1
  have f3 := H.1.2.2.1
  have M0 := qMdl_q H X (qFp_0 (v := qj 0))
  have MF := M0.1
  have R := M0.2.2.2.2.1
  have hr : qisR 682 := by unfold qisR; omega
  have z0 : qup I 245 0 (qj 0) 245 0 = qj 0 := by rw [qup_at, if_pos rfl]
  unfold rPrc
  by_cases h : (0 ≤ z ∧ z < F.1 0 0) ∧ 0 ≤ w ∧ w < F.1 0 1
  · rw [if_pos h]
    obtain ⟨n, rfl⟩ : ∃ n : Nat, z = n := ⟨z.toNat, by omega⟩
    obtain ⟨m, rfl⟩ : ∃ m : Nat, w = m := ⟨w.toNat, by omega⟩
    rw [Int.toNat_natCast, Int.toNat_natCast]
    have hfb : ∀ i, i ≤ 10 → -1 ≤ aFi (aPrc F L S n m) (10 - i) i ∧ aFi (aPrc F L S n m) (10 - i) i ≤ 10 := by
      refine upto _ ?_ (fun i hi ih => ?_)
      · rw [Nat.sub_self, aFi]; omega
      · rw [show 10 - i = 10 - (i + 1) + 1 by omega, aFi]; split <;> omega
    have key : ∀ i, i ≤ 10 → ∀ J, qFh n (qup I 245 0 (qj 0)) J →
        ∃ I', qFe (qup I 245 0 (qj 0)) I' ∧ ∀ Q : qR → Prop, Q (.inl (some (.int (qj (aFi (aPrc F L S n m) 10 0))), qw g I')) → qwq d 234 53 [(0, .ref 245), (1, .int (qj n)), (2, .int (qj m)), (3, .int (qup I 245 0 (qj 0) (266 + 1 + n) 0)), (4, .int (qj (aFi (aPrc F L S n m) (10 - i) i))), (5, .int (qj ((i : Int) - 1)))] [] (qw g J) Q := by
      intro i
      induction i with
      | zero =>
        intro _ J hJ
        refine ⟨_, hJ, fun Q hQ => b234_53 (by omega) ?_⟩
        simp (disch := omega) only [qz0, qj_lt, qj_le, qj_eq, qtk, qfk, qbtt, qbft, qbtf, qbff, qIx_z, qj_nat, true_and, and_true, true_implies, false_implies, not_true_eq_false, not_false_eq_true, Bool.true_eq_false, Bool.false_eq_true, qj_sub, qinB_t, qinB_f, q2_e, qj_add, qj_s1, qj_c1, qj_c2, qj_c9, qj_c17, qj_c97]
        exact hQ
      | succ i ih =>
        intro hi J hJ
        obtain ⟨p1, p2, p3, p4, p5, p6, p7, p8⟩ := lmp1 X H (show n < F.1 0 0 by omega) hJ (i := i)
        obtain ⟨K, k1, k2⟩ := m232 (d := d - 1) (g := g) (S := aLmp S n i) (p := m) (by omega) hr p1 (p2 S X.2.2.2.1.2.2) W (qMS_lmp p5) (qWS_lmp WS) (by show qup S.1 1 n i 0 0 ≤ 1000; rw [qup_ne (by omega)]; exact hy) p3 WL (by omega)
        have hcb := aCh_b F L (aLmp S n i) m
        obtain ⟨I', q1, q2⟩ := ih (by omega) K (qFh_st hJ (by omega) ⟨fun a _ q r _ _ => k2 a q r, fun j _ => by rw [k2 245 (by omega) (by omega)]⟩)
        refine ⟨I', q1, fun Q hQ => b234_53 (by omega) ?_⟩
        have q3 := q2 Q hQ
        rw [show 10 - i = 10 - (i + 1) + 1 by omega, aFi] at q3
        rw [show (((i + 1 : Nat) : Int) - 1) = (i : Int) by omega]
        have hb := hfb (i + 1) hi
        by_cases c : aCh F L (aLmp S n i) m = n + 1
        · rw [if_pos (show aPrc F L S n m i = true by unfold aPrc; rw [c, beq_self_eq_true])] at q3
          simp (disch := omega) only [qz0, qj_lt, qj_le, qj_eq, qtk, qfk, qbtt, qbft, qbtf, qbff, qIx_z, qj_nat, true_and, and_true, true_implies, false_implies, not_true_eq_false, not_false_eq_true, Bool.true_eq_false, Bool.false_eq_true, qj_sub, qinB_t, qinB_f, q2_e, qj_add, qj_s1, qj_c1, qj_c2, qj_c9, qj_c17, qj_c97]
          refine ⟨_, _, k1, ?_⟩
          simp (disch := omega) only [qz0, qj_lt, qj_le, qj_eq, qtk, qfk, qbtt, qbft, qbtf, qbff, qIx_z, qj_nat, true_and, and_true, true_implies, false_implies, not_true_eq_false, not_false_eq_true, Bool.true_eq_false, Bool.false_eq_true, qj_sub, qinB_t, qinB_f, q2_e, qj_add, qj_s1, qj_c1, qj_c2, qj_c9, qj_c17, qj_c97]
          exact q3
        · rw [if_neg (show ¬ aPrc F L S n m i = true by unfold aPrc; rw [beq_iff_eq]; exact c)] at q3
          simp (disch := omega) only [qz0, qj_lt, qj_le, qj_eq, qtk, qfk, qbtt, qbft, qbtf, qbff, qIx_z, qj_nat, true_and, and_true, true_implies, false_implies, not_true_eq_false, not_false_eq_true, Bool.true_eq_false, Bool.false_eq_true, qj_sub, qinB_t, qinB_f, q2_e, qj_add, qj_s1, qj_c1, qj_c2, qj_c9, qj_c17, qj_c97]
          refine ⟨_, _, k1, ?_⟩
          simp (disch := omega) only [qz0, qj_lt, qj_le, qj_eq, qtk, qfk, qbtt, qbft, qbtf, qbff, qIx_z, qj_nat, true_and, and_true, true_implies, false_implies, not_true_eq_false, not_false_eq_true, Bool.true_eq_false, Bool.false_eq_true, qj_sub, qinB_t, qinB_f, q2_e, qj_add, qj_s1, qj_c1, qj_c2, qj_c9, qj_c17, qj_c97]
          exact q3
    obtain ⟨I', r1, r2⟩ := key 10 (by omega) _ qFh_rf
    refine qMQ_inl I' (fun Q hQ => b234_0 (by omega) ?_) r1
    simp (disch := omega) only [qz0, qj_lt, qj_le, qj_eq, qtk, qfk, qbtt, qbft, qbtf, qbff, qIx_z, qj_nat, true_and, and_true, true_implies, false_implies, not_true_eq_false, not_false_eq_true, Bool.true_eq_false, Bool.false_eq_true, qj_sub, qinB_t, qinB_f, q2_e, qj_add, qj_s1, qj_c1, qj_c2, qj_c9, qj_c17, qj_c97, f1, f2]
    refine ⟨_, _, bd0 (by omega) _ _, ?_⟩
    simp (disch := omega) only [qz0, qj_lt, qj_le, qj_eq, qtk, qfk, qbtt, qbft, qbtf, qbff, qIx_z, qj_nat, true_and, and_true, true_implies, false_implies, not_true_eq_false, not_false_eq_true, Bool.true_eq_false, Bool.false_eq_true, qj_sub, qinB_t, qinB_f, q2_e, qj_add, qj_s1, qj_c1, qj_c2, qj_c9, qj_c17, qj_c97]
    exact r2 Q hQ
  · rw [if_neg h]
    by_cases h2 : 0 ≤ z ∧ z < F.1 0 0
    · skip
      refine qMQ_0 fun Q hQ => b234_0 (by omega) ?_
      simp (disch := omega) only [qz0, qj_lt, qj_le, qj_eq, qtk, qfk, qbtt, qbft, qbtf, qbff, qIx_z, qj_nat, true_and, and_true, true_implies, false_implies, not_true_eq_false, not_false_eq_true, Bool.true_eq_false, Bool.false_eq_true, qj_sub, qinB_t, qinB_f, q2_e, qj_add, qj_s1, qj_c1, qj_c2, qj_c9, qj_c17, qj_c97, f1, f2]
      refine ⟨_, _, bd10 (by omega) H, ?_⟩
      simp (disch := omega) only [qz0, qj_lt, qj_le, qj_eq, qtk, qfk, qbtt, qbft, qbtf, qbff, qIx_z, qj_nat, true_and, and_true, true_implies, false_implies, not_true_eq_false, not_false_eq_true, Bool.true_eq_false, Bool.false_eq_true, qj_sub, qinB_t, qinB_f, q2_e, qj_add, qj_s1, qj_c1, qj_c2, qj_c9, qj_c17, qj_c97]
      exact hQ
    · skip
      refine qMQ_0 fun Q hQ => b234_0 (by omega) ?_
      simp (disch := omega) only [qz0, qj_lt, qj_le, qj_eq, qtk, qfk, qbtt, qbft, qbtf, qbff, qIx_z, qj_nat, true_and, and_true, true_implies, false_implies, not_true_eq_false, not_false_eq_true, Bool.true_eq_false, Bool.false_eq_true, qj_sub, qinB_t, qinB_f, q2_e, qj_add, qj_s1, qj_c1, qj_c2, qj_c9, qj_c17, qj_c97, f1, f2]
      refine ⟨_, _, bd10 (by omega) H, ?_⟩
      simp (disch := omega) only [qz0, qj_lt, qj_le, qj_eq, qtk, qfk, qbtt, qbft, qbtf, qbff, qIx_z, qj_nat, true_and, and_true, true_implies, false_implies, not_true_eq_false, not_false_eq_true, Bool.true_eq_false, Bool.false_eq_true, qj_sub, qinB_t, qinB_f, q2_e, qj_add, qj_s1, qj_c1, qj_c2, qj_c9, qj_c17, qj_c97]
      exact hQ
theorem r275 (hd : 62 ≤ d) (X : qAbs F L B S S0 Im C T) (H : qMdl I F L B S S0 Im C T P) : qMQ d 275 [.ref 245] g I 1 C (.inl (qj (aNt F S : Nat))) := by
  have W := X.1
  have WL := X.2.1
  have WS := X.2.2.2.1.1
  have hy : S.1 0 0 ≤ 1000 := Nat.le_trans X.2.2.2.1.2.1 (by decide)
  have h9 := W.1
  have h8 := W.2.1
  have w3 := W.2.2.1
  have f1 := H.1.1
  have f2 := H.1.2.1
  have f3 := H.1.2.2.1
  have M0 := qMdl_q H X (qFp_0 (v := qj 0))
  have MF := M0.1
  have R := M0.2.2.2.2.1
  have hr : qisR 682 := by unfold qisR; omega
  have z0 : qup I 245 0 (qj 0) 245 0 = qj 0 := by rw [qup_at, if_pos rfl]
  obtain ⟨J, k1, k2, k3⟩ := m274 (d := d - 1) (g := g) (by omega) MF W R hy
  exact qMQ_inl J (fun Q hQ => b275_0 (by omega) ⟨_, _, k1, hQ⟩) (qFe_n k3)
theorem r276 (hd : 62 ≤ d) (X : qAbs F L B S S0 Im C T) (H : qMdl I F L B S S0 Im C T P) {z : Int} (hz : -2147483648 ≤ z ∧ z < 2147483648) : qMQ d 276 [.ref 245, .int (qj z)] g I 1 C (rNgt F S z) := by
  have W := X.1
  have WL := X.2.1
  have WS := X.2.2.2.1.1
  have hy : S.1 0 0 ≤ 1000 := Nat.le_trans X.2.2.2.1.2.1 (by decide)
  have h9 := W.1
  have h8 := W.2.1
  have w3 := W.2.2.1
  have f1 := H.1.1
  have f2 := H.1.2.1
  have f3 := H.1.2.2.1
  have M0 := qMdl_q H X (qFp_0 (v := qj 0))
  have MF := M0.1
  have R := M0.2.2.2.2.1
  have hr : qisR 682 := by unfold qisR; omega
  have z0 : qup I 245 0 (qj 0) 245 0 = qj 0 := by rw [qup_at, if_pos rfl]
  unfold rNgt
  by_cases h : 0 ≤ z ∧ z < F.1 0 0
  · rw [if_pos h]
    obtain ⟨n, rfl⟩ : ∃ n : Nat, z = n := ⟨z.toNat, by omega⟩
    obtain ⟨J, k1, k2, k3⟩ := m274 (d := d - 1) (g := g) (by omega) MF W R hy
    have e := k2 n (by omega)
    refine qMQ_inl J (fun Q hQ => b276_0 (by omega) ?_) (qFe_n k3)
    simp (disch := omega) only [qz0, qj_lt, qj_le, qj_eq, qtk, qfk, qbtt, qbft, qbtf, qbff, qIx_z, qj_nat, true_and, and_true, true_implies, false_implies, not_true_eq_false, not_false_eq_true, Bool.true_eq_false, Bool.false_eq_true, qj_sub, qinB_t, qinB_f, q2_e, qj_add, qj_s1, qj_c1, qj_c2, qj_c9, qj_c17, qj_c97, f1]
    refine ⟨_, _, bd0 (by omega) _ _, ?_⟩
    simp (disch := omega) only [qz0, qj_lt, qj_le, qj_eq, qtk, qfk, qbtt, qbft, qbtf, qbff, qIx_z, qj_nat, true_and, and_true, true_implies, false_implies, not_true_eq_false, not_false_eq_true, Bool.true_eq_false, Bool.false_eq_true, qj_sub, qinB_t, qinB_f, q2_e, qj_add, qj_s1, qj_c1, qj_c2, qj_c9, qj_c17, qj_c97]
    refine ⟨_, _, k1, ?_⟩
    simp (disch := omega) only [qz0, qj_lt, qj_le, qj_eq, qtk, qfk, qbtt, qbft, qbtf, qbff, qIx_z, qj_nat, true_and, and_true, true_implies, false_implies, not_true_eq_false, not_false_eq_true, Bool.true_eq_false, Bool.false_eq_true, qj_sub, qinB_t, qinB_f, q2_e, qj_add, qj_s1, qj_c1, qj_c2, qj_c9, qj_c17, qj_c97, e]
    exact hQ
  · rw [if_neg h]
    refine qMQ_0 fun Q hQ => b276_0 (by omega) ?_
    simp (disch := omega) only [qz0, qj_lt, qj_le, qj_eq, qtk, qfk, qbtt, qbft, qbtf, qbff, qIx_z, qj_nat, true_and, and_true, true_implies, false_implies, not_true_eq_false, not_false_eq_true, Bool.true_eq_false, Bool.false_eq_true, qj_sub, qinB_t, qinB_f, q2_e, qj_add, qj_s1, qj_c1, qj_c2, qj_c9, qj_c17, qj_c97, f1]
    refine ⟨_, _, bd10 (by omega) H, ?_⟩
    simp (disch := omega) only [qz0, qj_lt, qj_le, qj_eq, qtk, qfk, qbtt, qbft, qbtf, qbff, qIx_z, qj_nat, true_and, and_true, true_implies, false_implies, not_true_eq_false, not_false_eq_true, Bool.true_eq_false, Bool.false_eq_true, qj_sub, qinB_t, qinB_f, q2_e, qj_add, qj_s1, qj_c1, qj_c2, qj_c9, qj_c17, qj_c97]
    exact hQ
theorem r295 (hd : 2 ≤ d) (X : qAbs F L B S S0 Im C T) (H : qMdl I F L B S S0 Im C T P) {w : Int} (hw : -2147483648 ≤ w ∧ w < 2147483648) : qMQ d 295 [.ref 245, .int (qj w)] g I 1 C (.inl (rSta C w)) := by
  have W := X.1
  have WL := X.2.1
  have WS := X.2.2.2.1.1
  have hy : S.1 0 0 ≤ 1000 := Nat.le_trans X.2.2.2.1.2.1 (by decide)
  have h9 := W.1
  have h8 := W.2.1
  have w3 := W.2.2.1
  have f1 := H.1.1
  have f2 := H.1.2.1
  have f3 := H.1.2.2.1
  have M0 := qMdl_q H X (qFp_0 (v := qj 0))
  have MF := M0.1
  have R := M0.2.2.2.2.1
  have hr : qisR 682 := by unfold qisR; omega
  have z0 : qup I 245 0 (qj 0) 245 0 = qj 0 := by rw [qup_at, if_pos rfl]
  have e0 := H.2.2.2.2.2.2.2.2.2.2.1
  have e1 := H.2.2.2.2.2.2.2.2.2.2.2.1
  refine qMQ_inl _ (fun Q hQ => b295_0 (by omega) ?_) qFe_rf
  unfold rSta at hQ
  by_cases h0 : w = 0
  · rw [if_pos h0] at hQ
    subst h0
    simp (disch := omega) only [qz0, qj_lt, qj_le, qj_eq, qtk, qfk, qbtt, qbft, qbtf, qbff, qIx_z, qj_nat, true_and, and_true, true_implies, false_implies, not_true_eq_false, not_false_eq_true, Bool.true_eq_false, Bool.false_eq_true, qj_sub, qinB_t, qinB_f, q2_e, qj_add, qj_s1, qj_c1, qj_c2, qj_c9, qj_c17, qj_c97]
    rw [show (qj 0).toNatClampNeg = 0 from rfl, e0]
    exact hQ
  · rw [if_neg h0] at hQ
    by_cases h1 : w = 1
    · rw [if_pos h1] at hQ
      subst h1
      simp (disch := omega) only [qz0, qj_lt, qj_le, qj_eq, qtk, qfk, qbtt, qbft, qbtf, qbff, qIx_z, qj_nat, true_and, and_true, true_implies, false_implies, not_true_eq_false, not_false_eq_true, Bool.true_eq_false, Bool.false_eq_true, qj_sub, qinB_t, qinB_f, q2_e, qj_add, qj_s1, qj_c1, qj_c2, qj_c9, qj_c17, qj_c97]
      rw [show (qj 1).toNatClampNeg = 1 from rfl, e1]
      exact hQ
    · rw [if_neg h1] at hQ
      simp (disch := omega) only [qz0, qj_lt, qj_le, qj_eq, qtk, qfk, qbtt, qbft, qbtf, qbff, qIx_z, qj_nat, true_and, and_true, true_implies, false_implies, not_true_eq_false, not_false_eq_true, Bool.true_eq_false, Bool.false_eq_true, qj_sub, qinB_t, qinB_f, q2_e, qj_add, qj_s1, qj_c1, qj_c2, qj_c9, qj_c17, qj_c97]
      exact hQ
theorem r296 (hd : 1 ≤ d) (X : qAbs F L B S S0 Im C T) (H : qMdl I F L B S S0 Im C T P) {w : Int} (hw : -2147483648 ≤ w ∧ w < 2147483648) : qMQ d 296 [.ref 245, .int (qj w)] g I 1 C (.inl (rCnt C w)) := by
  have e0 := H.2.2.2.2.2.2.2.2.2.1
  have e1 := H.2.2.2.2.2.2.2.2.2.2.2.2.1
  have e2 := H.2.2.2.2.2.2.2.2.1
  refine qMQ_inl _ (fun Q hQ => b296_0 (by omega) ?_) qFe_rf
  unfold rCnt at hQ
  by_cases h0 : w = 0
  · rw [if_pos h0] at hQ
    simp (disch := omega) only [qz0, qj_lt, qj_le, qj_eq, qtk, qfk, qbtt, qbft, qbtf, qbff, qIx_z, qj_nat, true_and, and_true, true_implies, false_implies, not_true_eq_false, not_false_eq_true, Bool.true_eq_false, Bool.false_eq_true, qj_sub, qinB_t, qinB_f, q2_e, qj_add, qj_s1, qj_c1, qj_c2, qj_c9, qj_c17, qj_c97, e0]
    exact hQ
  · rw [if_neg h0] at hQ
    by_cases h1 : w = 1
    · rw [if_pos h1] at hQ
      simp (disch := omega) only [qz0, qj_lt, qj_le, qj_eq, qtk, qfk, qbtt, qbft, qbtf, qbff, qIx_z, qj_nat, true_and, and_true, true_implies, false_implies, not_true_eq_false, not_false_eq_true, Bool.true_eq_false, Bool.false_eq_true, qj_sub, qinB_t, qinB_f, q2_e, qj_add, qj_s1, qj_c1, qj_c2, qj_c9, qj_c17, qj_c97, e1]
      exact hQ
    · rw [if_neg h1] at hQ
      by_cases h2 : w = 2
      · rw [if_pos h2] at hQ
        simp (disch := omega) only [qz0, qj_lt, qj_le, qj_eq, qtk, qfk, qbtt, qbft, qbtf, qbff, qIx_z, qj_nat, true_and, and_true, true_implies, false_implies, not_true_eq_false, not_false_eq_true, Bool.true_eq_false, Bool.false_eq_true, qj_sub, qinB_t, qinB_f, q2_e, qj_add, qj_s1, qj_c1, qj_c2, qj_c9, qj_c17, qj_c97, e2]
        exact hQ
      · rw [if_neg h2] at hQ
        simp (disch := omega) only [qz0, qj_lt, qj_le, qj_eq, qtk, qfk, qbtt, qbft, qbtf, qbff, qIx_z, qj_nat, true_and, and_true, true_implies, false_implies, not_true_eq_false, not_false_eq_true, Bool.true_eq_false, Bool.false_eq_true, qj_sub, qinB_t, qinB_f, q2_e, qj_add, qj_s1, qj_c1, qj_c2, qj_c9, qj_c17, qj_c97]
        exact hQ
end RASK3
