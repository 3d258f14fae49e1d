/-! ===== questions, the class' side, 7: the book's lines ===== -/
def aLt (B : qBk) : Nat → Nat
  | 0 => 0
  | k + 1 => max (aLt B k) (B.2 0 k)
theorem aLt_ge (B : qBk) : ∀ n k, k < n → B.2 0 k ≤ aLt B n
  | n + 1, k, h => by
    rw [aLt]
    by_cases e : k = n
    · subst e; exact Nat.le_max_right _ _
    · exact Nat.le_trans (aLt_ge B n k (by omega)) (Nat.le_max_left _ _)
theorem aLt_le {B : qBk} {m : Nat} : ∀ n, (∀ k, k < n → B.2 0 k ≤ m) → aLt B n ≤ m
  | 0, _ => Nat.zero_le _
  | n + 1, h => by
    rw [aLt]
    exact Nat.max_le.mpr ⟨aLt_le n (fun k hk => h k (by omega)), h n (by omega)⟩
/-- whether line k is so, the years lived from U -/
def aRtk (F : qFam) (L : qLw) (B : qBk) (U : qSt) (k : Nat) : Bool := (itr (aYear F L) (B.2 0 k) U).2.1 (B.2 2 k) (B.2 1 k)
/-- the first that is not so -/
def aLd (p : Nat → Bool) : Nat → Nat → Nat
  | 0, i => i
  | r + 1, i => if p i = true then aLd p r (i + 1) else i
theorem aLd_le (p : Nat → Bool) : ∀ r i, aLd p r i ≤ i + r
  | 0, _ => Nat.le_refl _
  | r + 1, i => by
    have := aLd_le p r (i + 1)
    rw [aLd]; split <;> omega
theorem itr_ok {F : qFam} {L : qLw} (W : qWF F) {U : qSt} (WU : qWS F U) : ∀ j, qWS F (itr (aYear F L) j U) ∧ (itr (aYear F L) j U).1 0 0 = U.1 0 0 + j
  | 0 => ⟨WU, rfl⟩
  | j + 1 => by
    obtain ⟨a, b⟩ := itr_ok (L := L) W WU j
    obtain ⟨y1, y2, y3⟩ := aYear_ok (L := L) (D := fun _ => false) a W
    exact ⟨y1, Eq.trans y2 (by omega)⟩
theorem qup_qup {α : Type} {f : Nat → Nat → α} {a i : Nat} {v w : α} : qup (qup f a i v) a i w = qup f a i w := by
  funext b j
  by_cases e : b = a
  · subst e
    rw [qup_at, qup_at, qup_at]; split <;> rfl
  · rw [qup_ne e, qup_ne e, qup_ne e]
section ASK7
variable {d : Nat} {g : qG1} {I : Nat → Nat → Int32} {F : qFam} {L : qLw} {B : qBk} {S S0 : qSt} {Im : Nat → qSt} {C T : Nat → Nat} {P : Int} {f s b : Nat}
theorem c3 (hd : 2 ≤ d) (hb : qisB b) (RB : qRB B I b) (hB : B.1 ≤ 12 ∧ ∀ k, k < B.1 → B.2 0 k ≤ 60) : qRun d 3 [.ref b] (qw g I) (.inl (some (.int (qj (aLt B B.1 : Nat))), qw g I)) := by
  have b1 := RB.1
  refine qRun_of fun Q hQ => b3_0 hb (by omega) ?_
  have key : ∀ i, i ≤ B.1 → qwq d 3 4 [(0, .ref b), (1, .int (qj (aLt B i : Nat))), (2, .int (qj i))] [] (qw g I) Q := by
    refine upto _ (b3_4 hb (by omega) ?_) (fun i hi ih => b3_4 hb (by omega) ?_)
    · simp (disch := omega) only [qz0, qj_lt, qj_le, qj_eq, qtk, qfk, qbtt, qbft, qbtf, qbff, qIx_z, qj_nat, true_and, and_true, true_implies, false_implies, not_true_eq_false, not_false_eq_true, Bool.true_eq_false, Bool.false_eq_true, b1]
      exact hQ
    · have e := (RB.2 i hi).1
      have h1 := aLt_le i (fun k hk => hB.2 k (by omega))
      have h2 := hB.2 i hi
      rw [show ((aLt B (i + 1) : Nat) : Int) = max (aLt B i : Int) (B.2 0 i) by rw [aLt]; omega] at ih
      simp (disch := omega) only [qz0, qj_lt, qj_le, qj_eq, qtk, qfk, qbtt, qbft, qbtf, qbff, qIx_z, qj_nat, true_and, and_true, true_implies, false_implies, not_true_eq_false, not_false_eq_true, Bool.true_eq_false, Bool.false_eq_true, b1, e, qmax_z, qj_add, qj_s1]
      exact ih
  exact key 0 (Nat.zero_le _)
theorem c4 (hd : 2 ≤ d) (hb : qisB b) (hs : qisS s) (RB : qRB B I b) (W : qWF F) (hB : B.1 ≤ 12 ∧ ∀ k, k < B.1 → 1 ≤ B.2 0 k ∧ B.2 0 k ≤ 60 ∧ B.2 1 k < F.1 0 1 ∧ B.2 2 k < F.1 0 0) {U : qSt} (R : qRS F I s U) (hy : U.1 0 0 ≤ 1000) :
    qRun d 4 [.ref b, .ref s] (qw g I) (.inl (some (.int (qj (bm B.1 (fun k => B.2 0 k == U.1 0 0 && U.2.1 (B.2 2 k) (B.2 1 k)) : Nat))), qw g I)) := by
  have h9 := W.1
  have h8 := W.2.1
  have b1 := RB.1
  have hb12 := hB.1
  have s1 := R.1
  refine qRun_of fun Q hQ => b4_0 hb hs (by omega) ?_
  have key : ∀ i, i ≤ B.1 → qwq d 4 4 [(0, .ref b), (1, .ref s), (2, .int (qj (bm i (fun k => B.2 0 k == U.1 0 0 && U.2.1 (B.2 2 k) (B.2 1 k)) : Nat))), (3, .int (qj i))] [] (qw g I) Q := by
    refine upto _ (b4_4 hb hs (by omega) ?_) (fun i hi ih => b4_4 hb hs (by omega) ?_)
    · simp (disch := omega) only [qz0, qj_lt, qj_le, qj_eq, qtk, qfk, qbtt, qbft, qbtf, qbff, qIx_z, qj_nat, true_and, and_true, true_implies, false_implies, not_true_eq_false, not_false_eq_true, Bool.true_eq_false, Bool.false_eq_true, b1]
      exact hQ
    · obtain ⟨e1, e2, e3⟩ := RB.2 i hi
      obtain ⟨l1, l2, l3, l4⟩ := hB.2 i hi
      have s3 := R.2.2.2.1 (B.2 2 i) (by omega)
      by_cases hy : B.2 0 i = U.1 0 0
      · cases hw : U.2.1 (B.2 2 i) (B.2 1 i) with
        | false =>
          rw [bm_sf (by show (_ && _) = false; rw [hw, Bool.and_false])] at ih
          simp (disch := omega) only [qz0, qj_lt, qj_le, qj_eq, qtk, qfk, qbtt, qbft, qbtf, qbff, qIx_z, qj_nat, true_and, and_true, true_implies, false_implies, not_true_eq_false, not_false_eq_true, Bool.true_eq_false, Bool.false_eq_true, b1, e1, e2, e3, s1, s3, qhas_bm, hw, qj_add, qj_s1]
          exact ih
        | true =>
          rw [← bm_st (by show (_ && _) = true; rw [hw, Bool.and_true, beq_iff_eq]; exact hy) (by omega)] at ih
          simp (disch := omega) only [qz0, qj_lt, qj_le, qj_eq, qtk, qfk, qbtt, qbft, qbtf, qbff, qIx_z, qj_nat, true_and, and_true, true_implies, false_implies, not_true_eq_false, not_false_eq_true, Bool.true_eq_false, Bool.false_eq_true, b1, e1, e2, e3, s1, s3, qhas_bm, hw, qj_add, qj_s1]
          exact ih
      · rw [bm_sf (by show (_ && _) = false; rw [beq_eq_false_iff_ne.mpr hy, Bool.false_and])] at ih
        simp (disch := omega) only [qz0, qj_lt, qj_le, qj_eq, qtk, qfk, qbtt, qbft, qbtf, qbff, qIx_z, qj_nat, true_and, and_true, true_implies, false_implies, not_true_eq_false, not_false_eq_true, Bool.true_eq_false, Bool.false_eq_true, b1, e1, s1, qj_add, qj_s1]
        exact ih
  exact key 0 (Nat.zero_le _)
/-- a year's life of what is asked, its deaths given -/
theorem ask2 (hd : 5 ≤ d) (X : qAbs F L B S S0 Im C T) (H : qCls g I F L B S S0 Im C T P) {U : qSt} {J : Nat → Nat → Int32} (R : qRS F J 171 U) (WU : qWS F U) (hyU : U.1 0 0 ≤ 1000) (hJ : qFq g I J) {D : Nat → Bool} {m : Int32} (hm : ∀ h : Nat, h < F.1 0 0 → qhas m (qj h) = D h) :
    ∃ J', qRun d 68 [.ref 171, .ref (g.2.2.1 1), .ref (g.2.2.1 3), .int m] (qw g J) (.inl (none, qw g J')) ∧ qRS F J' 171 (aLiv F L D U) ∧ qFq g I J' ∧ ∀ a, ¬ (171 ≤ a ∧ a < 187) → ¬ a = g.2.2.1 3 + 2 → J' a = J a := by
  have HJ := qCls_q H X.2.2.2.2.2.2.2.1 hJ
  obtain ⟨J', k1, k2, k3⟩ := c68 (g := g) hd (show qisS 171 by unfold qisS; omega) H.1.1 H.1.2.2.2.1 HJ.2.1 X.1 R WU hyU HJ.2.2.1 X.2.1 hm
  exact ⟨J', k1, k2, qFq_tr hJ (qFq_s k3), fun a p q => k3 a (by omega) q⟩
theorem qhas_0 {h : Nat} (hh : h < 31) : qhas (qj 0) (qj h) = false := by
  have := qhas_n 0 (k := h) (by omega)
  rw [Nat.zero_testBit] at this; exact this
theorem qFq_171 {g : qG1} {I J : Nat → Nat → Int32} {j : Nat} {v : Int32} (h : qFq g I J) {a : Nat} (ha : 171 ≤ a ∧ a < 187) : qFq g I (qup J a j v) := fun b p q r => by rw [qup_ne (by omega)]; exact h b p q r
theorem c153 (hd : 6 ≤ d) (X : qAbs F L B S S0 Im C T) (H : qCls g I F L B S S0 Im C T P) {U : qSt} (R : qRS F I 171 U) (WU : qWS F U) (h0 : U.1 0 0 = 0) :
    ∃ I', qRun d 153 [.ref 64] (qw g I) (.inl (some (.int (qj (aLd (aRtk F L B U) B.1 0 : Nat))), qw g I')) ∧ qFq g I I' := by
  have W := X.1
  have WS := X.2.2.2.1.1
  have hy : S.1 0 0 ≤ 1000 := Nat.le_trans X.2.2.2.1.2.1 (by decide)
  have h9 := W.1
  have h8 := W.2.1
  have w3 := W.2.2.1
  have hf := H.1.1
  have hl := H.1.2.2.2.1
  have hb := H.1.2.2.2.2.2.2.1
  have RF := H.2.1
  have RS := H.2.2.2.2.1
  have hs9 : qisS 139 := by unfold qisS; omega
  have hC := H.2.2.2.2.2.2.2.2.2.2.2.2.2.2.1
  have RB := H.2.2.2.1
  obtain ⟨hB1, hB2⟩ := X.2.2.1
  have hlt : aLt B B.1 ≤ 60 := aLt_le _ (fun k hk => (hB2 k hk).2.1)
  have k3 := c3 (d := d - 1) (g := g) (by omega) hb RB ⟨hB1, fun k hk => (hB2 k hk).2.1⟩
  have hs171 : qisS 171 := by unfold qisS; omega
  have key : ∀ j, j ≤ aLt B B.1 → ∀ J, qRS F J 171 (itr (aYear F L) j U) → qFq g I J →
      ∃ I', qFq g I I' ∧ ∀ Q : qR → Prop, Q (.inl (some (.int (qj (aLd (aRtk F L B U) B.1 0 : Nat))), qw g I')) → qwq d 153 12 [(0, .ref 64), (1, .int (qj (bm B.1 (fun k => decide (B.2 0 k ≤ j) && aRtk F L B U k) : Nat))), (2, .int (qj (aLt B B.1 : Nat))), (3, .int (qj ((j + 1 : Nat) : Int)))] [] (qw g J) Q := by
    refine upto _ (fun J R1 hJ => ⟨J, hJ, fun Q hQ => b153_12 hb hf hl rfl rfl rfl (by omega) ?_⟩) (fun j hj ih J R1 hJ => ?_)
    · simp (disch := omega) only [qz0, qj_lt, qj_le, qj_eq, qtk, qfk, qbtt, qbft, qbtf, qbff, qIx_z, qj_nat, true_and, and_true, true_implies, false_implies, not_true_eq_false, not_false_eq_true, Bool.true_eq_false, Bool.false_eq_true]
      have HJ := qCls_q H X.2.2.2.2.2.2.2.1 hJ
      have b1 := HJ.2.2.2.1.1
      have e : bm B.1 (fun k => decide (B.2 0 k ≤ aLt B B.1) && aRtk F L B U k) = bm B.1 (aRtk F L B U) := bm_ext (fun k hk => by rw [decide_eq_true (aLt_ge B _ k hk), Bool.true_and])
      rw [e]
      have fin : ∀ i, i ≤ B.1 → aLd (aRtk F L B U) (B.1 - i) i = aLd (aRtk F L B U) B.1 0 → qwq d 153 74 [(0, .ref 64), (1, .int (qj (bm B.1 (aRtk F L B U) : Nat))), (3, .int (qj i))] [] (qw g J) Q := by
        refine upto _ (fun h5 => b153_74 hb rfl (by omega) ?_) (fun i hi ih h5 => b153_74 hb rfl (by omega) ?_)
        · rw [Nat.sub_self, aLd] at h5
          rw [← h5] at hQ
          simp (disch := omega) only [qz0, qj_lt, qj_le, qj_eq, qtk, qfk, qbtt, qbft, qbtf, qbff, qIx_z, qj_nat, true_and, and_true, true_implies, false_implies, not_true_eq_false, not_false_eq_true, Bool.true_eq_false, Bool.false_eq_true, b1]
          exact hQ
        · rw [show B.1 - i = B.1 - (i + 1) + 1 by omega, aLd] at h5
          cases hq : aRtk F L B U i with
          | false =>
            rw [hq, if_neg Bool.false_ne_true] at h5
            rw [← h5] at hQ
            simp (disch := omega) only [qz0, qj_lt, qj_le, qj_eq, qtk, qfk, qbtt, qbft, qbtf, qbff, qIx_z, qj_nat, true_and, and_true, true_implies, false_implies, not_true_eq_false, not_false_eq_true, Bool.true_eq_false, Bool.false_eq_true, b1, qhas_bm, hq]
            exact hQ
          | true =>
            rw [hq, if_pos rfl] at h5
            simp (disch := omega) only [qz0, qj_lt, qj_le, qj_eq, qtk, qfk, qbtt, qbft, qbtf, qbff, qIx_z, qj_nat, true_and, and_true, true_implies, false_implies, not_true_eq_false, not_false_eq_true, Bool.true_eq_false, Bool.false_eq_true, b1, qhas_bm, hq, qj_add, qj_s1]
            exact ih h5
      exact fin 0 (Nat.zero_le _) rfl
    · obtain ⟨w1, w2⟩ := itr_ok (L := L) W WU j
      obtain ⟨y1, y2⟩ := itr_ok (L := L) W WU (j + 1)
      have R2 : qRS F (qup J 171 0 (qj (((itr (aYear F L) j U).1 0 0 + 1 : Nat) : Int))) 171 (aYr (itr (aYear F L) j U)) := qRS_u1 R1 rfl
      obtain ⟨J', k1, k2, k3', -⟩ := ask2 (d := d - 1) (m := qj 0) (D := fun _ => false) (by omega) X H R2 (qWS_yr w1) (by show (itr (aYear F L) j U).1 0 0 + 1 ≤ 1000; omega) (qFq_171 hJ (by omega)) (fun h hh => qhas_0 (by omega))
      have HJ := qCls_q H X.2.2.2.2.2.2.2.1 k3'
      have k4 := c4 (d := d - 1) (g := g) (by omega) hb hs171 HJ.2.2.2.1 W ⟨hB1, hB2⟩ (U := itr (aYear F L) (j + 1) U) k2 (by omega)
      obtain ⟨I', r1, r2⟩ := ih J' k2 k3'
      refine ⟨I', r1, fun Q hQ => b153_12 hb hf hl rfl rfl rfl (by omega) ?_⟩
      have e1 := R1.1
      have ee : bm B.1 (fun k => (decide (B.2 0 k ≤ j) && aRtk F L B U k) || (B.2 0 k == (itr (aYear F L) (j + 1) U).1 0 0 && (itr (aYear F L) (j + 1) U).2.1 (B.2 2 k) (B.2 1 k))) = bm B.1 (fun k => decide (B.2 0 k ≤ j + 1) && aRtk F L B U k) := bm_ext (fun k hk => by
        rw [y2, h0, Nat.zero_add]
        by_cases c : B.2 0 k = j + 1
        · have q1 : aRtk F L B U k = (itr (aYear F L) (j + 1) U).2.1 (B.2 2 k) (B.2 1 k) := by unfold aRtk; rw [c]
          rw [q1, beq_iff_eq.mpr c, decide_eq_true (by omega : B.2 0 k ≤ j + 1), decide_eq_false (by omega : ¬ B.2 0 k ≤ j)]
          simp only [Bool.false_and, Bool.true_and, Bool.false_or]
        · have q2 : decide (B.2 0 k ≤ j) = decide (B.2 0 k ≤ j + 1) := decide_eq_decide.mpr (by omega)
          rw [q2, beq_eq_false_iff_ne.mpr c, Bool.false_and, Bool.or_false])
      rw [← ee, ← qbm_or] at r2
      simp (disch := omega) only [qz0, qj_lt, qj_le, qj_eq, qtk, qfk, qbtt, qbft, qbtf, qbff, qIx_z, qj_nat, true_and, and_true, true_implies, false_implies, not_true_eq_false, not_false_eq_true, Bool.true_eq_false, Bool.false_eq_true, e1, qj_add, qj_s1]
      exact ⟨_, k1, _, _, k4, r2 Q hQ⟩
  obtain ⟨I', r1, r2⟩ := key 0 (Nat.zero_le _) I R qFq_rf
  refine ⟨I', qRun_of fun Q hQ => b153_0 hb rfl (by omega) ⟨_, _, k3, ?_⟩, r1⟩
  have e0 : bm B.1 (fun k => decide (B.2 0 k ≤ 0) && aRtk F L B U k) = 0 := bm_zero.mpr (fun k hk => by
    have := (hB2 k hk).1
    rw [decide_eq_false (by omega), Bool.false_and])
  have r3 := r2 Q hQ
  rw [e0] at r3
  exact r3
theorem f117 (hd : 7 ≤ d) (X : qAbs F L B S S0 Im C T) (H : qCls g I F L B S S0 Im C T P) : qCQ d 117 [.ref 64] g I (.inl (qj (aLd (aRtk F L B (aTold F)) B.1 0 : Nat))) := by
  have W := X.1
  have WS := X.2.2.2.1.1
  have hy : S.1 0 0 ≤ 1000 := Nat.le_trans X.2.2.2.1.2.1 (by decide)
  have h9 := W.1
  have h8 := W.2.1
  have w3 := W.2.2.1
  have hf := H.1.1
  have hl := H.1.2.2.2.1
  have hb := H.1.2.2.2.2.2.2.1
  have RF := H.2.1
  have RS := H.2.2.2.2.1
  have hs9 : qisS 139 := by unfold qisS; omega
  have hC := H.2.2.2.2.2.2.2.2.2.2.2.2.2.2.1
  obtain ⟨J, k1, k2, k3⟩ := c52 (d := d - 1) (g := g) (by omega) (show qisS 171 by unfold qisS; omega) hf W RF
  have hJ : qFq g I J := qFq_a (fun a ha => k3 a (by omega))
  obtain ⟨J', r1, r2⟩ := c153 (d := d - 1) (by omega) X (qCls_q H X.2.2.2.2.2.2.2.1 hJ) k2 (qWS_told W) rfl
  exact qCQ_inl J' (fun Q hQ => b117_0 hf rfl (by omega) ⟨_, k1, _, _, r1, hQ⟩) (qFq_tr hJ r2)
def aLmp (S : qSt) (h x : Nat) : qSt := (qup S.1 1 h x, S.2)
theorem qWS_lmp {U : qSt} {h x : Nat} (w : qWS F U) : qWS F (aLmp U h x) := by
  obtain ⟨h1, h2, h3, h4⟩ := w
  refine ⟨h1, fun a => ?_, fun a ha => ?_, fun a => ?_⟩
  · show qup U.1 1 h x 2 a ≤ 8; rw [qup_ne (by omega)]; exact h2 a
  · show qup U.1 1 h x 3 a ≤ 30; rw [qup_ne (by omega)]; exact h3 a ha
  · show qup U.1 1 h x 4 a ≤ _; rw [qup_ne (by omega)]; exact h4 a
def aLms (F : qFam) (L : qLw) (B : qBk) (h x : Nat) : Bool := aLd (aRtk F L B (aLmp (aTold F) h x)) B.1 0 == B.1
def rLms (F : qFam) (L : qLw) (B : qBk) (h : Int) : Int32 ⊕ Nat := if 0 ≤ h ∧ h < F.1 0 0 then .inl (qj (bm 10 (aLms F L B h.toNat) : Nat)) else .inr 0
theorem f118 (hd : 9 ≤ d) (X : qAbs F L B S S0 Im C T) (H : qCls g I F L B S S0 Im C T P) {z : Int} (hz : -2147483648 ≤ z ∧ z < 2147483648) : qCQ d 118 [.ref 64, .int (qj z)] g I (rLms F L B z) := by
  have W := X.1
  have WS := X.2.2.2.1.1
  have hy : S.1 0 0 ≤ 1000 := Nat.le_trans X.2.2.2.1.2.1 (by decide)
  have h9 := W.1
  have h8 := W.2.1
  have w3 := W.2.2.1
  have hf := H.1.1
  have hl := H.1.2.2.2.1
  have hb := H.1.2.2.2.2.2.2.1
  have RF := H.2.1
  have RS := H.2.2.2.2.1
  have hs9 : qisS 139 := by unfold qisS; omega
  have hC := H.2.2.2.2.2.2.2.2.2.2.2.2.2.2.1
  unfold rLms
  have f1 := RF.1
  have hs171 : qisS 171 := by unfold qisS; omega
  have hB1 := X.2.2.1.1
  by_cases h : 0 ≤ z ∧ z < F.1 0 0
  · rw [if_pos h]
    obtain ⟨n, rfl⟩ : ∃ n : Nat, z = n := ⟨z.toNat, by omega⟩
    have key : ∀ i, i ≤ 10 → ∀ J, qFq g I J →
        ∃ I', qFq g I I' ∧ ∀ Q : qR → Prop, Q (.inl (some (.int (qj (bm 10 (aLms F L B n) : Nat))), qw g I')) → qwq d 118 9 [(0, .ref 64), (1, .int (qj n)), (2, .int (qj (bm i (aLms F L B n) : Nat))), (3, .int (qj i))] [] (qw g J) Q := by
      refine upto _ (fun J hJ => ⟨J, hJ, fun Q hQ => b118_9 hb hf rfl rfl (by omega) ?_⟩) (fun i hi ih J hJ => ?_)
      · simp (disch := omega) only [qz0, qj_lt, qj_le, qj_eq, qtk, qfk, qbtt, qbft, qbtf, qbff, qIx_z, qj_nat, true_and, and_true, true_implies, false_implies, not_true_eq_false, not_false_eq_true, Bool.true_eq_false, Bool.false_eq_true]
        exact hQ
      · have HJ := qCls_q H X.2.2.2.2.2.2.2.1 hJ
        obtain ⟨J1, k1, k2, k3⟩ := c52 (d := d - 1) (g := g) (by omega) hs171 hf W HJ.2.1
        have hJ1 : qFq g I J1 := qFq_tr hJ (qFq_a (fun a ha => k3 a (by omega)))
        have R2 : qRS F (qup J1 172 n (qj (i : Int))) 171 (aLmp (aTold F) n i) := qRS_u3 k2 rfl
        have hJ2 : qFq g I (qup J1 172 n (qj (i : Int))) := qFq_171 hJ1 (by omega)
        obtain ⟨J3, r1, r2⟩ := c153 (d := d - 1) (by omega) X (qCls_q H X.2.2.2.2.2.2.2.1 hJ2) R2 (qWS_lmp (qWS_told W)) (by show qup (aTold F).1 1 n i 0 0 = 0; rw [qup_ne (by omega)]; rfl)
        have hJ3 := qFq_tr hJ2 r2
        have HJ3 := qCls_q H X.2.2.2.2.2.2.2.1 hJ3
        have b1 := HJ3.2.2.2.1.1
        have hle := aLd_le (aRtk F L B (aLmp (aTold F) n i)) B.1 0
        obtain ⟨I', q1, q2⟩ := ih J3 hJ3
        refine ⟨I', q1, fun Q hQ => b118_9 hb hf rfl rfl (by omega) ?_⟩
        by_cases e : aLd (aRtk F L B (aLmp (aTold F) n i)) B.1 0 = B.1
        · rw [← bm_st (show aLms F L B n i = true from beq_iff_eq.mpr e) (by omega)] at q2
          simp (disch := omega) only [qz0, qj_lt, qj_le, qj_eq, qtk, qfk, qbtt, qbft, qbtf, qbff, qIx_z, qj_nat, true_and, and_true, true_implies, false_implies, not_true_eq_false, not_false_eq_true, Bool.true_eq_false, Bool.false_eq_true]
          refine ⟨_, k1, _, _, r1, ?_⟩
          simp (disch := omega) only [qz0, qj_lt, qj_le, qj_eq, qtk, qfk, qbtt, qbft, qbtf, qbff, qIx_z, qj_nat, true_and, and_true, true_implies, false_implies, not_true_eq_false, not_false_eq_true, Bool.true_eq_false, Bool.false_eq_true, b1, qj_add, qj_s1]
          exact q2 Q hQ
        · rw [bm_sf (show aLms F L B n i = false from beq_eq_false_iff_ne.mpr e)] at q2
          simp (disch := omega) only [qz0, qj_lt, qj_le, qj_eq, qtk, qfk, qbtt, qbft, qbtf, qbff, qIx_z, qj_nat, true_and, and_true, true_implies, false_implies, not_true_eq_false, not_false_eq_true, Bool.true_eq_false, Bool.false_eq_true]
          refine ⟨_, k1, _, _, r1, ?_⟩
          simp (disch := omega) only [qz0, qj_lt, qj_le, qj_eq, qtk, qfk, qbtt, qbft, qbtf, qbff, qIx_z, qj_nat, true_and, and_true, true_implies, false_implies, not_true_eq_false, not_false_eq_true, Bool.true_eq_false, Bool.false_eq_true, b1, qj_add, qj_s1]
          exact q2 Q hQ
    obtain ⟨I', r1, r2⟩ := key 0 (Nat.zero_le _) I qFq_rf
    refine qCQ_inl I' (fun Q hQ => b118_0 hf rfl (by omega) ?_) r1
    simp (disch := omega) only [qz0, qj_lt, qj_le, qj_eq, qtk, qfk, qbtt, qbft, qbtf, qbff, qIx_z, qj_nat, true_and, and_true, true_implies, false_implies, not_true_eq_false, not_false_eq_true, Bool.true_eq_false, Bool.false_eq_true, f1]
    exact r2 Q hQ
  · rw [if_neg h]
    refine qCQ_0 fun Q hQ => b118_0 hf rfl (by omega) ?_
    simp (disch := omega) only [qz0, qj_lt, qj_le, f1]
    exact qrfu hQ (fun c => qrfu hQ (fun c => by omega))
end ASK7
