/-! ===== feed ===== -/
theorem q255 (y : Int32) : ∃ m : Nat, m < 256 ∧ y &&& qj 255 = qj (m : Int) := by
  refine ⟨bm 8 (fun k => y.toBitVec.getLsbD k), bm_lt 8 _, qj_bits _ _ (fun i hi => ?_)⟩
  have e : (255 : Int) = ((bm 8 (fun _ => true) : Nat) : Int) := by decide
  rw [Int32.toBitVec_and, BitVec.getLsbD_and, e, qj_lsb _ hi, bm_tb, bm_tb, Bool.and_true, Bool.and_comm]
/-- byte k of a number -/
def fB (x : Int32) (k : Nat) : Nat := ((x >>> (qj ((24 : Int) - 8 * k) &&& 31)) &&& qj 255).toNatClampNeg
theorem fB_e (x : Int32) (k : Nat) : (x >>> (qj ((24 : Int) - 8 * k) &&& 31)) &&& qj 255 = qj (fB x k : Int) ∧ fB x k < 256 := by
  unfold fB
  obtain ⟨m, h1, h2⟩ := q255 (x >>> (qj ((24 : Int) - 8 * k) &&& 31))
  rw [h2, qj_nat (by omega)]
  exact ⟨rfl, h1⟩
def fW (x1 x2 x3 x4 x5 : Int32) (k : Nat) : Int32 := if k < 4 then x1 else if k < 8 then x2 else if k < 12 then x3 else if k < 16 then x4 else x5
def fT (T : Nat → Nat) (s : Nat) (x1 x2 x3 x4 x5 : Int32) (j : Nat) : Nat := if j < s then T j else fB (fW x1 x2 x3 x4 x5 (j - s)) ((j - s) % 4)
section FEED
variable {d : Nat} {g : qG1} {I : Nat → Nat → Int32} {F : qFam} {L : qLw} {B : qBk} {S S0 : qSt} {Im : Nat → qSt} {C T : Nat → Nat} {P : Int} {f s : Nat}
/-- the tape's frame -/
def qFt (I J : Nat → Nat → Int32) : Prop := (∀ a, ¬ a = 65 → ¬ a = 66 → J a = I a) ∧ ∀ j, ¬ j = 1 → J 65 j = I 65 j
theorem c71 (hd : 1 ≤ d) {J : Nat → Nat → Int32} {x : Int32} {s : Nat} (hs : s + 4 ≤ 600) (h : J 65 1 = qj (s : Int)) :
    ∃ J', qRun d 71 [.ref 65, .int x] (qw g J) (.inl (none, qw g J')) ∧ J' 65 1 = qj ((s + 4 : Nat) : Int) ∧ (∀ k, k < 4 → J' 66 (s + k) = qj (fB x k : Int)) ∧ (∀ j, (j < s ∨ s + 4 ≤ j) → J' 66 j = J 66 j) ∧ qFt J J' := by
  have step : ∀ r k, k + r = 4 → ∀ K, K 65 1 = qj ((s + k : Nat) : Int) → (∀ j, j < k → K 66 (s + j) = qj (fB x j : Int)) → (∀ j, (j < s ∨ s + 4 ≤ j) → K 66 j = J 66 j) → qFt J K →
      ∃ J', (J' 65 1 = qj ((s + 4 : Nat) : Int) ∧ (∀ k, k < 4 → J' 66 (s + k) = qj (fB x k : Int)) ∧ (∀ j, (j < s ∨ s + 4 ≤ j) → J' 66 j = J 66 j) ∧ qFt J J') ∧ ∀ Q : qR → Prop, Q (.inl (none, qw g J')) → qwq d 71 3 [(0, .ref 65), (1, .int x), (2, .int (qj ((24 : Int) - 8 * k)))] [] (qw g K) Q := by
    intro r
    induction r with
    | zero =>
      intro k hk K h1 h2 h3 h4
      have e : k = 4 := by omega
      subst e
      refine ⟨K, ⟨h1, h2, h3, h4⟩, fun Q hQ => b71_3 (by omega) ?_⟩
      simp (disch := omega) only [qz0, qj_lt, qj_le, qj_eq, qtk, qfk, qbtt, qbft, qbtf, qbff, qIx_z, qj_nat, true_and, and_true, true_implies, false_implies, not_true_eq_false, not_false_eq_true, Bool.true_eq_false, Bool.false_eq_true]
      exact hQ
    | succ r ih =>
      intro k hk K h1 h2 h3 h4
      obtain ⟨e1, e2⟩ := fB_e x k
      obtain ⟨J', q1, q2⟩ := ih (k + 1) (by omega) (qup (qup K 66 (s + k) (qj (fB x k : Int))) 65 1 (qj ((s + (k + 1) : Nat) : Int))) (by rw [qup_at, if_pos rfl]) (fun j hj => by
        rw [qup_ne (by omega), qup_at]
        by_cases e : j = k
        · rw [if_pos (by omega), e]
        · rw [if_neg (by omega)]; exact h2 j (by omega)) (fun j hj => by
        rw [qup_ne (by omega), qup_at, if_neg (by omega)]; exact h3 j hj) ⟨fun a p q => by rw [qup_ne p, qup_ne q]; exact h4.1 a p q, fun j p => by rw [qup_at, if_neg p, qup_ne (by omega)]; exact h4.2 j p⟩
      refine ⟨J', q1, fun Q hQ => b71_3 (by omega) ?_⟩
      have q3 := q2 Q hQ
      simp (disch := omega) only [qz0, qj_lt, qj_le, qj_eq, qtk, qfk, qbtt, qbft, qbtf, qbff, qIx_z, qj_nat, true_and, and_true, true_implies, false_implies, not_true_eq_false, not_false_eq_true, Bool.true_eq_false, Bool.false_eq_true, h1, e1, qj_add, qj_s1]
      rw [show (24 : Int) - 8 * ((k + 1 : Nat) : Int) = (24 : Int) - 8 * k + -8 by omega] at q3
      exact q3
  obtain ⟨J', ⟨q1, q2, q3, q4⟩, q5⟩ := step 4 0 rfl J h (fun j hj => absurd hj (Nat.not_lt_zero j)) (fun _ _ => rfl) ⟨fun _ _ _ => rfl, fun _ _ => rfl⟩
  exact ⟨J', qRun_of fun Q hQ => b71_0 (by omega) (q5 Q hQ), q1, q2, q3, q4⟩
theorem qFt_tr {I J K : Nat → Nat → Int32} (h : qFt I J) (h2 : qFt J K) : qFt I K := ⟨fun a p q => (h2.1 a p q).trans (h.1 a p q), fun j p => (h2.2 j p).trans (h.2 j p)⟩
theorem f85 (hd : 2 ≤ d) (X : qAbs F L B S S0 Im C T) (H : qCls g I F L B S S0 Im C T P) {x1 x2 x3 x4 x5 : Int32} :
    if C 4 + 20 ≤ 600 then ∃ I', qRun d 85 [.ref 64, .int x1, .int x2, .int x3, .int x4, .int x5] (qw g I) (.inl (some (.int (qj ((C 4 + 20 : Nat) : Int))), qw g I')) ∧ qCls g I' F L B S S0 Im (iup C 4 (C 4 + 20)) (fT T (C 4) x1 x2 x3 x4 x5) P ∧ ∀ a, a < 64 ∨ 245 ≤ a → I' a = I a
    else qRun d 85 [.ref 64, .int x1, .int x2, .int x3, .int x4, .int x5] (qw g I) (.inl (some (.int (qj (-1))), qw g I)) := by
  have c4 := X.2.2.2.2.2.2.2.2.1
  have e1 := H.2.2.2.2.2.2.2.2.2.2.2.1
  have eT := H.2.2.2.2.2.2.2.2.2.2.2.2.1
  by_cases h : C 4 + 20 ≤ 600
  · rw [if_pos h]
    obtain ⟨J1, a1, a2, a3, a4, a5⟩ := c71 (d := d - 1) (g := g) (J := I) (x := x1) (s := C 4) (by omega) (by omega) e1
    obtain ⟨J2, b1, b2, b3, b4, b5⟩ := c71 (d := d - 1) (g := g) (J := J1) (x := x2) (s := C 4 + 4) (by omega) (by omega) a2
    obtain ⟨J3, d1, d2, d3, d4, d5⟩ := c71 (d := d - 1) (g := g) (J := J2) (x := x3) (s := C 4 + 4 + 4) (by omega) (by omega) b2
    obtain ⟨J4, g1, g2, g3, g4, g5⟩ := c71 (d := d - 1) (g := g) (J := J3) (x := x4) (s := C 4 + 4 + 4 + 4) (by omega) (by omega) d2
    obtain ⟨J5, h1, h2, h3, h4, h5⟩ := c71 (d := d - 1) (g := g) (J := J4) (x := x5) (s := C 4 + 4 + 4 + 4 + 4) (by omega) (by omega) g2
    have hf := qFt_tr (qFt_tr (qFt_tr (qFt_tr a5 b5) d5) g5) h5
    have hT : ∀ j, j < C 4 + 20 → J5 66 j = qj (fT T (C 4) x1 x2 x3 x4 x5 j : Int) := by
      intro j hj
      unfold fT
      by_cases c : j < C 4
      · rw [if_pos c, h4 j (by omega), g4 j (by omega), d4 j (by omega), b4 j (by omega), a4 j (by omega)]
        exact eT j c
      · rw [if_neg c]
        unfold fW
        obtain ⟨m, rfl⟩ : ∃ m, j = C 4 + m := ⟨j - C 4, by omega⟩
        rw [show C 4 + m - C 4 = m by omega]
        by_cases c1 : m < 4
        · rw [if_pos c1, h4 _ (by omega), g4 _ (by omega), d4 _ (by omega), b4 _ (by omega), a3 m c1, Nat.mod_eq_of_lt c1]
        · by_cases c2 : m < 8
          · rw [if_neg c1, if_pos c2, h4 _ (by omega), g4 _ (by omega), d4 _ (by omega), show m % 4 = m - 4 by omega, ← b3 (m - 4) (by omega), show C 4 + 4 + (m - 4) = C 4 + m by omega]
          · by_cases c3 : m < 12
            · rw [if_neg c1, if_neg c2, if_pos c3, h4 _ (by omega), g4 _ (by omega), show m % 4 = m - 8 by omega, ← d3 (m - 8) (by omega), show C 4 + 4 + 4 + (m - 8) = C 4 + m by omega]
            · by_cases c5 : m < 16
              · rw [if_neg c1, if_neg c2, if_neg c3, if_pos c5, h4 _ (by omega), show m % 4 = m - 12 by omega, ← g3 (m - 12) (by omega), show C 4 + 4 + 4 + 4 + (m - 12) = C 4 + m by omega]
              · rw [if_neg c1, if_neg c2, if_neg c3, if_neg c5, show m % 4 = m - 16 by omega, ← h3 (m - 16) (by omega), show C 4 + 4 + 4 + 4 + 4 + (m - 16) = C 4 + m by omega]
    have e20 : J5 65 1 = qj ((C 4 + 20 : Nat) : Int) := h2
    obtain ⟨b1', b2', b3'⟩ := qWo_b H.1
    obtain ⟨k1, k2, k3, k4, k5, k6, k7, k8, k9, k10, k11, k12, k13, k14, k15⟩ := H
    refine ⟨J5, qRun_of fun Q hQ => b85_0 (by omega) ?_, ⟨k1, qRF_cg k2 (fun a p q => hf.1 a (by omega) (by omega)), qRL_cg k3 (fun a p q => hf.1 a (by omega) (by omega)), qRB_cg k4 (fun a p q => hf.1 a (by omega) (by omega)), qRS_cg k5 (fun a p q => hf.1 a (by omega) (by omega)), qRS_cg k6 (fun a p q => hf.1 a (by omega) (by omega)), fun k hk => qRS_cg (k7 k hk) (fun a p q => hf.1 a (by omega) (by omega)), ?_, ?_, ?_, ?_, e20, fun j hj => hT j hj, (hf.2 5 (by omega)).trans k14, qCon_cg k15 (fun a p => hf.1 a (by omega) (by omega))⟩, fun a p => hf.1 a (by omega) (by omega)⟩
    · simp (disch := omega) only [qz0, qj_lt, qj_le, qj_eq, qtk, qfk, qbtt, qbft, qbtf, qbff, qIx_z, qj_nat, true_and, and_true, true_implies, false_implies, not_true_eq_false, not_false_eq_true, Bool.true_eq_false, Bool.false_eq_true, e1, qj_add]
      refine ⟨_, a1, _, b1, _, d1, _, g1, _, h1, ?_⟩
      rw [e20]; exact hQ
    · rw [hf.1 64 (by omega) (by omega)]; exact k8
    · rw [hf.1 64 (by omega) (by omega)]; exact k9
    · rw [hf.1 64 (by omega) (by omega)]; exact k10
    · rw [hf.1 64 (by omega) (by omega)]; exact k11
  · rw [if_neg h]
    refine qRun_of fun Q hQ => b85_0 (by omega) ?_
    simp (disch := omega) only [qz0, qj_lt, qj_le, qj_eq, qtk, qfk, qbtt, qbft, qbtf, qbff, qIx_z, qj_nat, true_and, and_true, true_implies, false_implies, not_true_eq_false, not_false_eq_true, Bool.true_eq_false, Bool.false_eq_true, e1, qj_add]
    exact hQ
theorem r173 (hd : 1 ≤ d) (X : qAbs F L B S S0 Im C T) (H : qMdl I F L B S S0 Im C T P) {x1 x2 x3 x4 x5 : Int32} :
    ∃ I', qRun d 173 [.ref 245, .int x1, .int x2, .int x3, .int x4, .int x5] (qw g I) (.inl (some (.int (qj (if C 4 + 20 ≤ 600 then ((C 4 + 20 : Nat) : Int) else -1))), qw g I')) ∧
      qMdl I' F L B S S0 Im (if C 4 + 20 ≤ 600 then iup C 4 (C 4 + 20) else C) (if C 4 + 20 ≤ 600 then fT T (C 4) x1 x2 x3 x4 x5 else T) P ∧ I' 245 0 = qj 0 ∧ ∀ a, a < 245 → I' a = I a := by
  have M0 := qMdl_q H X (qFp_0 (v := qj 0))
  have z0 : qup I 245 0 (qj 0) 245 0 = qj 0 := by rw [qup_at, if_pos rfl]
  have c4 := X.2.2.2.2.2.2.2.2.1
  have e1 := H.2.2.2.2.2.2.2.2.2.2.2.2.1
  have e1' := M0.2.2.2.2.2.2.2.2.2.2.2.2.1
  have eT := M0.2.2.2.2.2.2.2.2.2.2.2.2.2.1
  by_cases h : C 4 + 20 ≤ 600
  · rw [if_pos h, if_pos h, if_pos h]
    have key : ∀ r k, k + r = 20 → ∀ J, J 245 1 = qj ((C 4 + k : Nat) : Int) → (∀ j, j < C 4 + k → J 246 j = qj (fT T (C 4) x1 x2 x3 x4 x5 j : Int)) → (∀ a, ¬ a = 245 → ¬ a = 246 → J a = I a) → (∀ j, ¬ j = 1 → J 245 j = qup I 245 0 (qj 0) 245 j) →
        ∃ I', (I' 245 1 = qj ((C 4 + 20 : Nat) : Int) ∧ (∀ j, j < C 4 + 20 → I' 246 j = qj (fT T (C 4) x1 x2 x3 x4 x5 j : Int)) ∧ (∀ a, ¬ a = 245 → ¬ a = 246 → I' a = I a) ∧ (∀ j, ¬ j = 1 → I' 245 j = qup I 245 0 (qj 0) 245 j)) ∧
          ∀ Q : qR → Prop, Q (.inl (some (.int (qj ((C 4 + 20 : Nat) : Int))), qw g I')) → qwq d 173 23 [(0, .ref 245), (1, .int x1), (2, .int x2), (3, .int x3), (4, .int x4), (5, .int x5), (6, .int (qj k))] [] (qw g J) Q := by
      intro r
      induction r with
      | zero =>
        intro k hk J h1 h2 h3 h4
        have e : k = 20 := by omega
        subst e
        refine ⟨J, ⟨h1, h2, h3, h4⟩, fun Q hQ => b173_23 (by omega) ?_⟩
        simp (disch := omega) only [qz0, qj_lt, qj_le, qj_eq, qtk, qfk, qbtt, qbft, qbtf, qbff, qIx_z, qj_nat, true_and, and_true, true_implies, false_implies, not_true_eq_false, not_false_eq_true, Bool.true_eq_false, Bool.false_eq_true, qj_sub, qinB_t, qinB_f, q2_e, qj_add, qj_s1, qj_c1, qj_c2, qj_c9, qj_c17, qj_c97, h1]
        exact hQ
      | succ r ih =>
        intro k hk J h1 h2 h3 h4
        have em : qj (k : Int) - qj (k : Int) / qj 4 * qj 4 = qj ((k % 4 : Nat) : Int) := by
          rw [qj_dvz (by omega) (by omega) (by omega) (by omega), qj_mul, qj_sub]
          congr 1; omega
        have es : qj 24 - qj 8 * qj ((k % 4 : Nat) : Int) = qj ((24 : Int) - 8 * (k % 4 : Nat)) := by rw [qj_mul, qj_sub]
        obtain ⟨e2, e3⟩ := fB_e (fW x1 x2 x3 x4 x5 k) (k % 4)
        obtain ⟨I', q1, q2⟩ := ih (k + 1) (by omega) (qup (qup J 246 (C 4 + k) (qj (fB (fW x1 x2 x3 x4 x5 k) (k % 4) : Int))) 245 1 (qj ((C 4 + (k + 1) : Nat) : Int))) (by rw [qup_at, if_pos rfl]) (fun j hj => by
          rw [qup_ne (by omega), qup_at]
          by_cases e : j = C 4 + k
          · rw [if_pos e, e]
            unfold fT
            rw [if_neg (by omega), show C 4 + k - C 4 = k by omega]
          · rw [if_neg e]; exact h2 j (by omega)) (fun a p q => by rw [qup_ne p, qup_ne q]; exact h3 a p q) (fun j p => by rw [qup_at, if_neg p, qup_ne (by omega)]; exact h4 j p)
        refine ⟨I', q1, fun Q hQ => b173_23 (by omega) ?_⟩
        have q3 := q2 Q hQ
        rw [← e2, ← es, ← em] at q3
        unfold fW at q3
        by_cases k1 : k < 4
        · rw [if_pos k1] at q3
          simp (disch := omega) only [qz0, qj_lt, qj_le, qtk, qfk, h1, qIx_z, qj_nat, true_and, not_true_eq_false, not_false_eq_true]
          simp (disch := omega) only [qj_add, qj_s1]
          exact q3
        · by_cases k2 : k < 8
          · rw [if_neg k1, if_pos k2] at q3
            simp (disch := omega) only [qz0, qj_lt, qj_le, qtk, qfk, h1, qIx_z, qj_nat, true_and, not_true_eq_false, not_false_eq_true]
            simp (disch := omega) only [qj_add, qj_s1]
            exact q3
          · by_cases k3 : k < 12
            · rw [if_neg k1, if_neg k2, if_pos k3] at q3
              simp (disch := omega) only [qz0, qj_lt, qj_le, qtk, qfk, h1, qIx_z, qj_nat, true_and, not_true_eq_false, not_false_eq_true]
              simp (disch := omega) only [qj_add, qj_s1]
              exact q3
            · by_cases k4 : k < 16
              · rw [if_neg k1, if_neg k2, if_neg k3, if_pos k4] at q3
                simp (disch := omega) only [qz0, qj_lt, qj_le, qtk, qfk, h1, qIx_z, qj_nat, true_and, not_true_eq_false, not_false_eq_true]
                simp (disch := omega) only [qj_add, qj_s1]
                exact q3
              · rw [if_neg k1, if_neg k2, if_neg k3, if_neg k4] at q3
                simp (disch := omega) only [qz0, qj_lt, qj_le, qtk, qfk, h1, qIx_z, qj_nat, true_and, not_true_eq_false, not_false_eq_true]
                simp (disch := omega) only [qj_add, qj_s1]
                exact q3
    obtain ⟨I', ⟨q1, q2, q3, q4⟩, q5⟩ := key 20 0 rfl (qup I 245 0 (qj 0)) e1' (fun j hj => by
      rw [eT j hj]
      unfold fT
      rw [if_pos (show j < C 4 from hj)]) (fun a p q => qup_ne p) (fun _ _ => rfl)
    have W := X.1
    have WL := X.2.1
    have c1 := X.2.2.2.2.2.2.2.1
    obtain ⟨h1, h2, h3, h4, h5, h6, h7, h8', h9', h10, h11, h12, h13, h14, h15, h16⟩ := M0
    have hfr : ∀ a, ¬ a = 245 → ¬ a = 246 → I' a = qup I 245 0 (qj 0) a := fun a p q => by rw [q3 a p q, qup_ne p]
    refine ⟨I', qRun_of fun Q hQ => b173_0 (by omega) ?_, ⟨qMF_cg h1 (fun a p q => hfr a (by omega) (by omega)) W, qMl_cg h2 (fun a p q => hfr a (by omega) (by omega)) W, qML_cg h3 WL (q4 27 (by omega)) (fun a p q => hfr a (by omega) (by omega)), qMB_cg h4 X.2.2.1.1 (q4 41 (by omega)) (fun a p q => hfr a (by omega) (by omega)), qMS_cg h5 (hfr 682 (by omega) (by omega)), qMS_cg h6 (hfr 683 (by omega) (by omega)), qMS_cg h7 (hfr 684 (by omega) (by omega)), fun k hk => qMS_cg (h8' k hk) (hfr _ (by omega) (by omega)), (q4 42 (by omega)).trans h9', (q4 43 (by omega)).trans h10, by rw [hfr 247 (by omega) (by omega)]; exact h11, by rw [hfr 247 (by omega) (by omega)]; exact h12, q1, fun j hj => q2 j hj, (q4 3 (by omega)).trans h15, (q4 45 (by omega)).trans h16⟩, (q4 0 (by omega)).trans z0, fun a p => q3 a (by omega) (by omega)⟩
    simp (disch := omega) only [qz0, qj_lt, qj_le, qj_eq, qtk, qfk, qbtt, qbft, qbtf, qbff, qIx_z, qj_nat, true_and, and_true, true_implies, false_implies, not_true_eq_false, not_false_eq_true, Bool.true_eq_false, Bool.false_eq_true, qj_sub, qinB_t, qinB_f, q2_e, qj_add, qj_s1, qj_c1, qj_c2, qj_c9, qj_c17, qj_c97, e1]
    exact q5 Q hQ
  · rw [if_neg h, if_neg h, if_neg h]
    refine ⟨_, qRun_of fun Q hQ => b173_0 (by omega) ?_, M0, z0, fun a p => qup_ne (by omega)⟩
    simp (disch := omega) only [qz0, qj_lt, qj_le, qj_eq, qtk, qfk, qbtt, qbft, qbtf, qbff, qIx_z, qj_nat, true_and, and_true, true_implies, false_implies, not_true_eq_false, not_false_eq_true, Bool.true_eq_false, Bool.false_eq_true, qj_sub, qinB_t, qinB_f, q2_e, qj_add, qj_s1, qj_c1, qj_c2, qj_c9, qj_c17, qj_c97, e1]
    exact hQ
end FEED
