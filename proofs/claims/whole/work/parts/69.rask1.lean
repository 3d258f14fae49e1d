/-! ===== questions, the reference's side, 1 ===== -/
/-- as qFp, and what was thrown stays -/
def qFe (I J : Nat → Nat → Int32) : Prop := qFp I J ∧ J 245 0 = I 245 0
theorem qFe_rf {I : Nat → Nat → Int32} : qFe I I := ⟨qFp_rf, rfl⟩
theorem qFe_tr {I J K : Nat → Nat → Int32} (h : qFe I J) (h2 : qFe J K) : qFe I K := ⟨qFp_tr h.1 h2.1, h2.2.trans h.2⟩
theorem qFe_k {I J : Nat → Nat → Int32} (h : qFk I J) : qFe I J := ⟨qFp_k h, h.2 0 (by omega) (by omega) (by omega)⟩
theorem qFe_n {I J : Nat → Nat → Int32} (h : ∀ a, ¬ a = 693 → J a = I a) : qFe I J := ⟨qFp_n h, by rw [h 245 (by omega)]⟩
theorem qFe_s {I J : Nat → Nat → Int32} (h : qFs I J) : qFe I J := ⟨qFp_s h, by rw [h 245 (by omega) (by omega)]⟩
theorem qFe_m {r : Nat} {I J : Nat → Nat → Int32} (hr : r = 685 ∨ r = 686) (h : qFm r I J) : qFe I J := ⟨qFp_m hr h, h.2 0 (by omega)⟩
theorem qFe_r {r : Nat} {I J : Nat → Nat → Int32} (hr : r = 685 ∨ r = 686) (h : ∀ a, ¬ a = r → J a = I a) : qFe I J := ⟨qFp_r hr h, by rw [h 245 (by omega)]⟩
/-- a question of the reference; c: what is thrown for reason 1 -/
def qMQ (d k : Nat) (as : List Value) (g : qG1) (I : Nat → Nat → Int32) (c : Nat) (C : Nat → Nat) : Int32 ⊕ Nat → Prop
  | .inl v => ∃ I', qRun d k as (qw g I) (.inl (some (.int v), qw g I')) ∧ qFp I I' ∧ I' 245 0 = qj 0
  | .inr e => qRun d k as (qw g I) (.inl (some (.int (qj 0)), qw g (qup (qup I 245 0 (qj (if e = 0 then 1 else c : Nat))) 247 e (qj ((C (2 + e) + 1 : Nat) : Int)))))
theorem qMQ_inl {d k : Nat} {as : List Value} {g : qG1} {I : Nat → Nat → Int32} {c : Nat} {C : Nat → Nat} {v : Int32} (I' : Nat → Nat → Int32) (h : ∀ Q : qR → Prop, Q (.inl (some (.int v), qw g I')) → qwp d k as (qw g I) Q) (e : qFe (qup I 245 0 (qj 0)) I') : qMQ d k as g I c C (.inl v) :=
  ⟨I', qRun_of h, qFp_tr qFp_0 e.1, e.2.trans (by rw [qup_at, if_pos rfl])⟩
theorem qMQ_0 {d k : Nat} {as : List Value} {g : qG1} {I : Nat → Nat → Int32} {c : Nat} {C : Nat → Nat} (h : ∀ Q : qR → Prop, Q (.inl (some (.int (qj 0)), qw g (qup (qup I 245 0 (qj 1)) 247 0 (qj ((C 2 + 1 : Nat) : Int))))) → qwp d k as (qw g I) Q) : qMQ d k as g I c C (.inr 0) := qRun_of h
theorem qMQ_1 {d k : Nat} {as : List Value} {g : qG1} {I : Nat → Nat → Int32} {C : Nat → Nat} (h : ∀ Q : qR → Prop, Q (.inl (some (.int (qj 0)), qw g (qup (qup I 245 0 (qj 1)) 247 1 (qj ((C 3 + 1 : Nat) : Int))))) → qwp d k as (qw g I) Q) : qMQ d k as g I 1 C (.inr 1) := qRun_of h
theorem qMQ_2 {d k : Nat} {as : List Value} {g : qG1} {I : Nat → Nat → Int32} {C : Nat → Nat} (h : ∀ Q : qR → Prop, Q (.inl (some (.int (qj 0)), qw g (qup (qup I 245 0 (qj 2)) 247 1 (qj ((C 3 + 1 : Nat) : Int))))) → qwp d k as (qw g I) Q) : qMQ d k as g I 2 C (.inr 1) := qRun_of h
section RASK1
variable {d : Nat} {g : qG1} {I : Nat → Nat → Int32} {F : qFam} {L : qLw} {B : qBk} {S S0 : qSt} {Im : Nat → qSt} {C T : Nat → Nat} {P : Int} {f s : Nat}
theorem bd0 (hd : 1 ≤ d) (w r : Int32) : qRun d 167 [.ref 245, .int (qj 0), .int w, .int r] (qw g (qup I 245 0 (qj 0))) (.inl (some (.int (qb false)), qw g (qup I 245 0 (qj 0)))) :=
  m167f hd (by rw [qup_at, if_pos rfl]) w r
theorem bd10 (hd : 1 ≤ d) (H : qMdl I F L B S S0 Im C T P) : qRun d 167 [.ref 245, .int (qj 1), .int (qj 1), .int (qj 0)] (qw g (qup I 245 0 (qj 0))) (.inl (some (.int (qb true)), qw g (qup (qup I 245 0 (qj 1)) 247 0 (qj ((C 2 + 1 : Nat) : Int))))) := by
  have h := m167t (d := d) (g := g) (I := qup I 245 0 (qj 0)) (w := 1) (r := 0) (n := C 2) hd (by rw [qup_at, if_pos rfl]) (by omega) (by omega) (by omega) (by rw [qup_ne (by omega)]; exact H.2.2.2.2.2.2.2.2.2.2.1)
  rw [qup_qup] at h
  exact h
theorem bd11 (hd : 1 ≤ d) (H : qMdl I F L B S S0 Im C T P) : qRun d 167 [.ref 245, .int (qj 1), .int (qj 1), .int (qj 1)] (qw g (qup I 245 0 (qj 0))) (.inl (some (.int (qb true)), qw g (qup (qup I 245 0 (qj 1)) 247 1 (qj ((C 3 + 1 : Nat) : Int))))) := by
  have h := m167t (d := d) (g := g) (I := qup I 245 0 (qj 0)) (w := 1) (r := 1) (n := C 3) hd (by rw [qup_at, if_pos rfl]) (by omega) (by omega) (by omega) (by rw [qup_ne (by omega)]; exact H.2.2.2.2.2.2.2.2.2.2.2.1)
  rw [qup_qup] at h
  exact h
theorem bd21 (hd : 1 ≤ d) (H : qMdl I F L B S S0 Im C T P) : qRun d 167 [.ref 245, .int (qj 1), .int (qj 2), .int (qj 1)] (qw g (qup I 245 0 (qj 0))) (.inl (some (.int (qb true)), qw g (qup (qup I 245 0 (qj 2)) 247 1 (qj ((C 3 + 1 : Nat) : Int))))) := by
  have h := m167t (d := d) (g := g) (I := qup I 245 0 (qj 0)) (w := 2) (r := 1) (n := C 3) hd (by rw [qup_at, if_pos rfl]) (by omega) (by omega) (by omega) (by rw [qup_ne (by omega)]; exact H.2.2.2.2.2.2.2.2.2.2.2.1)
  rw [qup_qup] at h
  exact h
/-- the limps stand as in a state -/
theorem qMl_of {U : qSt} (h : qMl F I (aTold F)) (e : ∀ k, k < F.1 0 0 → U.1 1 k = F.1 1 k) : qMl F I U := fun k hk => by rw [e k hk]; exact h k hk
theorem r221 (hd : 4 ≤ d) (X : qAbs F L B S S0 Im C T) (H : qMdl I F L B S S0 Im C T P) {w : Int} (hw : -2147483648 ≤ w ∧ w < 2147483648) : qMQ d 221 [.ref 245, .int (qj w)] g I 1 C (rTold F B S w) := by
  have W := X.1
  have WL := X.2.1
  have WS := X.2.2.2.1.1
  have hy : S.1 0 0 ≤ 1000 := Nat.le_trans X.2.2.2.1.2.1 (by decide)
  have h9 := W.1
  have h8 := W.2.1
  have w3 := W.2.2.1
  have f1 := H.1.1
  have f2 := H.1.2.1
  have f3 := H.1.2.2.1
  have M0 := qMdl_q H X (qFp_0 (v := qj 0))
  have MF := M0.1
  have R := M0.2.2.2.2.1
  have hr : qisR 682 := by unfold qisR; omega
  have z0 : qup I 245 0 (qj 0) 245 0 = qj 0 := by rw [qup_at, if_pos rfl]
  unfold rTold
  have s1 := R.2.2.2.2.2.2
  have bl := M0.2.2.2.1.1
  by_cases h : 0 ≤ w ∧ w ≤ 6
  · rw [if_pos h]
    obtain ⟨m, rfl⟩ : ∃ m : Nat, w = m := ⟨w.toNat, by omega⟩
    have hv : m = 0 ∨ m = 1 ∨ m = 2 ∨ m = 3 ∨ m = 4 ∨ m = 5 ∨ m = 6 := by omega
    refine qMQ_inl _ (fun Q hQ => b221_0 (by omega) ?_) qFe_rf
    simp (disch := omega) only [qz0, qj_lt, qj_le, qj_eq, qtk, qfk, qbtt, qbft, qbtf, qbff, qIx_z, qj_nat, true_and, and_true, true_implies, false_implies, not_true_eq_false, not_false_eq_true, Bool.true_eq_false, Bool.false_eq_true, qj_sub, qinB_t, qinB_f, q2_e, qj_add, qj_s1, qj_c1, qj_c2, qj_c9, qj_c17, qj_c97]
    refine ⟨_, _, bd0 (by omega) _ _, ?_⟩
    rcases hv with rfl | rfl | rfl | rfl | rfl | rfl | rfl
    · simp (disch := omega) only [qz0, qj_lt, qj_le, qj_eq, qtk, qfk, qbtt, qbft, qbtf, qbff, qIx_z, qj_nat, true_and, and_true, true_implies, false_implies, not_true_eq_false, not_false_eq_true, Bool.true_eq_false, Bool.false_eq_true, qj_sub, qinB_t, qinB_f, q2_e, qj_add, qj_s1, qj_c1, qj_c2, qj_c9, qj_c17, qj_c97, MF.1]; exact hQ
    · simp (disch := omega) only [qz0, qj_lt, qj_le, qj_eq, qtk, qfk, qbtt, qbft, qbtf, qbff, qIx_z, qj_nat, true_and, and_true, true_implies, false_implies, not_true_eq_false, not_false_eq_true, Bool.true_eq_false, Bool.false_eq_true, qj_sub, qinB_t, qinB_f, q2_e, qj_add, qj_s1, qj_c1, qj_c2, qj_c9, qj_c17, qj_c97, MF.2.1]; exact hQ
    · simp (disch := omega) only [qz0, qj_lt, qj_le, qj_eq, qtk, qfk, qbtt, qbft, qbtf, qbff, qIx_z, qj_nat, true_and, and_true, true_implies, false_implies, not_true_eq_false, not_false_eq_true, Bool.true_eq_false, Bool.false_eq_true, qj_sub, qinB_t, qinB_f, q2_e, qj_add, qj_s1, qj_c1, qj_c2, qj_c9, qj_c17, qj_c97, MF.2.2.1]; exact hQ
    · simp (disch := omega) only [qz0, qj_lt, qj_le, qj_eq, qtk, qfk, qbtt, qbft, qbtf, qbff, qIx_z, qj_nat, true_and, and_true, true_implies, false_implies, not_true_eq_false, not_false_eq_true, Bool.true_eq_false, Bool.false_eq_true, qj_sub, qinB_t, qinB_f, q2_e, qj_add, qj_s1, qj_c1, qj_c2, qj_c9, qj_c17, qj_c97, s1]; exact hQ
    · simp (disch := omega) only [qz0, qj_lt, qj_le, qj_eq, qtk, qfk, qbtt, qbft, qbtf, qbff, qIx_z, qj_nat, true_and, and_true, true_implies, false_implies, not_true_eq_false, not_false_eq_true, Bool.true_eq_false, Bool.false_eq_true, qj_sub, qinB_t, qinB_f, q2_e, qj_add, qj_s1, qj_c1, qj_c2, qj_c9, qj_c17, qj_c97]
      refine ⟨_, _, m219' (by omega) hr MF W R hy, _, _, m172 (by omega) _, ?_⟩
      rw [qones (by omega)]; exact hQ
    · simp (disch := omega) only [qz0, qj_lt, qj_le, qj_eq, qtk, qfk, qbtt, qbft, qbtf, qbff, qIx_z, qj_nat, true_and, and_true, true_implies, false_implies, not_true_eq_false, not_false_eq_true, Bool.true_eq_false, Bool.false_eq_true, qj_sub, qinB_t, qinB_f, q2_e, qj_add, qj_s1, qj_c1, qj_c2, qj_c9, qj_c17, qj_c97]
      exact ⟨_, _, m220 (by omega) hr MF W R, hQ⟩
    · simp (disch := omega) only [qz0, qj_lt, qj_le, qj_eq, qtk, qfk, qbtt, qbft, qbtf, qbff, qIx_z, qj_nat, true_and, and_true, true_implies, false_implies, not_true_eq_false, not_false_eq_true, Bool.true_eq_false, Bool.false_eq_true, qj_sub, qinB_t, qinB_f, q2_e, qj_add, qj_s1, qj_c1, qj_c2, qj_c9, qj_c17, qj_c97, bl]; exact hQ
  · rw [if_neg h]
    refine qMQ_1 fun Q hQ => b221_0 (by omega) ?_
    simp (disch := omega) only [qz0, qj_lt, qj_le, qj_eq, qtk, qfk, qbtt, qbft, qbtf, qbff, qIx_z, qj_nat, true_and, and_true, true_implies, false_implies, not_true_eq_false, not_false_eq_true, Bool.true_eq_false, Bool.false_eq_true, qj_sub, qinB_t, qinB_f, q2_e, qj_add, qj_s1, qj_c1, qj_c2, qj_c9, qj_c17, qj_c97]
    refine ⟨_, _, bd11 (by omega) H, ?_⟩
    simp (disch := omega) only [qz0, qj_lt, qj_le, qj_eq, qtk, qfk, qbtt, qbft, qbtf, qbff, qIx_z, qj_nat, true_and, and_true, true_implies, false_implies, not_true_eq_false, not_false_eq_true, Bool.true_eq_false, Bool.false_eq_true, qj_sub, qinB_t, qinB_f, q2_e, qj_add, qj_s1, qj_c1, qj_c2, qj_c9, qj_c17, qj_c97]
    exact hQ
theorem r223 (hd : 3 ≤ d) (X : qAbs F L B S S0 Im C T) (H : qMdl I F L B S S0 Im C T P) {z w : Int} (hz : -2147483648 ≤ z ∧ z < 2147483648) (hw : -2147483648 ≤ w ∧ w < 2147483648) : qMQ d 223 [.ref 245, .int (qj z), .int (qj w)] g I 2 C (rHand F S z w) := by
  have W := X.1
  have WL := X.2.1
  have WS := X.2.2.2.1.1
  have hy : S.1 0 0 ≤ 1000 := Nat.le_trans X.2.2.2.1.2.1 (by decide)
  have h9 := W.1
  have h8 := W.2.1
  have w3 := W.2.2.1
  have f1 := H.1.1
  have f2 := H.1.2.1
  have f3 := H.1.2.2.1
  have M0 := qMdl_q H X (qFp_0 (v := qj 0))
  have MF := M0.1
  have R := M0.2.2.2.2.1
  have hr : qisR 682 := by unfold qisR; omega
  have z0 : qup I 245 0 (qj 0) 245 0 = qj 0 := by rw [qup_at, if_pos rfl]
  unfold rHand
  by_cases h : 0 ≤ z ∧ z < F.1 0 0
  · rw [if_pos h]
    obtain ⟨n, rfl⟩ : ∃ n : Nat, z = n := ⟨z.toNat, by omega⟩
    by_cases h2 : 0 ≤ w ∧ w ≤ 5
    · rw [if_pos h2]
      obtain ⟨m, rfl⟩ : ∃ m : Nat, w = m := ⟨w.toNat, by omega⟩
      have l1 := M0.2.1 n (by omega)
      have e5 := MF.2.2.2.2.1 n (by omega)
      have e6 := MF.2.2.2.2.2.1 n (by omega)
      have s0 := R.1
      have s1 := R.2.2.2.2.2.2
      have hbn := (W.2.2.2.2.1 n (by omega)).2.1
      have hv : m = 0 ∨ m = 1 ∨ m = 2 ∨ m = 3 ∨ m = 4 ∨ m = 5 := by omega
      refine qMQ_inl _ (fun Q hQ => b223_0 (by omega) ?_) qFe_rf
      simp (disch := omega) only [qz0, qj_lt, qj_le, qj_eq, qtk, qfk, qbtt, qbft, qbtf, qbff, qIx_z, qj_nat, true_and, and_true, true_implies, false_implies, not_true_eq_false, not_false_eq_true, Bool.true_eq_false, Bool.false_eq_true, qj_sub, qinB_t, qinB_f, q2_e, qj_add, qj_s1, qj_c1, qj_c2, qj_c9, qj_c17, qj_c97, f1]
      refine ⟨_, _, bd0 (by omega) _ _, ?_⟩
      simp (disch := omega) only [qz0, qj_lt, qj_le, qj_eq, qtk, qfk, qbtt, qbft, qbtf, qbff, qIx_z, qj_nat, true_and, and_true, true_implies, false_implies, not_true_eq_false, not_false_eq_true, Bool.true_eq_false, Bool.false_eq_true, qj_sub, qinB_t, qinB_f, q2_e, qj_add, qj_s1, qj_c1, qj_c2, qj_c9, qj_c17, qj_c97]
      refine ⟨_, _, bd0 (by omega) _ _, ?_⟩
      rcases hv with rfl | rfl | rfl | rfl | rfl | rfl
      · simp (disch := omega) only [qz0, qj_lt, qj_le, qj_eq, qtk, qfk, qbtt, qbft, qbtf, qbff, qIx_z, qj_nat, true_and, and_true, true_implies, false_implies, not_true_eq_false, not_false_eq_true, Bool.true_eq_false, Bool.false_eq_true, qj_sub, qinB_t, qinB_f, q2_e, qj_add, qj_s1, qj_c1, qj_c2, qj_c9, qj_c17, qj_c97, l1]; exact hQ
      · simp (disch := omega) only [qz0, qj_lt, qj_le, qj_eq, qtk, qfk, qbtt, qbft, qbtf, qbff, qIx_z, qj_nat, true_and, and_true, true_implies, false_implies, not_true_eq_false, not_false_eq_true, Bool.true_eq_false, Bool.false_eq_true, qj_sub, qinB_t, qinB_f, q2_e, qj_add, qj_s1, qj_c1, qj_c2, qj_c9, qj_c17, qj_c97, e5]; exact hQ
      · simp (disch := omega) only [qz0, qj_lt, qj_le, qj_eq, qtk, qfk, qbtt, qbft, qbtf, qbff, qIx_z, qj_nat, true_and, and_true, true_implies, false_implies, not_true_eq_false, not_false_eq_true, Bool.true_eq_false, Bool.false_eq_true, qj_sub, qinB_t, qinB_f, q2_e, qj_add, qj_s1, qj_c1, qj_c2, qj_c9, qj_c17, qj_c97, e6]; exact hQ
      · have hQ' : Q (.inl (some (.int (qj (if S.2.2 n then 2 else if F.1 2 n ≤ S.1 0 0 then 1 else 0))), qw g (qup I 245 0 (qj 0)))) := hQ
        have k218 := m218 (d := d - 1) (g := g) (by omega) hr MF W R hy (h := n) (by omega)
        cases hdd : S.2.2 n with
        | true =>
          rw [hdd, if_pos rfl] at hQ'
          simp (disch := omega) only [qz0, qj_lt, qj_le, qj_eq, qtk, qfk, qbtt, qbft, qbtf, qbff, qIx_z, qj_nat, true_and, and_true, true_implies, false_implies, not_true_eq_false, not_false_eq_true, Bool.true_eq_false, Bool.false_eq_true, qj_sub, qinB_t, qinB_f, q2_e, qj_add, qj_s1, qj_c1, qj_c2, qj_c9, qj_c17, qj_c97, s0, qhas_bm, hdd]
          exact hQ'
        | false =>
          rw [hdd, if_neg Bool.false_ne_true] at hQ'
          simp (disch := omega) only [qz0, qj_lt, qj_le, qj_eq, qtk, qfk, qbtt, qbft, qbtf, qbff, qIx_z, qj_nat, true_and, and_true, true_implies, false_implies, not_true_eq_false, not_false_eq_true, Bool.true_eq_false, Bool.false_eq_true, qj_sub, qinB_t, qinB_f, q2_e, qj_add, qj_s1, qj_c1, qj_c2, qj_c9, qj_c17, qj_c97, s0, qhas_bm, hdd]
          refine ⟨_, _, k218, ?_⟩
          by_cases hb : F.1 2 n ≤ S.1 0 0
          · rw [if_pos hb] at hQ'
            rw [show aAl F S n = true by unfold aAl; rw [hdd, decide_eq_true hb]; rfl]
            simp (disch := omega) only [qz0, qj_lt, qj_le, qj_eq, qtk, qfk, qbtt, qbft, qbtf, qbff, qIx_z, qj_nat, true_and, and_true, true_implies, false_implies, not_true_eq_false, not_false_eq_true, Bool.true_eq_false, Bool.false_eq_true, qj_sub, qinB_t, qinB_f, q2_e, qj_add, qj_s1, qj_c1, qj_c2, qj_c9, qj_c17, qj_c97]
            exact hQ'
          · rw [if_neg hb] at hQ'
            rw [show aAl F S n = false by unfold aAl; rw [decide_eq_false hb]; rfl]
            simp (disch := omega) only [qz0, qj_lt, qj_le, qj_eq, qtk, qfk, qbtt, qbft, qbtf, qbff, qIx_z, qj_nat, true_and, and_true, true_implies, false_implies, not_true_eq_false, not_false_eq_true, Bool.true_eq_false, Bool.false_eq_true, qj_sub, qinB_t, qinB_f, q2_e, qj_add, qj_s1, qj_c1, qj_c2, qj_c9, qj_c17, qj_c97]
            exact hQ'
      · simp (disch := omega) only [qz0, qj_lt, qj_le, qj_eq, qtk, qfk, qbtt, qbft, qbtf, qbff, qIx_z, qj_nat, true_and, and_true, true_implies, false_implies, not_true_eq_false, not_false_eq_true, Bool.true_eq_false, Bool.false_eq_true, qj_sub, qinB_t, qinB_f, q2_e, qj_add, qj_s1, qj_c1, qj_c2, qj_c9, qj_c17, qj_c97]
        exact ⟨_, _, m222 (by omega) hr MF W R WS (by omega), hQ⟩
      · simp (disch := omega) only [qz0, qj_lt, qj_le, qj_eq, qtk, qfk, qbtt, qbft, qbtf, qbff, qIx_z, qj_nat, true_and, and_true, true_implies, false_implies, not_true_eq_false, not_false_eq_true, Bool.true_eq_false, Bool.false_eq_true, qj_sub, qinB_t, qinB_f, q2_e, qj_add, qj_s1, qj_c1, qj_c2, qj_c9, qj_c17, qj_c97, s1, e5, qmax_z]
        exact hQ
    · rw [if_neg h2]
      refine qMQ_2 fun Q hQ => b223_0 (by omega) ?_
      simp (disch := omega) only [qz0, qj_lt, qj_le, qj_eq, qtk, qfk, qbtt, qbft, qbtf, qbff, qIx_z, qj_nat, true_and, and_true, true_implies, false_implies, not_true_eq_false, not_false_eq_true, Bool.true_eq_false, Bool.false_eq_true, qj_sub, qinB_t, qinB_f, q2_e, qj_add, qj_s1, qj_c1, qj_c2, qj_c9, qj_c17, qj_c97, f1]
      refine ⟨_, _, bd0 (by omega) _ _, ?_⟩
      simp (disch := omega) only [qz0, qj_lt, qj_le, qj_eq, qtk, qfk, qbtt, qbft, qbtf, qbff, qIx_z, qj_nat, true_and, and_true, true_implies, false_implies, not_true_eq_false, not_false_eq_true, Bool.true_eq_false, Bool.false_eq_true, qj_sub, qinB_t, qinB_f, q2_e, qj_add, qj_s1, qj_c1, qj_c2, qj_c9, qj_c17, qj_c97]
      refine ⟨_, _, bd21 (by omega) H, ?_⟩
      simp (disch := omega) only [qz0, qj_lt, qj_le, qj_eq, qtk, qfk, qbtt, qbft, qbtf, qbff, qIx_z, qj_nat, true_and, and_true, true_implies, false_implies, not_true_eq_false, not_false_eq_true, Bool.true_eq_false, Bool.false_eq_true, qj_sub, qinB_t, qinB_f, q2_e, qj_add, qj_s1, qj_c1, qj_c2, qj_c9, qj_c17, qj_c97]
      exact hQ
  · rw [if_neg h]
    refine qMQ_0 fun Q hQ => b223_0 (by omega) ?_
    simp (disch := omega) only [qz0, qj_lt, qj_le, qj_eq, qtk, qfk, qbtt, qbft, qbtf, qbff, qIx_z, qj_nat, true_and, and_true, true_implies, false_implies, not_true_eq_false, not_false_eq_true, Bool.true_eq_false, Bool.false_eq_true, qj_sub, qinB_t, qinB_f, q2_e, qj_add, qj_s1, qj_c1, qj_c2, qj_c9, qj_c17, qj_c97, f1]
    refine ⟨_, _, bd10 (by omega) H, ?_⟩
    simp (disch := omega) only [qz0, qj_lt, qj_le, qj_eq, qtk, qfk, qbtt, qbft, qbtf, qbff, qIx_z, qj_nat, true_and, and_true, true_implies, false_implies, not_true_eq_false, not_false_eq_true, Bool.true_eq_false, Bool.false_eq_true, qj_sub, qinB_t, qinB_f, q2_e, qj_add, qj_s1, qj_c1, qj_c2, qj_c9, qj_c17, qj_c97]
    exact hQ
theorem r225 (hd : 3 ≤ d) (X : qAbs F L B S S0 Im C T) (H : qMdl I F L B S S0 Im C T P) {z w : Int} (hz : -2147483648 ≤ z ∧ z < 2147483648) (hw : -2147483648 ≤ w ∧ w < 2147483648) : qMQ d 225 [.ref 245, .int (qj z), .int (qj w)] g I 2 C (rPup F S z w) := by
  have W := X.1
  have WL := X.2.1
  have WS := X.2.2.2.1.1
  have hy : S.1 0 0 ≤ 1000 := Nat.le_trans X.2.2.2.1.2.1 (by decide)
  have h9 := W.1
  have h8 := W.2.1
  have w3 := W.2.2.1
  have f1 := H.1.1
  have f2 := H.1.2.1
  have f3 := H.1.2.2.1
  have M0 := qMdl_q H X (qFp_0 (v := qj 0))
  have MF := M0.1
  have R := M0.2.2.2.2.1
  have hr : qisR 682 := by unfold qisR; omega
  have z0 : qup I 245 0 (qj 0) 245 0 = qj 0 := by rw [qup_at, if_pos rfl]
  unfold rPup
  by_cases h : 0 ≤ z ∧ z < F.1 0 1
  · rw [if_pos h]
    obtain ⟨n, rfl⟩ : ∃ n : Nat, z = n := ⟨z.toNat, by omega⟩
    by_cases h2 : 0 ≤ w ∧ w ≤ 5
    · rw [if_pos h2]
      obtain ⟨m, rfl⟩ : ∃ m : Nat, w = m := ⟨w.toNat, by omega⟩
      have e7 := MF.2.2.2.2.2.2.1 n (by omega)
      have e8 := MF.2.2.2.2.2.2.2.1 n (by omega)
      have s2 := R.2.1 n (by omega)
      have s3 := R.2.2.1 n (by omega)
      have s4 := R.2.2.2.1 n (by omega)
      have hv : m = 0 ∨ m = 1 ∨ m = 2 ∨ m = 3 ∨ m = 4 ∨ m = 5 := by omega
      refine qMQ_inl _ (fun Q hQ => b225_0 (by omega) ?_) qFe_rf
      simp (disch := omega) only [qz0, qj_lt, qj_le, qj_eq, qtk, qfk, qbtt, qbft, qbtf, qbff, qIx_z, qj_nat, true_and, and_true, true_implies, false_implies, not_true_eq_false, not_false_eq_true, Bool.true_eq_false, Bool.false_eq_true, qj_sub, qinB_t, qinB_f, q2_e, qj_add, qj_s1, qj_c1, qj_c2, qj_c9, qj_c17, qj_c97, f2]
      refine ⟨_, _, bd0 (by omega) _ _, ?_⟩
      simp (disch := omega) only [qz0, qj_lt, qj_le, qj_eq, qtk, qfk, qbtt, qbft, qbtf, qbff, qIx_z, qj_nat, true_and, and_true, true_implies, false_implies, not_true_eq_false, not_false_eq_true, Bool.true_eq_false, Bool.false_eq_true, qj_sub, qinB_t, qinB_f, q2_e, qj_add, qj_s1, qj_c1, qj_c2, qj_c9, qj_c17, qj_c97]
      refine ⟨_, _, bd0 (by omega) _ _, ?_⟩
      rcases hv with rfl | rfl | rfl | rfl | rfl | rfl
      · simp (disch := omega) only [qz0, qj_lt, qj_le, qj_eq, qtk, qfk, qbtt, qbft, qbtf, qbff, qIx_z, qj_nat, true_and, and_true, true_implies, false_implies, not_true_eq_false, not_false_eq_true, Bool.true_eq_false, Bool.false_eq_true, qj_sub, qinB_t, qinB_f, q2_e, qj_add, qj_s1, qj_c1, qj_c2, qj_c9, qj_c17, qj_c97, e7]; exact hQ
      · simp (disch := omega) only [qz0, qj_lt, qj_le, qj_eq, qtk, qfk, qbtt, qbft, qbtf, qbff, qIx_z, qj_nat, true_and, and_true, true_implies, false_implies, not_true_eq_false, not_false_eq_true, Bool.true_eq_false, Bool.false_eq_true, qj_sub, qinB_t, qinB_f, q2_e, qj_add, qj_s1, qj_c1, qj_c2, qj_c9, qj_c17, qj_c97, e8]; exact hQ
      · simp (disch := omega) only [qz0, qj_lt, qj_le, qj_eq, qtk, qfk, qbtt, qbft, qbtf, qbff, qIx_z, qj_nat, true_and, and_true, true_implies, false_implies, not_true_eq_false, not_false_eq_true, Bool.true_eq_false, Bool.false_eq_true, qj_sub, qinB_t, qinB_f, q2_e, qj_add, qj_s1, qj_c1, qj_c2, qj_c9, qj_c17, qj_c97, s3]; exact hQ
      · simp (disch := omega) only [qz0, qj_lt, qj_le, qj_eq, qtk, qfk, qbtt, qbft, qbtf, qbff, qIx_z, qj_nat, true_and, and_true, true_implies, false_implies, not_true_eq_false, not_false_eq_true, Bool.true_eq_false, Bool.false_eq_true, qj_sub, qinB_t, qinB_f, q2_e, qj_add, qj_s1, qj_c1, qj_c2, qj_c9, qj_c17, qj_c97, s2]; exact hQ
      · simp (disch := omega) only [qz0, qj_lt, qj_le, qj_eq, qtk, qfk, qbtt, qbft, qbtf, qbff, qIx_z, qj_nat, true_and, and_true, true_implies, false_implies, not_true_eq_false, not_false_eq_true, Bool.true_eq_false, Bool.false_eq_true, qj_sub, qinB_t, qinB_f, q2_e, qj_add, qj_s1, qj_c1, qj_c2, qj_c9, qj_c17, qj_c97]
        exact ⟨_, _, m224 (by omega) hr MF W R (by omega), hQ⟩
      · simp (disch := omega) only [qz0, qj_lt, qj_le, qj_eq, qtk, qfk, qbtt, qbft, qbtf, qbff, qIx_z, qj_nat, true_and, and_true, true_implies, false_implies, not_true_eq_false, not_false_eq_true, Bool.true_eq_false, Bool.false_eq_true, qj_sub, qinB_t, qinB_f, q2_e, qj_add, qj_s1, qj_c1, qj_c2, qj_c9, qj_c17, qj_c97, s4]; exact hQ
    · rw [if_neg h2]
      refine qMQ_2 fun Q hQ => b225_0 (by omega) ?_
      simp (disch := omega) only [qz0, qj_lt, qj_le, qj_eq, qtk, qfk, qbtt, qbft, qbtf, qbff, qIx_z, qj_nat, true_and, and_true, true_implies, false_implies, not_true_eq_false, not_false_eq_true, Bool.true_eq_false, Bool.false_eq_true, qj_sub, qinB_t, qinB_f, q2_e, qj_add, qj_s1, qj_c1, qj_c2, qj_c9, qj_c17, qj_c97, f2]
      refine ⟨_, _, bd0 (by omega) _ _, ?_⟩
      simp (disch := omega) only [qz0, qj_lt, qj_le, qj_eq, qtk, qfk, qbtt, qbft, qbtf, qbff, qIx_z, qj_nat, true_and, and_true, true_implies, false_implies, not_true_eq_false, not_false_eq_true, Bool.true_eq_false, Bool.false_eq_true, qj_sub, qinB_t, qinB_f, q2_e, qj_add, qj_s1, qj_c1, qj_c2, qj_c9, qj_c17, qj_c97]
      refine ⟨_, _, bd21 (by omega) H, ?_⟩
      simp (disch := omega) only [qz0, qj_lt, qj_le, qj_eq, qtk, qfk, qbtt, qbft, qbtf, qbff, qIx_z, qj_nat, true_and, and_true, true_implies, false_implies, not_true_eq_false, not_false_eq_true, Bool.true_eq_false, Bool.false_eq_true, qj_sub, qinB_t, qinB_f, q2_e, qj_add, qj_s1, qj_c1, qj_c2, qj_c9, qj_c17, qj_c97]
      exact hQ
  · rw [if_neg h]
    refine qMQ_0 fun Q hQ => b225_0 (by omega) ?_
    simp (disch := omega) only [qz0, qj_lt, qj_le, qj_eq, qtk, qfk, qbtt, qbft, qbtf, qbff, qIx_z, qj_nat, true_and, and_true, true_implies, false_implies, not_true_eq_false, not_false_eq_true, Bool.true_eq_false, Bool.false_eq_true, qj_sub, qinB_t, qinB_f, q2_e, qj_add, qj_s1, qj_c1, qj_c2, qj_c9, qj_c17, qj_c97, f2]
    refine ⟨_, _, bd10 (by omega) H, ?_⟩
    simp (disch := omega) only [qz0, qj_lt, qj_le, qj_eq, qtk, qfk, qbtt, qbft, qbtf, qbff, qIx_z, qj_nat, true_and, and_true, true_implies, false_implies, not_true_eq_false, not_false_eq_true, Bool.true_eq_false, Bool.false_eq_true, qj_sub, qinB_t, qinB_f, q2_e, qj_add, qj_s1, qj_c1, qj_c2, qj_c9, qj_c17, qj_c97]
    exact hQ
theorem m227 (hd : 1 ≤ d) (MF : qMF F I) (W : qWF F) {a : Nat} (ha : a < F.1 0 2) : qRun d 227 [.ref 245, .int (qj a)] (qw g I) (.inl (some (.int (qj (bm 8 (aBt F a) : Nat))), qw g I)) := by
  refine qRun_of fun Q hQ => b227_0 (by omega) ?_
  have w3 := W.2.2.1
  have h8 := W.2.1
  have hwa := W.2.2.2.2.2.2.1 a ha
  have e11 := MF.2.2.2.2.2.2.2.2.2.2.1 a ha
  have L : ∀ i, i ≤ F.1 8 a → qwq d 227 4 [(0, .ref 245), (1, .int (qj a)), (2, .int (qj (bm 8 (fun p => anb i (fun j => F.1 (10 + a) j == p)) : Nat))), (3, .int (qj i))] [] (qw g I) Q := by
    refine upto _ (b227_4 (by omega) ?_) (fun i hi ih => b227_4 (by omega) ?_)
    · simp (disch := omega) only [qz0, qj_lt, qj_le, qj_eq, qtk, qfk, qbtt, qbft, qbtf, qbff, qIx_z, qj_nat, true_and, and_true, true_implies, false_implies, not_true_eq_false, not_false_eq_true, Bool.true_eq_false, Bool.false_eq_true, qj_sub, qinB_t, qinB_f, q2_e, qj_add, qj_s1, qj_c1, qj_c2, qj_c9, qj_c17, qj_c97, e11]
      exact hQ
    · have e12 := MF.2.2.2.2.2.2.2.2.2.2.2.1 a i ha hi
      have hp := hwa.2.2.2.1 i hi
      have e : bm 8 (fun q => if q = F.1 (10 + a) i then true else anb i (fun j => F.1 (10 + a) j == q)) = bm 8 (fun p => anb (i + 1) (fun j => F.1 (10 + a) j == p)) := bm_ext (fun k _ => by
        show (if k = F.1 (10 + a) i then true else anb i (fun j => F.1 (10 + a) j == k)) = (anb i (fun j => F.1 (10 + a) j == k) || F.1 (10 + a) i == k)
        by_cases ek : k = F.1 (10 + a) i
        · rw [if_pos ek, ek]; simp
        · rw [if_neg ek]
          have : (F.1 (10 + a) i == k) = false := by rw [beq_eq_false_iff_ne]; exact fun q => ek q.symm
          rw [this, Bool.or_false])
      simp (disch := omega) only [qz0, qj_lt, qj_le, qj_eq, qtk, qfk, qbtt, qbft, qbtf, qbff, qIx_z, qj_nat, true_and, and_true, true_implies, false_implies, not_true_eq_false, not_false_eq_true, Bool.true_eq_false, Bool.false_eq_true, qj_sub, qinB_t, qinB_f, q2_e, qj_add, qj_s1, qj_c1, qj_c2, qj_c9, qj_c17, qj_c97, e11, e12, bm_set, e]
      exact ih
  have k := L 0 (Nat.zero_le _)
  have e0 : bm 8 (fun p => anb 0 (fun j => F.1 (10 + a) j == p)) = 0 := bm_zero.mpr (fun _ _ => rfl)
  rw [e0] at k
  exact k
theorem r226 (hd : 3 ≤ d) (X : qAbs F L B S S0 Im C T) (H : qMdl I F L B S S0 Im C T P) {z w : Int} (hz : -2147483648 ≤ z ∧ z < 2147483648) (hw : -2147483648 ≤ w ∧ w < 2147483648) : qMQ d 226 [.ref 245, .int (qj z), .int (qj w)] g I 2 C (rAct F z w) := by
  have W := X.1
  have WL := X.2.1
  have WS := X.2.2.2.1.1
  have hy : S.1 0 0 ≤ 1000 := Nat.le_trans X.2.2.2.1.2.1 (by decide)
  have h9 := W.1
  have h8 := W.2.1
  have w3 := W.2.2.1
  have f1 := H.1.1
  have f2 := H.1.2.1
  have f3 := H.1.2.2.1
  have M0 := qMdl_q H X (qFp_0 (v := qj 0))
  have MF := M0.1
  have R := M0.2.2.2.2.1
  have hr : qisR 682 := by unfold qisR; omega
  have z0 : qup I 245 0 (qj 0) 245 0 = qj 0 := by rw [qup_at, if_pos rfl]
  unfold rAct
  by_cases h : 0 ≤ z ∧ z < F.1 0 2
  · rw [if_pos h]
    obtain ⟨n, rfl⟩ : ∃ n : Nat, z = n := ⟨z.toNat, by omega⟩
    rw [Int.toNat_natCast]
    by_cases h2 : 0 ≤ w ∧ w ≤ 2
    · rw [if_pos h2]
      have e10 := MF.2.2.2.2.2.2.2.2.2.1 n (by omega)
      have e11 := MF.2.2.2.2.2.2.2.2.2.2.1 n (by omega)
      have hwa := W.2.2.2.2.2.2.1 n (by omega)
      refine qMQ_inl _ (fun Q hQ => b226_0 (by omega) ?_) qFe_rf
      simp (disch := omega) only [qz0, qj_lt, qj_le, qj_eq, qtk, qfk, qbtt, qbft, qbtf, qbff, qIx_z, qj_nat, true_and, and_true, true_implies, false_implies, not_true_eq_false, not_false_eq_true, Bool.true_eq_false, Bool.false_eq_true, qj_sub, qinB_t, qinB_f, q2_e, qj_add, qj_s1, qj_c1, qj_c2, qj_c9, qj_c17, qj_c97, f3]
      refine ⟨_, _, bd0 (by omega) _ _, ?_⟩
      simp (disch := omega) only [qz0, qj_lt, qj_le, qj_eq, qtk, qfk, qbtt, qbft, qbtf, qbff, qIx_z, qj_nat, true_and, and_true, true_implies, false_implies, not_true_eq_false, not_false_eq_true, Bool.true_eq_false, Bool.false_eq_true, qj_sub, qinB_t, qinB_f, q2_e, qj_add, qj_s1, qj_c1, qj_c2, qj_c9, qj_c17, qj_c97]
      refine ⟨_, _, bd0 (by omega) _ _, ?_⟩
      simp (disch := omega) only [qz0, qj_lt, qj_le, qj_eq, qtk, qfk, qbtt, qbft, qbtf, qbff, qIx_z, qj_nat, true_and, and_true, true_implies, false_implies, not_true_eq_false, not_false_eq_true, Bool.true_eq_false, Bool.false_eq_true, qj_sub, qinB_t, qinB_f, q2_e, qj_add, qj_s1, qj_c1, qj_c2, qj_c9, qj_c17, qj_c97]
      have key : ∀ i, i ≤ F.1 8 n → qwq d 226 57 [(0, .ref 245), (1, .int (qj n)), (2, .int (qj w)), (3, .int (qj (sm i (fun i => F.1 5 (F.1 (10 + n) i)) : Nat))), (4, .int (qj i))] [] (qw g (qup I 245 0 (qj 0))) Q := by
        refine upto _ (b226_57 (by omega) ?_) (fun i hi ih => b226_57 (by omega) ?_)
        · have hv : w = 0 ∨ w = 1 ∨ w = 2 := by omega
          rcases hv with rfl | rfl | rfl
          · simp (disch := omega) only [qz0, qj_lt, qj_le, qj_eq, qtk, qfk, qbtt, qbft, qbtf, qbff, qIx_z, qj_nat, true_and, and_true, true_implies, false_implies, not_true_eq_false, not_false_eq_true, Bool.true_eq_false, Bool.false_eq_true, qj_sub, qinB_t, qinB_f, q2_e, qj_add, qj_s1, qj_c1, qj_c2, qj_c9, qj_c17, qj_c97, e11, e10]
            exact hQ
          · simp (disch := omega) only [qz0, qj_lt, qj_le, qj_eq, qtk, qfk, qbtt, qbft, qbtf, qbff, qIx_z, qj_nat, true_and, and_true, true_implies, false_implies, not_true_eq_false, not_false_eq_true, Bool.true_eq_false, Bool.false_eq_true, qj_sub, qinB_t, qinB_f, q2_e, qj_add, qj_s1, qj_c1, qj_c2, qj_c9, qj_c17, qj_c97, e11, e10]
            exact ⟨_, _, m227 (by omega) MF W (by omega), hQ⟩
          · simp (disch := omega) only [qz0, qj_lt, qj_le, qj_eq, qtk, qfk, qbtt, qbft, qbtf, qbff, qIx_z, qj_nat, true_and, and_true, true_implies, false_implies, not_true_eq_false, not_false_eq_true, Bool.true_eq_false, Bool.false_eq_true, qj_sub, qinB_t, qinB_f, q2_e, qj_add, qj_s1, qj_c1, qj_c2, qj_c9, qj_c17, qj_c97, e11, e10]
            exact hQ
        · have e12 := MF.2.2.2.2.2.2.2.2.2.2.2.1 n i (by omega) hi
          have hp := hwa.2.2.2.1 i hi
          have e8 := MF.2.2.2.2.2.2.2.1 (F.1 (10 + n) i) hp
          rw [sm] at ih
          simp (disch := omega) only [qz0, qj_lt, qj_le, qj_eq, qtk, qfk, qbtt, qbft, qbtf, qbff, qIx_z, qj_nat, true_and, and_true, true_implies, false_implies, not_true_eq_false, not_false_eq_true, Bool.true_eq_false, Bool.false_eq_true, qj_sub, qinB_t, qinB_f, q2_e, qj_add, qj_s1, qj_c1, qj_c2, qj_c9, qj_c17, qj_c97, e11, e12, e8]
          exact ih
      exact key 0 (Nat.zero_le _)
    · rw [if_neg h2]
      refine qMQ_2 fun Q hQ => b226_0 (by omega) ?_
      simp (disch := omega) only [qz0, qj_lt, qj_le, qj_eq, qtk, qfk, qbtt, qbft, qbtf, qbff, qIx_z, qj_nat, true_and, and_true, true_implies, false_implies, not_true_eq_false, not_false_eq_true, Bool.true_eq_false, Bool.false_eq_true, qj_sub, qinB_t, qinB_f, q2_e, qj_add, qj_s1, qj_c1, qj_c2, qj_c9, qj_c17, qj_c97, f3]
      refine ⟨_, _, bd0 (by omega) _ _, ?_⟩
      simp (disch := omega) only [qz0, qj_lt, qj_le, qj_eq, qtk, qfk, qbtt, qbft, qbtf, qbff, qIx_z, qj_nat, true_and, and_true, true_implies, false_implies, not_true_eq_false, not_false_eq_true, Bool.true_eq_false, Bool.false_eq_true, qj_sub, qinB_t, qinB_f, q2_e, qj_add, qj_s1, qj_c1, qj_c2, qj_c9, qj_c17, qj_c97]
      refine ⟨_, _, bd21 (by omega) H, ?_⟩
      simp (disch := omega) only [qz0, qj_lt, qj_le, qj_eq, qtk, qfk, qbtt, qbft, qbtf, qbff, qIx_z, qj_nat, true_and, and_true, true_implies, false_implies, not_true_eq_false, not_false_eq_true, Bool.true_eq_false, Bool.false_eq_true, qj_sub, qinB_t, qinB_f, q2_e, qj_add, qj_s1, qj_c1, qj_c2, qj_c9, qj_c17, qj_c97]
      exact hQ
  · rw [if_neg h]
    refine qMQ_0 fun Q hQ => b226_0 (by omega) ?_
    simp (disch := omega) only [qz0, qj_lt, qj_le, qj_eq, qtk, qfk, qbtt, qbft, qbtf, qbff, qIx_z, qj_nat, true_and, and_true, true_implies, false_implies, not_true_eq_false, not_false_eq_true, Bool.true_eq_false, Bool.false_eq_true, qj_sub, qinB_t, qinB_f, q2_e, qj_add, qj_s1, qj_c1, qj_c2, qj_c9, qj_c17, qj_c97, f3]
    refine ⟨_, _, bd10 (by omega) H, ?_⟩
    simp (disch := omega) only [qz0, qj_lt, qj_le, qj_eq, qtk, qfk, qbtt, qbft, qbtf, qbff, qIx_z, qj_nat, true_and, and_true, true_implies, false_implies, not_true_eq_false, not_false_eq_true, Bool.true_eq_false, Bool.false_eq_true, qj_sub, qinB_t, qinB_f, q2_e, qj_add, qj_s1, qj_c1, qj_c2, qj_c9, qj_c17, qj_c97]
    exact hQ
end RASK1
