/-! ===== what changes the object: the reference ===== -/
def qMW (d k : Nat) (as : List Value) (g : qG1) (I : Nat → Nat → Int32) (F : qFam) (L : qLw) (B : qBk) (c : Nat) (C T : Nat → Nat) (P : Int) : qRs → Prop
  | .inl r => ∃ I', qRun d k as (qw g I) (.inl (some (.int r.1), qw g I')) ∧ qMdl I' F L B r.2.1 r.2.2.1 r.2.2.2.1 r.2.2.2.2 T P ∧ I' 245 0 = qj 0 ∧ ∀ a, a < 245 → I' a = I a
  | .inr e => qRun d k as (qw g I) (.inl (some (.int (qj 0)), qw g (qup (qup I 245 0 (qj (if e = 0 then 1 else c : Nat))) 247 e (qj ((C (2 + e) + 1 : Nat) : Int)))))
theorem qMW_0 {d k : Nat} {as : List Value} {g : qG1} {I : Nat → Nat → Int32} {F : qFam} {L : qLw} {B : qBk} {c : Nat} {C T : Nat → Nat} {P : Int} (h : ∀ Q : qR → Prop, Q (.inl (some (.int (qj 0)), qw g (qup (qup I 245 0 (qj 1)) 247 0 (qj ((C 2 + 1 : Nat) : Int))))) → qwp d k as (qw g I) Q) : qMW d k as g I F L B c C T P (.inr 0) := qRun_of h
theorem qMW_1 {d k : Nat} {as : List Value} {g : qG1} {I : Nat → Nat → Int32} {F : qFam} {L : qLw} {B : qBk} {C T : Nat → Nat} {P : Int} (h : ∀ Q : qR → Prop, Q (.inl (some (.int (qj 0)), qw g (qup (qup I 245 0 (qj 1)) 247 1 (qj ((C 3 + 1 : Nat) : Int))))) → qwp d k as (qw g I) Q) : qMW d k as g I F L B 1 C T P (.inr 1) := qRun_of h
theorem qMW_2 {d k : Nat} {as : List Value} {g : qG1} {I : Nat → Nat → Int32} {F : qFam} {L : qLw} {B : qBk} {C T : Nat → Nat} {P : Int} (h : ∀ Q : qR → Prop, Q (.inl (some (.int (qj 0)), qw g (qup (qup I 245 0 (qj 2)) 247 1 (qj ((C 3 + 1 : Nat) : Int))))) → qwp d k as (qw g I) Q) : qMW d k as g I F L B 2 C T P (.inr 1) := qRun_of h
def qFv (I J : Nat → Nat → Int32) : Prop := (∀ a, ¬ a = 245 → ¬ a = 680 → ¬ a = 681 → ¬ a = 682 → ¬ a = 683 → J a = I a) ∧ ∀ j, ¬ j = 42 → ¬ j = 44 → J 245 j = I 245 j
theorem qFv_rf {I : Nat → Nat → Int32} : qFv I I := ⟨fun _ _ _ _ _ _ => rfl, fun _ _ _ => rfl⟩
theorem qFv_tr {I J K : Nat → Nat → Int32} (h : qFv I J) (h2 : qFv J K) : qFv I K := ⟨fun a p q r s t => (h2.1 a p q r s t).trans (h.1 a p q r s t), fun j p q => (h2.2 j p q).trans (h.2 j p q)⟩
theorem qFv_m {I J : Nat → Nat → Int32} (h : qFm 682 I J) : qFv I J := ⟨fun a p q r s _ => h.1 a s q r p, fun j _ q => h.2 j q⟩
theorem qFv_r {r : Nat} {I J : Nat → Nat → Int32} (hr : r = 682 ∨ r = 683) (h : ∀ a, ¬ a = r → J a = I a) : qFv I J := ⟨fun a p q r s t => h a (by omega), fun j _ _ => by rw [h 245 (by omega)]⟩
theorem qFv_42 {I J : Nat → Nat → Int32} {v : Int32} (h : qFv I J) : qFv I (qup J 245 42 v) := ⟨fun a p q r s t => by rw [qup_ne p]; exact h.1 a p q r s t, fun j p q => by rw [qup_at, if_neg p]; exact h.2 j p q⟩
section WRT2
variable {d : Nat} {g : qG1} {I : Nat → Nat → Int32} {F : qFam} {L : qLw} {B : qBk} {S S0 : qSt} {Im : Nat → qSt} {C T : Nat → Nat} {P : Int} {f s : Nat}
theorem qMdl_w (H : qMdl I F L B S S0 Im C T P) (X : qAbs F L B S S0 Im C T) {J : Nat → Nat → Int32} {U U0 : qSt} {n : Nat} (h : qFv I J) (R : qMS F J 682 U) (R0 : qMS F J 683 U0) (h42 : J 245 42 = qj n) : qMdl J F L B U U0 Im (iup C 0 n) T P := by
  obtain ⟨h1, h2, h3, h4, h5, h6, h7, h8, h9, h10, h11, h12, h13, h14, h15, h16⟩ := H
  have W := X.1
  have WL := X.2.1
  have c1 := X.2.2.2.2.2.2.2.1
  refine ⟨qMF_cg h1 (fun a p q => h.1 a (by omega) (by omega) (by omega) (by omega) (by omega)) W, qMl_cg h2 (fun a p q => h.1 a (by omega) (by omega) (by omega) (by omega) (by omega)) W, qML_cg h3 WL (h.2 27 (by omega) (by omega)) (fun a p q => h.1 a (by omega) (by omega) (by omega) (by omega) (by omega)), qMB_cg h4 X.2.2.1.1 (h.2 41 (by omega) (by omega)) (fun a p q => h.1 a (by omega) (by omega) (by omega) (by omega) (by omega)), R, R0, qMS_cg h7 (h.1 684 (by omega) (by omega) (by omega) (by omega) (by omega)), fun k hk => qMS_cg (h8 k hk) (h.1 _ (by omega) (by have : k < C 1 := hk; omega) (by have : k < C 1 := hk; omega) (by have : k < C 1 := hk; omega) (by have : k < C 1 := hk; omega)), h42, ?_, ?_, ?_, ?_, ?_, ?_, ?_⟩
  · rw [h.2 43 (by omega) (by omega)]; exact h10
  · rw [h.1 247 (by omega) (by omega) (by omega) (by omega) (by omega)]; exact h11
  · rw [h.1 247 (by omega) (by omega) (by omega) (by omega) (by omega)]; exact h12
  · rw [h.2 1 (by omega) (by omega)]; exact h13
  · rw [h.1 246 (by omega) (by omega) (by omega) (by omega) (by omega)]; exact h14
  · rw [h.2 3 (by omega) (by omega)]; exact h15
  · rw [h.2 45 (by omega) (by omega)]; exact h16
theorem qMW_inl {k c : Nat} {as : List Value} {v : Int32} {C0 : Nat → Nat} (I' : Nat → Nat → Int32) (h : ∀ Q : qR → Prop, Q (.inl (some (.int v), qw g I')) → qwp d k as (qw g I) Q) (m : qMdl I' F L B S S0 Im C T P) (e : qFv (qup I 245 0 (qj 0)) I') : qMW d k as g I F L B c C0 T P (.inl (v, S, S0, Im, C)) :=
  ⟨I', qRun_of h, m, by rw [e.2 0 (by omega) (by omega), qup_at, if_pos rfl], fun a ha => by rw [e.1 a (by omega) (by omega) (by omega) (by omega) (by omega), qup_ne (by omega)]⟩
theorem m203 (hd : 2 ≤ d) (W : qWF F) {J : Nat → Nat → Int32} {U : qSt} (R : qMS F J 682 U) :
    ∃ J', qRun d 203 [.ref 245] (qw g J) (.inl (none, qw g J')) ∧ qMS F J' 682 U ∧ qMS F J' 683 U ∧ J' 245 42 = qj 0 ∧ qFv J J' := by
  obtain ⟨J1, k1, k2, k3⟩ := m201 (d := d - 1) (g := g) (I := J) (by omega) (show qisR 682 by unfold qisR; omega) (show qisR 683 by unfold qisR; omega) (by omega)
  refine ⟨qup J1 245 42 (qj 0), qRun_of fun Q hQ => b203_0 (by omega) ⟨_, k1, hQ⟩, ?_, ?_, ?_, qFv_42 (qFv_r (Or.inr rfl) k3)⟩
  · exact qMS_cg R (by rw [qup_ne (by omega)]; exact k3 682 (by omega))
  · exact qMS_cg (qMS_cp W.2.1 R k2) (qup_ne (by omega))
  · rw [qup_at, if_pos rfl]
/-- a year of what is now -/
theorem nw1 (hd : 6 ≤ d) (X : qAbs F L B S S0 Im C T) (H : qMdl I F L B S S0 Im C T P) {U : qSt} {J : Nat → Nat → Int32} (R : qMS F J 682 U) (WU : qWS F U) (hyU : U.1 0 0 < 1000) (hU : ∀ k, k < F.1 0 0 → U.1 1 k = F.1 1 k) (hJ : qFv (qup I 245 0 (qj 0)) J) :
    ∃ J', qRun d 238 [.ref 245, .ref 682] (qw g J) (.inl (none, qw g J')) ∧ qMS F J' 682 (aYear F L U) ∧ qFv J J' ∧ J' 245 42 = J 245 42 ∧ J' 683 = J 683 ∧ ∀ k, k < F.1 0 0 → (aYear F L U).1 1 k = F.1 1 k := by
  have M := mAf X H qFe_rf
  obtain ⟨J', k1, k2, k3⟩ := m238y (g := g) hd (show qisR 682 by unfold qisR; omega) (qMF_cg M.1 (fun a p q => hJ.1 a (by omega) (by omega) (by omega) (by omega) (by omega)) X.1) (qMl_of (qMl_cg M.2.1 (fun a p q => hJ.1 a (by omega) (by omega) (by omega) (by omega) (by omega)) X.1) hU) X.1 R WU hyU (qML_cg M.2.2.1 X.2.1 (hJ.2 27 (by omega) (by omega)) (fun a p q => hJ.1 a (by omega) (by omega) (by omega) (by omega) (by omega))) X.2.1 (by rw [hJ.2 45 (by omega) (by omega)]; exact M.2.2.2.2.2.2.2.2.2.2.2.2.2.2.2)
  obtain ⟨y1, y2, y3⟩ := aYear_ok (L := L) (D := fun _ => false) WU X.1
  refine ⟨J', k1, k2, qFv_m k3, k3.2 42 (by omega), k3.1 683 (by omega) (by omega) (by omega) (by omega), fun k hk => ?_⟩
  rw [show (aYear F L U).1 1 = U.1 1 from y3]; exact hU k hk
theorem itr_l (W : qWF F) {U : qSt} (WU : qWS F U) : ∀ j, (itr (aYear F L) j U).1 1 = U.1 1
  | 0 => rfl
  | j + 1 => by
    obtain ⟨a, b⟩ := itr_ok (L := L) W WU j
    obtain ⟨y1, y2, y3⟩ := aYear_ok (L := L) (D := fun _ => false) a W
    exact Eq.trans y3 (itr_l W WU j)
theorem r239 (hd : 7 ≤ d) (X : qAbs F L B S S0 Im C T) (H : qMdl I F L B S S0 Im C T P) {z : Int} (hz : -2147483648 ≤ z ∧ z < 2147483648) : qMW d 239 [.ref 245, .int (qj z)] g I F L B 1 C T P (rYrs F L S S0 Im C z) := by
  have W := X.1
  have WL := X.2.1
  have WS := X.2.2.2.1.1
  have hy : S.1 0 0 ≤ 1000 := Nat.le_trans X.2.2.2.1.2.1 (by decide)
  have h9 := W.1
  have h8 := W.2.1
  have w3 := W.2.2.1
  have f1 := H.1.1
  have f2 := H.1.2.1
  have f3 := H.1.2.2.1
  have M0 := qMdl_q H X (qFp_0 (v := qj 0))
  have MF := M0.1
  have R := M0.2.2.2.2.1
  have hr : qisR 682 := by unfold qisR; omega
  have z0 : qup I 245 0 (qj 0) 245 0 = qj 0 := by rw [qup_at, if_pos rfl]
  unfold rYrs
  have h200 := X.2.2.2.1.2.1
  by_cases h : 1 ≤ z ∧ z ≤ 60
  · rw [if_pos h]
    obtain ⟨n, rfl⟩ : ∃ n : Nat, z = n := ⟨z.toNat, by omega⟩
    rw [Int.toNat_natCast]
    have e42 := M0.2.2.2.2.2.2.2.2.1
    generalize hk : min n (200 - S.1 0 0) = k
    have key : ∀ i, i ≤ k → ∀ J, qMS F J 682 (itr (aYear F L) i S) → J 245 42 = qj ((C 0 + i : Nat) : Int) → qFv (qup I 245 0 (qj 0)) J → J 683 = qup I 245 0 (qj 0) 683 →
        ∃ I', (qMS F I' 682 (itr (aYear F L) k S) ∧ I' 245 42 = qj ((C 0 + k : Nat) : Int) ∧ qFv (qup I 245 0 (qj 0)) I' ∧ I' 683 = qup I 245 0 (qj 0) 683) ∧ ∀ Q : qR → Prop, Q (.inl (some (.int (qj ((S.1 0 0 + k : Nat) : Int))), qw g I')) → qwq d 239 33 [(0, .ref 245), (1, .int (qj n)), (2, .int (qj i))] [] (qw g J) Q := by
      refine upto _ (fun J h1 h2 h3 h4 => ⟨J, ⟨h1, h2, h3, h4⟩, fun Q hQ => b239_33 (by omega) ?_⟩) (fun i hi ih J h1 h2 h3 h4 => ?_)
      · obtain ⟨w1, w2⟩ := itr_ok (L := L) W WS k
        have e0 := h1.2.2.2.2.2.2
        rw [w2] at e0
        by_cases c : n ≤ k
        · simp (disch := omega) only [qz0, qj_lt, qj_le, qj_eq, qtk, qfk, qbtt, qbft, qbtf, qbff, qIx_z, qj_nat, true_and, and_true, true_implies, false_implies, not_true_eq_false, not_false_eq_true, Bool.true_eq_false, Bool.false_eq_true, qj_sub, qinB_t, qinB_f, q2_e, qj_add, qj_s1, qj_c1, qj_c2, qj_c9, qj_c17, qj_c97, e0]
          exact hQ
        · simp (disch := omega) only [qz0, qj_lt, qj_le, qj_eq, qtk, qfk, qbtt, qbft, qbtf, qbff, qIx_z, qj_nat, true_and, and_true, true_implies, false_implies, not_true_eq_false, not_false_eq_true, Bool.true_eq_false, Bool.false_eq_true, qj_sub, qinB_t, qinB_f, q2_e, qj_add, qj_s1, qj_c1, qj_c2, qj_c9, qj_c17, qj_c97, e0]
          exact hQ
      · obtain ⟨w1, w2⟩ := itr_ok (L := L) W WS i
        have wl := itr_l (L := L) W WS i
        have e0 := h1.2.2.2.2.2.2
        rw [w2] at e0
        obtain ⟨J1, k1, k2, k3, k4, k5, k6⟩ := nw1 (d := d - 1) (g := g) (by omega) X H h1 w1 (by omega) (fun k hk => by rw [wl]; exact X.2.2.2.1.2.2 k hk) h3
        have e9 : J1 245 42 = qj ((C 0 + i : Nat) : Int) := by rw [k4]; exact h2
        obtain ⟨I', q1, q2⟩ := ih (qup J1 245 42 (qj ((C 0 + (i + 1) : Nat) : Int))) (qMS_cg k2 (qup_ne (by omega))) (by rw [qup_at, if_pos rfl]) (qFv_42 (qFv_tr h3 k3)) (by rw [qup_ne (by omega), k5]; exact h4)
        refine ⟨I', q1, fun Q hQ => b239_33 (by omega) ?_⟩
        simp (disch := omega) only [qz0, qj_lt, qj_le, qj_eq, qtk, qfk, qbtt, qbft, qbtf, qbff, qIx_z, qj_nat, true_and, and_true, true_implies, false_implies, not_true_eq_false, not_false_eq_true, Bool.true_eq_false, Bool.false_eq_true, qj_sub, qinB_t, qinB_f, q2_e, qj_add, qj_s1, qj_c1, qj_c2, qj_c9, qj_c17, qj_c97, e0]
        refine ⟨_, k1, ?_⟩
        simp (disch := omega) only [e9, qj_add, qj_s1]
        exact q2 Q hQ
    obtain ⟨I', ⟨q1, q2, q3, q5⟩, q4⟩ := key 0 (Nat.zero_le _) _ R e42 qFv_rf rfl
    refine qMW_inl I' (fun Q hQ => b239_0 (by omega) ?_) (qMdl_w M0 X q3 q1 (qMS_cg M0.2.2.2.2.2.1 q5) q2) q3
    simp (disch := omega) only [qz0, qj_lt, qj_le, qj_eq, qtk, qfk, qbtt, qbft, qbtf, qbff, qIx_z, qj_nat, true_and, and_true, true_implies, false_implies, not_true_eq_false, not_false_eq_true, Bool.true_eq_false, Bool.false_eq_true, qj_sub, qinB_t, qinB_f, q2_e, qj_add, qj_s1, qj_c1, qj_c2, qj_c9, qj_c17, qj_c97]
    refine ⟨_, _, bd0 (by omega) _ _, ?_⟩
    simp (disch := omega) only [qz0, qj_lt, qj_le, qj_eq, qtk, qfk, qbtt, qbft, qbtf, qbff, qIx_z, qj_nat, true_and, and_true, true_implies, false_implies, not_true_eq_false, not_false_eq_true, Bool.true_eq_false, Bool.false_eq_true, qj_sub, qinB_t, qinB_f, q2_e, qj_add, qj_s1, qj_c1, qj_c2, qj_c9, qj_c17, qj_c97]
    exact q4 Q hQ
  · rw [if_neg h]
    refine qMW_1 fun Q hQ => b239_0 (by omega) ?_
    simp (disch := omega) only [qz0, qj_lt, qj_le, qj_eq, qtk, qfk, qbtt, qbft, qbtf, qbff, qIx_z, qj_nat, true_and, and_true, true_implies, false_implies, not_true_eq_false, not_false_eq_true, Bool.true_eq_false, Bool.false_eq_true, qj_sub, qinB_t, qinB_f, q2_e, qj_add, qj_s1, qj_c1, qj_c2, qj_c9, qj_c17, qj_c97]
    refine ⟨_, _, bd11 (by omega) H, ?_⟩
    simp (disch := omega) only [qz0, qj_lt, qj_le, qj_eq, qtk, qfk, qbtt, qbft, qbtf, qbff, qIx_z, qj_nat, true_and, and_true, true_implies, false_implies, not_true_eq_false, not_false_eq_true, Bool.true_eq_false, Bool.false_eq_true, qj_sub, qinB_t, qinB_f, q2_e, qj_add, qj_s1, qj_c1, qj_c2, qj_c9, qj_c17, qj_c97]
    exact hQ
theorem r240 (hd : 7 ≤ d) (X : qAbs F L B S S0 Im C T) (H : qMdl I F L B S S0 Im C T P) {z : Int} (hz : -2147483648 ≤ z ∧ z < 2147483648) : qMW d 240 [.ref 245, .int (qj z)] g I F L B 1 C T P (rUnd F L S S0 Im C z) := by
  have W := X.1
  have WL := X.2.1
  have WS := X.2.2.2.1.1
  have hy : S.1 0 0 ≤ 1000 := Nat.le_trans X.2.2.2.1.2.1 (by decide)
  have h9 := W.1
  have h8 := W.2.1
  have w3 := W.2.2.1
  have f1 := H.1.1
  have f2 := H.1.2.1
  have f3 := H.1.2.2.1
  have M0 := qMdl_q H X (qFp_0 (v := qj 0))
  have MF := M0.1
  have R := M0.2.2.2.2.1
  have hr : qisR 682 := by unfold qisR; omega
  have z0 : qup I 245 0 (qj 0) 245 0 = qj 0 := by rw [qup_at, if_pos rfl]
  unfold rUnd
  have h0 := X.2.2.2.2.2.2.1
  have R0 := M0.2.2.2.2.2.1
  have WS0 := X.2.2.2.2.1.1
  by_cases h : 1 ≤ z ∧ z ≤ 60
  · rw [if_pos h]
    obtain ⟨n, rfl⟩ : ∃ n : Nat, z = n := ⟨z.toNat, by omega⟩
    rw [Int.toNat_natCast]
    have e42 := M0.2.2.2.2.2.2.2.2.1
    by_cases hc : C 0 = 0
    · rw [if_pos hc]
      refine qMW_inl _ (fun Q hQ => b240_0 (by omega) ?_) M0 qFv_rf
      simp (disch := omega) only [qz0, qj_lt, qj_le, qj_eq, qtk, qfk, qbtt, qbft, qbtf, qbff, qIx_z, qj_nat, true_and, and_true, true_implies, false_implies, not_true_eq_false, not_false_eq_true, Bool.true_eq_false, Bool.false_eq_true, qj_sub, qinB_t, qinB_f, q2_e, qj_add, qj_s1, qj_c1, qj_c2, qj_c9, qj_c17, qj_c97]
      refine ⟨_, _, bd0 (by omega) _ _, ?_⟩
      simp (disch := omega) only [qz0, qj_lt, qj_le, qj_eq, qtk, qfk, qbtt, qbft, qbtf, qbff, qIx_z, qj_nat, true_and, and_true, true_implies, false_implies, not_true_eq_false, not_false_eq_true, Bool.true_eq_false, Bool.false_eq_true, qj_sub, qinB_t, qinB_f, q2_e, qj_add, qj_s1, qj_c1, qj_c2, qj_c9, qj_c17, qj_c97]
      simp (disch := omega) only [qz0, qj_lt, qj_le, qj_eq, qtk, qfk, qbtt, qbft, qbtf, qbff, qIx_z, qj_nat, true_and, and_true, true_implies, false_implies, not_true_eq_false, not_false_eq_true, Bool.true_eq_false, Bool.false_eq_true, qj_sub, qinB_t, qinB_f, q2_e, qj_add, qj_s1, qj_c1, qj_c2, qj_c9, qj_c17, qj_c97, e42, qmin_z, hc]
      exact hQ
    · rw [if_neg hc]
      have em : min (n : Int) ((C 0 : Nat) : Int) = ((min n (C 0) : Nat) : Int) := by omega
      generalize hk : min n (C 0) = k at em
      have es : qj ((C 0 : Nat) : Int) - qj (k : Int) = qj ((C 0 - k : Nat) : Int) := by rw [qj_sub]; congr 1; omega
      obtain ⟨J1, a1, a2, a3⟩ := m201 (d := d - 1) (g := g) (I := qup (qup I 245 0 (qj 0)) 245 42 (qj ((C 0 - k : Nat) : Int))) (by omega) (show qisR 683 by unfold qisR; omega) hr (by omega)
      have R1 : qMS F J1 682 S0 := qMS_cp h8 (qMS_cg R0 (qup_ne (by omega))) a2
      have hJ1 : qFv (qup I 245 0 (qj 0)) J1 := qFv_tr (qFv_42 qFv_rf) (qFv_r (Or.inl rfl) a3)
      have key : ∀ i, i ≤ C 0 - k → ∀ J, qMS F J 682 (itr (aYear F L) i S0) → J 245 42 = qj ((C 0 - k : Nat) : Int) → qFv (qup I 245 0 (qj 0)) J → J 683 = qup I 245 0 (qj 0) 683 →
          ∃ I', (qMS F I' 682 (itr (aYear F L) (C 0 - k) S0) ∧ I' 245 42 = qj ((C 0 - k : Nat) : Int) ∧ qFv (qup I 245 0 (qj 0)) I' ∧ I' 683 = qup I 245 0 (qj 0) 683) ∧ ∀ Q : qR → Prop, Q (.inl (some (.int (qj (k : Int))), qw g I')) → qwq d 240 69 [(0, .ref 245), (2, .int (qj k)), (3, .int (qj i))] [] (qw g J) Q := by
        refine upto _ (fun J h1 h2 h3 h4 => ⟨J, ⟨h1, h2, h3, h4⟩, fun Q hQ => b240_69 (by omega) ?_⟩) (fun i hi ih J h1 h2 h3 h4 => ?_)
        · simp (disch := omega) only [qz0, qj_lt, qj_le, qj_eq, qtk, qfk, qbtt, qbft, qbtf, qbff, qIx_z, qj_nat, true_and, and_true, true_implies, false_implies, not_true_eq_false, not_false_eq_true, Bool.true_eq_false, Bool.false_eq_true, qj_sub, qinB_t, qinB_f, q2_e, qj_add, qj_s1, qj_c1, qj_c2, qj_c9, qj_c17, qj_c97, h2]
          exact hQ
        · obtain ⟨w1, w2⟩ := itr_ok (L := L) W WS0 i
          have wl := itr_l (L := L) W WS0 i
          obtain ⟨J2, k1, k2, k3, k4, k5, k6⟩ := nw1 (d := d - 1) (g := g) (by omega) X H h1 w1 (by omega) (fun k hk => by rw [wl]; exact X.2.2.2.2.1.2.2 k hk) h3
          obtain ⟨I', q1, q2⟩ := ih J2 k2 (by rw [k4]; exact h2) (qFv_tr h3 k3) (by rw [k5]; exact h4)
          refine ⟨I', q1, fun Q hQ => b240_69 (by omega) ?_⟩
          simp (disch := omega) only [qz0, qj_lt, qj_le, qj_eq, qtk, qfk, qbtt, qbft, qbtf, qbff, qIx_z, qj_nat, true_and, and_true, true_implies, false_implies, not_true_eq_false, not_false_eq_true, Bool.true_eq_false, Bool.false_eq_true, qj_sub, qinB_t, qinB_f, q2_e, qj_add, qj_s1, qj_c1, qj_c2, qj_c9, qj_c17, qj_c97, h2]
          exact ⟨_, k1, q2 Q hQ⟩
      obtain ⟨I', ⟨q1, q2, q3, q5⟩, q4⟩ := key 0 (Nat.zero_le _) J1 R1 (by rw [a3 245 (by omega), qup_at, if_pos rfl]) hJ1 (by rw [a3 683 (by omega), qup_ne (by omega)])
      refine qMW_inl I' (fun Q hQ => b240_0 (by omega) ?_) (qMdl_w M0 X q3 q1 (qMS_cg R0 q5) q2) q3
      simp (disch := omega) only [qz0, qj_lt, qj_le, qj_eq, qtk, qfk, qbtt, qbft, qbtf, qbff, qIx_z, qj_nat, true_and, and_true, true_implies, false_implies, not_true_eq_false, not_false_eq_true, Bool.true_eq_false, Bool.false_eq_true, qj_sub, qinB_t, qinB_f, q2_e, qj_add, qj_s1, qj_c1, qj_c2, qj_c9, qj_c17, qj_c97]
      refine ⟨_, _, bd0 (by omega) _ _, ?_⟩
      simp (disch := omega) only [qz0, qj_lt, qj_le, qj_eq, qtk, qfk, qbtt, qbft, qbtf, qbff, qIx_z, qj_nat, true_and, and_true, true_implies, false_implies, not_true_eq_false, not_false_eq_true, Bool.true_eq_false, Bool.false_eq_true, qj_sub, qinB_t, qinB_f, q2_e, qj_add, qj_s1, qj_c1, qj_c2, qj_c9, qj_c17, qj_c97, e42, qmin_z, em]
      rw [← qj_sub, es]
      exact ⟨_, a1, q4 Q hQ⟩
  · rw [if_neg h]
    refine qMW_1 fun Q hQ => b240_0 (by omega) ?_
    simp (disch := omega) only [qz0, qj_lt, qj_le, qj_eq, qtk, qfk, qbtt, qbft, qbtf, qbff, qIx_z, qj_nat, true_and, and_true, true_implies, false_implies, not_true_eq_false, not_false_eq_true, Bool.true_eq_false, Bool.false_eq_true, qj_sub, qinB_t, qinB_f, q2_e, qj_add, qj_s1, qj_c1, qj_c2, qj_c9, qj_c17, qj_c97]
    refine ⟨_, _, bd11 (by omega) H, ?_⟩
    simp (disch := omega) only [qz0, qj_lt, qj_le, qj_eq, qtk, qfk, qbtt, qbft, qbtf, qbff, qIx_z, qj_nat, true_and, and_true, true_implies, false_implies, not_true_eq_false, not_false_eq_true, Bool.true_eq_false, Bool.false_eq_true, qj_sub, qinB_t, qinB_f, q2_e, qj_add, qj_s1, qj_c1, qj_c2, qj_c9, qj_c17, qj_c97]
    exact hQ
theorem m172_b (hd : 1 ≤ d) (p : Nat → Bool) : qRun d 172 [.int (qj (bm 8 p : Nat))] (qw g I) (.inl (some (.int (qj (cn 8 p : Nat))), qw g I)) := by
  have h := m172 (g := g) (I := I) hd (qj (bm 8 p : Nat))
  rw [qones (by omega)] at h
  exact h
theorem r247 (hd : 3 ≤ d) (X : qAbs F L B S S0 Im C T) (H : qMdl I F L B S S0 Im C T P) {z : Int} (hz : -2147483648 ≤ z ∧ z < 2147483648) : qMW d 247 [.ref 245, .int (qj z)] g I F L B 1 C T P (rDie F S S0 Im C z) := by
  have W := X.1
  have WL := X.2.1
  have WS := X.2.2.2.1.1
  have hy : S.1 0 0 ≤ 1000 := Nat.le_trans X.2.2.2.1.2.1 (by decide)
  have h9 := W.1
  have h8 := W.2.1
  have w3 := W.2.2.1
  have f1 := H.1.1
  have f2 := H.1.2.1
  have f3 := H.1.2.2.1
  have M0 := qMdl_q H X (qFp_0 (v := qj 0))
  have MF := M0.1
  have R := M0.2.2.2.2.1
  have hr : qisR 682 := by unfold qisR; omega
  have z0 : qup I 245 0 (qj 0) 245 0 = qj 0 := by rw [qup_at, if_pos rfl]
  unfold rDie
  by_cases h : 0 ≤ z ∧ z < F.1 0 0
  · rw [if_pos h]
    obtain ⟨n, rfl⟩ : ∃ n : Nat, z = n := ⟨z.toNat, by omega⟩
    rw [Int.toNat_natCast]
    have k218 := m218 (d := d - 1) (g := g) (by omega) hr MF W R hy (h := n) (by omega)
    cases ha : aAl F S n with
    | false =>
      rw [ha] at k218
      rw [if_neg Bool.false_ne_true]
      refine qMW_inl _ (fun Q hQ => b247_0 (by omega) ?_) M0 qFv_rf
      simp (disch := omega) only [qz0, qj_lt, qj_le, qj_eq, qtk, qfk, qbtt, qbft, qbtf, qbff, qIx_z, qj_nat, true_and, and_true, true_implies, false_implies, not_true_eq_false, not_false_eq_true, Bool.true_eq_false, Bool.false_eq_true, qj_sub, qinB_t, qinB_f, q2_e, qj_add, qj_s1, qj_c1, qj_c2, qj_c9, qj_c17, qj_c97, f1]
      refine ⟨_, _, bd0 (by omega) _ _, ?_⟩
      simp (disch := omega) only [qz0, qj_lt, qj_le, qj_eq, qtk, qfk, qbtt, qbft, qbtf, qbff, qIx_z, qj_nat, true_and, and_true, true_implies, false_implies, not_true_eq_false, not_false_eq_true, Bool.true_eq_false, Bool.false_eq_true, qj_sub, qinB_t, qinB_f, q2_e, qj_add, qj_s1, qj_c1, qj_c2, qj_c9, qj_c17, qj_c97]
      refine ⟨_, _, k218, ?_⟩
      simp (disch := omega) only [qz0, qj_lt, qj_le, qj_eq, qtk, qfk, qbtt, qbft, qbtf, qbff, qIx_z, qj_nat, true_and, and_true, true_implies, false_implies, not_true_eq_false, not_false_eq_true, Bool.true_eq_false, Bool.false_eq_true, qj_sub, qinB_t, qinB_f, q2_e, qj_add, qj_s1, qj_c1, qj_c2, qj_c9, qj_c17, qj_c97]
      exact hQ
    | true =>
      rw [ha] at k218
      rw [if_pos rfl]
      have k222 := m222 (d := d - 1) (g := g) (by omega) hr MF W R WS (h := n) (by omega)
      obtain ⟨J1, a1, a2, a3⟩ := m237 (d := d - 1) (g := g) (h := n) (by omega) hr MF W R WS (by omega)
      obtain ⟨J2, b1, b2, b3, b4, b5⟩ := m203 (d := d - 1) (g := g) (by omega) W a2
      have hJ2 := qFv_tr (qFv_r (Or.inl rfl) a3) b5
      refine qMW_inl J2 (fun Q hQ => b247_0 (by omega) ?_) (qMdl_w M0 X hJ2 b2 b3 b4) hJ2
      simp (disch := omega) only [qz0, qj_lt, qj_le, qj_eq, qtk, qfk, qbtt, qbft, qbtf, qbff, qIx_z, qj_nat, true_and, and_true, true_implies, false_implies, not_true_eq_false, not_false_eq_true, Bool.true_eq_false, Bool.false_eq_true, qj_sub, qinB_t, qinB_f, q2_e, qj_add, qj_s1, qj_c1, qj_c2, qj_c9, qj_c17, qj_c97, f1]
      refine ⟨_, _, bd0 (by omega) _ _, ?_⟩
      simp (disch := omega) only [qz0, qj_lt, qj_le, qj_eq, qtk, qfk, qbtt, qbft, qbtf, qbff, qIx_z, qj_nat, true_and, and_true, true_implies, false_implies, not_true_eq_false, not_false_eq_true, Bool.true_eq_false, Bool.false_eq_true, qj_sub, qinB_t, qinB_f, q2_e, qj_add, qj_s1, qj_c1, qj_c2, qj_c9, qj_c17, qj_c97]
      refine ⟨_, _, k218, ?_⟩
      simp (disch := omega) only [qz0, qj_lt, qj_le, qj_eq, qtk, qfk, qbtt, qbft, qbtf, qbff, qIx_z, qj_nat, true_and, and_true, true_implies, false_implies, not_true_eq_false, not_false_eq_true, Bool.true_eq_false, Bool.false_eq_true, qj_sub, qinB_t, qinB_f, q2_e, qj_add, qj_s1, qj_c1, qj_c2, qj_c9, qj_c17, qj_c97]
      exact ⟨_, _, k222, _, _, m172_b (by omega) _, _, a1, _, b1, hQ⟩
  · rw [if_neg h]
    refine qMW_0 fun Q hQ => b247_0 (by omega) ?_
    simp (disch := omega) only [qz0, qj_lt, qj_le, qj_eq, qtk, qfk, qbtt, qbft, qbtf, qbff, qIx_z, qj_nat, true_and, and_true, true_implies, false_implies, not_true_eq_false, not_false_eq_true, Bool.true_eq_false, Bool.false_eq_true, qj_sub, qinB_t, qinB_f, q2_e, qj_add, qj_s1, qj_c1, qj_c2, qj_c9, qj_c17, qj_c97, f1]
    refine ⟨_, _, bd10 (by omega) H, ?_⟩
    simp (disch := omega) only [qz0, qj_lt, qj_le, qj_eq, qtk, qfk, qbtt, qbft, qbtf, qbff, qIx_z, qj_nat, true_and, and_true, true_implies, false_implies, not_true_eq_false, not_false_eq_true, Bool.true_eq_false, Bool.false_eq_true, qj_sub, qinB_t, qinB_f, q2_e, qj_add, qj_s1, qj_c1, qj_c2, qj_c9, qj_c17, qj_c97]
    exact hQ
theorem r248 (hd : 3 ≤ d) (X : qAbs F L B S S0 Im C T) (H : qMdl I F L B S S0 Im C T P) {z w : Int} (hz : -2147483648 ≤ z ∧ z < 2147483648) (hw : -2147483648 ≤ w ∧ w < 2147483648) : qMW d 248 [.ref 245, .int (qj z), .int (qj w)] g I F L B 2 C T P (rStr F S Im C z w) := by
  have W := X.1
  have WL := X.2.1
  have WS := X.2.2.2.1.1
  have hy : S.1 0 0 ≤ 1000 := Nat.le_trans X.2.2.2.1.2.1 (by decide)
  have h9 := W.1
  have h8 := W.2.1
  have w3 := W.2.2.1
  have f1 := H.1.1
  have f2 := H.1.2.1
  have f3 := H.1.2.2.1
  have M0 := qMdl_q H X (qFp_0 (v := qj 0))
  have MF := M0.1
  have R := M0.2.2.2.2.1
  have hr : qisR 682 := by unfold qisR; omega
  have z0 : qup I 245 0 (qj 0) 245 0 = qj 0 := by rw [qup_at, if_pos rfl]
  unfold rStr
  by_cases h : 0 ≤ z ∧ z < F.1 0 1
  · rw [if_pos h]
    obtain ⟨n, rfl⟩ : ∃ n : Nat, z = n := ⟨z.toNat, by omega⟩
    by_cases h2 : 1 ≤ w ∧ w ≤ 30
    · rw [if_pos h2]
      obtain ⟨m, rfl⟩ : ∃ m : Nat, w = m := ⟨w.toNat, by omega⟩
      rw [Int.toNat_natCast, Int.toNat_natCast]
      have s3 := R.2.2.1 n (by omega)
      have b30 := WS.2.2.1 n (by omega)
      have em : min (30 : Int) ((S.1 3 n : Int) + (m : Int)) = ((min 30 (S.1 3 n + m) : Nat) : Int) := by omega
      have R1 : qMS F (qup (qup I 245 0 (qj 0)) 682 (9 + n) (qj ((min 30 (S.1 3 n + m) : Nat) : Int))) 682 (aStr S n m) := qMS_n R h8 (Or.inl ⟨rfl, rfl, by omega, rfl⟩)
      obtain ⟨J2, b1, b2, b3, b4, b5⟩ := m203 (d := d - 1) (g := g) (by omega) W R1
      have hJ1 : qFv (qup I 245 0 (qj 0)) (qup (qup I 245 0 (qj 0)) 682 (9 + n) (qj ((min 30 (S.1 3 n + m) : Nat) : Int))) := qFv_r (Or.inl rfl) (fun a p => qup_ne p)
      have hJ2 := qFv_tr hJ1 b5
      have e7 : J2 682 (9 + n) = qj ((min 30 (S.1 3 n + m) : Nat) : Int) := by
        have := b2.2.2.1 n (by omega)
        rw [this]
        show qj ((qup S.1 3 n (min 30 (S.1 3 n + m)) 3 n : Nat) : Int) = _
        rw [qup_at, if_pos rfl]
      refine qMW_inl J2 (fun Q hQ => b248_0 (by omega) ?_) (qMdl_w M0 X hJ2 b2 b3 b4) hJ2
      simp (disch := omega) only [qz0, qj_lt, qj_le, qj_eq, qtk, qfk, qbtt, qbft, qbtf, qbff, qIx_z, qj_nat, true_and, and_true, true_implies, false_implies, not_true_eq_false, not_false_eq_true, Bool.true_eq_false, Bool.false_eq_true, qj_sub, qinB_t, qinB_f, q2_e, qj_add, qj_s1, qj_c1, qj_c2, qj_c9, qj_c17, qj_c97, f2]
      refine ⟨_, _, bd0 (by omega) _ _, ?_⟩
      simp (disch := omega) only [qz0, qj_lt, qj_le, qj_eq, qtk, qfk, qbtt, qbft, qbtf, qbff, qIx_z, qj_nat, true_and, and_true, true_implies, false_implies, not_true_eq_false, not_false_eq_true, Bool.true_eq_false, Bool.false_eq_true, qj_sub, qinB_t, qinB_f, q2_e, qj_add, qj_s1, qj_c1, qj_c2, qj_c9, qj_c17, qj_c97]
      refine ⟨_, _, bd0 (by omega) _ _, ?_⟩
      simp (disch := omega) only [qz0, qj_lt, qj_le, qj_eq, qtk, qfk, qbtt, qbft, qbtf, qbff, qIx_z, qj_nat, true_and, and_true, true_implies, false_implies, not_true_eq_false, not_false_eq_true, Bool.true_eq_false, Bool.false_eq_true, qj_sub, qinB_t, qinB_f, q2_e, qj_add, qj_s1, qj_c1, qj_c2, qj_c9, qj_c17, qj_c97, s3, qmin_z, em]
      refine ⟨_, b1, ?_⟩
      simp (disch := omega) only [e7]
      exact hQ
    · rw [if_neg h2]
      refine qMW_2 fun Q hQ => b248_0 (by omega) ?_
      simp (disch := omega) only [qz0, qj_lt, qj_le, qj_eq, qtk, qfk, qbtt, qbft, qbtf, qbff, qIx_z, qj_nat, true_and, and_true, true_implies, false_implies, not_true_eq_false, not_false_eq_true, Bool.true_eq_false, Bool.false_eq_true, qj_sub, qinB_t, qinB_f, q2_e, qj_add, qj_s1, qj_c1, qj_c2, qj_c9, qj_c17, qj_c97, f2]
      refine ⟨_, _, bd0 (by omega) _ _, ?_⟩
      simp (disch := omega) only [qz0, qj_lt, qj_le, qj_eq, qtk, qfk, qbtt, qbft, qbtf, qbff, qIx_z, qj_nat, true_and, and_true, true_implies, false_implies, not_true_eq_false, not_false_eq_true, Bool.true_eq_false, Bool.false_eq_true, qj_sub, qinB_t, qinB_f, q2_e, qj_add, qj_s1, qj_c1, qj_c2, qj_c9, qj_c17, qj_c97]
      refine ⟨_, _, bd21 (by omega) H, ?_⟩
      simp (disch := omega) only [qz0, qj_lt, qj_le, qj_eq, qtk, qfk, qbtt, qbft, qbtf, qbff, qIx_z, qj_nat, true_and, and_true, true_implies, false_implies, not_true_eq_false, not_false_eq_true, Bool.true_eq_false, Bool.false_eq_true, qj_sub, qinB_t, qinB_f, q2_e, qj_add, qj_s1, qj_c1, qj_c2, qj_c9, qj_c17, qj_c97]
      exact hQ
  · rw [if_neg h]
    refine qMW_0 fun Q hQ => b248_0 (by omega) ?_
    simp (disch := omega) only [qz0, qj_lt, qj_le, qj_eq, qtk, qfk, qbtt, qbft, qbtf, qbff, qIx_z, qj_nat, true_and, and_true, true_implies, false_implies, not_true_eq_false, not_false_eq_true, Bool.true_eq_false, Bool.false_eq_true, qj_sub, qinB_t, qinB_f, q2_e, qj_add, qj_s1, qj_c1, qj_c2, qj_c9, qj_c17, qj_c97, f2]
    refine ⟨_, _, bd10 (by omega) H, ?_⟩
    simp (disch := omega) only [qz0, qj_lt, qj_le, qj_eq, qtk, qfk, qbtt, qbft, qbtf, qbff, qIx_z, qj_nat, true_and, and_true, true_implies, false_implies, not_true_eq_false, not_false_eq_true, Bool.true_eq_false, Bool.false_eq_true, qj_sub, qinB_t, qinB_f, q2_e, qj_add, qj_s1, qj_c1, qj_c2, qj_c9, qj_c17, qj_c97]
    exact hQ
theorem r249 (hd : 4 ≤ d) (X : qAbs F L B S S0 Im C T) (H : qMdl I F L B S S0 Im C T P) {z v w : Int} (hz : -2147483648 ≤ z ∧ z < 2147483648) (hv : -2147483648 ≤ v ∧ v < 2147483648) (hw : -2147483648 ≤ w ∧ w < 2147483648) : qMW d 249 [.ref 245, .int (qj z), .int (qj v), .int (qj w)] g I F L B 1 C T P (rGiv F S S0 Im C z v w) := by
  have W := X.1
  have WL := X.2.1
  have WS := X.2.2.2.1.1
  have hy : S.1 0 0 ≤ 1000 := Nat.le_trans X.2.2.2.1.2.1 (by decide)
  have h9 := W.1
  have h8 := W.2.1
  have w3 := W.2.2.1
  have f1 := H.1.1
  have f2 := H.1.2.1
  have f3 := H.1.2.2.1
  have M0 := qMdl_q H X (qFp_0 (v := qj 0))
  have MF := M0.1
  have R := M0.2.2.2.2.1
  have hr : qisR 682 := by unfold qisR; omega
  have z0 : qup I 245 0 (qj 0) 245 0 = qj 0 := by rw [qup_at, if_pos rfl]
  unfold rGiv
  by_cases h : (0 ≤ z ∧ z < F.1 0 1) ∧ (0 ≤ v ∧ v < F.1 0 0) ∧ 0 ≤ w ∧ w < F.1 0 0
  · rw [if_pos h]
    obtain ⟨p, rfl⟩ : ∃ n : Nat, z = n := ⟨z.toNat, by omega⟩
    obtain ⟨h', rfl⟩ : ∃ m : Nat, v = m := ⟨v.toNat, by omega⟩
    obtain ⟨k, rfl⟩ : ∃ m : Nat, w = m := ⟨w.toNat, by omega⟩
    rw [Int.toNat_natCast, Int.toNat_natCast, Int.toNat_natCast]
    have s2 := R.2.1 p (by omega)
    have k231 := m231 (d := d - 1) (g := g) (by omega) hr MF W R WS hy (h := k) (p := p) (by omega) (by omega)
    cases hwk : S.2.1 h' p with
    | false =>
      rw [if_neg (fun q => Bool.noConfusion q.1)]
      refine qMW_inl _ (fun Q hQ => b249_0 (by omega) ?_) M0 qFv_rf
      simp (disch := omega) only [qz0, qj_lt, qj_le, qj_eq, qtk, qfk, qbtt, qbft, qbtf, qbff, qIx_z, qj_nat, true_and, and_true, true_implies, false_implies, not_true_eq_false, not_false_eq_true, Bool.true_eq_false, Bool.false_eq_true, qj_sub, qinB_t, qinB_f, q2_e, qj_add, qj_s1, qj_c1, qj_c2, qj_c9, qj_c17, qj_c97, f1, f2]
      refine ⟨_, _, bd0 (by omega) _ _, ?_⟩
      simp (disch := omega) only [qz0, qj_lt, qj_le, qj_eq, qtk, qfk, qbtt, qbft, qbtf, qbff, qIx_z, qj_nat, true_and, and_true, true_implies, false_implies, not_true_eq_false, not_false_eq_true, Bool.true_eq_false, Bool.false_eq_true, qj_sub, qinB_t, qinB_f, q2_e, qj_add, qj_s1, qj_c1, qj_c2, qj_c9, qj_c17, qj_c97, s2, qhas_bm, hwk]
      exact hQ
    | true =>
      cases hcn : aCan F S k p with
      | false =>
        rw [hcn] at k231
        rw [if_neg (fun q => Bool.noConfusion q.2)]
        refine qMW_inl _ (fun Q hQ => b249_0 (by omega) ?_) M0 qFv_rf
        simp (disch := omega) only [qz0, qj_lt, qj_le, qj_eq, qtk, qfk, qbtt, qbft, qbtf, qbff, qIx_z, qj_nat, true_and, and_true, true_implies, false_implies, not_true_eq_false, not_false_eq_true, Bool.true_eq_false, Bool.false_eq_true, qj_sub, qinB_t, qinB_f, q2_e, qj_add, qj_s1, qj_c1, qj_c2, qj_c9, qj_c17, qj_c97, f1, f2]
        refine ⟨_, _, bd0 (by omega) _ _, ?_⟩
        simp (disch := omega) only [qz0, qj_lt, qj_le, qj_eq, qtk, qfk, qbtt, qbft, qbtf, qbff, qIx_z, qj_nat, true_and, and_true, true_implies, false_implies, not_true_eq_false, not_false_eq_true, Bool.true_eq_false, Bool.false_eq_true, qj_sub, qinB_t, qinB_f, q2_e, qj_add, qj_s1, qj_c1, qj_c2, qj_c9, qj_c17, qj_c97, s2, qhas_bm, hwk]
        refine ⟨_, _, k231, ?_⟩
        simp (disch := omega) only [qz0, qj_lt, qj_le, qj_eq, qtk, qfk, qbtt, qbft, qbtf, qbff, qIx_z, qj_nat, true_and, and_true, true_implies, false_implies, not_true_eq_false, not_false_eq_true, Bool.true_eq_false, Bool.false_eq_true, qj_sub, qinB_t, qinB_f, q2_e, qj_add, qj_s1, qj_c1, qj_c2, qj_c9, qj_c17, qj_c97]
        exact hQ
      | true =>
        rw [hcn] at k231
        rw [if_pos ⟨rfl, rfl⟩]
        obtain ⟨J1, a1, a2, a3⟩ := m235 (d := d - 1) (g := g) (h := h') (p := p) (by omega) hr R h8 (by omega) (by omega)
        obtain ⟨J2, b1, b2, b3⟩ := m236 (d := d - 1) (g := g) (h := k) (p := p) (by omega) hr a2 h8 (by omega) (by omega)
        obtain ⟨J3, d1, d2, d3, d4, d5⟩ := m203 (d := d - 1) (g := g) (by omega) W b2
        have hJ3 := qFv_tr (qFv_tr (qFv_r (Or.inl rfl) a3) (qFv_r (Or.inl rfl) b3)) d5
        refine qMW_inl J3 (fun Q hQ => b249_0 (by omega) ?_) (qMdl_w M0 X hJ3 d2 d3 d4) hJ3
        simp (disch := omega) only [qz0, qj_lt, qj_le, qj_eq, qtk, qfk, qbtt, qbft, qbtf, qbff, qIx_z, qj_nat, true_and, and_true, true_implies, false_implies, not_true_eq_false, not_false_eq_true, Bool.true_eq_false, Bool.false_eq_true, qj_sub, qinB_t, qinB_f, q2_e, qj_add, qj_s1, qj_c1, qj_c2, qj_c9, qj_c17, qj_c97, f1, f2]
        refine ⟨_, _, bd0 (by omega) _ _, ?_⟩
        simp (disch := omega) only [qz0, qj_lt, qj_le, qj_eq, qtk, qfk, qbtt, qbft, qbtf, qbff, qIx_z, qj_nat, true_and, and_true, true_implies, false_implies, not_true_eq_false, not_false_eq_true, Bool.true_eq_false, Bool.false_eq_true, qj_sub, qinB_t, qinB_f, q2_e, qj_add, qj_s1, qj_c1, qj_c2, qj_c9, qj_c17, qj_c97, s2, qhas_bm, hwk]
        refine ⟨_, _, k231, ?_⟩
        simp (disch := omega) only [qz0, qj_lt, qj_le, qj_eq, qtk, qfk, qbtt, qbft, qbtf, qbff, qIx_z, qj_nat, true_and, and_true, true_implies, false_implies, not_true_eq_false, not_false_eq_true, Bool.true_eq_false, Bool.false_eq_true, qj_sub, qinB_t, qinB_f, q2_e, qj_add, qj_s1, qj_c1, qj_c2, qj_c9, qj_c17, qj_c97]
        exact ⟨_, a1, _, b1, _, d1, hQ⟩
  · rw [if_neg h]
    have fin : ∀ Q : qR → Prop, Q (.inl (some (.int (qj 0)), qw g (qup (qup I 245 0 (qj 1)) 247 0 (qj ((C 2 + 1 : Nat) : Int))))) → qwp d 249 [.ref 245, .int (qj z), .int (qj v), .int (qj w)] (qw g I) Q := fun Q hQ => b249_0 (by omega) (by
      by_cases h1 : 0 ≤ z ∧ z < F.1 0 1
      · by_cases h2 : 0 ≤ v ∧ v < F.1 0 0
        · simp (disch := omega) only [qz0, qj_lt, qj_le, qj_eq, qtk, qfk, qbtt, qbft, qbtf, qbff, qIx_z, qj_nat, true_and, and_true, true_implies, false_implies, not_true_eq_false, not_false_eq_true, Bool.true_eq_false, Bool.false_eq_true, qj_sub, qinB_t, qinB_f, q2_e, qj_add, qj_s1, qj_c1, qj_c2, qj_c9, qj_c17, qj_c97, f1, f2]
          refine ⟨_, _, bd10 (by omega) H, ?_⟩
          simp (disch := omega) only [qz0, qj_lt, qj_le, qj_eq, qtk, qfk, qbtt, qbft, qbtf, qbff, qIx_z, qj_nat, true_and, and_true, true_implies, false_implies, not_true_eq_false, not_false_eq_true, Bool.true_eq_false, Bool.false_eq_true, qj_sub, qinB_t, qinB_f, q2_e, qj_add, qj_s1, qj_c1, qj_c2, qj_c9, qj_c17, qj_c97]
          exact hQ
        · simp (disch := omega) only [qz0, qj_lt, qj_le, qj_eq, qtk, qfk, qbtt, qbft, qbtf, qbff, qIx_z, qj_nat, true_and, and_true, true_implies, false_implies, not_true_eq_false, not_false_eq_true, Bool.true_eq_false, Bool.false_eq_true, qj_sub, qinB_t, qinB_f, q2_e, qj_add, qj_s1, qj_c1, qj_c2, qj_c9, qj_c17, qj_c97, f1, f2]
          refine ⟨_, _, bd10 (by omega) H, ?_⟩
          simp (disch := omega) only [qz0, qj_lt, qj_le, qj_eq, qtk, qfk, qbtt, qbft, qbtf, qbff, qIx_z, qj_nat, true_and, and_true, true_implies, false_implies, not_true_eq_false, not_false_eq_true, Bool.true_eq_false, Bool.false_eq_true, qj_sub, qinB_t, qinB_f, q2_e, qj_add, qj_s1, qj_c1, qj_c2, qj_c9, qj_c17, qj_c97]
          exact hQ
      · simp (disch := omega) only [qz0, qj_lt, qj_le, qj_eq, qtk, qfk, qbtt, qbft, qbtf, qbff, qIx_z, qj_nat, true_and, and_true, true_implies, false_implies, not_true_eq_false, not_false_eq_true, Bool.true_eq_false, Bool.false_eq_true, qj_sub, qinB_t, qinB_f, q2_e, qj_add, qj_s1, qj_c1, qj_c2, qj_c9, qj_c17, qj_c97, f1, f2]
        refine ⟨_, _, bd10 (by omega) H, ?_⟩
        simp (disch := omega) only [qz0, qj_lt, qj_le, qj_eq, qtk, qfk, qbtt, qbft, qbtf, qbff, qIx_z, qj_nat, true_and, and_true, true_implies, false_implies, not_true_eq_false, not_false_eq_true, Bool.true_eq_false, Bool.false_eq_true, qj_sub, qinB_t, qinB_f, q2_e, qj_add, qj_s1, qj_c1, qj_c2, qj_c9, qj_c17, qj_c97]
        exact hQ)
    exact qMW_0 fin
theorem qSOk {k : Nat} (hk : k < 3) : qisR (677 + k) := by unfold qisR; omega
theorem r293 (hd : 2 ≤ d) (X : qAbs F L B S S0 Im C T) (H : qMdl I F L B S S0 Im C T P) : qMW d 293 [.ref 245] g I F L B 1 C T P (rImg S S0 Im C) := by
  have W := X.1
  have WL := X.2.1
  have WS := X.2.2.2.1.1
  have hy : S.1 0 0 ≤ 1000 := Nat.le_trans X.2.2.2.1.2.1 (by decide)
  have h9 := W.1
  have h8 := W.2.1
  have w3 := W.2.2.1
  have f1 := H.1.1
  have f2 := H.1.2.1
  have f3 := H.1.2.2.1
  have M0 := qMdl_q H X (qFp_0 (v := qj 0))
  have MF := M0.1
  have R := M0.2.2.2.2.1
  have hr : qisR 682 := by unfold qisR; omega
  have z0 : qup I 245 0 (qj 0) 245 0 = qj 0 := by rw [qup_at, if_pos rfl]
  unfold rImg
  have WL := X.2.1
  have c1 := X.2.2.2.2.2.2.2.1
  have e43 := H.2.2.2.2.2.2.2.2.2.1
  have e43' := M0.2.2.2.2.2.2.2.2.2.1
  by_cases h : C 1 < 3
  · rw [if_pos h]
    obtain ⟨J, k1, k2, k3⟩ := m201 (d := d - 1) (g := g) (I := qup I 245 0 (qj 0)) (by omega) hr (qSOk h) (by omega)
    have Rn : qMS F J (677 + C 1) S := qMS_cp h8 R k2
    have eJ : J 245 43 = qj ((C 1 : Nat) : Int) := by rw [k3 245 (by omega)]; exact e43'
    have hfr : ∀ a, ¬ a = 245 → ¬ a = 677 + C 1 → qup J 245 43 (qj ((C 1 + 1 : Nat) : Int)) a = qup I 245 0 (qj 0) a := fun a p q => by rw [qup_ne p]; exact k3 a q
    have hf5 : ∀ j, ¬ j = 43 → qup J 245 43 (qj ((C 1 + 1 : Nat) : Int)) 245 j = qup I 245 0 (qj 0) 245 j := fun j p => by rw [qup_at, if_neg p, k3 245 (by omega)]
    obtain ⟨h1, h2, h3, h4, h5, h6, h7, h8', h9', h10, h11, h12, h13, h14, h15, h16⟩ := M0
    refine ⟨qup J 245 43 (qj ((C 1 + 1 : Nat) : Int)), qRun_of fun Q hQ => b293_0 (by omega) ?_, ⟨qMF_cg h1 (fun a p q => hfr a (by omega) (by omega)) W, qMl_cg h2 (fun a p q => hfr a (by omega) (by omega)) W, qML_cg h3 WL (hf5 27 (by omega)) (fun a p q => hfr a (by omega) (by omega)), qMB_cg h4 X.2.2.1.1 (hf5 41 (by omega)) (fun a p q => hfr a (by omega) (by omega)), qMS_cg h5 (hfr 682 (by omega) (by omega)), qMS_cg h6 (hfr 683 (by omega) (by omega)), qMS_cg h7 (hfr 684 (by omega) (by omega)), fun k hk => ?_, (hf5 42 (by omega)).trans h9', by rw [qup_at, if_pos rfl]; rfl, by rw [hfr 247 (by omega) (by omega)]; exact h11, by rw [hfr 247 (by omega) (by omega)]; exact h12, (hf5 1 (by omega)).trans h13, by rw [hfr 246 (by omega) (by omega)]; exact h14, (hf5 3 (by omega)).trans h15, (hf5 45 (by omega)).trans h16⟩, (hf5 0 (by omega)).trans z0, fun a p => by rw [hfr a (by omega) (by omega), qup_ne (by omega)]⟩
    · have eq2 : q2 3 676 (C 1) = 677 + C 1 := by rw [q2_e h]
      simp (disch := omega) only [qz0, qj_lt, qj_le, qj_eq, qtk, qfk, qbtt, qbft, qbtf, qbff, qIx_z, qj_nat, true_and, and_true, true_implies, false_implies, not_true_eq_false, not_false_eq_true, Bool.true_eq_false, Bool.false_eq_true, qj_sub, qinB_t, qinB_f, q2_e, qj_add, qj_s1, qj_c1, qj_c2, qj_c9, qj_c17, qj_c97, e43]
      refine ⟨_, k1, ?_⟩
      simp (disch := omega) only [eJ, qj_add, qj_s1]
      exact hQ
    · have hk : k < C 1 + 1 := hk
      show qMS F _ (677 + k) (if k = C 1 then S else Im k)
      by_cases e : k = C 1
      · rw [if_pos e, e]
        exact qMS_cg Rn (qup_ne (by omega))
      · rw [if_neg e]
        exact qMS_cg (h8' k (by omega)) (hfr _ (by omega) (by omega))
  · rw [if_neg h]
    refine qMW_inl _ (fun Q hQ => b293_0 (by omega) ?_) M0 qFv_rf
    simp (disch := omega) only [qz0, qj_lt, qj_le, qj_eq, qtk, qfk, qbtt, qbft, qbtf, qbff, qIx_z, qj_nat, true_and, and_true, true_implies, false_implies, not_true_eq_false, not_false_eq_true, Bool.true_eq_false, Bool.false_eq_true, qj_sub, qinB_t, qinB_f, q2_e, qj_add, qj_s1, qj_c1, qj_c2, qj_c9, qj_c17, qj_c97, e43]
    exact hQ
theorem r294 (hd : 3 ≤ d) (X : qAbs F L B S S0 Im C T) (H : qMdl I F L B S S0 Im C T P) : qMW d 294 [.ref 245] g I F L B 1 C T P (rRes S S0 Im C) := by
  have W := X.1
  have WL := X.2.1
  have WS := X.2.2.2.1.1
  have hy : S.1 0 0 ≤ 1000 := Nat.le_trans X.2.2.2.1.2.1 (by decide)
  have h9 := W.1
  have h8 := W.2.1
  have w3 := W.2.2.1
  have f1 := H.1.1
  have f2 := H.1.2.1
  have f3 := H.1.2.2.1
  have M0 := qMdl_q H X (qFp_0 (v := qj 0))
  have MF := M0.1
  have R := M0.2.2.2.2.1
  have hr : qisR 682 := by unfold qisR; omega
  have z0 : qup I 245 0 (qj 0) 245 0 = qj 0 := by rw [qup_at, if_pos rfl]
  unfold rRes
  have WL := X.2.1
  have c1 := X.2.2.2.2.2.2.2.1
  have e43 := H.2.2.2.2.2.2.2.2.2.1
  by_cases h : C 1 = 0
  · rw [if_pos h]
    refine qMW_inl _ (fun Q hQ => b294_0 (by omega) ?_) M0 qFv_rf
    simp (disch := omega) only [qz0, qj_lt, qj_le, qj_eq, qtk, qfk, qbtt, qbft, qbtf, qbff, qIx_z, qj_nat, true_and, and_true, true_implies, false_implies, not_true_eq_false, not_false_eq_true, Bool.true_eq_false, Bool.false_eq_true, qj_sub, qinB_t, qinB_f, q2_e, qj_add, qj_s1, qj_c1, qj_c2, qj_c9, qj_c17, qj_c97, e43]
    exact hQ
  · rw [if_neg h]
    have hk : C 1 - 1 < 3 := by omega
    have es : qj ((C 1 : Nat) : Int) - qj 1 = qj ((C 1 - 1 : Nat) : Int) := by rw [qj_sub]; congr 1; omega
    have H0 : qMdl (qup (qup I 245 0 (qj 0)) 245 43 (qj ((C 1 - 1 : Nat) : Int))) F L B S S0 Im (iup C 1 (C 1 - 1)) T P := by
      have hfr : ∀ a, ¬ a = 245 → qup (qup I 245 0 (qj 0)) 245 43 (qj ((C 1 - 1 : Nat) : Int)) a = qup I 245 0 (qj 0) a := fun a p => qup_ne p
      have hf5 : ∀ j, ¬ j = 43 → qup (qup I 245 0 (qj 0)) 245 43 (qj ((C 1 - 1 : Nat) : Int)) 245 j = qup I 245 0 (qj 0) 245 j := fun j p => by rw [qup_at, if_neg p]
      obtain ⟨h1, h2, h3, h4, h5, h6, h7, h8', h9', h10, h11, h12, h13, h14, h15, h16⟩ := M0
      refine ⟨qMF_cg h1 (fun a p q => hfr a (by omega)) W, qMl_cg h2 (fun a p q => hfr a (by omega)) W, qML_cg h3 WL (hf5 27 (by omega)) (fun a p q => hfr a (by omega)), qMB_cg h4 X.2.2.1.1 (hf5 41 (by omega)) (fun a p q => hfr a (by omega)), qMS_cg h5 (hfr 682 (by omega)), qMS_cg h6 (hfr 683 (by omega)), qMS_cg h7 (hfr 684 (by omega)), fun k hk => ?_, (hf5 42 (by omega)).trans h9', by rw [qup_at, if_pos rfl]; rfl, by rw [hfr 247 (by omega)]; exact h11, by rw [hfr 247 (by omega)]; exact h12, (hf5 1 (by omega)).trans h13, by rw [hfr 246 (by omega)]; exact h14, (hf5 3 (by omega)).trans h15, (hf5 45 (by omega)).trans h16⟩
      have hk : k < C 1 - 1 := hk
      exact qMS_cg (h8' k (by omega)) (hfr _ (by omega))
    have X0 : qAbs F L B S S0 Im (iup C 1 (C 1 - 1)) T := by
      obtain ⟨x1, x2, x3, x4, x5, x6, x7, x8, x9, x10⟩ := X
      exact ⟨x1, x2, x3, x4, x5, fun k hk => x6 k (by have : k < C 1 - 1 := hk; omega), x7, by show C 1 - 1 ≤ 3; omega, x9, x10⟩
    have RI := M0.2.2.2.2.2.2.2.1 (C 1 - 1) (by omega)
    obtain ⟨J, k1, k2, k3⟩ := m201 (d := d - 1) (g := g) (I := qup (qup I 245 0 (qj 0)) 245 43 (qj ((C 1 - 1 : Nat) : Int))) (by omega) (qSOk hk) hr (by omega)
    have Rn : qMS F J 682 (Im (C 1 - 1)) := qMS_cp h8 (qMS_cg RI (qup_ne (by omega))) k2
    obtain ⟨J2, d1, d2, d3, d4, d5⟩ := m203 (d := d - 1) (g := g) (by omega) W Rn
    have hJ2 := qFv_tr (qFv_r (Or.inl rfl) k3) d5
    refine ⟨J2, qRun_of fun Q hQ => b294_0 (by omega) ?_, qMdl_w H0 X0 hJ2 d2 d3 d4, ?_, fun a p => ?_⟩
    · have eJ : J2 245 43 = qj ((C 1 - 1 : Nat) : Int) := by rw [hJ2.2 43 (by omega) (by omega), qup_at, if_pos rfl]
      simp (disch := omega) only [qz0, e43, qj_eq, es, qtk, qfk, not_true_eq_false, not_false_eq_true, qIx_z, qj_nat, q2_e, true_and]
      have e7 : 676 + 1 + (C 1 - 1) = 677 + (C 1 - 1) := rfl
      refine ⟨_, k1, _, d1, ?_⟩
      simp (disch := omega) only [eJ]
      exact hQ
    · rw [hJ2.2 0 (by omega) (by omega), qup_at, if_neg (by omega)]; exact z0
    · rw [hJ2.1 a (by omega) (by omega) (by omega) (by omega) (by omega), qup_ne (by omega), qup_ne (by omega)]
theorem r214 (hd : 1 ≤ d) (X : qAbs F L B S S0 Im C T) (H : qMdl I F L B S S0 Im C T P) : qMQ d 214 [.ref 245] g I 1 C (.inl (qj P)) := by
  refine qMQ_inl _ (fun Q hQ => b214_0 (by omega) ?_) qFe_rf
  rw [H.2.2.2.2.2.2.2.2.2.2.2.2.2.2.1]
  exact hQ
end WRT2
