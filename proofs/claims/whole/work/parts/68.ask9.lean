/-! ===== questions, the class' side, 9: fates, counts ===== -/
section ASK9
variable {d : Nat} {g : qG1} {I : Nat → Nat → Int32} {F : qFam} {L : qLw} {B : qBk} {S S0 : qSt} {Im : Nat → qSt} {C T : Nat → Nat} {P : Int} {f s b : Nat}
theorem c163 (hd : 6 ≤ d) (X : qAbs F L B S S0 Im C T) (H : qCls g I F L B S S0 Im C T P) {x : Int32} {q n : Nat} (hn : n ≤ 40) :
    ∃ I', qRun d 163 [.ref 64, .int x, .int (qj q), .int (qj n)] (qw g I) (.inl (none, qw g I')) ∧ qRS F I' 171 (aFt F L S x q n) ∧ qFq g I I' ∧ qWS F (aFt F L S x q n) ∧ (aFt F L S x q n).1 0 0 = S.1 0 0 + n := by
  have W := X.1
  have WS := X.2.2.2.1.1
  have hy : S.1 0 0 ≤ 1000 := Nat.le_trans X.2.2.2.1.2.1 (by decide)
  have h9 := W.1
  have h8 := W.2.1
  have w3 := W.2.2.1
  have hf := H.1.1
  have hl := H.1.2.2.2.1
  have hb := H.1.2.2.2.2.2.2.1
  have RF := H.2.1
  have RS := H.2.2.2.2.1
  have hs9 : qisS 139 := by unfold qisS; omega
  have hC := H.2.2.2.2.2.2.2.2.2.2.2.2.2.2.1
  have hs171 : qisS 171 := by unfold qisS; omega
  have hyy := X.2.2.2.1.2.1
  have hwb := qWo_b H.1
  have key : ∀ i, i ≤ n → ∀ J, qRS F J 171 (itr (aFs F L q) i (S, x)).1 → J 244 0 = (itr (aFs F L q) i (S, x)).2 → qFq g I J →
      ∃ I', (qRS F I' 171 (aFt F L S x q n) ∧ qFq g I I') ∧ ∀ Q : qR → Prop, Q (.inl (none, qw g I')) → qwq d 163 22 [(0, .ref 64), (2, .int (qj q)), (3, .int (qj n)), (4, .int (qj i))] [] (qw g J) Q := by
    refine upto _ (fun J h1 h2 h3 => ⟨J, ⟨h1, h3⟩, fun Q hQ => b163_22 hf hl rfl rfl (by omega) ?_⟩) (fun i hi ih J h1 h2 h3 => ?_)
    · simp (disch := omega) only [qz0, qj_lt, qj_le, qj_eq, qtk, qfk, qbtt, qbft, qbtf, qbff, qIx_z, qj_nat, true_and, and_true, true_implies, false_implies, not_true_eq_false, not_false_eq_true, Bool.true_eq_false, Bool.false_eq_true]
      exact hQ
    · obtain ⟨w1, w2⟩ := aFt_ok (L := L) (x := x) (q := q) W WS i
      have e0 := h1.1
      have R2 : qRS F (qup J 171 0 (qj (((itr (aFs F L q) i (S, x)).1.1 0 0 + 1 : Nat) : Int))) 171 (aYr (itr (aFs F L q) i (S, x)).1) := qRS_u1 h1 rfl
      have hJ2 : qFq g I (qup J 171 0 (qj (((itr (aFs F L q) i (S, x)).1.1 0 0 + 1 : Nat) : Int))) := qFq_171 h3 (by omega)
      have HJ2 := qCls_q H X.2.2.2.2.2.2.2.1 hJ2
      have hx2 : qup J 171 0 (qj (((itr (aFs F L q) i (S, x)).1.1 0 0 + 1 : Nat) : Int)) 244 0 = (itr (aFs F L q) i (S, x)).2 := by rw [qup_ne (by omega)]; exact h2
      have hy2 : (aYr (itr (aFs F L q) i (S, x)).1).1 0 0 ≤ 1000 := by show (itr (aFs F L q) i (S, x)).1.1 0 0 + 1 ≤ 1000; omega
      obtain ⟨J3, k1, k2, k3⟩ := c50 (d := d - 1) (g := g) (q := qj q) (by omega) hs171 hf HJ2.2.1 W R2 hy2 hx2
      have hJ3 : qFq g I J3 := qFq_tr hJ2 (fun a p q r => k3 a (by omega))
      have R3 : qRS F J3 171 (aYr (itr (aFs F L q) i (S, x)).1) := qRS_cg R2 (fun a p q => k3 a (by omega))
      obtain ⟨J4, r1, r2, r3, r4⟩ := ask2 (d := d - 1) (m := qj (bm (F.1 0 0) (aDm F (aYr (itr (aFs F L q) i (S, x)).1) (itr (aFs F L q) i (S, x)).2 (qj q)) : Nat)) (D := aDm F (aYr (itr (aFs F L q) i (S, x)).1) (itr (aFs F L q) i (S, x)).2 (qj q)) (by omega) X H R3 (qWS_yr w1) hy2 hJ3 (fun h hh => qhas_bm _ _ hh (by omega))
      obtain ⟨I', q1, q2⟩ := ih J4 r2 (by rw [r4 244 (by omega) (by omega)]; exact k2) r3
      refine ⟨I', q1, fun Q hQ => b163_22 hf hl rfl rfl (by omega) ?_⟩
      simp (disch := omega) only [qz0, qj_lt, qj_le, qj_eq, qtk, qfk, qbtt, qbft, qbtf, qbff, qIx_z, qj_nat, true_and, and_true, true_implies, false_implies, not_true_eq_false, not_false_eq_true, Bool.true_eq_false, Bool.false_eq_true, e0, qj_add, qj_s1]
      exact ⟨_, _, k1, _, r1, q2 Q hQ⟩
  obtain ⟨J, k1, k2, k3⟩ := ask0 (d := d - 1) (by omega) X H
  obtain ⟨I', ⟨q1, q2⟩, q3⟩ := key 0 (Nat.zero_le _) (qup J 244 0 x) (qRS_cg k2 (fun a p q => qup_ne (by omega))) (by rw [qup_at, if_pos rfl]; rfl) (fun a p q r => by rw [qup_ne (by omega)]; exact k3 a p q r)
  obtain ⟨w1, w2⟩ := aFt_ok (L := L) (x := x) (q := q) W WS n
  exact ⟨I', qRun_of fun Q hQ => b163_0 (by omega) ⟨_, k1, q3 Q hQ⟩, q1, q2, w1, w2⟩
theorem f134 (hd : 8 ≤ d) (X : qAbs F L B S S0 Im C T) (H : qCls g I F L B S S0 Im C T P) {x : Int32} {z v w : Int} (hz : -2147483648 ≤ z ∧ z < 2147483648) (hv : -2147483648 ≤ v ∧ v < 2147483648) (hw : -2147483648 ≤ w ∧ w < 2147483648) : qCQ d 134 [.ref 64, .int x, .int (qj z), .int (qj v), .int (qj w)] g I (rFat F L S x z v w) := by
  have W := X.1
  have WS := X.2.2.2.1.1
  have hy : S.1 0 0 ≤ 1000 := Nat.le_trans X.2.2.2.1.2.1 (by decide)
  have h9 := W.1
  have h8 := W.2.1
  have w3 := W.2.2.1
  have hf := H.1.1
  have hl := H.1.2.2.2.1
  have hb := H.1.2.2.2.2.2.2.1
  have RF := H.2.1
  have RS := H.2.2.2.2.1
  have hs9 : qisS 139 := by unfold qisS; omega
  have hC := H.2.2.2.2.2.2.2.2.2.2.2.2.2.2.1
  unfold rFat
  have hs171 : qisS 171 := by unfold qisS; omega
  have hyy := X.2.2.2.1.2.1
  by_cases h : (0 ≤ z ∧ z ≤ 16) ∧ (1 ≤ v ∧ v ≤ 40) ∧ 0 ≤ w ∧ w ≤ 3
  · rw [if_pos h]
    obtain ⟨q, rfl⟩ : ∃ q : Nat, z = q := ⟨z.toNat, by omega⟩
    obtain ⟨n, rfl⟩ : ∃ n : Nat, v = n := ⟨v.toNat, by omega⟩
    rw [Int.toNat_natCast, Int.toNat_natCast]
    obtain ⟨J, k1, k2, k3, k4, k5⟩ := c163 (d := d - 1) (x := x) (q := q) (n := n) (by omega) X H (by omega)
    have HJ := qCls_q H X.2.2.2.2.2.2.2.1 k3
    generalize aFt F L S x q n = U at k2 k4 k5 ⊢
    have hv : w = 0 ∨ w = 1 ∨ w = 2 ∨ w = 3 := by omega
    have k55 := c55' (d := d - 1) (g := g) (by omega) hs171 hf HJ.2.1 W k2 (by omega)
    rcases hv with rfl | rfl | rfl | rfl
    · refine qCQ_inl J (fun Q hQ => b134_0 hf rfl (by omega) ?_) k3
      simp (disch := omega) only [qz0, qj_lt, qj_le, qj_eq, qtk, qfk, qbtt, qbft, qbtf, qbff, qIx_z, qj_nat, true_and, and_true, true_implies, false_implies, not_true_eq_false, not_false_eq_true, Bool.true_eq_false, Bool.false_eq_true]
      refine ⟨_, k1, _, _, k55, ?_⟩
      rw [qpc_bm (by omega)]; exact hQ
    · refine qCQ_inl J (fun Q hQ => b134_0 hf rfl (by omega) ?_) k3
      simp (disch := omega) only [qz0, qj_lt, qj_le, qj_eq, qtk, qfk, qbtt, qbft, qbtf, qbff, qIx_z, qj_nat, true_and, and_true, true_implies, false_implies, not_true_eq_false, not_false_eq_true, Bool.true_eq_false, Bool.false_eq_true]
      refine ⟨_, k1, _, _, c60 (by omega) hs171 hf HJ.2.1 W k2, ?_⟩
      rw [qpc_bm (by omega)]; exact hQ
    · obtain ⟨J2, e1, e2⟩ := c149 (d := d - 1) (g := g) (by omega) hf hs171 rfl HJ.2.1 k2 W k4 HJ.2.2.2.2.2.2.2.2.2.2.2.2.2.2.1 (al := aAlv F U) (fun h => aAlv_h)
      refine qCQ_inl J2 (fun Q hQ => b134_0 hf rfl (by omega) ?_) (qFq_tr k3 (qFq_c e2))
      simp (disch := omega) only [qz0, qj_lt, qj_le, qj_eq, qtk, qfk, qbtt, qbft, qbtf, qbff, qIx_z, qj_nat, true_and, and_true, true_implies, false_implies, not_true_eq_false, not_false_eq_true, Bool.true_eq_false, Bool.false_eq_true]
      refine ⟨_, k1, _, _, k55, _, _, e1, ?_⟩
      rw [qpc_bm (by omega)]; exact hQ
    · refine qCQ_inl J (fun Q hQ => b134_0 hf rfl (by omega) ?_) k3
      simp (disch := omega) only [qz0, qj_lt, qj_le, qj_eq, qtk, qfk, qbtt, qbft, qbtf, qbff, qIx_z, qj_nat, true_and, and_true, true_implies, false_implies, not_true_eq_false, not_false_eq_true, Bool.true_eq_false, Bool.false_eq_true]
      exact ⟨_, k1, _, _, c61 (by omega) hs171 hf HJ.2.1 W k2, hQ⟩
  · rw [if_neg h]
    refine qCQ_1 fun Q hQ => b134_0 hf rfl (by omega) ?_
    simp (disch := omega) only [qz0, qj_lt, qj_le]
    exact qrfu hQ (fun c => qrfu hQ (fun c => qrfu hQ (fun c => qrfu hQ (fun c => qrfu hQ (fun c => qrfu hQ (fun c => by omega))))))
theorem f135 (hd : 8 ≤ d) (X : qAbs F L B S S0 Im C T) (H : qCls g I F L B S S0 Im C T P) {x : Int32} {m z v w k : Int} (hm : -2147483648 ≤ m ∧ m < 2147483648) (hz : -2147483648 ≤ z ∧ z < 2147483648) (hv : -2147483648 ≤ v ∧ v < 2147483648) (hw : -2147483648 ≤ w ∧ w < 2147483648) (hk : -2147483648 ≤ k ∧ k < 2147483648) :
    qCQ d 135 [.ref 64, .int x, .int (qj m), .int (qj z), .int (qj v), .int (qj w), .int (qj k)] g I (rSpn F L S x m z v w k) := by
  have W := X.1
  have WS := X.2.2.2.1.1
  have hy : S.1 0 0 ≤ 1000 := Nat.le_trans X.2.2.2.1.2.1 (by decide)
  have h9 := W.1
  have h8 := W.2.1
  have w3 := W.2.2.1
  have hf := H.1.1
  have hl := H.1.2.2.2.1
  have hb := H.1.2.2.2.2.2.2.1
  have RF := H.2.1
  have RS := H.2.2.2.2.1
  have hs9 : qisS 139 := by unfold qisS; omega
  have hC := H.2.2.2.2.2.2.2.2.2.2.2.2.2.2.1
  unfold rSpn
  have f1 := RF.1
  have hs171 : qisS 171 := by unfold qisS; omega
  have hyy := X.2.2.2.1.2.1
  by_cases h : ((1 ≤ m ∧ m ≤ 20) ∧ (0 ≤ z ∧ z ≤ 16) ∧ (1 ≤ v ∧ v ≤ 40)) ∧ (0 ≤ w ∧ w ≤ 2) ∧ 0 ≤ k ∧ k < F.1 0 0
  · rw [if_pos h]
    obtain ⟨m, rfl⟩ : ∃ q : Nat, m = q := ⟨m.toNat, by omega⟩
    obtain ⟨q, rfl⟩ : ∃ q : Nat, z = q := ⟨z.toNat, by omega⟩
    obtain ⟨n, rfl⟩ : ∃ n : Nat, v = n := ⟨v.toNat, by omega⟩
    obtain ⟨w, rfl⟩ : ∃ q : Nat, w = q := ⟨w.toNat, by omega⟩
    obtain ⟨k, rfl⟩ : ∃ q : Nat, k = q := ⟨k.toNat, by omega⟩
    rw [Int.toNat_natCast, Int.toNat_natCast, Int.toNat_natCast, Int.toNat_natCast, Int.toNat_natCast]
    let c : Nat → Nat := fun i => cn 9 (aAlv F (aFt F L S (x + qj i) q n))
    let p : Nat → Bool := fun i => aAlv F (aFt F L S (x + qj i) q n) k
    have hc : ∀ i, c i ≤ 9 := fun i => cn_le _ _
    have key : ∀ i, i ≤ m → ∀ J, qFq g I J →
        ∃ I', qFq g I I' ∧ ∀ Q : qR → Prop, Q (.inl (some (.int (qj (aSpn F L S x m q n w k : Nat))), qw g I')) → qwq d 135 93 [(0, .ref 64), (1, .int x), (2, .int (qj m)), (3, .int (qj q)), (4, .int (qj n)), (5, .int (qj w)), (6, .int (qj k)), (7, .int (qj (aMn c i : Nat))), (8, .int (qj (aMx c i : Nat))), (9, .int (qj (cn i p : Nat))), (10, .int (qj i))] [] (qw g J) Q := by
      refine upto _ (fun J hJ => ⟨J, hJ, fun Q hQ => b135_93 hf rfl (by omega) ?_⟩) (fun i hi ih J hJ => ?_)
      · unfold aSpn at hQ
        have hv : w = 0 ∨ w = 1 ∨ w = 2 := by omega
        rcases hv with rfl | rfl | rfl
        · rw [if_pos rfl] at hQ
          simp (disch := omega) only [qz0, qj_lt, qj_le, qj_eq, qtk, qfk, qbtt, qbft, qbtf, qbff, qIx_z, qj_nat, true_and, and_true, true_implies, false_implies, not_true_eq_false, not_false_eq_true, Bool.true_eq_false, Bool.false_eq_true, Int.natCast_zero]
          exact hQ
        · rw [if_neg (by omega), if_pos rfl] at hQ
          simp (disch := omega) only [qz0, qj_lt, qj_le, qj_eq, qtk, qfk, qbtt, qbft, qbtf, qbff, qIx_z, qj_nat, true_and, and_true, true_implies, false_implies, not_true_eq_false, not_false_eq_true, Bool.true_eq_false, Bool.false_eq_true, Int.natCast_one]
          exact hQ
        · rw [if_neg (by omega), if_neg (by omega)] at hQ
          simp (disch := omega) only [qz0, qj_lt, qj_le, qj_eq, qtk, qfk, qbtt, qbft, qbtf, qbff, qIx_z, qj_nat, true_and, and_true, true_implies, false_implies, not_true_eq_false, not_false_eq_true, Bool.true_eq_false, Bool.false_eq_true]
          exact hQ
      · have HJ := qCls_q H X.2.2.2.2.2.2.2.1 hJ
        obtain ⟨J2, k1, k2, k3, k4, k5⟩ := c163 (d := d - 1) (x := x + qj i) (q := q) (n := n) (by omega) X HJ (by omega)
        have hJ2 := qFq_tr hJ k3
        have HJ2 := qCls_q H X.2.2.2.2.2.2.2.1 hJ2
        have k55 := c55' (d := d - 1) (g := g) (by omega) hs171 hf HJ2.2.1 W k2 (by omega)
        have hpc := qpc_bm (n := 9) (by omega) (aAlv F (aFt F L S (x + qj i) q n))
        have e1 : ((aMn c (i + 1) : Nat) : Int) = min (aMn c i : Int) (c i : Nat) := by rw [aMn]; omega
        have e2 : ((aMx c (i + 1) : Nat) : Int) = max (aMx c i : Int) (c i : Nat) := by rw [aMx]; omega
        have n1 := aMn_b c i
        have n2 := aMx_b hc i
        have n3 := hc i
        obtain ⟨I', q1, q2⟩ := ih J2 hJ2
        refine ⟨I', q1, fun Q hQ => b135_93 hf rfl (by omega) ?_⟩
        have q3 := q2 Q hQ
        rw [e1, e2, ← qmin_z (by omega) (by omega) (by omega) (by omega), ← qmax_z (by omega) (by omega) (by omega) (by omega)] at q3
        simp (disch := omega) only [qz0, qj_lt, qj_le, qj_eq, qtk, qfk, qbtt, qbft, qbtf, qbff, qIx_z, qj_nat, true_and, and_true, true_implies, false_implies, not_true_eq_false, not_false_eq_true, Bool.true_eq_false, Bool.false_eq_true]
        refine ⟨_, k1, _, _, k55, ?_⟩
        cases hp : p i with
        | false =>
          rw [cn_sf hp] at q3
          have hp' : aAlv F (aFt F L S (x + qj i) q n) k = false := hp
          simp (disch := omega) only [qz0, qj_lt, qj_le, qj_eq, qtk, qfk, qbtt, qbft, qbtf, qbff, qIx_z, qj_nat, true_and, and_true, true_implies, false_implies, not_true_eq_false, not_false_eq_true, Bool.true_eq_false, Bool.false_eq_true, qhas_bm, hp', hpc, qj_add, qj_s1, Int.add_zero]
          exact q3
        | true =>
          rw [cn_st hp] at q3
          have hp' : aAlv F (aFt F L S (x + qj i) q n) k = true := hp
          simp (disch := omega) only [qz0, qj_lt, qj_le, qj_eq, qtk, qfk, qbtt, qbft, qbtf, qbff, qIx_z, qj_nat, true_and, and_true, true_implies, false_implies, not_true_eq_false, not_false_eq_true, Bool.true_eq_false, Bool.false_eq_true, qhas_bm, hp', hpc, qj_add, qj_s1]
          exact q3
    obtain ⟨I', r1, r2⟩ := key 0 (Nat.zero_le _) I qFq_rf
    refine qCQ_inl I' (fun Q hQ => b135_0 hf rfl (by omega) ?_) r1
    simp (disch := omega) only [qz0, qj_lt, qj_le, qj_eq, qtk, qfk, qbtt, qbft, qbtf, qbff, qIx_z, qj_nat, true_and, and_true, true_implies, false_implies, not_true_eq_false, not_false_eq_true, Bool.true_eq_false, Bool.false_eq_true, f1]
    exact r2 Q hQ
  · rw [if_neg h]
    refine qCQ_1 fun Q hQ => b135_0 hf rfl (by omega) ?_
    simp (disch := omega) only [qz0, qj_lt, qj_le, f1]
    exact qrfu hQ (fun c => qrfu hQ (fun c => qrfu hQ (fun c => qrfu hQ (fun c => qrfu hQ (fun c => qrfu hQ (fun c => qrfu hQ (fun c => qrfu hQ (fun c => qrfu hQ (fun c => qrfu hQ (fun c => by omega))))))))))
def rSta (C : Nat → Nat) (w : Int) : Int32 := if w = 0 then qj (C 2 : Nat) else if w = 1 then qj (C 3 : Nat) else qj (-1)
def rCnt (C : Nat → Nat) (w : Int) : Int32 := if w = 0 then qj (C 1 : Nat) else if w = 1 then qj (C 4 : Nat) else if w = 2 then qj (C 0 : Nat) else qj (-1)
theorem f138 (hd : 1 ≤ d) (X : qAbs F L B S S0 Im C T) (H : qCls g I F L B S S0 Im C T P) {w : Int} (hw : -2147483648 ≤ w ∧ w < 2147483648) : qCQ d 138 [.ref 64, .int (qj w)] g I (.inl (rSta C w)) := by
  refine qCQ_inl I (fun Q hQ => b138_0 (by omega) ?_) qFq_rf
  have e0 := H.2.2.2.2.2.2.2.2.2.2.1
  have e1 := H.2.2.2.2.2.2.2.2.2.1
  unfold rSta at hQ
  by_cases h0 : w = 0
  · rw [if_pos h0] at hQ
    simp (disch := omega) only [qz0, qj_lt, qj_le, qj_eq, qtk, qfk, qbtt, qbft, qbtf, qbff, qIx_z, qj_nat, true_and, and_true, true_implies, false_implies, not_true_eq_false, not_false_eq_true, Bool.true_eq_false, Bool.false_eq_true, e1]
    exact hQ
  · rw [if_neg h0] at hQ
    by_cases h1 : w = 1
    · rw [if_pos h1] at hQ
      simp (disch := omega) only [qz0, qj_lt, qj_le, qj_eq, qtk, qfk, qbtt, qbft, qbtf, qbff, qIx_z, qj_nat, true_and, and_true, true_implies, false_implies, not_true_eq_false, not_false_eq_true, Bool.true_eq_false, Bool.false_eq_true, e0]
      exact hQ
    · rw [if_neg h1] at hQ
      simp (disch := omega) only [qz0, qj_lt, qj_le, qj_eq, qtk, qfk, qbtt, qbft, qbtf, qbff, qIx_z, qj_nat, true_and, and_true, true_implies, false_implies, not_true_eq_false, not_false_eq_true, Bool.true_eq_false, Bool.false_eq_true]
      exact hQ
theorem f139 (hd : 1 ≤ d) (X : qAbs F L B S S0 Im C T) (H : qCls g I F L B S S0 Im C T P) {w : Int} (hw : -2147483648 ≤ w ∧ w < 2147483648) : qCQ d 139 [.ref 64, .int (qj w)] g I (.inl (rCnt C w)) := by
  refine qCQ_inl I (fun Q hQ => b139_0 (by omega) ?_) qFq_rf
  have e0 := H.2.2.2.2.2.2.2.2.1
  have e1 := H.2.2.2.2.2.2.2.2.2.2.2.1
  have e2 := H.2.2.2.2.2.2.2.1
  unfold rCnt at hQ
  by_cases h0 : w = 0
  · rw [if_pos h0] at hQ
    simp (disch := omega) only [qz0, qj_lt, qj_le, qj_eq, qtk, qfk, qbtt, qbft, qbtf, qbff, qIx_z, qj_nat, true_and, and_true, true_implies, false_implies, not_true_eq_false, not_false_eq_true, Bool.true_eq_false, Bool.false_eq_true, e0]
    exact hQ
  · rw [if_neg h0] at hQ
    by_cases h1 : w = 1
    · rw [if_pos h1] at hQ
      simp (disch := omega) only [qz0, qj_lt, qj_le, qj_eq, qtk, qfk, qbtt, qbft, qbtf, qbff, qIx_z, qj_nat, true_and, and_true, true_implies, false_implies, not_true_eq_false, not_false_eq_true, Bool.true_eq_false, Bool.false_eq_true, e1]
      exact hQ
    · rw [if_neg h1] at hQ
      by_cases h2 : w = 2
      · rw [if_pos h2] at hQ
        simp (disch := omega) only [qz0, qj_lt, qj_le, qj_eq, qtk, qfk, qbtt, qbft, qbtf, qbff, qIx_z, qj_nat, true_and, and_true, true_implies, false_implies, not_true_eq_false, not_false_eq_true, Bool.true_eq_false, Bool.false_eq_true, e2]
        exact hQ
      · rw [if_neg h2] at hQ
        simp (disch := omega) only [qz0, qj_lt, qj_le, qj_eq, qtk, qfk, qbtt, qbft, qbtf, qbff, qIx_z, qj_nat, true_and, and_true, true_implies, false_implies, not_true_eq_false, not_false_eq_true, Bool.true_eq_false, Bool.false_eq_true]
        exact hQ
end ASK9
