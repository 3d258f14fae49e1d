/-! ===== questions, the class' side, 5: both, thumbs, reach ===== -/
theorem cE_al {F : qFam} {al : Nat → Bool} {ps : Nat → Nat} {b : Nat → Bool} {n i h : Nat} {c : List Nat} (hc : c ∈ cE (F.2 2) (cK F ps) (cA F al ps) b n 0 0) (hi : i < n) (hb : (c.getD i 0).testBit h = true) : al h = true ∧ h < 9 := by
  obtain ⟨q1, q2, -⟩ := cE_st hc hi
  unfold cOk at q2
  rw [Bool.and_eq_true, Bool.and_eq_true, Bool.and_eq_true] at q2
  have h9 : h < 9 := by
    rcases Nat.lt_or_ge h 9 with q | q
    · exact q
    · rw [Nat.testBit_lt_two_pow (Nat.lt_of_lt_of_le q1 (show 2 ^ 9 ≤ 2 ^ h from Nat.pow_le_pow_right (by decide) q))] at hb
      exact Bool.noConfusion hb
  have := (nsub q1).mp q2.1.1.2 h h9 hb
  unfold cA at this
  rw [bm_tb, Bool.and_eq_true, Bool.and_eq_true] at this
  exact ⟨this.2.1, h9⟩
theorem un_al {F : qFam} {al : Nat → Bool} {ps : Nat → Nat} {n h : Nat} {c : List Nat} (W : qWF F) (hc : c ∈ cT F al ps n 0 0) (hb : (un 0 c n).testBit h = true) : al h = true ∧ h < 9 := by
  obtain ⟨u1, u2⟩ := un_fit hc W n (Nat.le_refl _)
  have h9 : h < 9 := by
    rcases Nat.lt_or_ge h 9 with q | q
    · exact q
    · rw [Nat.testBit_lt_two_pow (Nat.lt_of_lt_of_le u2 (show 2 ^ 9 ≤ 2 ^ h from Nat.pow_le_pow_right (by decide) q))] at hb
      exact Bool.noConfusion hb
  have e := congrArg (fun m => Nat.testBit m h) u1.2.2.1
  simp only [Nat.testBit_and, bm_tb, hb, Bool.true_and, Bool.and_eq_true] at e
  exact ⟨e.2, h9⟩
def aThm (F : qFam) (S : qSt) (a h : Nat) : Bool := decide (h < F.1 0 0) && (aAct F S (aAlv F S) a).all (fun c => (un 0 c (F.1 8 a)).testBit h)
def rThm (F : qFam) (S : qSt) (a : Int) : Int32 ⊕ Nat := if 0 ≤ a ∧ a < F.1 0 2 then .inl (match aAct F S (aAlv F S) a.toNat with | [] => qj 0 | _ :: _ => qj (bm 9 (aThm F S a.toNat) : Nat)) else .inr 0
def aRe (F : qFam) (S : qSt) (h a p : Nat) : Bool := anb (F.1 8 a) (fun i => (F.1 (10 + a) i == p) && (aAct F S (aAlv F S) a).any (fun c => (c.getD i 0).testBit h))
def rRea (F : qFam) (S : qSt) (h : Int) : Int32 ⊕ Nat := if 0 ≤ h ∧ h < F.1 0 0 then .inl (qj (bm 8 (fun p => anb (F.1 0 2) (fun a => aRe F S h.toNat a p)) : Nat)) else .inr 0
/-- two acts behind one another -/
def aPs (F : qFam) (a b i : Nat) : Nat := if i < F.1 8 a then F.1 (10 + a) i else F.1 (10 + b) (i - F.1 8 a)
def aLs (F : qFam) (a b i : Nat) : Nat := if i < F.1 8 a then F.1 7 a else F.1 7 b
def aTwo (F : qFam) (S : qSt) (a b : Nat) : List (List Nat) := cE (F.2 2) (cK F (aPs F a b)) (cA F (aAlv F S) (aPs F a b)) (fun i => decide (aLs F a b i ≤ S.1 3 (aPs F a b i))) (F.1 8 a + F.1 8 b) 0 0
def aBth (F : qFam) (S : qSt) (a b : Nat) : Bool := !anb 8 (fun p => aBt F a p && aBt F b p) && !(aTwo F S a b).isEmpty
def rBth (F : qFam) (S : qSt) (a b : Int) : Int32 ⊕ Nat := if (0 ≤ a ∧ a < F.1 0 2) ∧ 0 ≤ b ∧ b < F.1 0 2 then (if a = b then .inr 1 else .inl (qb (aBth F S a.toNat b.toNat))) else .inr 0
theorem aPs_ok {F : qFam} (W : qWF F) {a b : Nat} (ha : a < F.1 0 2) (hb : b < F.1 0 2) : ∀ i, i < F.1 8 a + F.1 8 b → aPs F a b i < F.1 0 1 := by
  intro i hi
  unfold aPs
  split
  · exact (W.2.2.2.2.2.2.1 a ha).2.2.2.1 i (by assumption)
  · exact (W.2.2.2.2.2.2.1 b hb).2.2.2.1 _ (by omega)
theorem aPs_n {F : qFam} (W : qWF F) {a b : Nat} (ha : a < F.1 0 2) (hb : b < F.1 0 2) (h : anb 8 (fun p => aBt F a p && aBt F b p) = false) : F.1 8 a + F.1 8 b ≤ F.1 0 1 := by
  have h8 := W.2.1
  have hinj : ∀ i, i < F.1 8 a + F.1 8 b → ∀ j, j < i → aPs F a b i ≠ aPs F a b j := by
    intro i hi j hj
    unfold aPs
    by_cases c1 : i < F.1 8 a
    · rw [if_pos c1, if_pos (by omega)]
      exact (W.2.2.2.2.2.2.1 a ha).2.2.2.2 i c1 j hj
    · rw [if_neg c1]
      by_cases c2 : j < F.1 8 a
      · rw [if_pos c2]
        intro e
        have hp := (W.2.2.2.2.2.2.1 a ha).2.2.2.1 j c2
        have q := (anb_false _ _).mp h (F.1 (10 + a) j) (by omega)
        rw [Bool.and_eq_false_iff] at q
        rcases q with q | q
        · unfold aBt at q
          have := (anb_false _ _).mp q j c2
          rw [beq_self_eq_true] at this; exact Bool.noConfusion this
        · unfold aBt at q
          have := (anb_false _ _).mp q (i - F.1 8 a) (by omega)
          rw [e, beq_self_eq_true] at this; exact Bool.noConfusion this
      · rw [if_neg c2]
        exact (W.2.2.2.2.2.2.1 b hb).2.2.2.2 _ (by omega) _ (by omega)
  have e := sm_inj (f := fun _ => 1) (aPs_ok W ha hb) hinj
  have l : ∀ N (q : Nat → Bool), sm N (fun p => if q p = true then 1 else 0) ≤ N := by
    intro N q
    induction N with
    | zero => exact Nat.le_refl _
    | succ N ih => rw [sm]; split <;> omega
  have l2 : ∀ n, sm n (fun _ => 1) = n := by
    intro n
    induction n with
    | zero => rfl
    | succ n ih => rw [sm, ih]
  have := l (F.1 0 1) (fun p => anb (F.1 8 a + F.1 8 b) (fun i => aPs F a b i == p))
  rw [e, l2] at this; exact this
section ASK5
variable {d : Nat} {g : qG1} {I : Nat → Nat → Int32} {F : qFam} {L : qLw} {B : qBk} {S S0 : qSt} {Im : Nat → qSt} {C T : Nat → Nat} {P : Int} {f s : Nat}
theorem f113 (hd : 9 ≤ d) (X : qAbs F L B S S0 Im C T) (H : qCls g I F L B S S0 Im C T P) {z : Int} (hz : -2147483648 ≤ z ∧ z < 2147483648) : qCQ d 113 [.ref 64, .int (qj z)] g I (rThm F S z) := by
  have W := X.1
  have WS := X.2.2.2.1.1
  have hy : S.1 0 0 ≤ 1000 := Nat.le_trans X.2.2.2.1.2.1 (by decide)
  have h9 := W.1
  have h8 := W.2.1
  have w3 := W.2.2.1
  have hf := H.1.1
  have hl := H.1.2.2.2.1
  have hb := H.1.2.2.2.2.2.2.1
  have RF := H.2.1
  have RS := H.2.2.2.2.1
  have hs9 : qisS 139 := by unfold qisS; omega
  have hC := H.2.2.2.2.2.2.2.2.2.2.2.2.2.2.1
  unfold rThm
  have f3 := RF.2.2.1
  by_cases h : 0 ≤ z ∧ z < F.1 0 2
  · rw [if_pos h]
    obtain ⟨n, rfl⟩ : ∃ n : Nat, z = n := ⟨z.toNat, by omega⟩
    rw [Int.toNat_natCast]
    have hwa := W.2.2.2.2.2.2.1 n (by omega)
    obtain ⟨J2, e1, e2, e3⟩ := c148 (d := d - 1) (g := g) (by omega) hf hs9 rfl RF RS W WS hC (al := aAlv F S) (fun h => aAlv_h) (a := n) (by omega)
    have hln := aAct_len (S := S) (al := aAlv F S) W (show n < F.1 0 2 by omega)
    have k55 := c55' (d := d - 1) (g := g) (by omega) hs9 hf RF W RS hy
    cases hq : aAct F S (aAlv F S) n with
    | nil =>
      refine qCQ_inl J2 (fun Q hQ => b113_0 hf rfl (by omega) ?_) (qFq_c e2)
      rw [hq] at e1
      simp (disch := omega) only [qz0, qj_lt, qj_le, qj_eq, qtk, qfk, qbtt, qbft, qbtf, qbff, qIx_z, qj_nat, true_and, and_true, true_implies, false_implies, not_true_eq_false, not_false_eq_true, Bool.true_eq_false, Bool.false_eq_true, f3]
      refine ⟨_, _, k55, _, _, e1, ?_⟩
      simp (disch := omega) only [qz0, qj_lt, qj_le, qj_eq, qtk, qfk, qbtt, qbft, qbtf, qbff, qIx_z, qj_nat, true_and, and_true, true_implies, false_implies, not_true_eq_false, not_false_eq_true, Bool.true_eq_false, Bool.false_eq_true, List.length_nil]
      exact hQ
    | cons c l =>
      obtain ⟨a1, a2, a3⟩ := e3 (by rw [hq]; exact List.cons_ne_nil _ _)
      obtain ⟨J3, A, V, m1, m2, m3, m4, m5, m6⟩ := c13 (d := d - 1) (g := g) (hand := 0) (by omega) W (qFc_C e2 hC) (fun i hi => hwa.2.2.2.1 i hi) a1 a2 (by omega) (by rw [← a3, hq]; exact List.cons_ne_nil _ _)
      have hp : 0 < (c :: l).length := Nat.succ_pos _
      rw [hq] at e1 hln
      refine qCQ_inl J3 (fun Q hQ => b113_0 hf rfl (by omega) ?_) (qFq_c (qFc_tr e2 (qFf_c m2)))
      simp (disch := omega) only [qz0, qj_lt, qj_le, qj_eq, qtk, qfk, qbtt, qbft, qbtf, qbff, qIx_z, qj_nat, true_and, and_true, true_implies, false_implies, not_true_eq_false, not_false_eq_true, Bool.true_eq_false, Bool.false_eq_true, f3]
      refine ⟨_, _, k55, _, _, e1, ?_⟩
      simp (disch := omega) only [qz0, qj_lt, qj_le, qj_eq, qtk, qfk, qbtt, qbft, qbtf, qbff, qIx_z, qj_nat, true_and, and_true, true_implies, false_implies, not_true_eq_false, not_false_eq_true, Bool.true_eq_false, Bool.false_eq_true]
      refine ⟨_, m1, ?_⟩
      have e : bm 9 (aThm F S n) = bm 9 A := bm_ext (fun k hk => by
        rw [Bool.eq_iff_iff, m5 k]
        unfold aThm
        rw [a3, Bool.and_eq_true, decide_eq_true_iff, List.all_eq_true]
        constructor
        · rintro ⟨q1, q2⟩
          refine ⟨(un_al W (c := c) (by rw [← a3, hq]; exact List.mem_cons_self) (q2 c (by rw [← a3, hq]; exact List.mem_cons_self))).1, q2⟩
        · rintro ⟨q1, q2⟩
          exact ⟨aAlv_h q1, q2⟩)
      have hQ : Q (.inl (some (.int (qj (bm 9 (aThm F S n) : Nat))), qw g J3)) := hQ
      rw [e] at hQ
      rw [m3]; exact hQ
  · rw [if_neg h]
    refine qCQ_0 fun Q hQ => b113_0 hf rfl (by omega) ?_
    simp (disch := omega) only [qz0, qj_lt, qj_le, f3]
    exact qrfu hQ (fun c => qrfu hQ (fun c => by omega))
theorem f114 (hd : 9 ≤ d) (X : qAbs F L B S S0 Im C T) (H : qCls g I F L B S S0 Im C T P) {z : Int} (hz : -2147483648 ≤ z ∧ z < 2147483648) : qCQ d 114 [.ref 64, .int (qj z)] g I (rRea F S z) := by
  have W := X.1
  have WS := X.2.2.2.1.1
  have hy : S.1 0 0 ≤ 1000 := Nat.le_trans X.2.2.2.1.2.1 (by decide)
  have h9 := W.1
  have h8 := W.2.1
  have w3 := W.2.2.1
  have hf := H.1.1
  have hl := H.1.2.2.2.1
  have hb := H.1.2.2.2.2.2.2.1
  have RF := H.2.1
  have RS := H.2.2.2.2.1
  have hs9 : qisS 139 := by unfold qisS; omega
  have hC := H.2.2.2.2.2.2.2.2.2.2.2.2.2.2.1
  unfold rRea
  have f1 := RF.1
  by_cases h : 0 ≤ z ∧ z < F.1 0 0
  · rw [if_pos h]
    obtain ⟨n, rfl⟩ : ∃ n : Nat, z = n := ⟨z.toNat, by omega⟩
    rw [Int.toNat_natCast]
    have k55 := c55' (d := d - 1) (g := g) (by omega) hs9 hf RF W RS hy
    have hb := qhas_bm 9 (aAlv F S) (k := n) (by omega) (by omega)
    cases ha : aAlv F S n with
    | false =>
      rw [ha] at hb
      have e : bm 8 (fun p => anb (F.1 0 2) (fun a => aRe F S n a p)) = 0 := bm_zero.mpr (fun p _ => (anb_false _ _).mpr (fun a ha2 => (anb_false _ _).mpr (fun i hi => by
        cases hx : (aAct F S (aAlv F S) a).any (fun c => (c.getD i 0).testBit n) with
        | false => rw [Bool.and_false]
        | true =>
          rw [List.any_eq_true] at hx
          obtain ⟨c, hc, hbit⟩ := hx
          have := (cE_al hc hi hbit).1
          rw [ha] at this; exact Bool.noConfusion this)))
      rw [e]
      refine qCQ_inl I (fun Q hQ => b114_0 hf rfl (by omega) ?_) qFq_rf
      simp (disch := omega) only [qz0, qj_lt, qj_le, qj_eq, qtk, qfk, qbtt, qbft, qbtf, qbff, qIx_z, qj_nat, true_and, and_true, true_implies, false_implies, not_true_eq_false, not_false_eq_true, Bool.true_eq_false, Bool.false_eq_true, f1]
      refine ⟨_, _, k55, ?_⟩
      simp (disch := omega) only [qz0, qj_lt, qj_le, qj_eq, qtk, qfk, qbtt, qbft, qbtf, qbff, qIx_z, qj_nat, true_and, and_true, true_implies, false_implies, not_true_eq_false, not_false_eq_true, Bool.true_eq_false, Bool.false_eq_true, hb]
      exact hQ
    | true =>
      rw [ha] at hb
      have key : ∀ i, i ≤ F.1 0 2 → ∀ J, qFq g I J → ∃ I', qFq g I I' ∧ ∀ Q : qR → Prop, Q (.inl (some (.int (qj (bm 8 (fun p => anb (F.1 0 2) (fun a => aRe F S n a p)) : Nat))), qw g I')) → qwq d 114 32 [(0, .ref 64), (1, .int (qj n)), (2, .int (qj (bm 8 (fun p => anb i (fun a => aRe F S n a p)) : Nat))), (3, .int (qj (bm 9 (aAlv F S) : Nat))), (4, .int (qj i))] [] (qw g J) Q := by
        refine upto _ (fun J hJ => ⟨J, hJ, fun Q hQ => b114_32 hf rfl (by omega) ?_⟩) (fun i hi ih J hJ => ?_)
        · have f3 := (qAfF X H hJ).2.2.1
          simp (disch := omega) only [qz0, qj_lt, qj_le, qj_eq, qtk, qfk, qbtt, qbft, qbtf, qbff, qIx_z, qj_nat, true_and, and_true, true_implies, false_implies, not_true_eq_false, not_false_eq_true, Bool.true_eq_false, Bool.false_eq_true, f3]
          exact hQ
        · have f3 := (qAfF X H hJ).2.2.1
          have hwa := W.2.2.2.2.2.2.1 i (by omega)
          obtain ⟨J2, e1, e2, e3⟩ := c148 (d := d - 1) (g := g) (by omega) hf hs9 rfl (qAfF X H hJ) (qAfS X H hJ) W WS (qAfC X H hJ) (al := aAlv F S) (fun h => aAlv_h) (a := i) (by omega)
          have hln := aAct_len (S := S) (al := aAlv F S) W (show i < F.1 0 2 by omega)
          have h2 := qFq_tr hJ (qFq_c e2)
          cases hq : aAct F S (aAlv F S) i with
          | nil =>
            rw [hq] at e1
            have e : bm 8 (fun p => anb i (fun a => aRe F S n a p)) = bm 8 (fun p => anb (i + 1) (fun a => aRe F S n a p)) := bm_ext (fun p _ => by
              show _ = (anb i (fun a => aRe F S n a p) || aRe F S n i p)
              have : aRe F S n i p = false := (anb_false _ _).mpr (fun j hj => by rw [hq]; exact Bool.and_false _)
              rw [this, Bool.or_false])
            obtain ⟨I', r1, r2⟩ := ih J2 h2
            refine ⟨I', r1, fun Q hQ => b114_32 hf rfl (by omega) ?_⟩
            simp (disch := omega) only [qz0, qj_lt, qj_le, qj_eq, qtk, qfk, qbtt, qbft, qbtf, qbff, qIx_z, qj_nat, true_and, and_true, true_implies, false_implies, not_true_eq_false, not_false_eq_true, Bool.true_eq_false, Bool.false_eq_true, f3]
            refine ⟨_, _, e1, ?_⟩
            simp (disch := omega) only [qz0, qj_lt, qj_le, qj_eq, qtk, qfk, qbtt, qbft, qbtf, qbff, qIx_z, qj_nat, true_and, and_true, true_implies, false_implies, not_true_eq_false, not_false_eq_true, Bool.true_eq_false, Bool.false_eq_true, List.length_nil, qj_add, qj_s1]
            rw [e]
            exact r2 Q hQ
          | cons c l =>
            obtain ⟨a1, a2, a3⟩ := e3 (by rw [hq]; exact List.cons_ne_nil _ _)
            obtain ⟨J3, A, V, m1, m2, m3, m4, m5, m6⟩ := c13 (d := d - 1) (g := g) (hand := n) (by omega) W (qAfC X H h2) (fun i hi => hwa.2.2.2.1 i hi) a1 a2 (by omega) (by rw [← a3, hq]; exact List.cons_ne_nil _ _)
            have h3 := qFq_tr h2 (qFq_c (qFf_c m2))
            have hp : 0 < (c :: l).length := Nat.succ_pos _
            rw [hq] at e1 hln
            have e : bm 8 (fun k => anb i (fun a => aRe F S n a k) || V k) = bm 8 (fun p => anb (i + 1) (fun a => aRe F S n a p)) := bm_ext (fun p _ => by
              show _ = (anb i (fun a => aRe F S n a p) || aRe F S n i p)
              have : V p = aRe F S n i p := by
                rw [Bool.eq_iff_iff, m6 p]
                unfold aRe
                rw [anb_iff, a3]
                constructor
                · rintro ⟨c, hc, j, hj, q1, q2⟩
                  exact ⟨j, hj, by rw [q1, beq_self_eq_true, Bool.true_and, List.any_eq_true]; exact ⟨c, hc, q2⟩⟩
                · rintro ⟨j, hj, q⟩
                  rw [Bool.and_eq_true, beq_iff_eq, List.any_eq_true] at q
                  obtain ⟨q1, c, hc, q2⟩ := q
                  exact ⟨c, hc, j, hj, q1.symm, q2⟩
              rw [this])
            obtain ⟨I', r1, r2⟩ := ih J3 h3
            refine ⟨I', r1, fun Q hQ => b114_32 hf rfl (by omega) ?_⟩
            simp (disch := omega) only [qz0, qj_lt, qj_le, qj_eq, qtk, qfk, qbtt, qbft, qbtf, qbff, qIx_z, qj_nat, true_and, and_true, true_implies, false_implies, not_true_eq_false, not_false_eq_true, Bool.true_eq_false, Bool.false_eq_true, f3]
            refine ⟨_, _, e1, ?_⟩
            simp (disch := omega) only [qz0, qj_lt, qj_le, qj_eq, qtk, qfk, qbtt, qbft, qbtf, qbff, qIx_z, qj_nat, true_and, and_true, true_implies, false_implies, not_true_eq_false, not_false_eq_true, Bool.true_eq_false, Bool.false_eq_true]
            refine ⟨_, m1, ?_⟩
            rw [m4, qbm_or, e]
            simp (disch := omega) only [qj_add, qj_s1]
            exact r2 Q hQ
      obtain ⟨I', r1, r2⟩ := key 0 (Nat.zero_le _) I qFq_rf
      have e0 : bm 8 (fun p => anb 0 (fun a => aRe F S n a p)) = 0 := bm_zero.mpr (fun _ _ => rfl)
      rw [e0] at r2
      refine qCQ_inl I' (fun Q hQ => b114_0 hf rfl (by omega) ?_) r1
      simp (disch := omega) only [qz0, qj_lt, qj_le, qj_eq, qtk, qfk, qbtt, qbft, qbtf, qbff, qIx_z, qj_nat, true_and, and_true, true_implies, false_implies, not_true_eq_false, not_false_eq_true, Bool.true_eq_false, Bool.false_eq_true, f1]
      refine ⟨_, _, k55, ?_⟩
      simp (disch := omega) only [qz0, qj_lt, qj_le, qj_eq, qtk, qfk, qbtt, qbft, qbtf, qbff, qIx_z, qj_nat, true_and, and_true, true_implies, false_implies, not_true_eq_false, not_false_eq_true, Bool.true_eq_false, Bool.false_eq_true, hb]
      exact r2 Q hQ
  · rw [if_neg h]
    refine qCQ_0 fun Q hQ => b114_0 hf rfl (by omega) ?_
    simp (disch := omega) only [qz0, qj_lt, qj_le, f1]
    exact qrfu hQ (fun c => qrfu hQ (fun c => by omega))
theorem f112 (hd : 9 ≤ d) (X : qAbs F L B S S0 Im C T) (H : qCls g I F L B S S0 Im C T P) {z w : Int} (hz : -2147483648 ≤ z ∧ z < 2147483648) (hw : -2147483648 ≤ w ∧ w < 2147483648) : qCQ d 112 [.ref 64, .int (qj z), .int (qj w)] g I (rBth F S z w) := by
  have W := X.1
  have WS := X.2.2.2.1.1
  have hy : S.1 0 0 ≤ 1000 := Nat.le_trans X.2.2.2.1.2.1 (by decide)
  have h9 := W.1
  have h8 := W.2.1
  have w3 := W.2.2.1
  have hf := H.1.1
  have hl := H.1.2.2.2.1
  have hb := H.1.2.2.2.2.2.2.1
  have RF := H.2.1
  have RS := H.2.2.2.2.1
  have hs9 : qisS 139 := by unfold qisS; omega
  have hC := H.2.2.2.2.2.2.2.2.2.2.2.2.2.2.1
  unfold rBth
  have f3 := RF.2.2.1
  by_cases h : (0 ≤ z ∧ z < F.1 0 2) ∧ 0 ≤ w ∧ w < F.1 0 2
  · rw [if_pos h]
    by_cases h2 : z = w
    · rw [if_pos h2]
      refine qCQ_1 fun Q hQ => b112_0 hf rfl (by omega) ?_
      simp (disch := omega) only [qz0, qj_lt, qj_le, qj_eq, qtk, qfk, qbtt, qbft, qbtf, qbff, qIx_z, qj_nat, true_and, and_true, true_implies, false_implies, not_true_eq_false, not_false_eq_true, Bool.true_eq_false, Bool.false_eq_true, f3]
      exact hQ
    · rw [if_neg h2]
      obtain ⟨a, rfl⟩ : ∃ n : Nat, z = n := ⟨z.toNat, by omega⟩
      obtain ⟨b, rfl⟩ : ∃ n : Nat, w = n := ⟨w.toNat, by omega⟩
      rw [Int.toNat_natCast, Int.toNat_natCast]
      have ha : a < F.1 0 2 := by omega
      have hb : b < F.1 0 2 := by omega
      have k1 := c32 (d := d - 1) (g := g) (by omega) hf RF W ha
      have k2 := c32 (d := d - 1) (g := g) (by omega) hf RF W hb
      have k55 := c55' (d := d - 1) (g := g) (by omega) hs9 hf RF W RS hy
      cases hsh : anb 8 (fun p => aBt F a p && aBt F b p) with
      | true =>
        have e : aBth F S a b = false := by unfold aBth; rw [hsh]; rfl
        have ne : ¬ qj (bm 8 (fun k => aBt F a k && aBt F b k) : Nat) = qj 0 := by
          rw [qbm_eq0 (by omega)]
          intro c
          rw [(anb_false _ _).mpr c] at hsh
          exact Bool.noConfusion hsh
        refine qCQ_inl I (fun Q hQ => b112_0 hf rfl (by omega) ?_) qFq_rf
        rw [e] at hQ
        simp (disch := omega) only [qz0, qj_lt, qj_le, qj_eq, qtk, qfk, qbtt, qbft, qbtf, qbff, qIx_z, qj_nat, true_and, and_true, true_implies, false_implies, not_true_eq_false, not_false_eq_true, Bool.true_eq_false, Bool.false_eq_true, f3]
        refine ⟨_, _, k1, _, _, k2, ?_⟩
        rw [qbm_and]
        exact ⟨fun c => absurd c ne, fun _ => hQ⟩
      | false =>
        have hn := aPs_n W ha hb hsh
        have e0 : qj (bm 8 (fun k => aBt F a k && aBt F b k) : Nat) = qj 0 := (qbm_eq0 (by omega)).mpr ((anb_false _ _).mp hsh)
        obtain ⟨J1, a1, a2, a3⟩ := c6 (d := d - 1) (g := g) (I := I) (al := aAlv F S) (by omega)
        obtain ⟨J2, v, b1, b2, b3, b4⟩ := c7 (d := d - 1) (g := g) (n := 0) (ps := aPs F a b) (by omega) hf hs9 (qFc_F a3 hf RF) (qFc_S a3 hs9 RS) W WS (fun h => aAlv_h) ha (fun i hi => by rw [Nat.zero_add]; unfold aPs; rw [if_pos hi]) (a2 F _)
        rw [Nat.zero_add] at b3 b4
        have h2 := qFc_tr a3 b2
        cases v with
        | false =>
          have hnil : aTwo F S a b = [] := by
            rcases b4 rfl with ⟨i, hi, h⟩ | ⟨m, hm, h⟩
            · exact cE_nob _ _ _ _ (j := i) (decide_eq_false (by unfold aLs aPs; rw [if_pos hi, if_pos hi]; omega)) _ _ _ (Nat.zero_le _) (by omega)
            · rcases h with h | h
              · omega
              · exact cE_no (by omega) h
          have e : aBth F S a b = false := by unfold aBth; rw [hnil, hsh]; rfl
          refine qCQ_inl J2 (fun Q hQ => b112_0 hf rfl (by omega) ?_) (qFq_c h2)
          rw [e] at hQ
          simp (disch := omega) only [qz0, qj_lt, qj_le, qj_eq, qtk, qfk, qbtt, qbft, qbtf, qbff, qIx_z, qj_nat, true_and, and_true, true_implies, false_implies, not_true_eq_false, not_false_eq_true, Bool.true_eq_false, Bool.false_eq_true, f3]
          refine ⟨_, _, k1, _, _, k2, ?_⟩
          rw [qbm_and]
          exact ⟨fun _ => ⟨_, _, k55, _, a1, _, _, b1, fun _ => hQ, fun c => Bool.noConfusion c⟩, fun c => absurd e0 c⟩
        | true =>
          obtain ⟨c1, c2⟩ := b3 rfl
          obtain ⟨J3, v2, d1, d2, d3, d4⟩ := c7 (d := d - 1) (g := g) (n := F.1 8 a) (ps := aPs F a b) (by omega) hf hs9 (qFc_F h2 hf RF) (qFc_S h2 hs9 RS) W WS (fun h => aAlv_h) hb (fun i hi => by unfold aPs; rw [if_neg (by omega), Nat.add_sub_cancel_left]) c1
          have h3 := qFc_tr h2 d2
          cases v2 with
          | false =>
            have hnil : aTwo F S a b = [] := by
              rcases d4 rfl with ⟨i, hi, h⟩ | ⟨m, hm, h⟩
              · exact cE_nob _ _ _ _ (j := F.1 8 a + i) (decide_eq_false (by unfold aLs aPs; rw [if_neg (by omega), if_neg (by omega), Nat.add_sub_cancel_left]; omega)) _ _ _ (Nat.zero_le _) (by omega)
              · rcases h with h | h
                · omega
                · exact cE_no hm h
            have e : aBth F S a b = false := by unfold aBth; rw [hnil, hsh]; rfl
            refine qCQ_inl J3 (fun Q hQ => b112_0 hf rfl (by omega) ?_) (qFq_c h3)
            rw [e] at hQ
            simp (disch := omega) only [qz0, qj_lt, qj_le, qj_eq, qtk, qfk, qbtt, qbft, qbtf, qbff, qIx_z, qj_nat, true_and, and_true, true_implies, false_implies, not_true_eq_false, not_false_eq_true, Bool.true_eq_false, Bool.false_eq_true, f3]
            refine ⟨_, _, k1, _, _, k2, ?_⟩
            rw [qbm_and]
            exact ⟨fun _ => ⟨_, _, k55, _, a1, _, _, b1, fun c => Bool.noConfusion c, fun _ => ⟨_, _, d1, fun _ => hQ, fun c => Bool.noConfusion c⟩⟩, fun c => absurd e0 c⟩
          | true =>
            obtain ⟨g1, g2⟩ := d3 rfl
            obtain ⟨J4, e1, e2, e3, e4⟩ := c9 (d := d - 1) (g := g) (by omega) hf (qFc_F h3 hf RF) W (qFc_C h3 hC) (aPs_ok W ha hb) g1
            have heq : aTwo F S a b = cT F (aAlv F S) (aPs F a b) (F.1 8 a + F.1 8 b) 0 0 := cE_b _ _ _ (fun j _ hj => decide_eq_true (by
              unfold aLs aPs
              by_cases q : j < F.1 8 a
              · rw [if_pos q, if_pos q]; exact c2 j q
              · rw [if_neg q, if_neg q]; exact g2 _ (by omega)))
            have hln : (cT F (aAlv F S) (aPs F a b) (F.1 8 a + F.1 8 b) 0 0).length ≤ 362880 := by
              refine Nat.le_trans (cE_bnd _ _ _ _ _ _ _ (fun j h1 h2 => ?_) (by decide)) (fac_9 (Nat.sub_le _ _))
              have := W.2.2.2.2.2.1 _ (aPs_ok W ha hb j (by omega))
              unfold cK; omega
            have eB : aBth F S a b = !(cT F (aAlv F S) (aPs F a b) (F.1 8 a + F.1 8 b) 0 0).isEmpty := by unfold aBth; rw [hsh, heq]; rfl
            refine qCQ_inl J4 (fun Q hQ => b112_0 hf rfl (by omega) ?_) (qFq_c (qFc_tr h3 e2))
            rw [eB] at hQ
            simp (disch := omega) only [qz0, qj_lt, qj_le, qj_eq, qtk, qfk, qbtt, qbft, qbtf, qbff, qIx_z, qj_nat, true_and, and_true, true_implies, false_implies, not_true_eq_false, not_false_eq_true, Bool.true_eq_false, Bool.false_eq_true, f3]
            refine ⟨_, _, k1, _, _, k2, ?_⟩
            rw [qbm_and]
            refine ⟨fun _ => ⟨_, _, k55, _, a1, _, _, b1, fun c => Bool.noConfusion c, fun _ => ⟨_, _, d1, fun c => Bool.noConfusion c, fun _ => ⟨_, _, e1, ?_⟩⟩⟩, fun c => absurd e0 c⟩
            generalize cT F (aAlv F S) (aPs F a b) (F.1 8 a + F.1 8 b) 0 0 = E at hQ hln
            cases E with
            | nil => exact ⟨fun _ => hQ, fun c => absurd (by decide) c⟩
            | cons x l =>
              have hp : 0 < (x :: l).length := Nat.succ_pos _
              simp (disch := omega) only [qz0, qj_lt, qj_le, qj_eq, qtk, qfk, qbtt, qbft, qbtf, qbff, qIx_z, qj_nat, true_and, and_true, true_implies, false_implies, not_true_eq_false, not_false_eq_true, Bool.true_eq_false, Bool.false_eq_true]
              exact hQ
  · rw [if_neg h]
    refine qCQ_0 fun Q hQ => b112_0 hf rfl (by omega) ?_
    simp (disch := omega) only [qz0, qj_lt, qj_le, f3]
    exact qrfu hQ (fun c => qrfu hQ (fun c => qrfu hQ (fun c => qrfu hQ (fun c => by omega))))
end ASK5
