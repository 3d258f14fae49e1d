/-! ===== questions, the class' side, 4: lacking, cost, dearest ===== -/
theorem bm_selfn {n m : Nat} (h : m < 2 ^ n) : bm n (fun k => m.testBit k) = m := by
  apply Nat.eq_of_testBit_eq
  intro i
  rw [bm_tb]
  by_cases hi : i < n
  · simp [hi]
  · have : m.testBit i = false := Nat.testBit_lt_two_pow (Nat.lt_of_lt_of_le h (Nat.pow_le_pow_right (by decide) (by omega)))
    simp [this]
theorem qpc8 {m : Nat} (h : m < 256) : qpc (qj (m : Int)) = qj (cn 8 (fun k => m.testBit k) : Nat) := by
  have e : m = bm 8 (fun k => m.testBit k) := (bm_selfn (n := 8) h).symm
  have e2 : qpc (qj (m : Int)) = qpc (qj ((bm 8 (fun k => m.testBit k) : Nat) : Int)) := congrArg (fun x : Nat => qpc (qj (x : Int))) e
  rw [e2, qpc_bm (by omega)]
theorem qsub8 {m : Nat} (h : m < 256) (A : Nat → Bool) : (qj (m : Int) &&& (qj (bm 8 A : Nat) ^^^ qj (-1)) = qj 0) = (anb 8 (fun p => m.testBit p && !A p) = false) := by
  have e : m = bm 8 (fun k => m.testBit k) := (bm_selfn (n := 8) h).symm
  have e2 : qj (m : Int) &&& (qj (bm 8 A : Nat) ^^^ qj (-1)) = qj (bm 8 (fun k => m.testBit k && !(decide (k < 8) && A k)) : Nat) := by
    rw [← qj_clr, ← e]
  rw [e2, qbm_eq0 (by omega), anb_false]
  apply propext
  constructor
  · intro q k hk
    have := q k hk
    rw [decide_eq_true hk, Bool.true_and] at this; exact this
  · intro q k hk
    rw [decide_eq_true hk, Bool.true_and]; exact q k hk
def lkH (F : qFam) (al : Nat → Bool) (m h : Nat) : Bool := al h && anb 8 (fun p => m.testBit p && !F.2 1 h p)
def lkN (F : qFam) (m : Nat) : Nat := sm (F.1 0 1) (fun p => if m.testBit p = true then F.1 5 p else 0)
/-- the best set of puppets below m -/
def lkB (F : qFam) (S : qSt) (a : Nat) : Nat → Nat
  | 0 => 0
  | m + 1 => if 0 < m ∧ anb 8 (fun p => m.testBit p && !aBt F a p) = false ∧ (lkB F S a m = 0 ∨ cn 8 (fun k => m.testBit k) < cn 8 (fun k => (lkB F S a m).testBit k)) ∧ cn (F.1 0 0) (lkH F (aAlv F S) m) < lkN F m then m else lkB F S a m
theorem lkB_le (F : qFam) (S : qSt) (a : Nat) : ∀ m, lkB F S a m ≤ m
  | 0 => Nat.le_refl _
  | m + 1 => by
    rw [lkB]
    have := lkB_le F S a m
    split <;> omega
def rLck (F : qFam) (S : qSt) (a : Int) : Int32 ⊕ Nat := if 0 ≤ a ∧ a < F.1 0 2 then .inl (qj (lkB F S a.toNat 256 : Nat)) else .inr 0
def aWoh (al : Nat → Bool) (h k : Nat) : Bool := al k && !(k == h)
def aCo (F : qFam) (S : qSt) (h : Nat) : Nat := cn (F.1 0 2) (fun a => aPld F S (aAlv F S) a && !aPld F S (aWoh (aAlv F S) h) a)
def rCost (F : qFam) (S : qSt) (h : Int) : Int32 ⊕ Nat := if 0 ≤ h ∧ h < F.1 0 0 then .inl (qj (aCo F S h.toNat : Nat)) else .inr 0
/-- the dearest hand and its cost, below i -/
def aDr (F : qFam) (S : qSt) : Nat → Int × Int
  | 0 => (-1, -1)
  | i + 1 => if aAl F S i = true ∧ (aDr F S i).2 < aCo F S i then (i, aCo F S i) else aDr F S i
theorem aDr_b (F : qFam) (S : qSt) (h3 : F.1 0 2 ≤ 6) : ∀ i, -1 ≤ (aDr F S i).1 ∧ (aDr F S i).1 < i ∧ -1 ≤ (aDr F S i).2 ∧ (aDr F S i).2 ≤ 6
  | 0 => ⟨Int.le_refl _, (by decide : (-1 : Int) < ((0 : Nat) : Int)), Int.le_refl _, (by decide : (-1 : Int) ≤ 6)⟩
  | i + 1 => by
    obtain ⟨a1, a2, a3, a4⟩ := aDr_b F S h3 i
    have : aCo F S i ≤ 6 := Nat.le_trans (cn_le _ _) h3
    rw [aDr]
    split
    · exact ⟨by omega, by show (i : Int) < _; omega, by show (-1 : Int) ≤ (aCo F S i : Int); omega, by show (aCo F S i : Int) ≤ 6; omega⟩
    · exact ⟨a1, by omega, a3, a4⟩
section ASK4
variable {d : Nat} {g : qG1} {I : Nat → Nat → Int32} {F : qFam} {L : qLw} {B : qBk} {S S0 : qSt} {Im : Nat → qSt} {C T : Nat → Nat} {P : Int} {f s : Nat}
theorem c151 (hd : 2 ≤ d) (hf : qisF f) (wf : g.2.2.1 1 = f) (RF : qRF F I f) (W : qWF F) {m : Nat} (hm : m < 256) (al : Nat → Bool) : qRun d 151 [.ref 64, .int (qj m), .int (qj (bm 9 al : Nat))] (qw g I) (.inl (some (.int (qj (cn (F.1 0 0) (lkH F al m) : Nat))), qw g I)) := by
  refine qRun_of fun Q hQ => b151_0 (by omega) ?_
  have h9 := W.1
  have f1 := RF.1
  have L : ∀ i, i ≤ F.1 0 0 → qwq d 151 5 [(0, .ref 64), (1, .int (qj m)), (2, .int (qj (bm 9 al : Nat))), (3, .int (qj (cn i (lkH F al m) : Nat))), (4, .int (qj i))] [] (qw g I) Q := by
    refine upto _ (b151_5 hf wf (by omega) ?_) (fun i hi ih => b151_5 hf wf (by omega) ?_)
    · simp (disch := omega) only [qz0, qj_lt, qj_le, qj_eq, qtk, qfk, qbtt, qbft, qbtf, qbff, qIx_z, qj_nat, true_and, and_true, true_implies, false_implies, not_true_eq_false, not_false_eq_true, Bool.true_eq_false, Bool.false_eq_true, f1]
      exact hQ
    · have e := RF.2.2.2.2.2.2.2.2.1 i (by omega)
      have hb := qhas_bm 9 al (k := i) (by omega) (by omega)
      have hs := qsub8 hm (F.2 1 i)
      cases ha : al i with
      | false =>
        have : lkH F al m i = false := by unfold lkH; rw [ha]; rfl
        rw [ha] at hb
        rw [cn_sf this] at ih
        simp (disch := omega) only [qz0, qj_lt, qj_le, qj_eq, qtk, qfk, qbtt, qbft, qbtf, qbff, qIx_z, qj_nat, true_and, and_true, true_implies, false_implies, not_true_eq_false, not_false_eq_true, Bool.true_eq_false, Bool.false_eq_true, f1, hb, qj_add, qj_s1]
        exact ih
      | true =>
        rw [ha] at hb
        cases hn : anb 8 (fun p => m.testBit p && !F.2 1 i p) with
        | false =>
          have : lkH F al m i = false := by unfold lkH; rw [ha, hn]; rfl
          rw [cn_sf this] at ih
          simp (disch := omega) only [qz0, qj_lt, qj_le, qj_eq, qtk, qfk, qbtt, qbft, qbtf, qbff, qIx_z, qj_nat, true_and, and_true, true_implies, false_implies, not_true_eq_false, not_false_eq_true, Bool.true_eq_false, Bool.false_eq_true, f1, hb, e, hs, hn, qj_add, qj_s1]
          exact ih
        | true =>
          have : lkH F al m i = true := by unfold lkH; rw [ha, hn]; rfl
          rw [cn_st this] at ih
          simp (disch := omega) only [qz0, qj_lt, qj_le, qj_eq, qtk, qfk, qbtt, qbft, qbtf, qbff, qIx_z, qj_nat, true_and, and_true, true_implies, false_implies, not_true_eq_false, not_false_eq_true, Bool.true_eq_false, Bool.false_eq_true, f1, hb, e, hs, hn, qj_add, qj_s1]
          exact ih
  exact L 0 (Nat.zero_le _)
theorem c33' (hd : 2 ≤ d) (hf : qisF f) (RF : qRF F I f) (W : qWF F) {m : Nat} (hm : m < 256) : qRun d 33 [.ref f, .int (qj m)] (qw g I) (.inl (some (.int (qj (lkN F m : Nat))), qw g I)) := by
  have k := c33 (g := g) hd hf RF W (n := 8) (by omega) (fun k => m.testBit k) rfl
  rw [bm_selfn (n := 8) hm] at k
  exact k
theorem lkN_le (W : qWF F) (m : Nat) : lkN F m ≤ 16 := by
  have : ∀ n, n ≤ F.1 0 1 → sm n (fun p => if m.testBit p = true then F.1 5 p else 0) ≤ 2 * n := by
    intro n
    induction n with
    | zero => intro _; exact Nat.le_refl _
    | succ n ih =>
      intro h
      have := ih (by omega)
      have := (W.2.2.2.2.2.1 n (by omega)).2.2.1
      rw [sm]
      split <;> omega
  have := this _ (Nat.le_refl _)
  have := W.2.1
  unfold lkN; omega
theorem f108 (hd : 9 ≤ d) (X : qAbs F L B S S0 Im C T) (H : qCls g I F L B S S0 Im C T P) {z : Int} (hz : -2147483648 ≤ z ∧ z < 2147483648) : qCQ d 108 [.ref 64, .int (qj z)] g I (rLck F S z) := by
  have W := X.1
  have WS := X.2.2.2.1.1
  have hy : S.1 0 0 ≤ 1000 := Nat.le_trans X.2.2.2.1.2.1 (by decide)
  have h9 := W.1
  have h8 := W.2.1
  have w3 := W.2.2.1
  have hf := H.1.1
  have hl := H.1.2.2.2.1
  have hb := H.1.2.2.2.2.2.2.1
  have RF := H.2.1
  have RS := H.2.2.2.2.1
  have hs9 : qisS 139 := by unfold qisS; omega
  have hC := H.2.2.2.2.2.2.2.2.2.2.2.2.2.2.1
  unfold rLck
  have f3 := RF.2.2.1
  by_cases h : 0 ≤ z ∧ z < F.1 0 2
  · rw [if_pos h]
    obtain ⟨n, rfl⟩ : ∃ n : Nat, z = n := ⟨z.toNat, by omega⟩
    rw [Int.toNat_natCast]
    have key : ∀ i, i ≤ 256 → 1 ≤ i → ∀ Q : qR → Prop, Q (.inl (some (.int (qj (lkB F S n 256 : Nat))), qw g I)) → qwq d 108 32 [(0, .ref 64), (2, .int (qj (bm 8 (aBt F n) : Nat))), (3, .int (qj (bm 9 (aAlv F S) : Nat))), (4, .int (qj (lkB F S n i : Nat))), (5, .int (qj i))] [] (qw g I) Q := by
      refine upto _ (fun _ Q hQ => b108_32 hf rfl (by omega) ?_) (fun i hi ih h1 Q hQ => b108_32 hf rfl (by omega) ?_)
      · simp (disch := omega) only [qz0, qj_lt, qj_le, qj_eq, qtk, qfk, qbtt, qbft, qbtf, qbff, qIx_z, qj_nat, true_and, and_true, true_implies, false_implies, not_true_eq_false, not_false_eq_true, Bool.true_eq_false, Bool.false_eq_true]
        exact hQ
      · have ih := ih (by omega) Q hQ
        have hle := lkB_le F S n i
        have hs := qsub8 (m := i) (by omega) (aBt F n)
        have p1 := qpc8 (m := i) (by omega)
        have p2 := qpc8 (m := lkB F S n i) (by omega)
        have q1 := cn_le 8 (fun k => i.testBit k)
        have q2 := cn_le 8 (fun k => (lkB F S n i).testBit k)
        have q3 := lkN_le W i
        have q4 := cn_le (F.1 0 0) (lkH F (aAlv F S) i)
        have k33 := c33' (d := d - 1) (g := g) (by omega) hf RF W (m := i) (by omega)
        have k151 := c151 (d := d - 1) (g := g) (by omega) hf rfl RF W (m := i) (by omega) (aAlv F S)
        rw [lkB] at ih
        cases hS : anb 8 (fun p => i.testBit p && !aBt F n p) with
        | true =>
          rw [if_neg (fun c => by rw [hS] at c; exact Bool.noConfusion c.2.1)] at ih
          by_cases c2 : lkB F S n i = 0
          · rw [c2] at ih ⊢
            simp (disch := omega) only [qz0, qj_lt, qj_le, qj_eq, qtk, qfk, qbtt, qbft, qbtf, qbff, qIx_z, qj_nat, true_and, and_true, true_implies, false_implies, not_true_eq_false, not_false_eq_true, Bool.true_eq_false, Bool.false_eq_true, hs, hS, qj_add, qj_s1, not_false_eq_true]
            exact ih
          · by_cases c3 : cn 8 (fun k => i.testBit k) < cn 8 (fun k => (lkB F S n i).testBit k)
            · simp (disch := omega) only [qz0, qj_lt, qj_le, qj_eq, qtk, qfk, qbtt, qbft, qbtf, qbff, qIx_z, qj_nat, true_and, and_true, true_implies, false_implies, not_true_eq_false, not_false_eq_true, Bool.true_eq_false, Bool.false_eq_true, hs, hS, p1, p2, qj_add, qj_s1, not_false_eq_true]
              exact ih
            · simp (disch := omega) only [qz0, qj_lt, qj_le, qj_eq, qtk, qfk, qbtt, qbft, qbtf, qbff, qIx_z, qj_nat, true_and, and_true, true_implies, false_implies, not_true_eq_false, not_false_eq_true, Bool.true_eq_false, Bool.false_eq_true, hs, hS, p1, p2, qj_add, qj_s1, not_false_eq_true]
              exact ih
        | false =>
          by_cases c4 : cn (F.1 0 0) (lkH F (aAlv F S) i) < lkN F i
          · by_cases c2 : lkB F S n i = 0
            · rw [if_pos ⟨by omega, hS, Or.inl c2, c4⟩] at ih
              rw [c2]
              simp (disch := omega) only [qz0, qj_lt, qj_le, qj_eq, qtk, qfk, qbtt, qbft, qbtf, qbff, qIx_z, qj_nat, true_and, and_true, true_implies, false_implies, not_true_eq_false, not_false_eq_true, Bool.true_eq_false, Bool.false_eq_true, hs, hS, qj_add, qj_s1, not_false_eq_true]
              refine ⟨_, _, k33, _, _, k151, ?_⟩
              simp (disch := omega) only [qz0, qj_lt, qj_le, qj_eq, qtk, qfk, qbtt, qbft, qbtf, qbff, qIx_z, qj_nat, true_and, and_true, true_implies, false_implies, not_true_eq_false, not_false_eq_true, Bool.true_eq_false, Bool.false_eq_true, qj_add, qj_s1]
              exact ih
            · by_cases c3 : cn 8 (fun k => i.testBit k) < cn 8 (fun k => (lkB F S n i).testBit k)
              · rw [if_pos ⟨by omega, hS, Or.inr c3, c4⟩] at ih
                simp (disch := omega) only [qz0, qj_lt, qj_le, qj_eq, qtk, qfk, qbtt, qbft, qbtf, qbff, qIx_z, qj_nat, true_and, and_true, true_implies, false_implies, not_true_eq_false, not_false_eq_true, Bool.true_eq_false, Bool.false_eq_true, hs, hS, p1, p2, qj_add, qj_s1, not_false_eq_true]
                refine ⟨_, _, k33, _, _, k151, ?_⟩
                simp (disch := omega) only [qz0, qj_lt, qj_le, qj_eq, qtk, qfk, qbtt, qbft, qbtf, qbff, qIx_z, qj_nat, true_and, and_true, true_implies, false_implies, not_true_eq_false, not_false_eq_true, Bool.true_eq_false, Bool.false_eq_true, qj_add, qj_s1]
                exact ih
              · rw [if_neg (fun c => by omega)] at ih
                simp (disch := omega) only [qz0, qj_lt, qj_le, qj_eq, qtk, qfk, qbtt, qbft, qbtf, qbff, qIx_z, qj_nat, true_and, and_true, true_implies, false_implies, not_true_eq_false, not_false_eq_true, Bool.true_eq_false, Bool.false_eq_true, hs, hS, p1, p2, qj_add, qj_s1, not_false_eq_true]
                exact ih
          · rw [if_neg (fun c => by omega)] at ih
            by_cases c2 : lkB F S n i = 0
            · rw [c2] at ih ⊢
              simp (disch := omega) only [qz0, qj_lt, qj_le, qj_eq, qtk, qfk, qbtt, qbft, qbtf, qbff, qIx_z, qj_nat, true_and, and_true, true_implies, false_implies, not_true_eq_false, not_false_eq_true, Bool.true_eq_false, Bool.false_eq_true, hs, hS, qj_add, qj_s1, not_false_eq_true]
              refine ⟨_, _, k33, _, _, k151, ?_⟩
              simp (disch := omega) only [qz0, qj_lt, qj_le, qj_eq, qtk, qfk, qbtt, qbft, qbtf, qbff, qIx_z, qj_nat, true_and, and_true, true_implies, false_implies, not_true_eq_false, not_false_eq_true, Bool.true_eq_false, Bool.false_eq_true, qj_add, qj_s1]
              exact ih
            · by_cases c3 : cn 8 (fun k => i.testBit k) < cn 8 (fun k => (lkB F S n i).testBit k)
              · simp (disch := omega) only [qz0, qj_lt, qj_le, qj_eq, qtk, qfk, qbtt, qbft, qbtf, qbff, qIx_z, qj_nat, true_and, and_true, true_implies, false_implies, not_true_eq_false, not_false_eq_true, Bool.true_eq_false, Bool.false_eq_true, hs, hS, p1, p2, qj_add, qj_s1, not_false_eq_true]
                refine ⟨_, _, k33, _, _, k151, ?_⟩
                simp (disch := omega) only [qz0, qj_lt, qj_le, qj_eq, qtk, qfk, qbtt, qbft, qbtf, qbff, qIx_z, qj_nat, true_and, and_true, true_implies, false_implies, not_true_eq_false, not_false_eq_true, Bool.true_eq_false, Bool.false_eq_true, qj_add, qj_s1]
                exact ih
              · simp (disch := omega) only [qz0, qj_lt, qj_le, qj_eq, qtk, qfk, qbtt, qbft, qbtf, qbff, qIx_z, qj_nat, true_and, and_true, true_implies, false_implies, not_true_eq_false, not_false_eq_true, Bool.true_eq_false, Bool.false_eq_true, hs, hS, p1, p2, qj_add, qj_s1, not_false_eq_true]
                exact ih
    refine qCQ_inl I (fun Q hQ => b108_0 hf rfl (by omega) ?_) qFq_rf
    simp (disch := omega) only [qz0, qj_lt, qj_le, qj_eq, qtk, qfk, qbtt, qbft, qbtf, qbff, qIx_z, qj_nat, true_and, and_true, true_implies, false_implies, not_true_eq_false, not_false_eq_true, Bool.true_eq_false, Bool.false_eq_true, f3]
    exact ⟨_, _, c32 (by omega) hf RF W (by omega), _, _, c55' (by omega) hs9 hf RF W RS hy, key 1 (by omega) (by omega) Q hQ⟩
  · rw [if_neg h]
    refine qCQ_0 fun Q hQ => b108_0 hf rfl (by omega) ?_
    simp (disch := omega) only [qz0, qj_lt, qj_le, f3]
    exact qrfu hQ (fun c => qrfu hQ (fun c => by omega))
theorem c150 (hd : 7 ≤ d) (X : qAbs F L B S S0 Im C T) (H : qCls g I F L B S S0 Im C T P) {J : Nat → Nat → Int32} (hJ : qFq g I J) {h : Nat} (hh : h < F.1 0 0) : ∃ I', qRun d 150 [.ref 64, .int (qj h), .int (qj (bm (F.1 0 2) (aPld F S (aAlv F S)) : Nat))] (qw g J) (.inl (some (.int (qj (aCo F S h : Nat))), qw g I')) ∧ qFq g I I' := by
  have W := X.1
  have WS := X.2.2.2.1.1
  have hy : S.1 0 0 ≤ 1000 := Nat.le_trans X.2.2.2.1.2.1 (by decide)
  have h9 := W.1
  have h8 := W.2.1
  have w3 := W.2.2.1
  have hf := H.1.1
  have hl := H.1.2.2.2.1
  have hb := H.1.2.2.2.2.2.2.1
  have RF := H.2.1
  have RS := H.2.2.2.2.1
  have hs9 : qisS 139 := by unfold qisS; omega
  have hC := H.2.2.2.2.2.2.2.2.2.2.2.2.2.2.1
  obtain ⟨J2, e1, e2⟩ := c149 (d := d - 1) (g := g) (by omega) hf hs9 rfl (qAfF X H hJ) (qAfS X H hJ) W WS (qAfC X H hJ) (al := aWoh (aAlv F S) h) (fun h q => by unfold aWoh at q; rw [Bool.and_eq_true] at q; exact aAlv_h q.1)
  have ea : qj (bm 9 (aAlv F S) : Nat) &&& ((qj 1 <<< (qj (h : Int) &&& 31)) ^^^ qj (-1)) = qj (bm 9 (aWoh (aAlv F S) h) : Nat) := by
    rw [qshl1b 9 (by omega) (by omega), qj_clr, show bm 9 (aWoh (aAlv F S) h) = bm 9 (fun k => aAlv F S k && !(decide (k < 9) && k == h)) from bm_ext (fun k hk => by rw [decide_eq_true hk, Bool.true_and]; rfl)]
  have eb : qj (bm (F.1 0 2) (aPld F S (aAlv F S)) : Nat) &&& (qj (bm (F.1 0 2) (aPld F S (aWoh (aAlv F S) h)) : Nat) ^^^ qj (-1)) = qj (bm (F.1 0 2) (fun a => aPld F S (aAlv F S) a && !aPld F S (aWoh (aAlv F S) h) a) : Nat) := by
    rw [qj_clr]
    exact congrArg (fun x : Nat => qj (x : Int)) (bm_ext (fun k hk => by rw [decide_eq_true hk, Bool.true_and]))
  refine ⟨J2, qRun_of (fun Q hQ => b150_0 hf rfl (by omega) ⟨_, _, c55' (by omega) hs9 hf (qAfF X H hJ) W (qAfS X H hJ) hy, _, _, (by rw [ea]; exact e1), (by rw [eb, qpc_bm (by omega)]; exact hQ)⟩), qFq_tr hJ (qFq_c e2)⟩
theorem f110 (hd : 9 ≤ d) (X : qAbs F L B S S0 Im C T) (H : qCls g I F L B S S0 Im C T P) {z : Int} (hz : -2147483648 ≤ z ∧ z < 2147483648) : qCQ d 110 [.ref 64, .int (qj z)] g I (rCost F S z) := by
  have W := X.1
  have WS := X.2.2.2.1.1
  have hy : S.1 0 0 ≤ 1000 := Nat.le_trans X.2.2.2.1.2.1 (by decide)
  have h9 := W.1
  have h8 := W.2.1
  have w3 := W.2.2.1
  have hf := H.1.1
  have hl := H.1.2.2.2.1
  have hb := H.1.2.2.2.2.2.2.1
  have RF := H.2.1
  have RS := H.2.2.2.2.1
  have hs9 : qisS 139 := by unfold qisS; omega
  have hC := H.2.2.2.2.2.2.2.2.2.2.2.2.2.2.1
  unfold rCost
  have f1 := RF.1
  by_cases h : 0 ≤ z ∧ z < F.1 0 0
  · rw [if_pos h]
    obtain ⟨n, rfl⟩ : ∃ n : Nat, z = n := ⟨z.toNat, by omega⟩
    obtain ⟨J, k1, k2⟩ := f109 (d := d - 1) (by omega) X H
    obtain ⟨I', r1, r2⟩ := c150 (d := d - 1) (by omega) X H k2 (h := n) (by omega)
    refine qCQ_inl I' (fun Q hQ => b110_0 hf rfl (by omega) ?_) r2
    simp (disch := omega) only [qz0, qj_lt, qj_le, qj_eq, qtk, qfk, qbtt, qbft, qbtf, qbff, qIx_z, qj_nat, true_and, and_true, true_implies, false_implies, not_true_eq_false, not_false_eq_true, Bool.true_eq_false, Bool.false_eq_true, f1]
    exact ⟨_, _, k1, _, _, r1, hQ⟩
  · rw [if_neg h]
    refine qCQ_0 fun Q hQ => b110_0 hf rfl (by omega) ?_
    simp (disch := omega) only [qz0, qj_lt, qj_le, f1]
    exact qrfu hQ (fun c => qrfu hQ (fun c => by omega))
theorem f111 (hd : 8 ≤ d) (X : qAbs F L B S S0 Im C T) (H : qCls g I F L B S S0 Im C T P) : qCQ d 111 [.ref 64] g I (.inl (qj (aDr F S (F.1 0 0)).1)) := by
  have W := X.1
  have WS := X.2.2.2.1.1
  have hy : S.1 0 0 ≤ 1000 := Nat.le_trans X.2.2.2.1.2.1 (by decide)
  have h9 := W.1
  have h8 := W.2.1
  have w3 := W.2.2.1
  have hf := H.1.1
  have hl := H.1.2.2.2.1
  have hb := H.1.2.2.2.2.2.2.1
  have RF := H.2.1
  have RS := H.2.2.2.2.1
  have hs9 : qisS 139 := by unfold qisS; omega
  have hC := H.2.2.2.2.2.2.2.2.2.2.2.2.2.2.1
  have hb := aDr_b F S w3
  have key : ∀ i, i ≤ F.1 0 0 → ∀ J, qFq g I J → ∃ I', qFq g I I' ∧ ∀ Q : qR → Prop, Q (.inl (some (.int (qj (aDr F S (F.1 0 0)).1)), qw g I')) → qwq d 111 12 [(0, .ref 64), (1, .int (qj (bm (F.1 0 2) (aPld F S (aAlv F S)) : Nat))), (2, .int (qj (aDr F S i).1)), (3, .int (qj (aDr F S i).2)), (4, .int (qj i))] [] (qw g J) Q := by
    refine upto _ (fun J hJ => ⟨J, hJ, fun Q hQ => b111_12 hf rfl (by omega) ?_⟩) (fun i hi ih J hJ => ?_)
    · have f1 := (qAfF X H hJ).1
      simp (disch := omega) only [qz0, qj_lt, qj_le, qj_eq, qtk, qfk, qbtt, qbft, qbtf, qbff, qIx_z, qj_nat, true_and, and_true, true_implies, false_implies, not_true_eq_false, not_false_eq_true, Bool.true_eq_false, Bool.false_eq_true, f1]
      exact hQ
    · have f1 := (qAfF X H hJ).1
      have k54 := c54 (d := d - 1) (g := g) (by omega) hs9 hf (qAfF X H hJ) W (qAfS X H hJ) hy hi
      have hbi := hb i
      cases ha : aAl F S i with
      | false =>
        have e : aDr F S (i + 1) = aDr F S i := by rw [aDr, if_neg (fun c => by rw [ha] at c; exact Bool.noConfusion c.1)]
        rw [e] at ih
        obtain ⟨I', r1, r2⟩ := ih J hJ
        refine ⟨I', r1, fun Q hQ => b111_12 hf rfl (by omega) ?_⟩
        rw [ha] at k54
        simp (disch := omega) only [qz0, qj_lt, qj_le, qj_eq, qtk, qfk, qbtt, qbft, qbtf, qbff, qIx_z, qj_nat, true_and, and_true, true_implies, false_implies, not_true_eq_false, not_false_eq_true, Bool.true_eq_false, Bool.false_eq_true, f1]
        refine ⟨_, _, k54, ?_⟩
        simp (disch := omega) only [qz0, qj_lt, qj_le, qj_eq, qtk, qfk, qbtt, qbft, qbtf, qbff, qIx_z, qj_nat, true_and, and_true, true_implies, false_implies, not_true_eq_false, not_false_eq_true, Bool.true_eq_false, Bool.false_eq_true, qj_add, qj_s1]
        exact r2 Q hQ
      | true =>
        rw [ha] at k54
        obtain ⟨J2, m1, m2⟩ := c150 (d := d - 1) (by omega) X H hJ hi
        have hc : aCo F S i ≤ 6 := Nat.le_trans (cn_le _ _) w3
        by_cases c : (aDr F S i).2 < aCo F S i
        · have e : aDr F S (i + 1) = ((i : Int), (aCo F S i : Int)) := by rw [aDr, if_pos ⟨ha, c⟩]
          rw [e] at ih
          obtain ⟨I', r1, r2⟩ := ih J2 m2
          refine ⟨I', r1, fun Q hQ => b111_12 hf rfl (by omega) ?_⟩
          simp (disch := omega) only [qz0, qj_lt, qj_le, qj_eq, qtk, qfk, qbtt, qbft, qbtf, qbff, qIx_z, qj_nat, true_and, and_true, true_implies, false_implies, not_true_eq_false, not_false_eq_true, Bool.true_eq_false, Bool.false_eq_true, f1]
          refine ⟨_, _, k54, ?_⟩
          simp (disch := omega) only [qz0, qj_lt, qj_le, qj_eq, qtk, qfk, qbtt, qbft, qbtf, qbff, qIx_z, qj_nat, true_and, and_true, true_implies, false_implies, not_true_eq_false, not_false_eq_true, Bool.true_eq_false, Bool.false_eq_true]
          refine ⟨_, _, m1, ?_⟩
          simp (disch := omega) only [qz0, qj_lt, qj_le, qj_eq, qtk, qfk, qbtt, qbft, qbtf, qbff, qIx_z, qj_nat, true_and, and_true, true_implies, false_implies, not_true_eq_false, not_false_eq_true, Bool.true_eq_false, Bool.false_eq_true, qj_add, qj_s1]
          exact r2 Q hQ
        · have e : aDr F S (i + 1) = aDr F S i := by rw [aDr, if_neg (fun q => c q.2)]
          rw [e] at ih
          obtain ⟨I', r1, r2⟩ := ih J2 m2
          refine ⟨I', r1, fun Q hQ => b111_12 hf rfl (by omega) ?_⟩
          simp (disch := omega) only [qz0, qj_lt, qj_le, qj_eq, qtk, qfk, qbtt, qbft, qbtf, qbff, qIx_z, qj_nat, true_and, and_true, true_implies, false_implies, not_true_eq_false, not_false_eq_true, Bool.true_eq_false, Bool.false_eq_true, f1]
          refine ⟨_, _, k54, ?_⟩
          simp (disch := omega) only [qz0, qj_lt, qj_le, qj_eq, qtk, qfk, qbtt, qbft, qbtf, qbff, qIx_z, qj_nat, true_and, and_true, true_implies, false_implies, not_true_eq_false, not_false_eq_true, Bool.true_eq_false, Bool.false_eq_true]
          refine ⟨_, _, m1, ?_⟩
          simp (disch := omega) only [qz0, qj_lt, qj_le, qj_eq, qtk, qfk, qbtt, qbft, qbtf, qbff, qIx_z, qj_nat, true_and, and_true, true_implies, false_implies, not_true_eq_false, not_false_eq_true, Bool.true_eq_false, Bool.false_eq_true, qj_add, qj_s1]
          exact r2 Q hQ
  obtain ⟨J, k1, k2⟩ := f109 (d := d - 1) (by omega) X H
  obtain ⟨I', r1, r2⟩ := key 0 (Nat.zero_le _) J k2
  exact qCQ_inl I' (fun Q hQ => b111_0 (by omega) ⟨_, _, k1, r2 Q hQ⟩) r1
end ASK4
