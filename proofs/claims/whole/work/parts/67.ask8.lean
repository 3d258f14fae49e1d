/-! ===== questions, the class' side, 8: claims, heirs, nights, fates, counts ===== -/
def aCl (F : qFam) (S : qSt) (h : Nat) : Nat := if aAl F S h = true then sm (F.1 0 1) (fun p => if S.2.1 h p = true then S.1 3 p else 0) else 0
def aCls (F : qFam) (S : qSt) (x : Nat) : Nat := sm (F.1 0 0) (fun h => min x (aCl F S h))
theorem aCl_b {F : qFam} {S : qSt} (W : qWF F) (WS : qWS F S) (h : Nat) : aCl F S h ≤ 240 := by
  have h8 := W.2.1
  have : ∀ n, n ≤ F.1 0 1 → sm n (fun p => if S.2.1 h p = true then S.1 3 p else 0) ≤ 30 * n := by
    intro n
    induction n with
    | zero => intro _; exact Nat.le_refl _
    | succ n ih =>
      intro hn
      have := ih (by omega)
      have := WS.2.2.1 n (by omega)
      rw [sm]
      split <;> omega
  have := this _ (Nat.le_refl _)
  unfold aCl
  split <;> omega
theorem aClsn_b (F : qFam) (S : qSt) (x : Nat) : ∀ n, sm n (fun h => min x (aCl F S h)) ≤ x * n
  | 0 => Nat.le_refl _
  | n + 1 => by
    have := aClsn_b F S x n
    rw [sm, Nat.mul_succ]
    omega
def aGet (F : qFam) (S : qSt) (h e k : Nat) : Nat :=
  if aCls F S 240 ≤ e then aCl F S h else if k = 0 then e * aCl F S h / aCls F S 240 else min (aCl F S h) (aLd (fun x => decide (aCls F S (x + 1) ≤ e)) e 0)
def rGet (F : qFam) (S : qSt) (h e k : Int) : Int32 ⊕ Nat := if 0 ≤ h ∧ h < F.1 0 0 then (if (0 ≤ e ∧ e ≤ 999) ∧ 0 ≤ k ∧ k ≤ 1 then .inl (qj (aGet F S h.toNat e.toNat k.toNat : Nat)) else .inr 1) else .inr 0
def rHei (F : qFam) (L : qLw) (S : qSt) (p h : Int) : Int32 ⊕ Nat := if (0 ≤ p ∧ p < F.1 0 1) ∧ 0 ≤ h ∧ h < F.1 0 0 then .inl (qj (if S.2.1 h.toNat p.toNat = true then (aCh F L (aBur S h.toNat) p.toNat : Int) - 1 else -1)) else .inr 0
/-- the first that is so, of so many -/
def aFi (p : Nat → Bool) : Nat → Nat → Int
  | 0, _ => -1
  | r + 1, i => if p i = true then i else aFi p r (i + 1)
def aPrc (F : qFam) (L : qLw) (S : qSt) (h p x : Nat) : Bool := aCh F L (aLmp S h x) p == h + 1
def rPrc (F : qFam) (L : qLw) (S : qSt) (h p : Int) : Int32 ⊕ Nat := if (0 ≤ h ∧ h < F.1 0 0) ∧ 0 ≤ p ∧ p < F.1 0 1 then .inl (qj (aFi (aPrc F L S h.toNat p.toNat) 10 0)) else .inr 0
def rNgt (F : qFam) (S : qSt) (h : Int) : Int32 ⊕ Nat := if 0 ≤ h ∧ h < F.1 0 0 then .inl (qj ((aNg F S h.toNat : Int) - 1)) else .inr 0
/-- a year of fate: the state and the seed -/
def aFs (F : qFam) (L : qLw) (q : Nat) (T : qSt × Int32) : qSt × Int32 := (aLiv F L (aDm F (aYr T.1) T.2 (qj q)) (aYr T.1), aSd F (aYr T.1) T.2 (F.1 0 0))
def aFt (F : qFam) (L : qLw) (S : qSt) (x : Int32) (q n : Nat) : qSt := (itr (aFs F L q) n (S, x)).1
theorem aFt_ok {F : qFam} {L : qLw} (W : qWF F) {S : qSt} {x : Int32} {q : Nat} (WS : qWS F S) : ∀ n, qWS F (itr (aFs F L q) n (S, x)).1 ∧ (itr (aFs F L q) n (S, x)).1.1 0 0 = S.1 0 0 + n
  | 0 => ⟨WS, rfl⟩
  | n + 1 => by
    obtain ⟨a, b⟩ := aFt_ok (L := L) (x := x) (q := q) W WS n
    obtain ⟨y1, y2, y3⟩ := aYear_ok (L := L) (D := aDm F (aYr (itr (aFs F L q) n (S, x)).1) (itr (aFs F L q) n (S, x)).2 (qj q)) a W
    exact ⟨y1, Eq.trans y2 (by omega)⟩
def rFat (F : qFam) (L : qLw) (S : qSt) (x : Int32) (q n w : Int) : Int32 ⊕ Nat :=
  if (0 ≤ q ∧ q ≤ 16) ∧ (1 ≤ n ∧ n ≤ 40) ∧ 0 ≤ w ∧ w ≤ 3 then .inl (qj (let U := aFt F L S x q.toNat n.toNat; (if w = 0 then cn 9 (aAlv F U) else if w = 1 then cn (F.1 0 1) (fun p => decide (0 < aLk F U p)) else if w = 2 then cn (F.1 0 2) (aPld F U (aAlv F U)) else sm (F.1 0 1) (U.1 3) : Nat))) else .inr 1
def aMn (c : Nat → Nat) : Nat → Nat
  | 0 => 9
  | k + 1 => min (aMn c k) (c k)
def aMx (c : Nat → Nat) : Nat → Nat
  | 0 => 0
  | k + 1 => max (aMx c k) (c k)
theorem aMn_b (c : Nat → Nat) : ∀ k, aMn c k ≤ 9
  | 0 => Nat.le_refl _
  | k + 1 => Nat.le_trans (Nat.min_le_left _ _) (aMn_b c k)
theorem aMx_b {c : Nat → Nat} (h : ∀ k, c k ≤ 9) : ∀ k, aMx c k ≤ 9
  | 0 => Nat.zero_le _
  | k + 1 => Nat.max_le.mpr ⟨aMx_b h k, h k⟩
def aSpn (F : qFam) (L : qLw) (S : qSt) (x : Int32) (m q n w h : Nat) : Nat :=
  if w = 0 then aMn (fun i => cn 9 (aAlv F (aFt F L S (x + qj i) q n))) m else if w = 1 then aMx (fun i => cn 9 (aAlv F (aFt F L S (x + qj i) q n))) m else cn m (fun i => aAlv F (aFt F L S (x + qj i) q n) h)
def rSpn (F : qFam) (L : qLw) (S : qSt) (x : Int32) (m q n w h : Int) : Int32 ⊕ Nat :=
  if ((1 ≤ m ∧ m ≤ 20) ∧ (0 ≤ q ∧ q ≤ 16) ∧ (1 ≤ n ∧ n ≤ 40)) ∧ (0 ≤ w ∧ w ≤ 2) ∧ 0 ≤ h ∧ h < F.1 0 0 then .inl (qj (aSpn F L S x m.toNat q.toNat n.toNat w.toNat h.toNat : Nat)) else .inr 1
section ASK8
variable {d : Nat} {g : qG1} {I : Nat → Nat → Int32} {F : qFam} {L : qLw} {B : qBk} {S S0 : qSt} {Im : Nat → qSt} {C T : Nat → Nat} {P : Int} {f s b : Nat}
theorem c158 (hd : 3 ≤ d) (X : qAbs F L B S S0 Im C T) (H : qCls g I F L B S S0 Im C T P) {h : Nat} (hh : h < F.1 0 0) : qRun d 158 [.ref 64, .int (qj h)] (qw g I) (.inl (some (.int (qj (aCl F S h : Nat))), qw g I)) := by
  have W := X.1
  have WS := X.2.2.2.1.1
  have hy : S.1 0 0 ≤ 1000 := Nat.le_trans X.2.2.2.1.2.1 (by decide)
  have h9 := W.1
  have h8 := W.2.1
  have w3 := W.2.2.1
  have hf := H.1.1
  have hl := H.1.2.2.2.1
  have hb := H.1.2.2.2.2.2.2.1
  have RF := H.2.1
  have RS := H.2.2.2.2.1
  have hs9 : qisS 139 := by unfold qisS; omega
  have hC := H.2.2.2.2.2.2.2.2.2.2.2.2.2.2.1
  have f2 := RF.2.1
  have k54 := c54 (d := d - 1) (g := g) (by omega) hs9 hf RF W RS hy hh
  refine qRun_of fun Q hQ => b158_0 hf rfl (by omega) ⟨_, _, k54, ?_⟩
  cases ha : aAl F S h with
  | false =>
    rw [show aCl F S h = 0 by unfold aCl; rw [ha]; rfl] at hQ
    simp (disch := omega) only [qz0, qj_lt, qj_le, qj_eq, qtk, qfk, qbtt, qbft, qbtf, qbff, qIx_z, qj_nat, true_and, and_true, true_implies, false_implies, not_true_eq_false, not_false_eq_true, Bool.true_eq_false, Bool.false_eq_true]
    exact hQ
  | true =>
    rw [show aCl F S h = sm (F.1 0 1) (fun p => if S.2.1 h p = true then S.1 3 p else 0) by unfold aCl; rw [ha]; rfl] at hQ
    simp (disch := omega) only [qz0, qj_lt, qj_le, qj_eq, qtk, qfk, qbtt, qbft, qbtf, qbff, qIx_z, qj_nat, true_and, and_true, true_implies, false_implies, not_true_eq_false, not_false_eq_true, Bool.true_eq_false, Bool.false_eq_true]
    have s4 := (qNow RS).2.2.2.1 h (by omega)
    have key : ∀ i, i ≤ F.1 0 1 → qwq d 158 21 [(0, .ref 64), (1, .int (qj h)), (2, .int (qj (sm i (fun p => if S.2.1 h p = true then S.1 3 p else 0) : Nat))), (3, .int (qj i))] [] (qw g I) Q := by
      refine upto _ (b158_21 hf rfl (by omega) ?_) (fun i hi ih => b158_21 hf rfl (by omega) ?_)
      · simp (disch := omega) only [qz0, qj_lt, qj_le, qj_eq, qtk, qfk, qbtt, qbft, qbtf, qbff, qIx_z, qj_nat, true_and, and_true, true_implies, false_implies, not_true_eq_false, not_false_eq_true, Bool.true_eq_false, Bool.false_eq_true, f2]
        exact hQ
      · have s7 := (qNow RS).2.2.2.2.2.2.1 i (by omega)
        rw [sm] at ih
        cases hw : S.2.1 h i with
        | false =>
          rw [hw, if_neg Bool.false_ne_true, Nat.add_zero] at ih
          simp (disch := omega) only [qz0, qj_lt, qj_le, qj_eq, qtk, qfk, qbtt, qbft, qbtf, qbff, qIx_z, qj_nat, true_and, and_true, true_implies, false_implies, not_true_eq_false, not_false_eq_true, Bool.true_eq_false, Bool.false_eq_true, f2, s4, qhas_bm, hw, qj_add, qj_s1]
          exact ih
        | true =>
          rw [hw, if_pos rfl] at ih
          simp (disch := omega) only [qz0, qj_lt, qj_le, qj_eq, qtk, qfk, qbtt, qbft, qbtf, qbff, qIx_z, qj_nat, true_and, and_true, true_implies, false_implies, not_true_eq_false, not_false_eq_true, Bool.true_eq_false, Bool.false_eq_true, f2, s4, s7, qhas_bm, hw, qj_add, qj_s1]
          exact ih
    exact key 0 (Nat.zero_le _)
theorem c159 (hd : 4 ≤ d) (X : qAbs F L B S S0 Im C T) (H : qCls g I F L B S S0 Im C T P) {x : Nat} (hx : x ≤ 1000) : qRun d 159 [.ref 64, .int (qj x)] (qw g I) (.inl (some (.int (qj (aCls F S x : Nat))), qw g I)) := by
  have W := X.1
  have WS := X.2.2.2.1.1
  have hy : S.1 0 0 ≤ 1000 := Nat.le_trans X.2.2.2.1.2.1 (by decide)
  have h9 := W.1
  have h8 := W.2.1
  have w3 := W.2.2.1
  have hf := H.1.1
  have hl := H.1.2.2.2.1
  have hb := H.1.2.2.2.2.2.2.1
  have RF := H.2.1
  have RS := H.2.2.2.2.1
  have hs9 : qisS 139 := by unfold qisS; omega
  have hC := H.2.2.2.2.2.2.2.2.2.2.2.2.2.2.1
  have f1 := RF.1
  refine qRun_of fun Q hQ => b159_0 (by omega) ?_
  have key : ∀ i, i ≤ F.1 0 0 → qwq d 159 4 [(0, .ref 64), (1, .int (qj x)), (2, .int (qj (sm i (fun h => min x (aCl F S h)) : Nat))), (3, .int (qj i))] [] (qw g I) Q := by
    refine upto _ (b159_4 hf rfl (by omega) ?_) (fun i hi ih => b159_4 hf rfl (by omega) ?_)
    · simp (disch := omega) only [qz0, qj_lt, qj_le, qj_eq, qtk, qfk, qbtt, qbft, qbtf, qbff, qIx_z, qj_nat, true_and, and_true, true_implies, false_implies, not_true_eq_false, not_false_eq_true, Bool.true_eq_false, Bool.false_eq_true, f1]
      exact hQ
    · have k158 := c158 (d := d - 1) (by omega) X H (h := i) hi
      have hb := aCl_b W WS i
      rw [show ((sm (i + 1) (fun h => min x (aCl F S h)) : Nat) : Int) = (sm i (fun h => min x (aCl F S h)) : Nat) + min (x : Int) (aCl F S i : Nat) by rw [sm]; omega] at ih
      simp (disch := omega) only [qz0, qj_lt, qj_le, qj_eq, qtk, qfk, qbtt, qbft, qbtf, qbff, qIx_z, qj_nat, true_and, and_true, true_implies, false_implies, not_true_eq_false, not_false_eq_true, Bool.true_eq_false, Bool.false_eq_true, f1]
      refine ⟨_, _, k158, ?_⟩
      simp (disch := omega) only [qmin_z, qj_add, qj_s1]
      exact ih
  exact key 0 (Nat.zero_le _)
theorem f122 (hd : 9 ≤ d) (X : qAbs F L B S S0 Im C T) (H : qCls g I F L B S S0 Im C T P) {z v w : Int} (hz : -2147483648 ≤ z ∧ z < 2147483648) (hv : -2147483648 ≤ v ∧ v < 2147483648) (hw : -2147483648 ≤ w ∧ w < 2147483648) : qCQ d 122 [.ref 64, .int (qj z), .int (qj v), .int (qj w)] g I (rGet F S z v w) := by
  have W := X.1
  have WS := X.2.2.2.1.1
  have hy : S.1 0 0 ≤ 1000 := Nat.le_trans X.2.2.2.1.2.1 (by decide)
  have h9 := W.1
  have h8 := W.2.1
  have w3 := W.2.2.1
  have hf := H.1.1
  have hl := H.1.2.2.2.1
  have hb := H.1.2.2.2.2.2.2.1
  have RF := H.2.1
  have RS := H.2.2.2.2.1
  have hs9 : qisS 139 := by unfold qisS; omega
  have hC := H.2.2.2.2.2.2.2.2.2.2.2.2.2.2.1
  unfold rGet
  have f1 := RF.1
  by_cases h : 0 ≤ z ∧ z < F.1 0 0
  · rw [if_pos h]
    obtain ⟨n, rfl⟩ : ∃ n : Nat, z = n := ⟨z.toNat, by omega⟩
    by_cases h2 : (0 ≤ v ∧ v ≤ 999) ∧ 0 ≤ w ∧ w ≤ 1
    · rw [if_pos h2]
      obtain ⟨e, rfl⟩ : ∃ e : Nat, v = e := ⟨v.toNat, by omega⟩
      obtain ⟨k, rfl⟩ : ∃ k : Nat, w = k := ⟨w.toNat, by omega⟩
      rw [Int.toNat_natCast, Int.toNat_natCast, Int.toNat_natCast]
      have hn : n < F.1 0 0 := by omega
      have k158 := c158 (d := d - 1) (by omega) X H hn
      have k159 := c159 (d := d - 1) (by omega) X H (x := 240) (by omega)
      have hcl := aCl_b W WS n
      have hcs := aClsn_b F S 240 (F.1 0 0)
      have hcs' : aCls F S 240 ≤ 2160 := by unfold aCls; omega
      refine qCQ_inl I (fun Q hQ => b122_0 hf rfl (by omega) ?_) qFq_rf
      unfold aGet at hQ
      by_cases c1 : aCls F S 240 ≤ e
      · rw [if_pos c1] at hQ
        simp (disch := omega) only [qz0, qj_lt, qj_le, qj_eq, qtk, qfk, qbtt, qbft, qbtf, qbff, qIx_z, qj_nat, true_and, and_true, true_implies, false_implies, not_true_eq_false, not_false_eq_true, Bool.true_eq_false, Bool.false_eq_true, f1]
        refine ⟨_, _, k158, _, _, k159, ?_⟩
        simp (disch := omega) only [qz0, qj_lt, qj_le, qj_eq, qtk, qfk, qbtt, qbft, qbtf, qbff, qIx_z, qj_nat, true_and, and_true, true_implies, false_implies, not_true_eq_false, not_false_eq_true, Bool.true_eq_false, Bool.false_eq_true]
        exact hQ
      · rw [if_neg c1] at hQ
        by_cases c2 : k = 0
        · rw [if_pos c2] at hQ
          subst c2
          have he : e * aCl F S n ≤ 999 * 240 := Nat.mul_le_mul (by omega) hcl
          simp (disch := omega) only [qz0, qj_lt, qj_le, qj_eq, qtk, qfk, qbtt, qbft, qbtf, qbff, qIx_z, qj_nat, true_and, and_true, true_implies, false_implies, not_true_eq_false, not_false_eq_true, Bool.true_eq_false, Bool.false_eq_true, f1]
          refine ⟨_, _, k158, _, _, k159, ?_⟩
          have ed : qj ((e : Int) * (aCl F S n : Nat)) / qj ((aCls F S 240 : Nat) : Int) = qj ((e * aCl F S n / aCls F S 240 : Nat) : Int) := by
            rw [← Int.natCast_mul, qj_dvz (by omega) (by omega) (by omega) (by omega), Int.natCast_ediv]
          simp (disch := omega) only [qz0, qj_lt, qj_le, qj_eq, qtk, qfk, qbtt, qbft, qbtf, qbff, qIx_z, qj_nat, true_and, and_true, true_implies, false_implies, not_true_eq_false, not_false_eq_true, Bool.true_eq_false, Bool.false_eq_true, Int.natCast_zero, qj_mul]
          rw [ed]
          exact ⟨by omega, hQ⟩
        · rw [if_neg c2] at hQ
          have ek : k = 1 := by omega
          subst ek
          have key : ∀ x, x ≤ e → aLd (fun x => decide (aCls F S (x + 1) ≤ e)) (e - x) x = aLd (fun x => decide (aCls F S (x + 1) ≤ e)) e 0 →
              qwq d 122 86 [(0, .ref 64), (2, .int (qj e)), (4, .int (qj (aCl F S n : Nat))), (6, .int (qj x)), (7, .int (qj ((x + 1 : Nat) : Int)))] [] (qw g I) Q := by
            refine upto _ (fun h5 => b122_86 (by omega) ?_) (fun x hx ih h5 => b122_86 (by omega) ?_)
            · rw [Nat.sub_self, aLd] at h5
              rw [← h5] at hQ
              simp (disch := omega) only [qz0, qj_lt, qj_le, qj_eq, qtk, qfk, qbtt, qbft, qbtf, qbff, qIx_z, qj_nat, true_and, and_true, true_implies, false_implies, not_true_eq_false, not_false_eq_true, Bool.true_eq_false, Bool.false_eq_true, qmin_z]
              rw [show min ((aCl F S n : Nat) : Int) (e : Int) = ((min (aCl F S n) e : Nat) : Int) by omega]
              exact hQ
            · have k159 := c159 (d := d - 1) (by omega) X H (x := x + 1) (by omega)
              have hb := aClsn_b F S (x + 1) (F.1 0 0)
              have hb2 : (x + 1) * F.1 0 0 ≤ 1000 * 9 := Nat.mul_le_mul (by omega) h9
              have hb3 : aCls F S (x + 1) ≤ 9000 := by unfold aCls; omega
              rw [show e - x = e - (x + 1) + 1 by omega, aLd] at h5
              simp (disch := omega) only [qz0, qj_lt, qj_le, qj_eq, qtk, qfk, qbtt, qbft, qbtf, qbff, qIx_z, qj_nat, true_and, and_true, true_implies, false_implies, not_true_eq_false, not_false_eq_true, Bool.true_eq_false, Bool.false_eq_true]
              refine ⟨_, _, k159, ?_⟩
              by_cases c : aCls F S (x + 1) ≤ e
              · rw [if_pos (decide_eq_true c)] at h5
                simp (disch := omega) only [qz0, qj_lt, qj_le, qj_eq, qtk, qfk, qbtt, qbft, qbtf, qbff, qIx_z, qj_nat, true_and, and_true, true_implies, false_implies, not_true_eq_false, not_false_eq_true, Bool.true_eq_false, Bool.false_eq_true, qj_add, qj_s1]
                exact ih h5
              · rw [if_neg (fun q => c (of_decide_eq_true q))] at h5
                rw [← h5] at hQ
                simp (disch := omega) only [qz0, qj_lt, qj_le, qj_eq, qtk, qfk, qbtt, qbft, qbtf, qbff, qIx_z, qj_nat, true_and, and_true, true_implies, false_implies, not_true_eq_false, not_false_eq_true, Bool.true_eq_false, Bool.false_eq_true, qmin_z]
                rw [show min ((aCl F S n : Nat) : Int) (x : Int) = ((min (aCl F S n) x : Nat) : Int) by omega]
                exact hQ
          simp (disch := omega) only [qz0, qj_lt, qj_le, qj_eq, qtk, qfk, qbtt, qbft, qbtf, qbff, qIx_z, qj_nat, true_and, and_true, true_implies, false_implies, not_true_eq_false, not_false_eq_true, Bool.true_eq_false, Bool.false_eq_true, f1]
          refine ⟨_, _, k158, _, _, k159, ?_⟩
          simp (disch := omega) only [qz0, qj_lt, qj_le, qj_eq, qtk, qfk, qbtt, qbft, qbtf, qbff, qIx_z, qj_nat, true_and, and_true, true_implies, false_implies, not_true_eq_false, not_false_eq_true, Bool.true_eq_false, Bool.false_eq_true]
          exact key 0 (Nat.zero_le _) rfl
    · rw [if_neg h2]
      refine qCQ_1 fun Q hQ => b122_0 hf rfl (by omega) ?_
      simp (disch := omega) only [qz0, qj_lt, qj_le, qj_eq, qtk, qfk, qbtt, qbft, qbtf, qbff, qIx_z, qj_nat, true_and, and_true, true_implies, false_implies, not_true_eq_false, not_false_eq_true, Bool.true_eq_false, Bool.false_eq_true, f1]
      exact qrfu hQ (fun c => qrfu hQ (fun c => qrfu hQ (fun c => qrfu hQ (fun c => by omega))))
  · rw [if_neg h]
    refine qCQ_0 fun Q hQ => b122_0 hf rfl (by omega) ?_
    simp (disch := omega) only [qz0, qj_lt, qj_le, f1]
    exact qrfu hQ (fun c => qrfu hQ (fun c => by omega))
theorem f119 (hd : 62 ≤ d) (X : qAbs F L B S S0 Im C T) (H : qCls g I F L B S S0 Im C T P) : qCQ d 119 [.ref 64] g I (.inl (qj (aNt F S : Nat))) := by
  have W := X.1
  have WS := X.2.2.2.1.1
  have hy : S.1 0 0 ≤ 1000 := Nat.le_trans X.2.2.2.1.2.1 (by decide)
  have h9 := W.1
  have h8 := W.2.1
  have w3 := W.2.2.1
  have hf := H.1.1
  have hl := H.1.2.2.2.1
  have hb := H.1.2.2.2.2.2.2.1
  have RF := H.2.1
  have RS := H.2.2.2.2.1
  have hs9 : qisS 139 := by unfold qisS; omega
  have hC := H.2.2.2.2.2.2.2.2.2.2.2.2.2.2.1
  obtain ⟨J, k1, k2, k3⟩ := c154 (d := d - 1) (g := g) (by omega) hf rfl RF W RS hy
  exact qCQ_inl J (fun Q hQ => b119_0 (by omega) ⟨_, _, k1, hQ⟩) (qFq_n k3)
theorem f120 (hd : 62 ≤ d) (X : qAbs F L B S S0 Im C T) (H : qCls g I F L B S S0 Im C T P) {z : Int} (hz : -2147483648 ≤ z ∧ z < 2147483648) : qCQ d 120 [.ref 64, .int (qj z)] g I (rNgt F S z) := by
  have W := X.1
  have WS := X.2.2.2.1.1
  have hy : S.1 0 0 ≤ 1000 := Nat.le_trans X.2.2.2.1.2.1 (by decide)
  have h9 := W.1
  have h8 := W.2.1
  have w3 := W.2.2.1
  have hf := H.1.1
  have hl := H.1.2.2.2.1
  have hb := H.1.2.2.2.2.2.2.1
  have RF := H.2.1
  have RS := H.2.2.2.2.1
  have hs9 : qisS 139 := by unfold qisS; omega
  have hC := H.2.2.2.2.2.2.2.2.2.2.2.2.2.2.1
  unfold rNgt
  have f1 := RF.1
  by_cases h : 0 ≤ z ∧ z < F.1 0 0
  · rw [if_pos h]
    obtain ⟨n, rfl⟩ : ∃ n : Nat, z = n := ⟨z.toNat, by omega⟩
    obtain ⟨J, k1, k2, k3⟩ := c154 (d := d - 1) (g := g) (by omega) hf rfl RF W RS hy
    refine qCQ_inl J (fun Q hQ => b120_0 hf rfl (by omega) ?_) (qFq_n k3)
    have e := k2 n (by omega)
    simp (disch := omega) only [qz0, qj_lt, qj_le, qj_eq, qtk, qfk, qbtt, qbft, qbtf, qbff, qIx_z, qj_nat, true_and, and_true, true_implies, false_implies, not_true_eq_false, not_false_eq_true, Bool.true_eq_false, Bool.false_eq_true, f1]
    refine ⟨_, _, k1, ?_⟩
    simp (disch := omega) only [qz0, qj_lt, qj_le, qj_eq, qtk, qfk, qbtt, qbft, qbtf, qbff, qIx_z, qj_nat, true_and, and_true, true_implies, false_implies, not_true_eq_false, not_false_eq_true, Bool.true_eq_false, Bool.false_eq_true, e]
    exact hQ
  · rw [if_neg h]
    refine qCQ_0 fun Q hQ => b120_0 hf rfl (by omega) ?_
    simp (disch := omega) only [qz0, qj_lt, qj_le, f1]
    exact qrfu hQ (fun c => qrfu hQ (fun c => by omega))
/-- whom the law chooses of what is asked -/
theorem ask3 (hd : 4 ≤ d) (X : qAbs F L B S S0 Im C T) (H : qCls g I F L B S S0 Im C T P) {U : qSt} {J : Nat → Nat → Int32} (R : qRS F J 171 U) (WU : qWS F U) (hyU : U.1 0 0 ≤ 1000) (hJ : qFq g I J) {p : Nat} (hp : p < F.1 0 1) :
    ∃ J', qRun d 47 [.ref (g.2.2.1 3), .ref (g.2.2.1 1), .ref 171, .int (qj p)] (qw g J) (.inl (some (.int (qj ((aCh F L U p : Int) - 1))), qw g J')) ∧ qFq g I J' ∧ qRS F J' 171 U := by
  have HJ := qCls_q H X.2.2.2.2.2.2.2.1 hJ
  have hb := qWo_b H.1
  obtain ⟨J', k1, k2⟩ := c47 (g := g) hd (show qisS 171 by unfold qisS; omega) H.1.1 H.1.2.2.2.1 HJ.2.1 X.1 R WU hyU HJ.2.2.1 X.2.1 hp
  exact ⟨J', k1, qFq_tr hJ (qFq_l k2), qRS_cg R (fun a p q => k2 a (by omega))⟩
theorem aCh_b (F : qFam) (L : qLw) (S : qSt) (p : Nat) : aCh F L S p ≤ F.1 0 0 := by
  have : ∀ (sc : Nat → Int32) n, aChN F S sc p n ≤ n := by
    intro sc n
    induction n with
    | zero => exact Nat.le_refl _
    | succ n ih => rw [aChN]; split <;> omega
  exact this _ _
theorem f125 (hd : 9 ≤ d) (X : qAbs F L B S S0 Im C T) (H : qCls g I F L B S S0 Im C T P) {z w : Int} (hz : -2147483648 ≤ z ∧ z < 2147483648) (hw : -2147483648 ≤ w ∧ w < 2147483648) : qCQ d 125 [.ref 64, .int (qj z), .int (qj w)] g I (rHei F L S z w) := by
  have W := X.1
  have WS := X.2.2.2.1.1
  have hy : S.1 0 0 ≤ 1000 := Nat.le_trans X.2.2.2.1.2.1 (by decide)
  have h9 := W.1
  have h8 := W.2.1
  have w3 := W.2.2.1
  have hf := H.1.1
  have hl := H.1.2.2.2.1
  have hb := H.1.2.2.2.2.2.2.1
  have RF := H.2.1
  have RS := H.2.2.2.2.1
  have hs9 : qisS 139 := by unfold qisS; omega
  have hC := H.2.2.2.2.2.2.2.2.2.2.2.2.2.2.1
  unfold rHei
  have f1 := RF.1
  have f2 := RF.2.1
  by_cases h : (0 ≤ z ∧ z < F.1 0 1) ∧ 0 ≤ w ∧ w < F.1 0 0
  · rw [if_pos h]
    obtain ⟨n, rfl⟩ : ∃ n : Nat, z = n := ⟨z.toNat, by omega⟩
    obtain ⟨m, rfl⟩ : ∃ m : Nat, w = m := ⟨w.toNat, by omega⟩
    rw [Int.toNat_natCast, Int.toNat_natCast]
    have s4 := (qNow RS).2.2.2.1 m (by omega)
    cases hwk : S.2.1 m n with
    | false =>
      refine qCQ_inl I (fun Q hQ => b125_0 hf hl rfl rfl (by omega) ?_) qFq_rf
      rw [if_neg Bool.false_ne_true] at hQ
      simp (disch := omega) only [qz0, qj_lt, qj_le, qj_eq, qtk, qfk, qbtt, qbft, qbtf, qbff, qIx_z, qj_nat, true_and, and_true, true_implies, false_implies, not_true_eq_false, not_false_eq_true, Bool.true_eq_false, Bool.false_eq_true, f1, f2, s4, qhas_bm, hwk]
      exact hQ
    | true =>
      obtain ⟨J1, k1, k2, k3⟩ := ask0 (d := d - 1) (by omega) X H
      obtain ⟨J2, r1, r2, r3⟩ := c66 (d := d - 1) (g := g) (h := m) (by omega) (show qisS 171 by unfold qisS; omega) k2 (by omega)
      obtain ⟨o1, o2, o3⟩ := qOK_bur WS (show m < F.1 0 0 by omega)
      obtain ⟨J3, q1, q2, q3⟩ := ask3 (d := d - 1) (p := n) (by omega) X H r2 o1 (by omega) (qFq_tr k3 (qFq_a (fun a ha => r3 a (by omega)))) (by omega)
      refine qCQ_inl J3 (fun Q hQ => b125_0 hf hl rfl rfl (by omega) ?_) q2
      rw [if_pos rfl] at hQ
      simp (disch := omega) only [qz0, qj_lt, qj_le, qj_eq, qtk, qfk, qbtt, qbft, qbtf, qbff, qIx_z, qj_nat, true_and, and_true, true_implies, false_implies, not_true_eq_false, not_false_eq_true, Bool.true_eq_false, Bool.false_eq_true, f1, f2, s4, qhas_bm, hwk]
      exact ⟨_, k1, _, r1, _, _, q1, hQ⟩
  · rw [if_neg h]
    refine qCQ_0 fun Q hQ => b125_0 hf hl rfl rfl (by omega) ?_
    simp (disch := omega) only [qz0, qj_lt, qj_le, f1, f2]
    exact qrfu hQ (fun c => qrfu hQ (fun c => qrfu hQ (fun c => qrfu hQ (fun c => by omega))))
theorem f128 (hd : 9 ≤ d) (X : qAbs F L B S S0 Im C T) (H : qCls g I F L B S S0 Im C T P) {z w : Int} (hz : -2147483648 ≤ z ∧ z < 2147483648) (hw : -2147483648 ≤ w ∧ w < 2147483648) : qCQ d 128 [.ref 64, .int (qj z), .int (qj w)] g I (rPrc F L S z w) := by
  have W := X.1
  have WS := X.2.2.2.1.1
  have hy : S.1 0 0 ≤ 1000 := Nat.le_trans X.2.2.2.1.2.1 (by decide)
  have h9 := W.1
  have h8 := W.2.1
  have w3 := W.2.2.1
  have hf := H.1.1
  have hl := H.1.2.2.2.1
  have hb := H.1.2.2.2.2.2.2.1
  have RF := H.2.1
  have RS := H.2.2.2.2.1
  have hs9 : qisS 139 := by unfold qisS; omega
  have hC := H.2.2.2.2.2.2.2.2.2.2.2.2.2.2.1
  unfold rPrc
  have f1 := RF.1
  have f2 := RF.2.1
  by_cases h : (0 ≤ z ∧ z < F.1 0 0) ∧ 0 ≤ w ∧ w < F.1 0 1
  · rw [if_pos h]
    obtain ⟨n, rfl⟩ : ∃ n : Nat, z = n := ⟨z.toNat, by omega⟩
    obtain ⟨m, rfl⟩ : ∃ m : Nat, w = m := ⟨w.toNat, by omega⟩
    rw [Int.toNat_natCast, Int.toNat_natCast]
    have key : ∀ i, i ≤ 10 → ∀ U J, qRS F J 171 U → qWS F U → U.1 0 0 = S.1 0 0 → (∀ x, aLmp U n x = aLmp S n x) → qFq g I J → aFi (aPrc F L S n m) (10 - i) i = aFi (aPrc F L S n m) 10 0 →
        ∃ I', qFq g I I' ∧ ∀ Q : qR → Prop, Q (.inl (some (.int (qj (aFi (aPrc F L S n m) 10 0))), qw g I')) → qwq d 128 23 [(0, .ref 64), (1, .int (qj n)), (2, .int (qj m)), (3, .int (qj i))] [] (qw g J) Q := by
      refine upto _ (fun U J h1 h2 h3 h4 h5 h6 => ⟨J, h5, fun Q hQ => b128_23 hf hl rfl rfl (by omega) ?_⟩) (fun i hi ih U J h1 h2 h3 h4 h5 h6 => ?_)
      · rw [Nat.sub_self, aFi] at h6
        rw [← h6] at hQ
        simp (disch := omega) only [qz0, qj_lt, qj_le, qj_eq, qtk, qfk, qbtt, qbft, qbtf, qbff, qIx_z, qj_nat, true_and, and_true, true_implies, false_implies, not_true_eq_false, not_false_eq_true, Bool.true_eq_false, Bool.false_eq_true]
        exact hQ
      · have R2 : qRS F (qup J 172 n (qj (i : Int))) 171 (aLmp U n i) := qRS_u3 h1 rfl
        have w2 : qWS F (aLmp U n i) := qWS_lmp h2
        have y2 : (aLmp U n i).1 0 0 = S.1 0 0 := by
          show qup U.1 1 n i 0 0 = _
          rw [qup_ne (by omega)]; exact h3
        rw [show 10 - i = 10 - (i + 1) + 1 by omega, aFi] at h6
        obtain ⟨J3, q1, q2, q3⟩ := ask3 (d := d - 1) (p := m) (by omega) X H R2 w2 (by omega) (qFq_171 h5 (by omega)) (by omega)
        have hcb := aCh_b F L (aLmp U n i) m
        by_cases c : aCh F L (aLmp U n i) m = n + 1
        · rw [if_pos (show aPrc F L S n m i = true by unfold aPrc; rw [← h4 i, c, beq_self_eq_true])] at h6
          refine ⟨J3, q2, fun Q hQ => b128_23 hf hl rfl rfl (by omega) ?_⟩
          rw [← h6] at hQ
          simp (disch := omega) only [qz0, qj_lt, qj_le, qj_eq, qtk, qfk, qbtt, qbft, qbtf, qbff, qIx_z, qj_nat, true_and, and_true, true_implies, false_implies, not_true_eq_false, not_false_eq_true, Bool.true_eq_false, Bool.false_eq_true]
          refine ⟨_, _, q1, ?_⟩
          simp (disch := omega) only [qz0, qj_lt, qj_le, qj_eq, qtk, qfk, qbtt, qbft, qbtf, qbff, qIx_z, qj_nat, true_and, and_true, true_implies, false_implies, not_true_eq_false, not_false_eq_true, Bool.true_eq_false, Bool.false_eq_true]
          exact hQ
        · rw [if_neg (show ¬ aPrc F L S n m i = true by unfold aPrc; rw [← h4 i, beq_iff_eq]; exact c)] at h6
          obtain ⟨I', r1, r2⟩ := ih (aLmp U n i) J3 q3 w2 y2 (fun x => by
            show ((qup (qup U.1 1 n i) 1 n x, U.2) : qSt) = _
            rw [qup_qup]; exact h4 x) q2 h6
          refine ⟨I', r1, fun Q hQ => b128_23 hf hl rfl rfl (by omega) ?_⟩
          simp (disch := omega) only [qz0, qj_lt, qj_le, qj_eq, qtk, qfk, qbtt, qbft, qbtf, qbff, qIx_z, qj_nat, true_and, and_true, true_implies, false_implies, not_true_eq_false, not_false_eq_true, Bool.true_eq_false, Bool.false_eq_true]
          refine ⟨_, _, q1, ?_⟩
          simp (disch := omega) only [qz0, qj_lt, qj_le, qj_eq, qtk, qfk, qbtt, qbft, qbtf, qbff, qIx_z, qj_nat, true_and, and_true, true_implies, false_implies, not_true_eq_false, not_false_eq_true, Bool.true_eq_false, Bool.false_eq_true, qj_add, qj_s1]
          exact r2 Q hQ
    obtain ⟨J1, k1, k2, k3⟩ := ask0 (d := d - 1) (by omega) X H
    obtain ⟨I', r1, r2⟩ := key 0 (Nat.zero_le _) S J1 k2 WS rfl (fun _ => rfl) k3 rfl
    refine qCQ_inl I' (fun Q hQ => b128_0 hf rfl (by omega) ?_) r1
    simp (disch := omega) only [qz0, qj_lt, qj_le, qj_eq, qtk, qfk, qbtt, qbft, qbtf, qbff, qIx_z, qj_nat, true_and, and_true, true_implies, false_implies, not_true_eq_false, not_false_eq_true, Bool.true_eq_false, Bool.false_eq_true, f1, f2]
    exact ⟨_, k1, r2 Q hQ⟩
  · rw [if_neg h]
    refine qCQ_0 fun Q hQ => b128_0 hf rfl (by omega) ?_
    simp (disch := omega) only [qz0, qj_lt, qj_le, f1, f2]
    exact qrfu hQ (fun c => qrfu hQ (fun c => qrfu hQ (fun c => qrfu hQ (fun c => by omega))))
end ASK8
