/-! ===== questions, the class' side, 6 ===== -/
theorem qj_dvz {a b : Int} (h1 : 0 ≤ a) (h2 : a < 2147483648) (h3 : 0 < b) (h4 : b < 2147483648) : qj a / qj b = qj (a / b) := by
  have m1 : Int32.minValue.toInt = -2147483648 := by decide
  have m2 : Int32.maxValue.toInt = 2147483647 := by decide
  have k := Int32.ofInt_tdiv (a := a) (b := b) (by omega) (by omega) (by omega) (by omega)
  rw [Int.tdiv_eq_ediv_of_nonneg h1] at k
  exact k.symm
def aLie (F : qFam) (S : qSt) (p h : Nat) : Nat := (F.1 4 p + 3 * F.1 1 h + S.1 3 p) % 16
def rLie (F : qFam) (S : qSt) (p h : Int) : Int32 ⊕ Nat := if (0 ≤ p ∧ p < F.1 0 1) ∧ 0 ≤ h ∧ h < F.1 0 0 then .inl (qj (aLie F S p.toNat h.toNat : Nat)) else .inr 0
def aDrp (F : qFam) (S : qSt) (p w h : Nat) : Bool := aAl F S h && (aLie F S p h == w)
def rDrp (F : qFam) (S : qSt) (p w : Int) : Int32 ⊕ Nat := if 0 ≤ p ∧ p < F.1 0 1 then (if 0 ≤ w ∧ w ≤ 15 then .inl (qj (bm (F.1 0 0) (aDrp F S p.toNat w.toNat) : Nat)) else .inr 1) else .inr 0
def aOwn (F : qFam) (m p : Nat) : Nat := sm (F.1 0 2) (fun a => if m.testBit a = true ∧ aBt F a p = true then F.1 7 a else 0)
def rFai (F : qFam) (S : qSt) (m : Int) : Int32 ⊕ Nat := if 0 ≤ m ∧ m < (2 ^ F.1 0 2 : Nat) then .inl (qj (sm (F.1 0 1) (fun p => aOwn F m.toNat p - S.1 3 p) : Nat)) else .inr 1
def rOws (F : qFam) (h k : Int) : Int32 ⊕ Nat := if (0 ≤ h ∧ h < F.1 0 0) ∧ 0 ≤ k ∧ k < F.1 0 0 then .inl (qj (F.1 (20 + h.toNat) k.toNat : Nat)) else .inr 0
def aNet (F : qFam) (h : Nat) : Int := smz (F.1 0 0) (fun k => (F.1 (20 + k) h : Int) - F.1 (20 + h) k)
def rNet (F : qFam) (h : Int) : Int32 ⊕ Nat := if 0 ≤ h ∧ h < F.1 0 0 then .inl (qj (aNet F h.toNat)) else .inr 0
def aIdl (F : qFam) (S : qSt) (h : Nat) : Bool := aAl F S h && !anb 8 (S.2.1 h)
def aMut (F : qFam) (S : qSt) (p : Nat) : Bool := !cQt (F.2 2) (bm 9 (fun h => S.2.1 h p))
def rSlk (F : qFam) (S : qSt) (w : Int) : Int32 ⊕ Nat := if 0 ≤ w ∧ w ≤ 31 then .inl (qj (bm (F.1 0 1) (fun p => decide ((S.1 3 p : Int) < w)) : Nat)) else .inr 1
def aEld (F : qFam) (S : qSt) : Nat → Int
  | 0 => -1
  | i + 1 => if aAl F S i = true ∧ (aEld F S i = -1 ∨ F.1 2 i < F.1 2 (aEld F S i).toNat) then i else aEld F S i
def aRch (F : qFam) : Nat → Int
  | 0 => -1
  | i + 1 => if aRch F i = -1 ∨ aNet F (aRch F i).toNat < aNet F i then i else aRch F i
theorem aEld_b (F : qFam) (S : qSt) : ∀ i, -1 ≤ aEld F S i ∧ aEld F S i < i
  | 0 => ⟨Int.le_refl _, (by decide : (-1 : Int) < ((0 : Nat) : Int))⟩
  | i + 1 => by
    have := aEld_b F S i
    rw [aEld]; split <;> omega
theorem aRch_b (F : qFam) : ∀ i, -1 ≤ aRch F i ∧ aRch F i < i
  | 0 => ⟨Int.le_refl _, (by decide : (-1 : Int) < ((0 : Nat) : Int))⟩
  | i + 1 => by
    have := aRch_b F i
    rw [aRch]; split <;> omega
def rFst (F : qFam) (S : qSt) (w : Int) : Int32 ⊕ Nat := if 0 ≤ w ∧ w ≤ 1 then .inl (qj (if w = 0 then aEld F S (F.1 0 0) else aRch F (F.1 0 0))) else .inr 1
def aSpk (F : qFam) (S : qSt) (n : Nat) : Nat := sm n (fun h => if aAl F S h = true then cn h (fun k => aAl F S k && !F.2 2 h k) else 0)
theorem smz_b {f : Nat → Int} {b : Int} (h : ∀ i, -b ≤ f i ∧ f i ≤ b) (hb : 0 ≤ b) : ∀ n : Nat, -(n * b) ≤ smz n f ∧ smz n f ≤ n * b
  | 0 => by rw [smz]; simp
  | n + 1 => by
    have h1 := smz_b h hb n
    have h2 := h n
    rw [smz]
    have e : ((n + 1 : Nat) : Int) * b = n * b + b := by rw [Int.natCast_succ, Int.add_mul, Int.one_mul]
    rw [e]; omega
theorem aNet_b {F : qFam} (W : qWF F) (h : Nat) : -8991 ≤ aNet F h ∧ aNet F h ≤ 8991 := by
  have h9 := W.1
  have hd := W.2.2.2.2.2.2.2.1
  have k := smz_b (f := fun k => (F.1 (20 + k) h : Int) - F.1 (20 + h) k) (b := 999) (fun i => by have := hd i h; have := hd h i; omega) (by decide) (F.1 0 0)
  unfold aNet
  omega
theorem aSpk_b (F : qFam) (S : qSt) : ∀ n, n ≤ 9 → aSpk F S n ≤ 9 * n
  | 0, _ => Nat.le_refl _
  | n + 1, h => by
    have := aSpk_b F S n (by omega)
    unfold aSpk at this ⊢
    rw [sm]
    have := cn_le n (fun k => aAl F S k && !F.2 2 n k)
    split <;> omega
theorem aOwn_b {F : qFam} (W : qWF F) (m p : Nat) : aOwn F m p ≤ 54 := by
  have : ∀ n, n ≤ F.1 0 2 → sm n (fun a => if m.testBit a = true ∧ aBt F a p = true then F.1 7 a else 0) ≤ 9 * n := by
    intro n
    induction n with
    | zero => intro _; exact Nat.le_refl _
    | succ n ih =>
      intro h
      have := ih (by omega)
      have := (W.2.2.2.2.2.2.1 n (by omega)).1
      rw [sm]
      split <;> omega
  have := this _ (Nat.le_refl _)
  have := W.2.2.1
  unfold aOwn; omega
theorem bm_lo {n m : Nat} (h : n ≤ m) : ((2 ^ n : Nat) : Int) - 1 = (bm m (fun k => decide (k < n)) : Nat) := by
  have e : bm m (fun k => decide (k < n)) = bm n (fun _ => true) := by
    have := bm_up n (fun _ => true) m h
    rw [← this]
    exact bm_ext (fun k _ => by rw [Bool.and_true])
  have := Nat.two_pow_pos n
  rw [e, bm_ones]; omega
section ASK6
variable {d : Nat} {g : qG1} {I : Nat → Nat → Int32} {F : qFam} {L : qLw} {B : qBk} {S S0 : qSt} {Im : Nat → qSt} {C T : Nat → Nat} {P : Int} {f s : Nat}
theorem c152 (hd : 1 ≤ d) (X : qAbs F L B S S0 Im C T) (H : qCls g I F L B S S0 Im C T P) {p h : Nat} (hp : p < F.1 0 1) (hh : h < F.1 0 0) : qRun d 152 [.ref 64, .int (qj p), .int (qj h)] (qw g I) (.inl (some (.int (qj (aLie F S p h : Nat))), qw g I)) := by
  have W := X.1
  have WS := X.2.2.2.1.1
  have hy : S.1 0 0 ≤ 1000 := Nat.le_trans X.2.2.2.1.2.1 (by decide)
  have h9 := W.1
  have h8 := W.2.1
  have w3 := W.2.2.1
  have hf := H.1.1
  have hl := H.1.2.2.2.1
  have hb := H.1.2.2.2.2.2.2.1
  have RF := H.2.1
  have RS := H.2.2.2.2.1
  have hs9 : qisS 139 := by unfold qisS; omega
  have hC := H.2.2.2.2.2.2.2.2.2.2.2.2.2.2.1
  refine qRun_of fun Q hQ => b152_0 hf rfl (by omega) ?_
  have f5 := RF.2.2.2.2.1 h hh
  have f12 := RF.2.2.2.2.2.2.2.2.2.2.2.1 p hp
  have s7 := (qNow RS).2.2.2.2.2.2.1 p hp
  have b1 := (W.2.2.2.2.1 h hh).1
  have b2 := (W.2.2.2.2.2.1 p hp).1
  have b3 := WS.2.2.1 p hp
  simp (disch := omega) only [qz0, qj_lt, qj_le, qj_eq, qtk, qfk, qbtt, qbft, qbtf, qbff, qIx_z, qj_nat, true_and, and_true, true_implies, false_implies, not_true_eq_false, not_false_eq_true, Bool.true_eq_false, Bool.false_eq_true, f5, f12, s7, qj_add, qj_mul, qj_dvz, qj_sub]
  have e : (F.1 4 p : Int) + 3 * F.1 1 h + S.1 3 p - ((F.1 4 p : Int) + 3 * F.1 1 h + S.1 3 p) / 16 * 16 = (aLie F S p h : Nat) := by unfold aLie; omega
  rw [e]; exact hQ
theorem f115 (hd : 9 ≤ d) (X : qAbs F L B S S0 Im C T) (H : qCls g I F L B S S0 Im C T P) {z w : Int} (hz : -2147483648 ≤ z ∧ z < 2147483648) (hw : -2147483648 ≤ w ∧ w < 2147483648) : qCQ d 115 [.ref 64, .int (qj z), .int (qj w)] g I (rLie F S z w) := by
  have W := X.1
  have WS := X.2.2.2.1.1
  have hy : S.1 0 0 ≤ 1000 := Nat.le_trans X.2.2.2.1.2.1 (by decide)
  have h9 := W.1
  have h8 := W.2.1
  have w3 := W.2.2.1
  have hf := H.1.1
  have hl := H.1.2.2.2.1
  have hb := H.1.2.2.2.2.2.2.1
  have RF := H.2.1
  have RS := H.2.2.2.2.1
  have hs9 : qisS 139 := by unfold qisS; omega
  have hC := H.2.2.2.2.2.2.2.2.2.2.2.2.2.2.1
  unfold rLie
  have f1 := RF.1
  have f2 := RF.2.1
  by_cases h : (0 ≤ z ∧ z < F.1 0 1) ∧ 0 ≤ w ∧ w < F.1 0 0
  · rw [if_pos h]
    obtain ⟨n, rfl⟩ : ∃ n : Nat, z = n := ⟨z.toNat, by omega⟩
    obtain ⟨m, rfl⟩ : ∃ m : Nat, w = m := ⟨w.toNat, by omega⟩
    refine qCQ_inl I (fun Q hQ => b115_0 hf rfl (by omega) ?_) qFq_rf
    simp (disch := omega) only [qz0, qj_lt, qj_le, qj_eq, qtk, qfk, qbtt, qbft, qbtf, qbff, qIx_z, qj_nat, true_and, and_true, true_implies, false_implies, not_true_eq_false, not_false_eq_true, Bool.true_eq_false, Bool.false_eq_true, f1, f2]
    exact ⟨_, _, c152 (by omega) X H (by omega) (by omega), hQ⟩
  · rw [if_neg h]
    refine qCQ_0 fun Q hQ => b115_0 hf rfl (by omega) ?_
    simp (disch := omega) only [qz0, qj_lt, qj_le, f1, f2]
    exact qrfu hQ (fun c => qrfu hQ (fun c => qrfu hQ (fun c => qrfu hQ (fun c => by omega))))
theorem f116 (hd : 9 ≤ d) (X : qAbs F L B S S0 Im C T) (H : qCls g I F L B S S0 Im C T P) {z w : Int} (hz : -2147483648 ≤ z ∧ z < 2147483648) (hw : -2147483648 ≤ w ∧ w < 2147483648) : qCQ d 116 [.ref 64, .int (qj z), .int (qj w)] g I (rDrp F S z w) := by
  have W := X.1
  have WS := X.2.2.2.1.1
  have hy : S.1 0 0 ≤ 1000 := Nat.le_trans X.2.2.2.1.2.1 (by decide)
  have h9 := W.1
  have h8 := W.2.1
  have w3 := W.2.2.1
  have hf := H.1.1
  have hl := H.1.2.2.2.1
  have hb := H.1.2.2.2.2.2.2.1
  have RF := H.2.1
  have RS := H.2.2.2.2.1
  have hs9 : qisS 139 := by unfold qisS; omega
  have hC := H.2.2.2.2.2.2.2.2.2.2.2.2.2.2.1
  unfold rDrp
  have f1 := RF.1
  have f2 := RF.2.1
  by_cases h : 0 ≤ z ∧ z < F.1 0 1
  · rw [if_pos h]
    by_cases h2 : 0 ≤ w ∧ w ≤ 15
    · rw [if_pos h2]
      obtain ⟨n, rfl⟩ : ∃ n : Nat, z = n := ⟨z.toNat, by omega⟩
      obtain ⟨m, rfl⟩ : ∃ m : Nat, w = m := ⟨w.toNat, by omega⟩
      refine qCQ_inl I (fun Q hQ => b116_0 hf rfl (by omega) ?_) qFq_rf
      rw [Int.toNat_natCast, Int.toNat_natCast] at hQ
      simp (disch := omega) only [qz0, qj_lt, qj_le, qj_eq, qtk, qfk, qbtt, qbft, qbtf, qbff, qIx_z, qj_nat, true_and, and_true, true_implies, false_implies, not_true_eq_false, not_false_eq_true, Bool.true_eq_false, Bool.false_eq_true, f2]
      have key : ∀ i, i ≤ F.1 0 0 → qwq d 116 29 [(0, .ref 64), (1, .int (qj n)), (2, .int (qj m)), (3, .int (qj (bm i (aDrp F S n m) : Nat))), (4, .int (qj i))] [] (qw g I) Q := by
        refine upto _ (b116_29 hf rfl (by omega) ?_) (fun i hi ih => b116_29 hf rfl (by omega) ?_)
        · simp (disch := omega) only [qz0, qj_lt, qj_le, qj_eq, qtk, qfk, qbtt, qbft, qbtf, qbff, qIx_z, qj_nat, true_and, and_true, true_implies, false_implies, not_true_eq_false, not_false_eq_true, Bool.true_eq_false, Bool.false_eq_true, f1]
          exact hQ
        · have k54 := c54 (d := d - 1) (g := g) (by omega) hs9 hf RF W RS hy hi
          cases ha : aAl F S i with
          | false =>
            rw [ha] at k54
            rw [bm_sf (by unfold aDrp; rw [ha]; rfl)] at ih
            simp (disch := omega) only [qz0, qj_lt, qj_le, qj_eq, qtk, qfk, qbtt, qbft, qbtf, qbff, qIx_z, qj_nat, true_and, and_true, true_implies, false_implies, not_true_eq_false, not_false_eq_true, Bool.true_eq_false, Bool.false_eq_true, f1]
            refine ⟨_, _, k54, ?_⟩
            simp (disch := omega) only [qz0, qj_lt, qj_le, qj_eq, qtk, qfk, qbtt, qbft, qbtf, qbff, qIx_z, qj_nat, true_and, and_true, true_implies, false_implies, not_true_eq_false, not_false_eq_true, Bool.true_eq_false, Bool.false_eq_true, qj_add, qj_s1]
            exact ih
          | true =>
            rw [ha] at k54
            have k152 := c152 (d := d - 1) (by omega) X H (p := n) (h := i) (by omega) hi
            have hl : aLie F S n i < 16 := Nat.mod_lt _ (by decide)
            by_cases e : aLie F S n i = m
            · rw [← bm_st (by unfold aDrp; rw [ha, e, beq_self_eq_true]; rfl) (by omega)] at ih
              simp (disch := omega) only [qz0, qj_lt, qj_le, qj_eq, qtk, qfk, qbtt, qbft, qbtf, qbff, qIx_z, qj_nat, true_and, and_true, true_implies, false_implies, not_true_eq_false, not_false_eq_true, Bool.true_eq_false, Bool.false_eq_true, f1]
              refine ⟨_, _, k54, ?_⟩
              simp (disch := omega) only [qz0, qj_lt, qj_le, qj_eq, qtk, qfk, qbtt, qbft, qbtf, qbff, qIx_z, qj_nat, true_and, and_true, true_implies, false_implies, not_true_eq_false, not_false_eq_true, Bool.true_eq_false, Bool.false_eq_true]
              refine ⟨_, _, k152, ?_⟩
              simp (disch := omega) only [qz0, qj_lt, qj_le, qj_eq, qtk, qfk, qbtt, qbft, qbtf, qbff, qIx_z, qj_nat, true_and, and_true, true_implies, false_implies, not_true_eq_false, not_false_eq_true, Bool.true_eq_false, Bool.false_eq_true, qj_add, qj_s1]
              exact ih
            · rw [bm_sf (by unfold aDrp; rw [ha, beq_eq_false_iff_ne.mpr e]; rfl)] at ih
              simp (disch := omega) only [qz0, qj_lt, qj_le, qj_eq, qtk, qfk, qbtt, qbft, qbtf, qbff, qIx_z, qj_nat, true_and, and_true, true_implies, false_implies, not_true_eq_false, not_false_eq_true, Bool.true_eq_false, Bool.false_eq_true, f1]
              refine ⟨_, _, k54, ?_⟩
              simp (disch := omega) only [qz0, qj_lt, qj_le, qj_eq, qtk, qfk, qbtt, qbft, qbtf, qbff, qIx_z, qj_nat, true_and, and_true, true_implies, false_implies, not_true_eq_false, not_false_eq_true, Bool.true_eq_false, Bool.false_eq_true]
              refine ⟨_, _, k152, ?_⟩
              simp (disch := omega) only [qz0, qj_lt, qj_le, qj_eq, qtk, qfk, qbtt, qbft, qbtf, qbff, qIx_z, qj_nat, true_and, and_true, true_implies, false_implies, not_true_eq_false, not_false_eq_true, Bool.true_eq_false, Bool.false_eq_true, qj_add, qj_s1]
              exact ih
      exact key 0 (Nat.zero_le _)
    · rw [if_neg h2]
      refine qCQ_1 fun Q hQ => b116_0 hf rfl (by omega) ?_
      simp (disch := omega) only [qz0, qj_lt, qj_le, qj_eq, qtk, qfk, qbtt, qbft, qbtf, qbff, qIx_z, qj_nat, true_and, and_true, true_implies, false_implies, not_true_eq_false, not_false_eq_true, Bool.true_eq_false, Bool.false_eq_true, f2]
      exact qrfu hQ (fun c => qrfu hQ (fun c => by omega))
  · rw [if_neg h]
    refine qCQ_0 fun Q hQ => b116_0 hf rfl (by omega) ?_
    simp (disch := omega) only [qz0, qj_lt, qj_le, f2]
    exact qrfu hQ (fun c => qrfu hQ (fun c => by omega))
theorem f121 (hd : 8 ≤ d) (X : qAbs F L B S S0 Im C T) (H : qCls g I F L B S S0 Im C T P) {z : Int} (hz : -2147483648 ≤ z ∧ z < 2147483648) : qCQ d 121 [.ref 64, .int (qj z)] g I (rFai F S z) := by
  have W := X.1
  have WS := X.2.2.2.1.1
  have hy : S.1 0 0 ≤ 1000 := Nat.le_trans X.2.2.2.1.2.1 (by decide)
  have h9 := W.1
  have h8 := W.2.1
  have w3 := W.2.2.1
  have hf := H.1.1
  have hl := H.1.2.2.2.1
  have hb := H.1.2.2.2.2.2.2.1
  have RF := H.2.1
  have RS := H.2.2.2.2.1
  have hs9 : qisS 139 := by unfold qisS; omega
  have hC := H.2.2.2.2.2.2.2.2.2.2.2.2.2.2.1
  unfold rFai
  have f2 := RF.2.1
  have f3 := RF.2.2.1
  have hp2 : 2 ^ F.1 0 2 ≤ 64 := Nat.pow_le_pow_right (by decide : 0 < 2) w3
  have e2 : qj 1 <<< (I (g.2.2.1 1) 12 &&& 31) = qj ((2 ^ F.1 0 2 : Nat) : Int) := by rw [f3, qshl1 (by omega)]
  generalize 2 ^ F.1 0 2 = K at hp2 e2 ⊢
  by_cases h : 0 ≤ z ∧ z < (K : Int)
  · rw [if_pos h]
    obtain ⟨m, rfl⟩ : ∃ m : Nat, z = m := ⟨z.toNat, by omega⟩
    refine qCQ_inl I (fun Q hQ => b121_0 hf rfl (by omega) ?_) qFq_rf
    rw [Int.toNat_natCast] at hQ
    rw [e2]
    simp (disch := omega) only [qz0, qj_lt, qj_le, qj_eq, qtk, qfk, qbtt, qbft, qbtf, qbff, qIx_z, qj_nat, true_and, and_true, true_implies, false_implies, not_true_eq_false, not_false_eq_true, Bool.true_eq_false, Bool.false_eq_true]
    have sb : ∀ n, n ≤ F.1 0 1 → sm n (fun p => aOwn F m p - S.1 3 p) ≤ 54 * n := by
      intro n
      induction n with
      | zero => intro _; exact Nat.le_refl _
      | succ n ih => intro h; have := ih (by omega); have := aOwn_b W m n; rw [sm]; omega
    have key : ∀ i, i ≤ F.1 0 1 → qwq d 121 30 [(0, .ref 64), (1, .int (qj m)), (2, .int (qj (sm i (fun p => aOwn F m p - S.1 3 p) : Nat))), (3, .int (qj i))] [] (qw g I) Q := by
      refine upto _ (b121_30 hf rfl (by omega) ?_) (fun i hi ih => b121_30 hf rfl (by omega) ?_)
      · simp (disch := omega) only [qz0, qj_lt, qj_le, qj_eq, qtk, qfk, qbtt, qbft, qbtf, qbff, qIx_z, qj_nat, true_and, and_true, true_implies, false_implies, not_true_eq_false, not_false_eq_true, Bool.true_eq_false, Bool.false_eq_true, f2]
        exact hQ
      · simp (disch := omega) only [qz0, qj_lt, qj_le, qj_eq, qtk, qfk, qbtt, qbft, qbtf, qbff, qIx_z, qj_nat, true_and, and_true, true_implies, false_implies, not_true_eq_false, not_false_eq_true, Bool.true_eq_false, Bool.false_eq_true, f2]
        have s7 := (qNow RS).2.2.2.2.2.2.1 i (by omega)
        have b3 := WS.2.2.1 i (by omega)
        have inner : ∀ j, j ≤ F.1 0 2 → qwq d 121 47 [(0, .ref 64), (1, .int (qj m)), (2, .int (qj (sm i (fun p => aOwn F m p - S.1 3 p) : Nat))), (3, .int (qj i)), (4, .int (qj (sm j (fun a => if m.testBit a = true ∧ aBt F a i = true then F.1 7 a else 0) : Nat))), (5, .int (qj j))] [] (qw g I) Q := by
          refine upto _ (b121_47 hf rfl (by omega) ?_) (fun j hj ihj => b121_47 hf rfl (by omega) ?_)
          · have ho := aOwn_b W m i
            have hsb := sb i (by omega)
            have e : sm (F.1 0 2) (fun a => if m.testBit a = true ∧ aBt F a i = true then F.1 7 a else 0) = aOwn F m i := rfl
            rw [e]
            rw [sm] at ih
            simp (disch := omega) only [qz0, qj_lt, qj_le, qj_eq, qtk, qfk, qbtt, qbft, qbtf, qbff, qIx_z, qj_nat, true_and, and_true, true_implies, false_implies, not_true_eq_false, not_false_eq_true, Bool.true_eq_false, Bool.false_eq_true, f3, s7, qj_sub, qmax_z, qj_add, qj_s1]
            rw [show (sm i (fun p => aOwn F m p - S.1 3 p) : Int) + max 0 ((aOwn F m i : Int) - S.1 3 i) = ((sm i (fun p => aOwn F m p - S.1 3 p) + (aOwn F m i - S.1 3 i) : Nat) : Int) by omega]
            exact ih
          · have hb := qhas_n m (k := j) (by omega)
            have k32 := c32 (d := d - 1) (g := g) (by omega) hf RF W hj
            have hb2 := qhas_bm 8 (aBt F j) (k := i) (by omega) (by omega)
            have f15 := RF.2.2.2.2.2.2.2.2.2.2.2.2.2.2.1 j hj
            rw [sm] at ihj
            cases hm : m.testBit j with
            | false =>
              rw [hm] at hb ihj
              rw [if_neg (fun c => Bool.noConfusion c.1), Nat.add_zero] at ihj
              simp (disch := omega) only [qz0, qj_lt, qj_le, qj_eq, qtk, qfk, qbtt, qbft, qbtf, qbff, qIx_z, qj_nat, true_and, and_true, true_implies, false_implies, not_true_eq_false, not_false_eq_true, Bool.true_eq_false, Bool.false_eq_true, f3, hb, qj_add, qj_s1]
              exact ihj
            | true =>
              rw [hm] at hb ihj
              cases hm2 : aBt F j i with
              | false =>
                rw [hm2] at hb2 ihj
                rw [if_neg (fun c => Bool.noConfusion c.2), Nat.add_zero] at ihj
                simp (disch := omega) only [qz0, qj_lt, qj_le, qj_eq, qtk, qfk, qbtt, qbft, qbtf, qbff, qIx_z, qj_nat, true_and, and_true, true_implies, false_implies, not_true_eq_false, not_false_eq_true, Bool.true_eq_false, Bool.false_eq_true, f3, hb]
                refine ⟨_, _, k32, ?_⟩
                simp (disch := omega) only [qz0, qj_lt, qj_le, qj_eq, qtk, qfk, qbtt, qbft, qbtf, qbff, qIx_z, qj_nat, true_and, and_true, true_implies, false_implies, not_true_eq_false, not_false_eq_true, Bool.true_eq_false, Bool.false_eq_true, hb2, qj_add, qj_s1]
                exact ihj
              | true =>
                rw [hm2] at hb2 ihj
                rw [if_pos ⟨rfl, rfl⟩] at ihj
                simp (disch := omega) only [qz0, qj_lt, qj_le, qj_eq, qtk, qfk, qbtt, qbft, qbtf, qbff, qIx_z, qj_nat, true_and, and_true, true_implies, false_implies, not_true_eq_false, not_false_eq_true, Bool.true_eq_false, Bool.false_eq_true, f3, hb]
                refine ⟨_, _, k32, ?_⟩
                simp (disch := omega) only [qz0, qj_lt, qj_le, qj_eq, qtk, qfk, qbtt, qbft, qbtf, qbff, qIx_z, qj_nat, true_and, and_true, true_implies, false_implies, not_true_eq_false, not_false_eq_true, Bool.true_eq_false, Bool.false_eq_true, hb2, f15, qj_add, qj_s1]
                exact ihj
        exact inner 0 (Nat.zero_le _)
    exact key 0 (Nat.zero_le _)
  · rw [if_neg h]
    refine qCQ_1 fun Q hQ => b121_0 hf rfl (by omega) ?_
    rw [e2]
    simp (disch := omega) only [qz0, qj_lt, qj_le]
    exact qrfu hQ (fun c => qrfu hQ (fun c => by omega))
theorem f123 (hd : 9 ≤ d) (X : qAbs F L B S S0 Im C T) (H : qCls g I F L B S S0 Im C T P) {z w : Int} (hz : -2147483648 ≤ z ∧ z < 2147483648) (hw : -2147483648 ≤ w ∧ w < 2147483648) : qCQ d 123 [.ref 64, .int (qj z), .int (qj w)] g I (rOws F z w) := by
  have W := X.1
  have WS := X.2.2.2.1.1
  have hy : S.1 0 0 ≤ 1000 := Nat.le_trans X.2.2.2.1.2.1 (by decide)
  have h9 := W.1
  have h8 := W.2.1
  have w3 := W.2.2.1
  have hf := H.1.1
  have hl := H.1.2.2.2.1
  have hb := H.1.2.2.2.2.2.2.1
  have RF := H.2.1
  have RS := H.2.2.2.2.1
  have hs9 : qisS 139 := by unfold qisS; omega
  have hC := H.2.2.2.2.2.2.2.2.2.2.2.2.2.2.1
  unfold rOws
  have f1 := RF.1
  by_cases h : (0 ≤ z ∧ z < F.1 0 0) ∧ 0 ≤ w ∧ w < F.1 0 0
  · rw [if_pos h]
    obtain ⟨n, rfl⟩ : ∃ n : Nat, z = n := ⟨z.toNat, by omega⟩
    obtain ⟨m, rfl⟩ : ∃ m : Nat, w = m := ⟨w.toNat, by omega⟩
    have f11 := RF.2.2.2.2.2.2.2.2.2.2.1 n m (by omega) (by omega)
    refine qCQ_inl I (fun Q hQ => b123_0 hf rfl (by omega) ?_) qFq_rf
    simp (disch := omega) only [qz0, qj_lt, qj_le, qj_eq, qtk, qfk, qbtt, qbft, qbtf, qbff, qIx_z, qj_nat, true_and, and_true, true_implies, false_implies, not_true_eq_false, not_false_eq_true, Bool.true_eq_false, Bool.false_eq_true, f1, q2_e, f11]
    exact hQ
  · rw [if_neg h]
    refine qCQ_0 fun Q hQ => b123_0 hf rfl (by omega) ?_
    simp (disch := omega) only [qz0, qj_lt, qj_le, f1]
    exact qrfu hQ (fun c => qrfu hQ (fun c => qrfu hQ (fun c => qrfu hQ (fun c => by omega))))
theorem c160 (hd : 1 ≤ d) (X : qAbs F L B S S0 Im C T) (H : qCls g I F L B S S0 Im C T P) {h : Nat} (hh : h < F.1 0 0) : qRun d 160 [.ref 64, .int (qj h)] (qw g I) (.inl (some (.int (qj (aNet F h))), qw g I)) := by
  have W := X.1
  have WS := X.2.2.2.1.1
  have hy : S.1 0 0 ≤ 1000 := Nat.le_trans X.2.2.2.1.2.1 (by decide)
  have h9 := W.1
  have h8 := W.2.1
  have w3 := W.2.2.1
  have hf := H.1.1
  have hl := H.1.2.2.2.1
  have hb := H.1.2.2.2.2.2.2.1
  have RF := H.2.1
  have RS := H.2.2.2.2.1
  have hs9 : qisS 139 := by unfold qisS; omega
  have hC := H.2.2.2.2.2.2.2.2.2.2.2.2.2.2.1
  have f1 := RF.1
  refine qRun_of fun Q hQ => b160_0 (by omega) ?_
  have key : ∀ i, i ≤ F.1 0 0 → qwq d 160 4 [(0, .ref 64), (1, .int (qj h)), (2, .int (qj (smz i (fun k => (F.1 (20 + k) h : Int) - F.1 (20 + h) k)))), (3, .int (qj i))] [] (qw g I) Q := by
    refine upto _ (b160_4 hf rfl (by omega) ?_) (fun i hi ih => b160_4 hf rfl (by omega) ?_)
    · simp (disch := omega) only [qz0, qj_lt, qj_le, qj_eq, qtk, qfk, qbtt, qbft, qbtf, qbff, qIx_z, qj_nat, true_and, and_true, true_implies, false_implies, not_true_eq_false, not_false_eq_true, Bool.true_eq_false, Bool.false_eq_true, f1]
      exact hQ
    · have e1 := RF.2.2.2.2.2.2.2.2.2.2.1 h i (by omega) (by omega)
      have e2 := RF.2.2.2.2.2.2.2.2.2.2.1 i h (by omega) (by omega)
      rw [smz] at ih
      simp (disch := omega) only [qz0, qj_lt, qj_le, qj_eq, qtk, qfk, qbtt, qbft, qbtf, qbff, qIx_z, qj_nat, true_and, and_true, true_implies, false_implies, not_true_eq_false, not_false_eq_true, Bool.true_eq_false, Bool.false_eq_true, f1, q2_e, e1, e2, qj_sub, qj_add, qj_s1]
      exact ih
  exact key 0 (Nat.zero_le _)
theorem f124 (hd : 9 ≤ d) (X : qAbs F L B S S0 Im C T) (H : qCls g I F L B S S0 Im C T P) {z : Int} (hz : -2147483648 ≤ z ∧ z < 2147483648) : qCQ d 124 [.ref 64, .int (qj z)] g I (rNet F z) := by
  have W := X.1
  have WS := X.2.2.2.1.1
  have hy : S.1 0 0 ≤ 1000 := Nat.le_trans X.2.2.2.1.2.1 (by decide)
  have h9 := W.1
  have h8 := W.2.1
  have w3 := W.2.2.1
  have hf := H.1.1
  have hl := H.1.2.2.2.1
  have hb := H.1.2.2.2.2.2.2.1
  have RF := H.2.1
  have RS := H.2.2.2.2.1
  have hs9 : qisS 139 := by unfold qisS; omega
  have hC := H.2.2.2.2.2.2.2.2.2.2.2.2.2.2.1
  unfold rNet
  have f1 := RF.1
  by_cases h : 0 ≤ z ∧ z < F.1 0 0
  · rw [if_pos h]
    obtain ⟨n, rfl⟩ : ∃ n : Nat, z = n := ⟨z.toNat, by omega⟩
    refine qCQ_inl I (fun Q hQ => b124_0 hf rfl (by omega) ?_) qFq_rf
    simp (disch := omega) only [qz0, qj_lt, qj_le, qj_eq, qtk, qfk, qbtt, qbft, qbtf, qbff, qIx_z, qj_nat, true_and, and_true, true_implies, false_implies, not_true_eq_false, not_false_eq_true, Bool.true_eq_false, Bool.false_eq_true, f1]
    exact ⟨_, _, c160 (by omega) X H (by omega), hQ⟩
  · rw [if_neg h]
    refine qCQ_0 fun Q hQ => b124_0 hf rfl (by omega) ?_
    simp (disch := omega) only [qz0, qj_lt, qj_le, f1]
    exact qrfu hQ (fun c => qrfu hQ (fun c => by omega))
theorem f126 (hd : 5 ≤ d) (X : qAbs F L B S S0 Im C T) (H : qCls g I F L B S S0 Im C T P) : qCQ d 126 [.ref 64] g I (.inl (qj (bm (F.1 0 1) (fun p => decide (0 < aLk F S p)) : Nat))) := by
  have W := X.1
  have WS := X.2.2.2.1.1
  have hy : S.1 0 0 ≤ 1000 := Nat.le_trans X.2.2.2.1.2.1 (by decide)
  have h9 := W.1
  have h8 := W.2.1
  have w3 := W.2.2.1
  have hf := H.1.1
  have hl := H.1.2.2.2.1
  have hb := H.1.2.2.2.2.2.2.1
  have RF := H.2.1
  have RS := H.2.2.2.2.1
  have hs9 : qisS 139 := by unfold qisS; omega
  have hC := H.2.2.2.2.2.2.2.2.2.2.2.2.2.2.1
  exact qCQ_inl I (fun Q hQ => b126_0 hf rfl (by omega) ⟨_, _, c60 (by omega) hs9 hf RF W RS, hQ⟩) qFq_rf
theorem f127 (hd : 3 ≤ d) (X : qAbs F L B S S0 Im C T) (H : qCls g I F L B S S0 Im C T P) : qCQ d 127 [.ref 64] g I (.inl (qj (bm (F.1 0 0) (aIdl F S) : Nat))) := by
  have W := X.1
  have WS := X.2.2.2.1.1
  have hy : S.1 0 0 ≤ 1000 := Nat.le_trans X.2.2.2.1.2.1 (by decide)
  have h9 := W.1
  have h8 := W.2.1
  have w3 := W.2.2.1
  have hf := H.1.1
  have hl := H.1.2.2.2.1
  have hb := H.1.2.2.2.2.2.2.1
  have RF := H.2.1
  have RS := H.2.2.2.2.1
  have hs9 : qisS 139 := by unfold qisS; omega
  have hC := H.2.2.2.2.2.2.2.2.2.2.2.2.2.2.1
  have f1 := RF.1
  refine qCQ_inl I (fun Q hQ => b127_0 (by omega) ?_) qFq_rf
  have key : ∀ i, i ≤ F.1 0 0 → qwq d 127 4 [(0, .ref 64), (1, .int (qj (bm i (aIdl F S) : Nat))), (2, .int (qj i))] [] (qw g I) Q := by
    refine upto _ (b127_4 hf rfl (by omega) ?_) (fun i hi ih => b127_4 hf rfl (by omega) ?_)
    · simp (disch := omega) only [qz0, qj_lt, qj_le, qj_eq, qtk, qfk, qbtt, qbft, qbtf, qbff, qIx_z, qj_nat, true_and, and_true, true_implies, false_implies, not_true_eq_false, not_false_eq_true, Bool.true_eq_false, Bool.false_eq_true, f1]
      exact hQ
    · have k54 := c54 (d := d - 1) (g := g) (by omega) hs9 hf RF W RS hy hi
      have s4 := (qNow RS).2.2.2.1 i (by omega)
      cases ha : aAl F S i with
      | false =>
        rw [ha] at k54
        rw [bm_sf (by unfold aIdl; rw [ha]; rfl)] at ih
        simp (disch := omega) only [qz0, qj_lt, qj_le, qj_eq, qtk, qfk, qbtt, qbft, qbtf, qbff, qIx_z, qj_nat, true_and, and_true, true_implies, false_implies, not_true_eq_false, not_false_eq_true, Bool.true_eq_false, Bool.false_eq_true, f1]
        refine ⟨_, _, k54, ?_⟩
        simp (disch := omega) only [qz0, qj_lt, qj_le, qj_eq, qtk, qfk, qbtt, qbft, qbtf, qbff, qIx_z, qj_nat, true_and, and_true, true_implies, false_implies, not_true_eq_false, not_false_eq_true, Bool.true_eq_false, Bool.false_eq_true, qj_add, qj_s1]
        exact ih
      | true =>
        rw [ha] at k54
        simp (disch := omega) only [qz0, qj_lt, qj_le, qj_eq, qtk, qfk, qbtt, qbft, qbtf, qbff, qIx_z, qj_nat, true_and, and_true, true_implies, false_implies, not_true_eq_false, not_false_eq_true, Bool.true_eq_false, Bool.false_eq_true, f1]
        refine ⟨_, _, k54, ?_⟩
        cases hb : anb 8 (S.2.1 i) with
        | true =>
          have ne : ¬ qj (bm 8 (S.2.1 i) : Nat) = qj 0 := by
            rw [qbm_eq0 (by omega)]
            intro c
            rw [(anb_false _ _).mpr c] at hb
            exact Bool.noConfusion hb
          rw [bm_sf (by unfold aIdl; rw [hb, Bool.not_true, Bool.and_false])] at ih
          simp (disch := omega) only [qz0, qbtt, qbft, qbtf, qbff, Bool.true_eq_false, Bool.false_eq_true, qIx_z, qj_nat, true_and, s4, ne, not_false_eq_true, true_implies, not_true_eq_false, false_implies, and_true, qj_add, qj_s1]
          exact ih
        | false =>
          have ee : qj (bm 8 (S.2.1 i) : Nat) = qj 0 := (qbm_eq0 (by omega)).mpr ((anb_false _ _).mp hb)
          rw [← bm_st (by unfold aIdl; rw [ha, hb]; rfl) (by omega)] at ih
          simp (disch := omega) only [qz0, qbtt, qbft, qbtf, qbff, Bool.true_eq_false, Bool.false_eq_true, qIx_z, qj_nat, true_and, s4, ee, not_false_eq_true, true_implies, not_true_eq_false, false_implies, and_true, qj_add, qj_s1]
          exact ih
  exact key 0 (Nat.zero_le _)
theorem f129 (hd : 3 ≤ d) (X : qAbs F L B S S0 Im C T) (H : qCls g I F L B S S0 Im C T P) : qCQ d 129 [.ref 64] g I (.inl (qj (bm (F.1 0 1) (aMut F S) : Nat))) := by
  have W := X.1
  have WS := X.2.2.2.1.1
  have hy : S.1 0 0 ≤ 1000 := Nat.le_trans X.2.2.2.1.2.1 (by decide)
  have h9 := W.1
  have h8 := W.2.1
  have w3 := W.2.2.1
  have hf := H.1.1
  have hl := H.1.2.2.2.1
  have hb := H.1.2.2.2.2.2.2.1
  have RF := H.2.1
  have RS := H.2.2.2.2.1
  have hs9 : qisS 139 := by unfold qisS; omega
  have hC := H.2.2.2.2.2.2.2.2.2.2.2.2.2.2.1
  have f2 := RF.2.1
  refine qCQ_inl I (fun Q hQ => b129_0 (by omega) ?_) qFq_rf
  have key : ∀ i, i ≤ F.1 0 1 → qwq d 129 4 [(0, .ref 64), (1, .int (qj (bm i (aMut F S) : Nat))), (2, .int (qj i))] [] (qw g I) Q := by
    refine upto _ (b129_4 hf rfl (by omega) ?_) (fun i hi ih => b129_4 hf rfl (by omega) ?_)
    · simp (disch := omega) only [qz0, qj_lt, qj_le, qj_eq, qtk, qfk, qbtt, qbft, qbtf, qbff, qIx_z, qj_nat, true_and, and_true, true_implies, false_implies, not_true_eq_false, not_false_eq_true, Bool.true_eq_false, Bool.false_eq_true, f2]
      exact hQ
    · have k58 := c58 (d := d - 1) (g := g) (by omega) hs9 RS (p := i) (by omega)
      have k35 := c35 (d := d - 1) (g := g) (by omega) hf RF W (m := bm 9 (fun h => S.2.1 h i)) (bm_lt _ _)
      simp (disch := omega) only [qz0, qj_lt, qj_le, qj_eq, qtk, qfk, qbtt, qbft, qbtf, qbff, qIx_z, qj_nat, true_and, and_true, true_implies, false_implies, not_true_eq_false, not_false_eq_true, Bool.true_eq_false, Bool.false_eq_true, f2]
      refine ⟨_, _, k58, _, _, k35, ?_⟩
      cases hq : cQt (F.2 2) (bm 9 (fun h => S.2.1 h i)) with
      | true =>
        rw [bm_sf (by unfold aMut; rw [hq]; rfl)] at ih
        simp (disch := omega) only [qz0, qj_lt, qj_le, qj_eq, qtk, qfk, qbtt, qbft, qbtf, qbff, qIx_z, qj_nat, true_and, and_true, true_implies, false_implies, not_true_eq_false, not_false_eq_true, Bool.true_eq_false, Bool.false_eq_true, qj_add, qj_s1]
        exact ih
      | false =>
        rw [← bm_st (by unfold aMut; rw [hq]; rfl) (by omega)] at ih
        simp (disch := omega) only [qz0, qj_lt, qj_le, qj_eq, qtk, qfk, qbtt, qbft, qbtf, qbff, qIx_z, qj_nat, true_and, and_true, true_implies, false_implies, not_true_eq_false, not_false_eq_true, Bool.true_eq_false, Bool.false_eq_true, qj_add, qj_s1]
        exact ih
  exact key 0 (Nat.zero_le _)
theorem f130 (hd : 8 ≤ d) (X : qAbs F L B S S0 Im C T) (H : qCls g I F L B S S0 Im C T P) {z : Int} (hz : -2147483648 ≤ z ∧ z < 2147483648) : qCQ d 130 [.ref 64, .int (qj z)] g I (rSlk F S z) := by
  have W := X.1
  have WS := X.2.2.2.1.1
  have hy : S.1 0 0 ≤ 1000 := Nat.le_trans X.2.2.2.1.2.1 (by decide)
  have h9 := W.1
  have h8 := W.2.1
  have w3 := W.2.2.1
  have hf := H.1.1
  have hl := H.1.2.2.2.1
  have hb := H.1.2.2.2.2.2.2.1
  have RF := H.2.1
  have RS := H.2.2.2.2.1
  have hs9 : qisS 139 := by unfold qisS; omega
  have hC := H.2.2.2.2.2.2.2.2.2.2.2.2.2.2.1
  unfold rSlk
  have f2 := RF.2.1
  by_cases h : 0 ≤ z ∧ z ≤ 31
  · rw [if_pos h]
    refine qCQ_inl I (fun Q hQ => b130_0 (by omega) ?_) qFq_rf
    simp (disch := omega) only [qz0, qj_lt, qj_le, qj_eq, qtk, qfk, qbtt, qbft, qbtf, qbff, qIx_z, qj_nat, true_and, and_true, true_implies, false_implies, not_true_eq_false, not_false_eq_true, Bool.true_eq_false, Bool.false_eq_true]
    have key : ∀ i, i ≤ F.1 0 1 → qwq d 130 23 [(0, .ref 64), (1, .int (qj z)), (2, .int (qj (bm i (fun p => decide ((S.1 3 p : Int) < z)) : Nat))), (3, .int (qj i))] [] (qw g I) Q := by
      refine upto _ (b130_23 hf rfl (by omega) ?_) (fun i hi ih => b130_23 hf rfl (by omega) ?_)
      · simp (disch := omega) only [qz0, qj_lt, qj_le, qj_eq, qtk, qfk, qbtt, qbft, qbtf, qbff, qIx_z, qj_nat, true_and, and_true, true_implies, false_implies, not_true_eq_false, not_false_eq_true, Bool.true_eq_false, Bool.false_eq_true, f2]
        exact hQ
      · have s7 := (qNow RS).2.2.2.2.2.2.1 i (by omega)
        have b3 := WS.2.2.1 i (by omega)
        by_cases c : (S.1 3 i : Int) < z
        · rw [← bm_st (by exact decide_eq_true c) (by omega)] at ih
          simp (disch := omega) only [qz0, qj_lt, qj_le, qj_eq, qtk, qfk, qbtt, qbft, qbtf, qbff, qIx_z, qj_nat, true_and, and_true, true_implies, false_implies, not_true_eq_false, not_false_eq_true, Bool.true_eq_false, Bool.false_eq_true, f2, s7, qj_add, qj_s1]
          exact ih
        · rw [bm_sf (by exact decide_eq_false c)] at ih
          simp (disch := omega) only [qz0, qj_lt, qj_le, qj_eq, qtk, qfk, qbtt, qbft, qbtf, qbff, qIx_z, qj_nat, true_and, and_true, true_implies, false_implies, not_true_eq_false, not_false_eq_true, Bool.true_eq_false, Bool.false_eq_true, f2, s7, qj_add, qj_s1]
          exact ih
    exact key 0 (Nat.zero_le _)
  · rw [if_neg h]
    refine qCQ_1 fun Q hQ => b130_0 (by omega) ?_
    simp (disch := omega) only [qz0, qj_lt, qj_le]
    exact qrfu hQ (fun c => qrfu hQ (fun c => by omega))
theorem c161 (hd : 3 ≤ d) (X : qAbs F L B S S0 Im C T) (H : qCls g I F L B S S0 Im C T P) : qRun d 161 [.ref 64] (qw g I) (.inl (some (.int (qj (aEld F S (F.1 0 0)))), qw g I)) := by
  have W := X.1
  have WS := X.2.2.2.1.1
  have hy : S.1 0 0 ≤ 1000 := Nat.le_trans X.2.2.2.1.2.1 (by decide)
  have h9 := W.1
  have h8 := W.2.1
  have w3 := W.2.2.1
  have hf := H.1.1
  have hl := H.1.2.2.2.1
  have hb := H.1.2.2.2.2.2.2.1
  have RF := H.2.1
  have RS := H.2.2.2.2.1
  have hs9 : qisS 139 := by unfold qisS; omega
  have hC := H.2.2.2.2.2.2.2.2.2.2.2.2.2.2.1
  have f1 := RF.1
  refine qRun_of fun Q hQ => b161_0 (by omega) ?_
  have key : ∀ i, i ≤ F.1 0 0 → qwq d 161 4 [(0, .ref 64), (1, .int (qj (aEld F S i))), (2, .int (qj i))] [] (qw g I) Q := by
    refine upto _ (b161_4 hf rfl (by omega) ?_) (fun i hi ih => b161_4 hf rfl (by omega) ?_)
    · simp (disch := omega) only [qz0, qj_lt, qj_le, qj_eq, qtk, qfk, qbtt, qbft, qbtf, qbff, qIx_z, qj_nat, true_and, and_true, true_implies, false_implies, not_true_eq_false, not_false_eq_true, Bool.true_eq_false, Bool.false_eq_true, f1]
      exact hQ
    · have k54 := c54 (d := d - 1) (g := g) (by omega) hs9 hf RF W RS hy hi
      have hb := aEld_b F S i
      simp (disch := omega) only [qz0, qj_lt, qj_le, qj_eq, qtk, qfk, qbtt, qbft, qbtf, qbff, qIx_z, qj_nat, true_and, and_true, true_implies, false_implies, not_true_eq_false, not_false_eq_true, Bool.true_eq_false, Bool.false_eq_true, f1]
      refine ⟨_, _, k54, ?_⟩
      rw [aEld] at ih
      cases ha : aAl F S i with
      | false =>
        rw [if_neg (fun c => by rw [ha] at c; exact Bool.noConfusion c.1)] at ih
        simp (disch := omega) only [qz0, qj_lt, qj_le, qj_eq, qtk, qfk, qbtt, qbft, qbtf, qbff, qIx_z, qj_nat, true_and, and_true, true_implies, false_implies, not_true_eq_false, not_false_eq_true, Bool.true_eq_false, Bool.false_eq_true, qj_add, qj_s1]
        exact ih
      | true =>
        by_cases c1 : aEld F S i = -1
        · rw [if_pos ⟨ha, Or.inl c1⟩] at ih
          simp (disch := omega) only [qz0, qj_lt, qj_le, qj_eq, qtk, qfk, qbtt, qbft, qbtf, qbff, qIx_z, qj_nat, true_and, and_true, true_implies, false_implies, not_true_eq_false, not_false_eq_true, Bool.true_eq_false, Bool.false_eq_true, qj_add, qj_s1]
          exact ih
        · obtain ⟨n, hn⟩ : ∃ n : Nat, aEld F S i = n := ⟨(aEld F S i).toNat, by omega⟩
          rw [hn] at ih c1 ⊢
          have e1 := RF.2.2.2.2.2.1 n (by omega)
          have e2 := RF.2.2.2.2.2.1 i (by omega)
          have b1 := (W.2.2.2.2.1 n (by omega)).2.1
          have b2 := (W.2.2.2.2.1 i (by omega)).2.1
          rw [Int.toNat_natCast] at ih
          by_cases c2 : F.1 2 i < F.1 2 n
          · rw [if_pos ⟨ha, Or.inr c2⟩] at ih
            simp (disch := omega) only [qz0, qj_lt, qj_le, qj_eq, qtk, qfk, qbtt, qbft, qbtf, qbff, qIx_z, qj_nat, true_and, and_true, true_implies, false_implies, not_true_eq_false, not_false_eq_true, Bool.true_eq_false, Bool.false_eq_true, e1, e2, qj_add, qj_s1]
            exact ih
          · rw [if_neg (fun c => by omega)] at ih
            simp (disch := omega) only [qz0, qj_lt, qj_le, qj_eq, qtk, qfk, qbtt, qbft, qbtf, qbff, qIx_z, qj_nat, true_and, and_true, true_implies, false_implies, not_true_eq_false, not_false_eq_true, Bool.true_eq_false, Bool.false_eq_true, e1, e2, qj_add, qj_s1]
            exact ih
  exact key 0 (Nat.zero_le _)
theorem c162 (hd : 2 ≤ d) (X : qAbs F L B S S0 Im C T) (H : qCls g I F L B S S0 Im C T P) : qRun d 162 [.ref 64] (qw g I) (.inl (some (.int (qj (aRch F (F.1 0 0)))), qw g I)) := by
  have W := X.1
  have WS := X.2.2.2.1.1
  have hy : S.1 0 0 ≤ 1000 := Nat.le_trans X.2.2.2.1.2.1 (by decide)
  have h9 := W.1
  have h8 := W.2.1
  have w3 := W.2.2.1
  have hf := H.1.1
  have hl := H.1.2.2.2.1
  have hb := H.1.2.2.2.2.2.2.1
  have RF := H.2.1
  have RS := H.2.2.2.2.1
  have hs9 : qisS 139 := by unfold qisS; omega
  have hC := H.2.2.2.2.2.2.2.2.2.2.2.2.2.2.1
  have f1 := RF.1
  refine qRun_of fun Q hQ => b162_0 (by omega) ?_
  have key : ∀ i, i ≤ F.1 0 0 → qwq d 162 4 [(0, .ref 64), (1, .int (qj (aRch F i))), (2, .int (qj i))] [] (qw g I) Q := by
    refine upto _ (b162_4 hf rfl (by omega) ?_) (fun i hi ih => b162_4 hf rfl (by omega) ?_)
    · simp (disch := omega) only [qz0, qj_lt, qj_le, qj_eq, qtk, qfk, qbtt, qbft, qbtf, qbff, qIx_z, qj_nat, true_and, and_true, true_implies, false_implies, not_true_eq_false, not_false_eq_true, Bool.true_eq_false, Bool.false_eq_true, f1]
      exact hQ
    · have hb := aRch_b F i
      rw [aRch] at ih
      by_cases c1 : aRch F i = -1
      · rw [if_pos (Or.inl c1)] at ih
        simp (disch := omega) only [qz0, qj_lt, qj_le, qj_eq, qtk, qfk, qbtt, qbft, qbtf, qbff, qIx_z, qj_nat, true_and, and_true, true_implies, false_implies, not_true_eq_false, not_false_eq_true, Bool.true_eq_false, Bool.false_eq_true, f1, qj_add, qj_s1]
        exact ih
      · obtain ⟨n, hn⟩ : ∃ n : Nat, aRch F i = n := ⟨(aRch F i).toNat, by omega⟩
        rw [hn] at ih c1 ⊢
        rw [Int.toNat_natCast] at ih
        have k1 := c160 (d := d - 1) (by omega) X H (h := i) hi
        have k2 := c160 (d := d - 1) (by omega) X H (h := n) (by omega)
        have b1 := aNet_b W i
        have b2 := aNet_b W n
        simp (disch := omega) only [qz0, qj_lt, qj_le, qj_eq, qtk, qfk, qbtt, qbft, qbtf, qbff, qIx_z, qj_nat, true_and, and_true, true_implies, false_implies, not_true_eq_false, not_false_eq_true, Bool.true_eq_false, Bool.false_eq_true, f1]
        refine ⟨_, _, k1, _, _, k2, ?_⟩
        by_cases c2 : aNet F n < aNet F i
        · rw [if_pos (Or.inr c2)] at ih
          simp (disch := omega) only [qz0, qj_lt, qj_le, qj_eq, qtk, qfk, qbtt, qbft, qbtf, qbff, qIx_z, qj_nat, true_and, and_true, true_implies, false_implies, not_true_eq_false, not_false_eq_true, Bool.true_eq_false, Bool.false_eq_true, qj_add, qj_s1]
          exact ih
        · rw [if_neg (fun c => by omega)] at ih
          simp (disch := omega) only [qz0, qj_lt, qj_le, qj_eq, qtk, qfk, qbtt, qbft, qbtf, qbff, qIx_z, qj_nat, true_and, and_true, true_implies, false_implies, not_true_eq_false, not_false_eq_true, Bool.true_eq_false, Bool.false_eq_true, qj_add, qj_s1]
          exact ih
  exact key 0 (Nat.zero_le _)
theorem f132 (hd : 8 ≤ d) (X : qAbs F L B S S0 Im C T) (H : qCls g I F L B S S0 Im C T P) {z : Int} (hz : -2147483648 ≤ z ∧ z < 2147483648) : qCQ d 132 [.ref 64, .int (qj z)] g I (rFst F S z) := by
  have W := X.1
  have WS := X.2.2.2.1.1
  have hy : S.1 0 0 ≤ 1000 := Nat.le_trans X.2.2.2.1.2.1 (by decide)
  have h9 := W.1
  have h8 := W.2.1
  have w3 := W.2.2.1
  have hf := H.1.1
  have hl := H.1.2.2.2.1
  have hb := H.1.2.2.2.2.2.2.1
  have RF := H.2.1
  have RS := H.2.2.2.2.1
  have hs9 : qisS 139 := by unfold qisS; omega
  have hC := H.2.2.2.2.2.2.2.2.2.2.2.2.2.2.1
  unfold rFst
  by_cases h : 0 ≤ z ∧ z ≤ 1
  · rw [if_pos h]
    by_cases h0 : z = 0
    · subst h0
      rw [if_pos rfl]
      refine qCQ_inl I (fun Q hQ => b132_0 (by omega) ?_) qFq_rf
      simp (disch := omega) only [qz0, qj_lt, qj_le, qj_eq, qtk, qfk, qbtt, qbft, qbtf, qbff, qIx_z, qj_nat, true_and, and_true, true_implies, false_implies, not_true_eq_false, not_false_eq_true, Bool.true_eq_false, Bool.false_eq_true]
      exact ⟨_, _, c161 (by omega) X H, hQ⟩
    · rw [if_neg h0]
      refine qCQ_inl I (fun Q hQ => b132_0 (by omega) ?_) qFq_rf
      simp (disch := omega) only [qz0, qj_lt, qj_le, qj_eq, qtk, qfk, qbtt, qbft, qbtf, qbff, qIx_z, qj_nat, true_and, and_true, true_implies, false_implies, not_true_eq_false, not_false_eq_true, Bool.true_eq_false, Bool.false_eq_true]
      exact ⟨_, _, c162 (by omega) X H, hQ⟩
  · rw [if_neg h]
    refine qCQ_1 fun Q hQ => b132_0 (by omega) ?_
    simp (disch := omega) only [qz0, qj_lt, qj_le]
    exact qrfu hQ (fun c => qrfu hQ (fun c => by omega))
theorem f133 (hd : 4 ≤ d) (X : qAbs F L B S S0 Im C T) (H : qCls g I F L B S S0 Im C T P) : qCQ d 133 [.ref 64] g I (.inl (qj (aSpk F S (F.1 0 0) : Nat))) := by
  have W := X.1
  have WS := X.2.2.2.1.1
  have hy : S.1 0 0 ≤ 1000 := Nat.le_trans X.2.2.2.1.2.1 (by decide)
  have h9 := W.1
  have h8 := W.2.1
  have w3 := W.2.2.1
  have hf := H.1.1
  have hl := H.1.2.2.2.1
  have hb := H.1.2.2.2.2.2.2.1
  have RF := H.2.1
  have RS := H.2.2.2.2.1
  have hs9 : qisS 139 := by unfold qisS; omega
  have hC := H.2.2.2.2.2.2.2.2.2.2.2.2.2.2.1
  have f1 := RF.1
  refine qCQ_inl I (fun Q hQ => b133_0 hf rfl (by omega) ⟨_, _, c55' (by omega) hs9 hf RF W RS hy, ?_⟩) qFq_rf
  have key : ∀ i, i ≤ F.1 0 0 → qwq d 133 16 [(0, .ref 64), (1, .int (qj (bm 9 (aAlv F S) : Nat))), (2, .int (qj (aSpk F S i : Nat))), (3, .int (qj i))] [] (qw g I) Q := by
    refine upto _ (b133_16 hf rfl (by omega) ?_) (fun i hi ih => b133_16 hf rfl (by omega) ?_)
    · simp (disch := omega) only [qz0, qj_lt, qj_le, qj_eq, qtk, qfk, qbtt, qbft, qbtf, qbff, qIx_z, qj_nat, true_and, and_true, true_implies, false_implies, not_true_eq_false, not_false_eq_true, Bool.true_eq_false, Bool.false_eq_true, f1]
      exact hQ
    · have f10 := RF.2.2.2.2.2.2.2.2.2.1 i (by omega)
      have hb := qhas_bm 9 (aAlv F S) (k := i) (by omega) (by omega)
      have hai : aAlv F S i = aAl F S i := by unfold aAlv; rw [decide_eq_true hi, Bool.true_and]
      rw [hai] at hb
      unfold aSpk at ih
      rw [sm] at ih
      cases ha : aAl F S i with
      | false =>
        rw [ha, if_neg Bool.false_ne_true, Nat.add_zero] at ih
        rw [ha] at hb
        simp (disch := omega) only [qz0, qj_lt, qj_le, qj_eq, qtk, qfk, qbtt, qbft, qbtf, qbff, qIx_z, qj_nat, true_and, and_true, true_implies, false_implies, not_true_eq_false, not_false_eq_true, Bool.true_eq_false, Bool.false_eq_true, f1, hb, qj_add, qj_s1]
        exact ih
      | true =>
        rw [ha, if_pos rfl] at ih
        rw [ha] at hb
        simp (disch := omega) only [qz0, qj_lt, qj_le, qj_eq, qtk, qfk, qbtt, qbft, qbtf, qbff, qIx_z, qj_nat, true_and, and_true, true_implies, false_implies, not_true_eq_false, not_false_eq_true, Bool.true_eq_false, Bool.false_eq_true, f1, hb, f10]
        have e : qpc ((qj (bm 9 (aAlv F S) : Nat) &&& (qj 1 <<< (qj (i : Int) &&& 31) - qj 1)) &&& (qj (bm 9 (F.2 2 i) : Nat) ^^^ qj (-1))) = qj (cn i (fun k => aAl F S k && !F.2 2 i k) : Nat) := by
          rw [qshl1 (by omega), qj_sub, bm_lo (m := 9) (by omega), qbm_and, qj_clr, qpc_bm (by omega), ← cn_mono (fun k => aAl F S k && !F.2 2 i k) 9 (show i ≤ 9 by omega)]
          refine congrArg (fun x : Nat => qj (x : Int)) (cn_ext (fun k hk => ?_))
          rw [decide_eq_true hk, Bool.true_and]
          unfold aAlv
          by_cases q : k < i
          · rw [decide_eq_true (show k < F.1 0 0 by omega), decide_eq_true q, Bool.true_and, Bool.true_and, Bool.and_true]
          · rw [decide_eq_false q, Bool.and_false, Bool.false_and, Bool.false_and]
        rw [e]
        simp (disch := omega) only [qj_add, qj_s1]
        exact ih
  exact key 0 (Nat.zero_le _)
end ASK6
