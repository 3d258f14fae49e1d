/-! ===== questions, the class' side: what is told, years on, casts ===== -/
def qCQ (d k : Nat) (as : List Value) (g : qG1) (I : Nat → Nat → Int32) : Int32 ⊕ Nat → Prop
  | .inl v => ∃ I', qRun d k as (qw g I) (.inl (some (.int v), qw g I')) ∧ qFq g I I'
  | .inr e => qRun d k as (qw g I) (.inr (e, qw (qgT g) (qup I 64 (16 + e) (I 64 (16 + e) + qj 1))))
theorem qrfu {P R X : Prop} (r : R) (x : ¬ P → X) : (P → R) ∧ (¬ P → X) := ⟨fun _ => r, x⟩
theorem qCQ_inl {d k : Nat} {as : List Value} {g : qG1} {I : Nat → Nat → Int32} {v : Int32} (I' : Nat → Nat → Int32) (h : ∀ Q : qR → Prop, Q (.inl (some (.int v), qw g I')) → qwp d k as (qw g I) Q) (e : qFq g I I') : qCQ d k as g I (.inl v) := ⟨I', qRun_of h, e⟩
theorem qCQ_0 {d k : Nat} {as : List Value} {g : qG1} {I : Nat → Nat → Int32} (h : ∀ Q : qR → Prop, Q (.inr (0, qw (qgT g) (qup I 64 16 (I 64 16 + qj 1)))) → qwp d k as (qw g I) Q) : qCQ d k as g I (.inr 0) := qRun_of h
theorem qCQ_1 {d k : Nat} {as : List Value} {g : qG1} {I : Nat → Nat → Int32} (h : ∀ Q : qR → Prop, Q (.inr (1, qw (qgT g) (qup I 64 17 (I 64 17 + qj 1)))) → qwp d k as (qw g I) Q) : qCQ d k as g I (.inr 1) := qRun_of h
def aBt (F : qFam) (a p : Nat) : Bool := anb (F.1 8 a) (fun i => F.1 (10 + a) i == p)
def rTold (F : qFam) (B : qBk) (S : qSt) (w : Int) : Int32 ⊕ Nat := if 0 ≤ w ∧ w ≤ 6 then .inl (if w = 0 then qj (F.1 0 0) else if w = 1 then qj (F.1 0 1) else if w = 2 then qj (F.1 0 2) else if w = 3 then qj (S.1 0 0) else if w = 4 then qj (cn 9 (aAlv F S) : Nat) else if w = 5 then qj (sm (F.1 0 1) (S.1 3) : Nat) else qj (B.1 : Int)) else .inr 1
def rHand (F : qFam) (S : qSt) (z w : Int) : Int32 ⊕ Nat := if 0 ≤ z ∧ z < F.1 0 0 then (if 0 ≤ w ∧ w ≤ 5 then .inl (if w = 0 then qj (F.1 1 z.toNat) else if w = 1 then qj (F.1 2 z.toNat) else if w = 2 then qj (F.1 3 z.toNat) else if w = 3 then qj (if S.2.2 z.toNat then 2 else if F.1 2 z.toNat ≤ S.1 0 0 then 1 else 0) else if w = 4 then qj (bm 8 (S.2.1 z.toNat) : Nat) else qj (max 0 ((S.1 0 0 : Int) - F.1 2 z.toNat))) else .inr 1) else .inr 0
def rPup (F : qFam) (S : qSt) (z w : Int) : Int32 ⊕ Nat := if 0 ≤ z ∧ z < F.1 0 1 then (if 0 ≤ w ∧ w ≤ 5 then .inl (if w = 0 then qj (F.1 4 z.toNat) else if w = 1 then qj (F.1 5 z.toNat) else if w = 2 then qj (S.1 3 z.toNat) else if w = 3 then qj (bm 9 (fun h => S.2.1 h z.toNat) : Nat) else if w = 4 then qj (aLk F S z.toNat) else qj ((S.1 4 z.toNat : Int) - 1)) else .inr 1) else .inr 0
def rAct (F : qFam) (z w : Int) : Int32 ⊕ Nat := if 0 ≤ z ∧ z < F.1 0 2 then (if 0 ≤ w ∧ w ≤ 2 then .inl (if w = 0 then qj (F.1 7 z.toNat) else if w = 1 then qj (bm 8 (aBt F z.toNat) : Nat) else qj (sm (F.1 8 z.toNat) (fun i => F.1 5 (F.1 (10 + z.toNat) i)) : Nat)) else .inr 1) else .inr 0
def rScore (F : qFam) (L : qLw) (S : qSt) (p h : Int) : Int32 ⊕ Nat := if (0 ≤ p ∧ p < F.1 0 1) ∧ 0 ≤ h ∧ h < F.1 0 0 then .inl (aSc F L S p.toNat h.toNat) else .inr 0
def rChs (F : qFam) (L : qLw) (S : qSt) (p : Int) : Int32 ⊕ Nat := if 0 ≤ p ∧ p < F.1 0 1 then .inl (qj ((aCh F L S p.toNat : Int) - 1)) else .inr 0
def rSnc (F : qFam) (S : qSt) (h p : Int) : Int32 ⊕ Nat := if (0 ≤ h ∧ h < F.1 0 0) ∧ 0 ≤ p ∧ p < F.1 0 1 then .inl (qj ((S.1 (5 + h.toNat) p.toNat : Int) - 1)) else .inr 0
def rCho (F : qFam) (S : qSt) (h : Int) : Int32 ⊕ Nat := if 0 ≤ h ∧ h < F.1 0 0 then .inl (qj ((S.1 2 h.toNat : Int) - 1)) else .inr 0
def rAhd (F : qFam) (L : qLw) (S : qSt) (p n : Int) : Int32 ⊕ Nat := if 0 ≤ p ∧ p < F.1 0 1 then (if 0 ≤ n ∧ n ≤ 60 then .inl (qj (bm 9 (fun h => (itr (aYear F L) n.toNat S).2.1 h p.toNat) : Nat)) else .inr 1) else .inr 0
/-- the first year behind which something is so -/
def aWh (F : qFam) (L : qLw) (q : qSt → Bool) : Nat → qSt → Int
  | 0, _ => -1
  | r + 1, S => if q (aYear F L S) = true then (aYear F L S).1 0 0 else aWh F L q r (aYear F L S)
def rWhn (F : qFam) (L : qLw) (S : qSt) (h p : Int) : Int32 ⊕ Nat := if (0 ≤ h ∧ h < F.1 0 0) ∧ 0 ≤ p ∧ p < F.1 0 1 then .inl (qj (aWh F L (fun T => T.2.1 h.toNat p.toNat) 60 S)) else .inr 0
def rLst (F : qFam) (L : qLw) (S : qSt) (a : Int) : Int32 ⊕ Nat := if 0 ≤ a ∧ a < F.1 0 2 then .inl (qj (aWh F L (fun T => !aPld F T (aAlv F T) a.toNat) 60 S)) else .inr 0
def rFad (F : qFam) (L : qLw) (S : qSt) (p : Int) : Int32 ⊕ Nat := if 0 ≤ p ∧ p < F.1 0 1 then .inl (qj (if S.1 3 p.toNat = 0 then 0 else aWh F L (fun T => T.1 3 p.toNat == 0) 60 S)) else .inr 0
def rCsts (F : qFam) (S : qSt) (a : Int) : Int32 ⊕ Nat := if 0 ≤ a ∧ a < F.1 0 2 then .inl (qj (aAct F S (aAlv F S) a.toNat).length) else .inr 0
def rCst (F : qFam) (S : qSt) (a p : Int) : Int32 ⊕ Nat := if (0 ≤ a ∧ a < F.1 0 2) ∧ 0 ≤ p ∧ p < F.1 0 1 then .inl (qj (match aAct F S (aAlv F S) a.toNat with | [] => 0 | c :: _ => cGv (F.1 (10 + a.toNat)) p.toNat c (F.1 8 a.toNat) 0 : Nat)) else .inr 0
theorem sm_inj {n : Nat} {ord f : Nat → Nat} {N : Nat} (hb : ∀ i, i < n → ord i < N) (hi : ∀ i, i < n → ∀ j, j < i → ord i ≠ ord j) : sm N (fun p => if anb n (fun i => ord i == p) = true then f p else 0) = sm n (fun i => f (ord i)) := by
  induction n with
  | zero =>
    have : ∀ m, sm m (fun p => if anb 0 (fun i => ord i == p) = true then f p else 0) = 0 := by
      intro m
      induction m with
      | zero => rfl
      | succ m ih => rw [sm, ih]; rfl
    exact this N
  | succ n ih =>
    have ih := ih (fun i h => hb i (by omega)) (fun i h => hi i (by omega))
    rw [sm, ← ih]
    have hn : anb n (fun i => ord i == ord n) = false := (anb_false _ _).mpr (fun k hk => by rw [beq_eq_false_iff_ne]; exact fun e => hi n (by omega) k hk e.symm)
    have key : ∀ m, sm m (fun p => if anb (n + 1) (fun i => ord i == p) = true then f p else 0) = sm m (fun p => if anb n (fun i => ord i == p) = true then f p else 0) + if ord n < m then f (ord n) else 0 := by
      intro m
      induction m with
      | zero => rfl
      | succ m ih2 =>
        rw [sm, sm, ih2]
        by_cases e : ord n = m
        · subst e
          rw [if_neg (Nat.lt_irrefl _), if_pos (Nat.lt_succ_self _), anb, hn]
          simp
        · have e1 : anb (n + 1) (fun i => ord i == m) = anb n (fun i => ord i == m) := by
            rw [anb]
            have : (ord n == m) = false := by rw [beq_eq_false_iff_ne]; exact e
            rw [this, Bool.or_false]
          rw [e1]
          by_cases h : ord n < m
          · rw [show (if ord n < m then f (ord n) else 0) = f (ord n) from if_pos h, show (if ord n < m + 1 then f (ord n) else 0) = f (ord n) from if_pos (by omega)]
            exact Nat.add_right_comm _ _ _
          · rw [show (if ord n < m then f (ord n) else 0) = 0 from if_neg h, show (if ord n < m + 1 then f (ord n) else 0) = 0 from if_neg (by omega)]; rfl
    rw [key N, if_pos (hb n (Nat.lt_succ_self _))]
section ASK1
variable {d : Nat} {g : qG1} {I : Nat → Nat → Int32} {F : qFam} {L : qLw} {B : qBk} {S S0 : qSt} {Im : Nat → qSt} {C T : Nat → Nat} {P : Int} {f s : Nat}
theorem c32 (hd : 1 ≤ d) (hf : qisF f) (RF : qRF F I f) (W : qWF F) {a : Nat} (ha : a < F.1 0 2) : qRun d 32 [.ref f, .int (qj a)] (qw g I) (.inl (some (.int (qj (bm 8 (aBt F a) : Nat))), qw g I)) := by
  refine qRun_of fun Q hQ => b32_0 hf (by omega) ?_
  have w3 := W.2.2.1
  have h8 := W.2.1
  have hwa := W.2.2.2.2.2.2.1 a ha
  have f16 := RF.2.2.2.2.2.2.2.2.2.2.2.2.2.2.2.1 a (by omega)
  have L : ∀ i, i ≤ F.1 8 a → qwq d 32 4 [(0, .ref f), (1, .int (qj a)), (2, .int (qj (bm 8 (fun p => anb i (fun j => F.1 (10 + a) j == p)) : Nat))), (3, .int (qj i))] [] (qw g I) Q := by
    refine upto _ (b32_4 hf (by omega) ?_) (fun i hi ih => b32_4 hf (by omega) ?_)
    · simp (disch := omega) only [qIx_z, qj_nat, f16, qj_le, true_and]
      exact ⟨fun _ => hQ, fun c => by omega⟩
    · have f17 := RF.2.2.2.2.2.2.2.2.2.2.2.2.2.2.2.2 a i (by omega) hi
      have hp := hwa.2.2.2.1 i hi
      have e : bm 8 (fun q => if q = F.1 (10 + a) i then true else anb i (fun j => F.1 (10 + a) j == q)) = bm 8 (fun p => anb (i + 1) (fun j => F.1 (10 + a) j == p)) := bm_ext (fun k _ => by
        show (if k = F.1 (10 + a) i then true else anb i (fun j => F.1 (10 + a) j == k)) = (anb i (fun j => F.1 (10 + a) j == k) || F.1 (10 + a) i == k)
        by_cases ek : k = F.1 (10 + a) i
        · rw [if_pos ek, ek]; simp
        · rw [if_neg ek]
          have : (F.1 (10 + a) i == k) = false := by rw [beq_eq_false_iff_ne]; exact fun q => ek q.symm
          rw [this, Bool.or_false])
      simp (disch := omega) only [qIx_z, qj_nat, f16, qj_le, q2_e, f17, bm_set, e, qj_add, qj_s1, true_and]
      exact ⟨fun c => by omega, fun _ => ⟨fun c => by omega, fun _ => ih⟩⟩
  have k := L 0 (Nat.zero_le _)
  have e0 : bm 8 (fun p => anb 0 (fun j => F.1 (10 + a) j == p)) = 0 := bm_zero.mpr (fun _ _ => rfl)
  rw [e0] at k
  exact k
theorem c33 (hd : 2 ≤ d) (hf : qisF f) (RF : qRF F I f) (W : qWF F) {n : Nat} (hn : n ≤ 10) (M : Nat → Bool) (hM : n = 8) : qRun d 33 [.ref f, .int (qj (bm n M : Nat))] (qw g I) (.inl (some (.int (qj (sm (F.1 0 1) (fun p => if M p = true then F.1 5 p else 0) : Nat))), qw g I)) := by
  refine qRun_of fun Q hQ => b33_0 hf (by omega) ?_
  have h8 := W.2.1
  have f2 := RF.2.1
  have f13 := RF.2.2.2.2.2.2.2.2.2.2.2.2.1
  have L : ∀ i, i ≤ F.1 0 1 → qwq d 33 4 [(0, .ref f), (1, .int (qj (bm n M : Nat))), (2, .int (qj (sm i (fun p => if M p = true then F.1 5 p else 0) : Nat))), (3, .int (qj i))] [] (qw g I) Q := by
    refine upto _ (b33_4 hf (by omega) ?_) (fun i hi ih => b33_4 hf (by omega) ?_)
    · simp (disch := omega) only [f2, qj_le]
      exact ⟨fun _ => hQ, fun c => by omega⟩
    · have e := f13 i hi
      simp (disch := omega) only [f2, qj_le, qhas_bm, qIx_z, qj_nat, e, qj_add, qj_s1, true_and]
      rw [sm] at ih
      refine ⟨fun c => by omega, fun _ => ⟨fun c => ?_, fun c => ?_⟩⟩
      · rw [c] at ih; rw [Int.add_zero]; exact ih
      · rw [c] at ih; exact ih
  exact L 0 (Nat.zero_le _)
end ASK1
