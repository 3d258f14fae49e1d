/-! ===== questions, the reference's side, 6: what hands don't suffice for, lies, claims, debts ===== -/
theorem lkB_up {F : qFam} {S : qSt} (W : qWF F) {a : Nat} (ha : a < F.1 0 2) : ∀ k, 2 ^ F.1 0 1 + k ≤ 256 → lkB F S a (2 ^ F.1 0 1 + k) = lkB F S a (2 ^ F.1 0 1)
  | 0, _ => rfl
  | k + 1, h => by
    have h8 := W.2.1
    have ih := lkB_up (S := S) W ha k (by omega)
    rw [show 2 ^ F.1 0 1 + (k + 1) = 2 ^ F.1 0 1 + k + 1 by omega, lkB, ih, if_neg]
    intro c
    have c2 := c.2.1
    have hlow : ∀ p, p < 8 → (2 ^ F.1 0 1 + k).testBit p = true → aBt F a p = true := fun p hp hb => by
      have := (anb_false _ _).mp c2 p hp
      rw [hb, Bool.true_and] at this
      cases hq : aBt F a p with
      | true => rfl
      | false => rw [hq] at this; exact Bool.noConfusion this
    have hnp : ∀ p, aBt F a p = true → p < F.1 0 1 := fun p hp => by
      rcases Nat.lt_or_ge p (F.1 0 1) with q | q
      · exact q
      · unfold aBt at hp
        have : anb (F.1 8 a) (fun i => F.1 (10 + a) i == p) = false := (anb_false _ _).mpr (fun i hi => by
          have := (W.2.2.2.2.2.2.1 a ha).2.2.2.1 i hi
          rw [beq_eq_false_iff_ne]; omega)
        rw [this] at hp; exact Bool.noConfusion hp
    have e : 2 ^ F.1 0 1 + k = bm 8 (fun p => (2 ^ F.1 0 1 + k).testBit p) := (bm_selfn (n := 8) (by omega)).symm
    have e2 : bm 8 (fun p => (2 ^ F.1 0 1 + k).testBit p) = bm (F.1 0 1) (fun p => (2 ^ F.1 0 1 + k).testBit p) := by
      rw [← bm_up (F.1 0 1) (fun p => (2 ^ F.1 0 1 + k).testBit p) 8 h8]
      refine bm_ext (fun p hp => ?_)
      cases hb : (2 ^ F.1 0 1 + k).testBit p with
      | false => rw [Bool.and_false]
      | true => rw [decide_eq_true (hnp p (hlow p hp hb))]; rfl
    have := bm_lt (F.1 0 1) (fun p => (2 ^ F.1 0 1 + k).testBit p)
    omega
theorem sm_mem {f : Nat → Nat} {i : Nat} : ∀ n, i < n → f i ≤ sm n f
  | n + 1, h => by
    rw [sm]
    by_cases e : i = n
    · subst e; omega
    · have := sm_mem (f := f) n (show i < n by omega); omega
theorem aCls_999 {F : qFam} {S : qSt} (W : qWF F) (WS : qWS F S) : aCls F S 999 = aCls F S 240 := sm_ext (fun h _ => by
  have := aCl_b W WS h
  show min 999 (aCl F S h) = min 240 (aCl F S h)
  omega)
theorem aCls_lv {F : qFam} {S : qSt} (W : qWF F) (WS : qWS F S) {e : Nat} (h : e < aCls F S 240) : e < aCls F S (e + 1) := by
  rcases Nat.lt_or_ge e (aCls F S (e + 1)) with q | q
  · exact q
  · have : aCls F S (e + 1) = aCls F S 240 := sm_ext (fun k hk => by
      have h1 := aCl_b W WS k
      have h2 := sm_mem (f := fun h => min (e + 1) (aCl F S h)) _ hk
      have h3 : min (e + 1) (aCl F S k) ≤ e := Nat.le_trans h2 q
      show min (e + 1) (aCl F S k) = min 240 (aCl F S k)
      omega)
    omega
theorem cSw_0 (sil : Nat → Nat → Bool) (s : Nat) : cSw sil 0 s = cQt sil s := by
  unfold cSw cQt
  congr 2
  funext h
  congr 2
  funext g
  rw [Nat.zero_or, Bool.and_comm]
section RASK6
variable {d : Nat} {g : qG1} {I : Nat → Nat → Int32} {F : qFam} {L : qLw} {B : qBk} {S S0 : qSt} {Im : Nat → qSt} {C T : Nat → Nat} {P : Int} {f s : Nat}
theorem m172_8 (hd : 1 ≤ d) {m : Nat} (hm : m < 256) : qRun d 172 [.int (qj m)] (qw g I) (.inl (some (.int (qj (cn 8 (fun k => m.testBit k) : Nat))), qw g I)) := by
  have h := m172 (g := g) (I := I) hd (qj m)
  have e : cn 9 (fun k => qhas (qj (m : Int)) (qj (k : Int))) = cn 8 (fun k => m.testBit k) := by
    rw [cn_ext (q := fun k => m.testBit k) (fun k hk => qhas_n m (by omega)), cn_sf (Nat.testBit_lt_two_pow (show m < 2 ^ 8 from hm))]
  rw [e] at h; exact h
theorem r262 (hd : 4 ≤ d) (X : qAbs F L B S S0 Im C T) (H : qMdl I F L B S S0 Im C T P) {z : Int} (hz : -2147483648 ≤ z ∧ z < 2147483648) : qMQ d 262 [.ref 245, .int (qj z)] g I 1 C (rLck F S z) := by
  have W := X.1
  have WL := X.2.1
  have WS := X.2.2.2.1.1
  have hy : S.1 0 0 ≤ 1000 := Nat.le_trans X.2.2.2.1.2.1 (by decide)
  have h9 := W.1
  have h8 := W.2.1
  have w3 := W.2.2.1
  have f1 := H.1.1
  have f2 := H.1.2.1
  have f3 := H.1.2.2.1
  have M0 := qMdl_q H X (qFp_0 (v := qj 0))
  have MF := M0.1
  have R := M0.2.2.2.2.1
  have hr : qisR 682 := by unfold qisR; omega
  have z0 : qup I 245 0 (qj 0) 245 0 = qj 0 := by rw [qup_at, if_pos rfl]
  unfold rLck
  by_cases h : 0 ≤ z ∧ z < F.1 0 2
  · rw [if_pos h]
    obtain ⟨a, rfl⟩ : ∃ n : Nat, z = n := ⟨z.toNat, by omega⟩
    rw [Int.toNat_natCast]
    have ha : a < F.1 0 2 := by omega
    have hp2 : 2 ^ F.1 0 1 ≤ 256 := Nat.pow_le_pow_right (by decide : 0 < 2) h8
    have e256 : lkB F S a 256 = lkB F S a (2 ^ F.1 0 1) := by
      have := lkB_up (S := S) W ha (256 - 2 ^ F.1 0 1) (by omega)
      rw [show 2 ^ F.1 0 1 + (256 - 2 ^ F.1 0 1) = 256 by omega] at this
      exact this
    have hnp : ∀ m, m < 2 ^ F.1 0 1 → ∀ p, F.1 0 1 ≤ p → m.testBit p = false := fun m hm p hp => Nat.testBit_lt_two_pow (Nat.lt_of_lt_of_le hm (Nat.pow_le_pow_right (by decide) hp))
    have e1 := MF.1
    have e2 := MF.2.1
    have esh : qj 1 <<< (qj (F.1 0 1 : Nat) &&& 31) = qj ((2 ^ F.1 0 1 : Nat) : Int) := qshl1 (by omega)
    have k219 := m219' (d := d - 1) (g := g) (by omega) hr MF W R hy
    have k227 := m227 (d := d - 1) (g := g) (by omega) MF W ha
    refine qMQ_inl _ (fun Q hQ => b262_0 (by omega) ?_) qFe_rf
    rw [e256] at hQ
    simp (disch := omega) only [qz0, qj_lt, qj_le, qj_eq, qtk, qfk, qbtt, qbft, qbtf, qbff, qIx_z, qj_nat, true_and, and_true, true_implies, false_implies, not_true_eq_false, not_false_eq_true, Bool.true_eq_false, Bool.false_eq_true, qj_sub, qinB_t, qinB_f, q2_e, qj_add, qj_s1, qj_c1, qj_c2, qj_c9, qj_c17, qj_c97, f3]
    refine ⟨_, _, bd0 (by omega) _ _, ?_⟩
    simp (disch := omega) only [qz0, qj_lt, qj_le, qj_eq, qtk, qfk, qbtt, qbft, qbtf, qbff, qIx_z, qj_nat, true_and, and_true, true_implies, false_implies, not_true_eq_false, not_false_eq_true, Bool.true_eq_false, Bool.false_eq_true, qj_sub, qinB_t, qinB_f, q2_e, qj_add, qj_s1, qj_c1, qj_c2, qj_c9, qj_c17, qj_c97]
    refine ⟨_, _, k219, ?_⟩
    generalize hK : 2 ^ F.1 0 1 = K at hp2 hnp esh hQ
    have hK1 : 1 ≤ K := by rw [← hK]; exact Nat.two_pow_pos _
    have key : ∀ m, m ≤ K → 1 ≤ m → qwq d 262 43 [(0, .ref 245), (1, .int (qj a)), (2, .int (qj (lkB F S a m))), (3, .int (qj (bm 9 (aAlv F S) : Nat))), (4, .int (qj m))] [] (qw g (qup I 245 0 (qj 0))) Q := by
      refine upto _ (fun _ => b262_43 (by omega) ?_) (fun m hm ih h1 => ?_)
      · simp (disch := omega) only [qz0, qj_lt, qj_le, qj_eq, qtk, qfk, qbtt, qbft, qbtf, qbff, qIx_z, qj_nat, true_and, and_true, true_implies, false_implies, not_true_eq_false, not_false_eq_true, Bool.true_eq_false, Bool.false_eq_true, qj_sub, qinB_t, qinB_f, q2_e, qj_add, qj_s1, qj_c1, qj_c2, qj_c9, qj_c17, qj_c97, e2, esh]
        exact hQ
      · have hlk := lkB_le F S a m
        have ih := ih (by omega)
        have es := qsub8 (m := m) (by omega) (aBt F a)
        have kx := m172_8 (d := d - 1) (g := g) (I := qup I 245 0 (qj 0)) (m := m) (by omega) (by omega)
        have kb := m172_8 (d := d - 1) (g := g) (I := qup I 245 0 (qj 0)) (m := lkB F S a m) (by omega) (by omega)
        have cb1 := cn_le 8 (fun k => m.testBit k)
        have cb2 := cn_le 8 (fun k => (lkB F S a m).testBit k)
        -- the set is weighed
        have body : anb 8 (fun p => m.testBit p && !aBt F a p) = false → (lkB F S a m = 0 ∨ cn 8 (fun k => m.testBit k) < cn 8 (fun k => (lkB F S a m).testBit k)) →
            qwq d 262 97 [(0, .ref 245), (1, .int (qj a)), (2, .int (qj (lkB F S a m))), (3, .int (qj (bm 9 (aAlv F S) : Nat))), (4, .int (qj m)), (5, .int (qj 0)), (6, .int (qj (bm 9 (aAlv F S) : Nat))), (7, .int (qj 0))] [] (qw g (qup I 245 0 (qj 0))) Q := by
          intro c1 c2
          have inner : ∀ i, i ≤ F.1 0 1 → qwq d 262 97 [(0, .ref 245), (1, .int (qj a)), (2, .int (qj (lkB F S a m))), (3, .int (qj (bm 9 (aAlv F S) : Nat))), (4, .int (qj m)), (5, .int (qj (sm i (fun p => if m.testBit p = true then F.1 5 p else 0) : Nat))), (6, .int (qj (bm 9 (fun h => aAlv F S h && !anb i (fun p => m.testBit p && !F.2 1 h p)) : Nat))), (7, .int (qj i))] [] (qw g (qup I 245 0 (qj 0))) Q := by
            refine upto _ (b262_97 (by omega) ?_) (fun i hi ihi => b262_97 (by omega) ?_)
            · simp (disch := omega) only [qz0, qj_lt, qj_le, qj_eq, qtk, qfk, qbtt, qbft, qbtf, qbff, qIx_z, qj_nat, true_and, and_true, true_implies, false_implies, not_true_eq_false, not_false_eq_true, Bool.true_eq_false, Bool.false_eq_true, qj_sub, qinB_t, qinB_f, q2_e, qj_add, qj_s1, qj_c1, qj_c2, qj_c9, qj_c17, qj_c97, e2]
              have eA : qj (bm 9 (aAlv F S) : Nat) &&& (qj (bm 9 (fun h => aAlv F S h && !anb (F.1 0 1) (fun p => m.testBit p && !F.2 1 h p)) : Nat) ^^^ qj (-1)) = qj (bm 9 (lkH F (aAlv F S) m) : Nat) := by
                rw [qj_clr]
                congr 2
                refine bm_ext (fun h hh => ?_)
                have e8 : anb 8 (fun p => m.testBit p && !F.2 1 h p) = anb (F.1 0 1) (fun p => m.testBit p && !F.2 1 h p) := by
                  cases hq : anb (F.1 0 1) (fun p => m.testBit p && !F.2 1 h p) with
                  | false =>
                    refine (anb_false _ _).mpr (fun p hp => ?_)
                    by_cases c : p < F.1 0 1
                    · exact (anb_false _ _).mp hq p c
                    · rw [hnp m hm p (by omega)]; rfl
                  | true =>
                    cases hq8 : anb 8 (fun p => m.testBit p && !F.2 1 h p) with
                    | true => rfl
                    | false =>
                      have : anb (F.1 0 1) (fun p => m.testBit p && !F.2 1 h p) = false := (anb_false _ _).mpr (fun p hp => (anb_false _ _).mp hq8 p (by omega))
                      rw [this] at hq; exact Bool.noConfusion hq
                unfold lkH
                rw [e8, decide_eq_true hh]
                cases aAlv F S h <;> cases anb (F.1 0 1) (fun p => m.testBit p && !F.2 1 h p) <;> rfl
              rw [eA]
              have kl := m172 (d := d - 1) (g := g) (I := qup I 245 0 (qj 0)) (by omega) (qj (bm 9 (lkH F (aAlv F S) m) : Nat))
              rw [qones (by omega)] at kl
              have ecn : cn 9 (lkH F (aAlv F S) m) = cn (F.1 0 0) (lkH F (aAlv F S) m) := by
                rw [← cn_mono (lkH F (aAlv F S) m) 9 h9]
                refine cn_ext (fun h _ => ?_)
                by_cases c : h < F.1 0 0
                · rw [decide_eq_true c, Bool.true_and]
                · rw [decide_eq_false c, Bool.false_and]
                  unfold lkH aAlv
                  rw [decide_eq_false c, Bool.false_and, Bool.false_and]
              have hc9 := cn_le (F.1 0 0) (lkH F (aAlv F S) m)
              have hsb : ∀ n, n ≤ F.1 0 1 → sm n (fun p => if m.testBit p = true then F.1 5 p else 0) ≤ 2 * n := by
                intro n
                induction n with
                | zero => intro _; exact Nat.le_refl _
                | succ n ihn =>
                  intro hn
                  have := ihn (by omega)
                  have := (W.2.2.2.2.2.1 n (by omega)).2.2.1
                  rw [sm]; split <;> omega
              have hs1 := hsb _ (Nat.le_refl _)
              have eN : lkN F m = sm (F.1 0 1) (fun p => if m.testBit p = true then F.1 5 p else 0) := rfl
              rw [ecn] at kl
              refine ⟨_, _, kl, ?_⟩
              by_cases c3 : cn (F.1 0 0) (lkH F (aAlv F S) m) < lkN F m
              · rw [lkB, if_pos ⟨by omega, c1, c2, c3⟩] at ih
                simp (disch := omega) only [qz0, qj_lt, qj_le, qj_eq, qtk, qfk, qbtt, qbft, qbtf, qbff, qIx_z, qj_nat, true_and, and_true, true_implies, false_implies, not_true_eq_false, not_false_eq_true, Bool.true_eq_false, Bool.false_eq_true, qj_sub, qinB_t, qinB_f, q2_e, qj_add, qj_s1, qj_c1, qj_c2, qj_c9, qj_c17, qj_c97]
                exact ih
              · rw [lkB, if_neg (fun q => c3 q.2.2.2)] at ih
                simp (disch := omega) only [qz0, qj_lt, qj_le, qj_eq, qtk, qfk, qbtt, qbft, qbtf, qbff, qIx_z, qj_nat, true_and, and_true, true_implies, false_implies, not_true_eq_false, not_false_eq_true, Bool.true_eq_false, Bool.false_eq_true, qj_sub, qinB_t, qinB_f, q2_e, qj_add, qj_s1, qj_c1, qj_c2, qj_c9, qj_c17, qj_c97]
                exact ih
            · have e8 := MF.2.2.2.2.2.2.2.1 i hi
              have e15 := MF.2.2.2.2.2.2.2.2.2.2.2.2.2.2.1 i (by omega)
              have hb := qhas_n m (k := i) (by omega)
              rw [sm] at ihi
              cases hm2 : m.testBit i with
              | true =>
                rw [hm2] at hb
                rw [hm2, if_pos rfl] at ihi
                have eq : bm 9 (fun h => (aAlv F S h && !anb i (fun p => m.testBit p && !F.2 1 h p)) && F.2 1 h i) = bm 9 (fun h => aAlv F S h && !anb (i + 1) (fun p => m.testBit p && !F.2 1 h p)) := bm_ext (fun h _ => by
                  show _ = (aAlv F S h && !(anb i (fun p => m.testBit p && !F.2 1 h p) || (m.testBit i && !F.2 1 h i)))
                  rw [hm2]
                  cases aAlv F S h <;> cases anb i (fun p => m.testBit p && !F.2 1 h p) <;> cases F.2 1 h i <;> rfl)
                rw [← eq, ← qbm_and] at ihi
                simp (disch := omega) only [qz0, qj_lt, qj_le, qj_eq, qtk, qfk, qbtt, qbft, qbtf, qbff, qIx_z, qj_nat, true_and, and_true, true_implies, false_implies, not_true_eq_false, not_false_eq_true, Bool.true_eq_false, Bool.false_eq_true, qj_sub, qinB_t, qinB_f, q2_e, qj_add, qj_s1, qj_c1, qj_c2, qj_c9, qj_c17, qj_c97, e2, hb, e8, e15]
                exact ihi
              | false =>
                rw [hm2] at hb
                rw [hm2, if_neg Bool.false_ne_true, Nat.add_zero] at ihi
                have eq : bm 9 (fun h => aAlv F S h && !anb (i + 1) (fun p => m.testBit p && !F.2 1 h p)) = bm 9 (fun h => aAlv F S h && !anb i (fun p => m.testBit p && !F.2 1 h p)) := bm_ext (fun h _ => by
                  show (aAlv F S h && !(anb i (fun p => m.testBit p && !F.2 1 h p) || (m.testBit i && !F.2 1 h i))) = _
                  rw [hm2, Bool.false_and, Bool.or_false])
                rw [eq] at ihi
                simp (disch := omega) only [qz0, qj_lt, qj_le, qj_eq, qtk, qfk, qbtt, qbft, qbtf, qbff, qIx_z, qj_nat, true_and, and_true, true_implies, false_implies, not_true_eq_false, not_false_eq_true, Bool.true_eq_false, Bool.false_eq_true, qj_sub, qinB_t, qinB_f, q2_e, qj_add, qj_s1, qj_c1, qj_c2, qj_c9, qj_c17, qj_c97, e2, hb]
                exact ihi
          have := inner 0 (Nat.zero_le _)
          have e0 : bm 9 (fun h => aAlv F S h && !anb 0 (fun p => m.testBit p && !F.2 1 h p)) = bm 9 (aAlv F S) := bm_ext (fun h _ => by
            show (aAlv F S h && !false) = _
            rw [Bool.not_false, Bool.and_true])
          rw [e0] at this
          exact this
        refine b262_43 (by omega) ?_
        simp (disch := omega) only [qz0, qj_lt, qj_le, qj_eq, qtk, qfk, qbtt, qbft, qbtf, qbff, qIx_z, qj_nat, true_and, and_true, true_implies, false_implies, not_true_eq_false, not_false_eq_true, Bool.true_eq_false, Bool.false_eq_true, qj_sub, qinB_t, qinB_f, q2_e, qj_add, qj_s1, qj_c1, qj_c2, qj_c9, qj_c17, qj_c97, e2, esh]
        refine ⟨_, _, k227, ?_⟩
        cases hsub : anb 8 (fun p => m.testBit p && !aBt F a p) with
        | true =>
          have ne : ¬ (qj (m : Int) &&& (qj (bm 8 (aBt F a) : Nat) ^^^ qj (-1)) = qj 0) := by
            rw [es, hsub]; exact fun q => Bool.noConfusion q
          rw [lkB, if_neg (fun q => by rw [hsub] at q; exact Bool.noConfusion q.2.1)] at ih
          simp (disch := omega) only [qz0, qj_lt, qj_le, qj_eq, qtk, qfk, qbtt, qbft, qbtf, qbff, qIx_z, qj_nat, true_and, and_true, true_implies, false_implies, not_true_eq_false, not_false_eq_true, Bool.true_eq_false, Bool.false_eq_true, qj_sub, qinB_t, qinB_f, q2_e, qj_add, qj_s1, qj_c1, qj_c2, qj_c9, qj_c17, qj_c97, ne]
          exact ih
        | false =>
          have ee : (qj (m : Int) &&& (qj (bm 8 (aBt F a) : Nat) ^^^ qj (-1)) = qj 0) := by
            rw [es, hsub]
          by_cases c0 : lkB F S a m = 0
          · have hbody := body hsub (Or.inl c0)
            rw [c0] at hbody ⊢
            simp (disch := omega) only [qz0, qj_lt, qj_le, qj_eq, qtk, qfk, qbtt, qbft, qbtf, qbff, qIx_z, qj_nat, true_and, and_true, true_implies, false_implies, not_true_eq_false, not_false_eq_true, Bool.true_eq_false, Bool.false_eq_true, qj_sub, qinB_t, qinB_f, q2_e, qj_add, qj_s1, qj_c1, qj_c2, qj_c9, qj_c17, qj_c97, ee, Int.natCast_zero]
            exact hbody
          · by_cases c1 : cn 8 (fun k => m.testBit k) < cn 8 (fun k => (lkB F S a m).testBit k)
            · have hbody := body hsub (Or.inr c1)
              simp (disch := omega) only [qz0, qj_lt, qj_le, qj_eq, qtk, qfk, qbtt, qbft, qbtf, qbff, qIx_z, qj_nat, true_and, and_true, true_implies, false_implies, not_true_eq_false, not_false_eq_true, Bool.true_eq_false, Bool.false_eq_true, qj_sub, qinB_t, qinB_f, q2_e, qj_add, qj_s1, qj_c1, qj_c2, qj_c9, qj_c17, qj_c97, ee]
              refine ⟨_, _, kx, _, _, kb, ?_⟩
              simp (disch := omega) only [qz0, qj_lt, qj_le, qj_eq, qtk, qfk, qbtt, qbft, qbtf, qbff, qIx_z, qj_nat, true_and, and_true, true_implies, false_implies, not_true_eq_false, not_false_eq_true, Bool.true_eq_false, Bool.false_eq_true, qj_sub, qinB_t, qinB_f, q2_e, qj_add, qj_s1, qj_c1, qj_c2, qj_c9, qj_c17, qj_c97]
              exact hbody
            · rw [lkB, if_neg (fun q => by
                rcases q.2.2.1 with q | q
                · exact c0 q
                · exact c1 q)] at ih
              simp (disch := omega) only [qz0, qj_lt, qj_le, qj_eq, qtk, qfk, qbtt, qbft, qbtf, qbff, qIx_z, qj_nat, true_and, and_true, true_implies, false_implies, not_true_eq_false, not_false_eq_true, Bool.true_eq_false, Bool.false_eq_true, qj_sub, qinB_t, qinB_f, q2_e, qj_add, qj_s1, qj_c1, qj_c2, qj_c9, qj_c17, qj_c97, ee]
              refine ⟨_, _, kx, _, _, kb, ?_⟩
              simp (disch := omega) only [qz0, qj_lt, qj_le, qj_eq, qtk, qfk, qbtt, qbft, qbtf, qbff, qIx_z, qj_nat, true_and, and_true, true_implies, false_implies, not_true_eq_false, not_false_eq_true, Bool.true_eq_false, Bool.false_eq_true, qj_sub, qinB_t, qinB_f, q2_e, qj_add, qj_s1, qj_c1, qj_c2, qj_c9, qj_c17, qj_c97]
              exact ih
    have := key 1 hK1 (Nat.le_refl 1)
    have e0 : lkB F S a 1 = 0 := by rw [lkB, if_neg (fun q => absurd q.1 (Nat.lt_irrefl 0))]; rfl
    rw [e0] at this
    exact this
  · rw [if_neg h]
    refine qMQ_0 fun Q hQ => b262_0 (by omega) ?_
    simp (disch := omega) only [qz0, qj_lt, qj_le, qj_eq, qtk, qfk, qbtt, qbft, qbtf, qbff, qIx_z, qj_nat, true_and, and_true, true_implies, false_implies, not_true_eq_false, not_false_eq_true, Bool.true_eq_false, Bool.false_eq_true, qj_sub, qinB_t, qinB_f, q2_e, qj_add, qj_s1, qj_c1, qj_c2, qj_c9, qj_c17, qj_c97, f3]
    refine ⟨_, _, bd10 (by omega) H, ?_⟩
    simp (disch := omega) only [qz0, qj_lt, qj_le, qj_eq, qtk, qfk, qbtt, qbft, qbtf, qbff, qIx_z, qj_nat, true_and, and_true, true_implies, false_implies, not_true_eq_false, not_false_eq_true, Bool.true_eq_false, Bool.false_eq_true, qj_sub, qinB_t, qinB_f, q2_e, qj_add, qj_s1, qj_c1, qj_c2, qj_c9, qj_c17, qj_c97]
    exact hQ
theorem m267 (hd : 1 ≤ d) (X : qAbs F L B S S0 Im C T) (H : qMdl I F L B S S0 Im C T P) {J : Nat → Nat → Int32} (hJ : qFe (qup I 245 0 (qj 0)) J) {p h : Nat} (hp : p < F.1 0 1) (hh : h < F.1 0 0) : qRun d 267 [.ref 245, .int (qj p), .int (qj h)] (qw g J) (.inl (some (.int (qj (aLie F S p h : Nat))), qw g J)) := by
  have W := X.1
  have h9 := W.1
  have h8 := W.2.1
  have M := mAf X H hJ
  have l1 := M.2.1 h hh
  have e7 := M.1.2.2.2.2.2.2.1 p hp
  have s3 := M.2.2.2.2.1.2.2.1 p hp
  have b1 := (W.2.2.2.2.1 h hh).1
  have b2 := (W.2.2.2.2.2.1 p hp).1
  have b3 := X.2.2.2.1.1.2.2.1 p hp
  have l1' : J (266 + 1 + h) 0 = qj (F.1 1 h) := l1
  refine qRun_of fun Q hQ => b267_0 (by omega) ?_
  simp (disch := omega) only [qz0, qj_lt, qj_le, qj_eq, qtk, qfk, qbtt, qbft, qbtf, qbff, qIx_z, qj_nat, true_and, and_true, true_implies, false_implies, not_true_eq_false, not_false_eq_true, Bool.true_eq_false, Bool.false_eq_true, qj_sub, qinB_t, qinB_f, q2_e, qj_add, qj_s1, qj_c1, qj_c2, qj_c9, qj_c17, qj_c97, l1', e7, s3, qj_mul, qj_dvz]
  have e : (F.1 4 p : Int) + 3 * F.1 1 h + S.1 3 p - ((F.1 4 p : Int) + 3 * F.1 1 h + S.1 3 p) / 16 * 16 = (aLie F S p h : Nat) := by unfold aLie; omega
  rw [e]; exact hQ
theorem r268 (hd : 3 ≤ d) (X : qAbs F L B S S0 Im C T) (H : qMdl I F L B S S0 Im C T P) {z w : Int} (hz : -2147483648 ≤ z ∧ z < 2147483648) (hw : -2147483648 ≤ w ∧ w < 2147483648) : qMQ d 268 [.ref 245, .int (qj z), .int (qj w)] g I 1 C (rLie F S z w) := by
  have W := X.1
  have WL := X.2.1
  have WS := X.2.2.2.1.1
  have hy : S.1 0 0 ≤ 1000 := Nat.le_trans X.2.2.2.1.2.1 (by decide)
  have h9 := W.1
  have h8 := W.2.1
  have w3 := W.2.2.1
  have f1 := H.1.1
  have f2 := H.1.2.1
  have f3 := H.1.2.2.1
  have M0 := qMdl_q H X (qFp_0 (v := qj 0))
  have MF := M0.1
  have R := M0.2.2.2.2.1
  have hr : qisR 682 := by unfold qisR; omega
  have z0 : qup I 245 0 (qj 0) 245 0 = qj 0 := by rw [qup_at, if_pos rfl]
  unfold rLie
  by_cases h : (0 ≤ z ∧ z < F.1 0 1) ∧ 0 ≤ w ∧ w < F.1 0 0
  · rw [if_pos h]
    obtain ⟨n, rfl⟩ : ∃ n : Nat, z = n := ⟨z.toNat, by omega⟩
    obtain ⟨m, rfl⟩ : ∃ m : Nat, w = m := ⟨w.toNat, by omega⟩
    have k267 := m267 (d := d - 1) (g := g) (p := n) (h := m) (by omega) X H qFe_rf (by omega) (by omega)
    refine qMQ_inl _ (fun Q hQ => b268_0 (by omega) ?_) qFe_rf
    simp (disch := omega) only [qz0, qj_lt, qj_le, qj_eq, qtk, qfk, qbtt, qbft, qbtf, qbff, qIx_z, qj_nat, true_and, and_true, true_implies, false_implies, not_true_eq_false, not_false_eq_true, Bool.true_eq_false, Bool.false_eq_true, qj_sub, qinB_t, qinB_f, q2_e, qj_add, qj_s1, qj_c1, qj_c2, qj_c9, qj_c17, qj_c97, f1, f2]
    refine ⟨_, _, bd0 (by omega) _ _, ?_⟩
    simp (disch := omega) only [qz0, qj_lt, qj_le, qj_eq, qtk, qfk, qbtt, qbft, qbtf, qbff, qIx_z, qj_nat, true_and, and_true, true_implies, false_implies, not_true_eq_false, not_false_eq_true, Bool.true_eq_false, Bool.false_eq_true, qj_sub, qinB_t, qinB_f, q2_e, qj_add, qj_s1, qj_c1, qj_c2, qj_c9, qj_c17, qj_c97]
    exact ⟨_, _, k267, hQ⟩
  · rw [if_neg h]
    by_cases h2 : 0 ≤ z ∧ z < F.1 0 1
    · skip
      refine qMQ_0 fun Q hQ => b268_0 (by omega) ?_
      simp (disch := omega) only [qz0, qj_lt, qj_le, qj_eq, qtk, qfk, qbtt, qbft, qbtf, qbff, qIx_z, qj_nat, true_and, and_true, true_implies, false_implies, not_true_eq_false, not_false_eq_true, Bool.true_eq_false, Bool.false_eq_true, qj_sub, qinB_t, qinB_f, q2_e, qj_add, qj_s1, qj_c1, qj_c2, qj_c9, qj_c17, qj_c97, f1, f2]
      refine ⟨_, _, bd10 (by omega) H, ?_⟩
      simp (disch := omega) only [qz0, qj_lt, qj_le, qj_eq, qtk, qfk, qbtt, qbft, qbtf, qbff, qIx_z, qj_nat, true_and, and_true, true_implies, false_implies, not_true_eq_false, not_false_eq_true, Bool.true_eq_false, Bool.false_eq_true, qj_sub, qinB_t, qinB_f, q2_e, qj_add, qj_s1, qj_c1, qj_c2, qj_c9, qj_c17, qj_c97]
      exact hQ
    · skip
      refine qMQ_0 fun Q hQ => b268_0 (by omega) ?_
      simp (disch := omega) only [qz0, qj_lt, qj_le, qj_eq, qtk, qfk, qbtt, qbft, qbtf, qbff, qIx_z, qj_nat, true_and, and_true, true_implies, false_implies, not_true_eq_false, not_false_eq_true, Bool.true_eq_false, Bool.false_eq_true, qj_sub, qinB_t, qinB_f, q2_e, qj_add, qj_s1, qj_c1, qj_c2, qj_c9, qj_c17, qj_c97, f1, f2]
      refine ⟨_, _, bd10 (by omega) H, ?_⟩
      simp (disch := omega) only [qz0, qj_lt, qj_le, qj_eq, qtk, qfk, qbtt, qbft, qbtf, qbff, qIx_z, qj_nat, true_and, and_true, true_implies, false_implies, not_true_eq_false, not_false_eq_true, Bool.true_eq_false, Bool.false_eq_true, qj_sub, qinB_t, qinB_f, q2_e, qj_add, qj_s1, qj_c1, qj_c2, qj_c9, qj_c17, qj_c97]
      exact hQ
theorem r269 (hd : 3 ≤ d) (X : qAbs F L B S S0 Im C T) (H : qMdl I F L B S S0 Im C T P) {z w : Int} (hz : -2147483648 ≤ z ∧ z < 2147483648) (hw : -2147483648 ≤ w ∧ w < 2147483648) : qMQ d 269 [.ref 245, .int (qj z), .int (qj w)] g I 2 C (rDrp F S z w) := by
  have W := X.1
  have WL := X.2.1
  have WS := X.2.2.2.1.1
  have hy : S.1 0 0 ≤ 1000 := Nat.le_trans X.2.2.2.1.2.1 (by decide)
  have h9 := W.1
  have h8 := W.2.1
  have w3 := W.2.2.1
  have f1 := H.1.1
  have f2 := H.1.2.1
  have f3 := H.1.2.2.1
  have M0 := qMdl_q H X (qFp_0 (v := qj 0))
  have MF := M0.1
  have R := M0.2.2.2.2.1
  have hr : qisR 682 := by unfold qisR; omega
  have z0 : qup I 245 0 (qj 0) 245 0 = qj 0 := by rw [qup_at, if_pos rfl]
  unfold rDrp
  by_cases h : 0 ≤ z ∧ z < F.1 0 1
  · rw [if_pos h]
    obtain ⟨n, rfl⟩ : ∃ n : Nat, z = n := ⟨z.toNat, by omega⟩
    by_cases h2 : 0 ≤ w ∧ w ≤ 15
    · rw [if_pos h2]
      obtain ⟨m, rfl⟩ : ∃ m : Nat, w = m := ⟨w.toNat, by omega⟩
      rw [Int.toNat_natCast, Int.toNat_natCast]
      have e1 := MF.1
      refine qMQ_inl _ (fun Q hQ => b269_0 (by omega) ?_) qFe_rf
      simp (disch := omega) only [qz0, qj_lt, qj_le, qj_eq, qtk, qfk, qbtt, qbft, qbtf, qbff, qIx_z, qj_nat, true_and, and_true, true_implies, false_implies, not_true_eq_false, not_false_eq_true, Bool.true_eq_false, Bool.false_eq_true, qj_sub, qinB_t, qinB_f, q2_e, qj_add, qj_s1, qj_c1, qj_c2, qj_c9, qj_c17, qj_c97, f2]
      refine ⟨_, _, bd0 (by omega) _ _, ?_⟩
      simp (disch := omega) only [qz0, qj_lt, qj_le, qj_eq, qtk, qfk, qbtt, qbft, qbtf, qbff, qIx_z, qj_nat, true_and, and_true, true_implies, false_implies, not_true_eq_false, not_false_eq_true, Bool.true_eq_false, Bool.false_eq_true, qj_sub, qinB_t, qinB_f, q2_e, qj_add, qj_s1, qj_c1, qj_c2, qj_c9, qj_c17, qj_c97]
      refine ⟨_, _, bd0 (by omega) _ _, ?_⟩
      simp (disch := omega) only [qz0, qj_lt, qj_le, qj_eq, qtk, qfk, qbtt, qbft, qbtf, qbff, qIx_z, qj_nat, true_and, and_true, true_implies, false_implies, not_true_eq_false, not_false_eq_true, Bool.true_eq_false, Bool.false_eq_true, qj_sub, qinB_t, qinB_f, q2_e, qj_add, qj_s1, qj_c1, qj_c2, qj_c9, qj_c17, qj_c97]
      have key : ∀ i, i ≤ F.1 0 0 → qwq d 269 58 [(0, .ref 245), (1, .int (qj n)), (2, .int (qj m)), (3, .int (qj (bm i (aDrp F S n m) : Nat))), (4, .int (qj i))] [] (qw g (qup I 245 0 (qj 0))) Q := by
        refine upto _ (b269_58 (by omega) ?_) (fun i hi ih => b269_58 (by omega) ?_)
        · simp (disch := omega) only [qz0, qj_lt, qj_le, qj_eq, qtk, qfk, qbtt, qbft, qbtf, qbff, qIx_z, qj_nat, true_and, and_true, true_implies, false_implies, not_true_eq_false, not_false_eq_true, Bool.true_eq_false, Bool.false_eq_true, qj_sub, qinB_t, qinB_f, q2_e, qj_add, qj_s1, qj_c1, qj_c2, qj_c9, qj_c17, qj_c97, e1]
          exact hQ
        · have k218 := m218 (d := d - 1) (g := g) (by omega) hr MF W R hy (h := i) (by omega)
          have k267 := m267 (d := d - 1) (g := g) (p := n) (h := i) (by omega) X H qFe_rf (by omega) hi
          have hl : aLie F S n i < 16 := Nat.mod_lt _ (by decide)
          cases ha : aAl F S i with
          | false =>
            rw [ha] at k218
            rw [bm_sf (by unfold aDrp; rw [ha]; rfl)] at ih
            simp (disch := omega) only [qz0, qj_lt, qj_le, qj_eq, qtk, qfk, qbtt, qbft, qbtf, qbff, qIx_z, qj_nat, true_and, and_true, true_implies, false_implies, not_true_eq_false, not_false_eq_true, Bool.true_eq_false, Bool.false_eq_true, qj_sub, qinB_t, qinB_f, q2_e, qj_add, qj_s1, qj_c1, qj_c2, qj_c9, qj_c17, qj_c97, e1]
            refine ⟨_, _, k218, ?_⟩
            simp (disch := omega) only [qz0, qj_lt, qj_le, qj_eq, qtk, qfk, qbtt, qbft, qbtf, qbff, qIx_z, qj_nat, true_and, and_true, true_implies, false_implies, not_true_eq_false, not_false_eq_true, Bool.true_eq_false, Bool.false_eq_true, qj_sub, qinB_t, qinB_f, q2_e, qj_add, qj_s1, qj_c1, qj_c2, qj_c9, qj_c17, qj_c97, qor_0]
            exact ih
          | true =>
            rw [ha] at k218
            by_cases e : aLie F S n i = m
            · rw [← bm_st (by unfold aDrp; rw [ha, e, beq_self_eq_true]; rfl) (by omega)] at ih
              simp (disch := omega) only [qz0, qj_lt, qj_le, qj_eq, qtk, qfk, qbtt, qbft, qbtf, qbff, qIx_z, qj_nat, true_and, and_true, true_implies, false_implies, not_true_eq_false, not_false_eq_true, Bool.true_eq_false, Bool.false_eq_true, qj_sub, qinB_t, qinB_f, q2_e, qj_add, qj_s1, qj_c1, qj_c2, qj_c9, qj_c17, qj_c97, e1]
              refine ⟨_, _, k218, ?_⟩
              simp (disch := omega) only [qz0, qj_lt, qj_le, qj_eq, qtk, qfk, qbtt, qbft, qbtf, qbff, qIx_z, qj_nat, true_and, and_true, true_implies, false_implies, not_true_eq_false, not_false_eq_true, Bool.true_eq_false, Bool.false_eq_true, qj_sub, qinB_t, qinB_f, q2_e, qj_add, qj_s1, qj_c1, qj_c2, qj_c9, qj_c17, qj_c97]
              refine ⟨_, _, k267, ?_⟩
              simp (disch := omega) only [qz0, qj_lt, qj_le, qj_eq, qtk, qfk, qbtt, qbft, qbtf, qbff, qIx_z, qj_nat, true_and, and_true, true_implies, false_implies, not_true_eq_false, not_false_eq_true, Bool.true_eq_false, Bool.false_eq_true, qj_sub, qinB_t, qinB_f, q2_e, qj_add, qj_s1, qj_c1, qj_c2, qj_c9, qj_c17, qj_c97]
              exact ih
            · rw [bm_sf (by unfold aDrp; rw [ha, beq_eq_false_iff_ne.mpr e]; rfl)] at ih
              simp (disch := omega) only [qz0, qj_lt, qj_le, qj_eq, qtk, qfk, qbtt, qbft, qbtf, qbff, qIx_z, qj_nat, true_and, and_true, true_implies, false_implies, not_true_eq_false, not_false_eq_true, Bool.true_eq_false, Bool.false_eq_true, qj_sub, qinB_t, qinB_f, q2_e, qj_add, qj_s1, qj_c1, qj_c2, qj_c9, qj_c17, qj_c97, e1]
              refine ⟨_, _, k218, ?_⟩
              simp (disch := omega) only [qz0, qj_lt, qj_le, qj_eq, qtk, qfk, qbtt, qbft, qbtf, qbff, qIx_z, qj_nat, true_and, and_true, true_implies, false_implies, not_true_eq_false, not_false_eq_true, Bool.true_eq_false, Bool.false_eq_true, qj_sub, qinB_t, qinB_f, q2_e, qj_add, qj_s1, qj_c1, qj_c2, qj_c9, qj_c17, qj_c97]
              refine ⟨_, _, k267, ?_⟩
              simp (disch := omega) only [qz0, qj_lt, qj_le, qj_eq, qtk, qfk, qbtt, qbft, qbtf, qbff, qIx_z, qj_nat, true_and, and_true, true_implies, false_implies, not_true_eq_false, not_false_eq_true, Bool.true_eq_false, Bool.false_eq_true, qj_sub, qinB_t, qinB_f, q2_e, qj_add, qj_s1, qj_c1, qj_c2, qj_c9, qj_c17, qj_c97, qor_0]
              exact ih
      exact key 0 (Nat.zero_le _)
    · rw [if_neg h2]
      refine qMQ_2 fun Q hQ => b269_0 (by omega) ?_
      simp (disch := omega) only [qz0, qj_lt, qj_le, qj_eq, qtk, qfk, qbtt, qbft, qbtf, qbff, qIx_z, qj_nat, true_and, and_true, true_implies, false_implies, not_true_eq_false, not_false_eq_true, Bool.true_eq_false, Bool.false_eq_true, qj_sub, qinB_t, qinB_f, q2_e, qj_add, qj_s1, qj_c1, qj_c2, qj_c9, qj_c17, qj_c97, f2]
      refine ⟨_, _, bd0 (by omega) _ _, ?_⟩
      simp (disch := omega) only [qz0, qj_lt, qj_le, qj_eq, qtk, qfk, qbtt, qbft, qbtf, qbff, qIx_z, qj_nat, true_and, and_true, true_implies, false_implies, not_true_eq_false, not_false_eq_true, Bool.true_eq_false, Bool.false_eq_true, qj_sub, qinB_t, qinB_f, q2_e, qj_add, qj_s1, qj_c1, qj_c2, qj_c9, qj_c17, qj_c97, f2]
      refine ⟨_, _, bd21 (by omega) H, ?_⟩
      simp (disch := omega) only [qz0, qj_lt, qj_le, qj_eq, qtk, qfk, qbtt, qbft, qbtf, qbff, qIx_z, qj_nat, true_and, and_true, true_implies, false_implies, not_true_eq_false, not_false_eq_true, Bool.true_eq_false, Bool.false_eq_true, qj_sub, qinB_t, qinB_f, q2_e, qj_add, qj_s1, qj_c1, qj_c2, qj_c9, qj_c17, qj_c97]
      exact hQ
  · rw [if_neg h]
    refine qMQ_0 fun Q hQ => b269_0 (by omega) ?_
    simp (disch := omega) only [qz0, qj_lt, qj_le, qj_eq, qtk, qfk, qbtt, qbft, qbtf, qbff, qIx_z, qj_nat, true_and, and_true, true_implies, false_implies, not_true_eq_false, not_false_eq_true, Bool.true_eq_false, Bool.false_eq_true, qj_sub, qinB_t, qinB_f, q2_e, qj_add, qj_s1, qj_c1, qj_c2, qj_c9, qj_c17, qj_c97, f2]
    refine ⟨_, _, bd10 (by omega) H, ?_⟩
    simp (disch := omega) only [qz0, qj_lt, qj_le, qj_eq, qtk, qfk, qbtt, qbft, qbtf, qbff, qIx_z, qj_nat, true_and, and_true, true_implies, false_implies, not_true_eq_false, not_false_eq_true, Bool.true_eq_false, Bool.false_eq_true, qj_sub, qinB_t, qinB_f, q2_e, qj_add, qj_s1, qj_c1, qj_c2, qj_c9, qj_c17, qj_c97]
    exact hQ
theorem r277 (hd : 3 ≤ d) (X : qAbs F L B S S0 Im C T) (H : qMdl I F L B S S0 Im C T P) : qMQ d 277 [.ref 245] g I 1 C (.inl (qj (aSpk F S (F.1 0 0) : Nat))) := by
  have W := X.1
  have WL := X.2.1
  have WS := X.2.2.2.1.1
  have hy : S.1 0 0 ≤ 1000 := Nat.le_trans X.2.2.2.1.2.1 (by decide)
  have h9 := W.1
  have h8 := W.2.1
  have w3 := W.2.2.1
  have f1 := H.1.1
  have f2 := H.1.2.1
  have f3 := H.1.2.2.1
  have M0 := qMdl_q H X (qFp_0 (v := qj 0))
  have MF := M0.1
  have R := M0.2.2.2.2.1
  have hr : qisR 682 := by unfold qisR; omega
  have z0 : qup I 245 0 (qj 0) 245 0 = qj 0 := by rw [qup_at, if_pos rfl]
  have e1 := MF.1
  refine qMQ_inl _ (fun Q hQ => b277_0 (by omega) ?_) qFe_rf
  have key : ∀ h, h ≤ F.1 0 0 → qwq d 277 9 [(0, .ref 245), (1, .int (qj (aSpk F S h : Nat))), (2, .int (qj h))] [] (qw g (qup I 245 0 (qj 0))) Q := by
    refine upto _ (b277_9 (by omega) ?_) (fun h hh ih => b277_9 (by omega) ?_)
    · simp (disch := omega) only [qz0, qj_lt, qj_le, qj_eq, qtk, qfk, qbtt, qbft, qbtf, qbff, qIx_z, qj_nat, true_and, and_true, true_implies, false_implies, not_true_eq_false, not_false_eq_true, Bool.true_eq_false, Bool.false_eq_true, qj_sub, qinB_t, qinB_f, q2_e, qj_add, qj_s1, qj_c1, qj_c2, qj_c9, qj_c17, qj_c97, e1]
      exact hQ
    · simp (disch := omega) only [qz0, qj_lt, qj_le, qj_eq, qtk, qfk, qbtt, qbft, qbtf, qbff, qIx_z, qj_nat, true_and, and_true, true_implies, false_implies, not_true_eq_false, not_false_eq_true, Bool.true_eq_false, Bool.false_eq_true, qj_sub, qinB_t, qinB_f, q2_e, qj_add, qj_s1, qj_c1, qj_c2, qj_c9, qj_c17, qj_c97, e1]
      have e16 := MF.2.2.2.2.2.2.2.2.2.2.2.2.2.2.2 h (by omega)
      have kh := m218 (d := d - 1) (g := g) (by omega) hr MF W R hy (h := h) hh
      have inner : ∀ k, k ≤ h → qwq d 277 21 [(0, .ref 245), (1, .int (qj ((aSpk F S h : Nat) + (if aAl F S h = true then cn k (fun k => aAl F S k && !F.2 2 h k) else 0 : Nat)))), (2, .int (qj h)), (3, .int (qj k))] [] (qw g (qup I 245 0 (qj 0))) Q := by
        refine upto _ (b277_21 (by omega) ?_) (fun k hk ihk => b277_21 (by omega) ?_)
        · have e : (aSpk F S h : Int) + ((if aAl F S h = true then cn h (fun k => aAl F S k && !F.2 2 h k) else 0 : Nat) : Int) = (aSpk F S (h + 1) : Nat) := rfl
          rw [e]
          simp (disch := omega) only [qz0, qj_lt, qj_le, qj_eq, qtk, qfk, qbtt, qbft, qbtf, qbff, qIx_z, qj_nat, true_and, and_true, true_implies, false_implies, not_true_eq_false, not_false_eq_true, Bool.true_eq_false, Bool.false_eq_true, qj_sub, qinB_t, qinB_f, q2_e, qj_add, qj_s1, qj_c1, qj_c2, qj_c9, qj_c17, qj_c97]
          exact ih
        · have kk := m218 (d := d - 1) (g := g) (by omega) hr MF W R hy (h := k) (by omega)
          cases ha : aAl F S h with
          | false =>
            rw [ha] at kh
            rw [ha, if_neg Bool.false_ne_true] at ihk
            rw [if_neg Bool.false_ne_true]
            simp (disch := omega) only [qz0, qj_lt, qj_le, qj_eq, qtk, qfk, qbtt, qbft, qbtf, qbff, qIx_z, qj_nat, true_and, and_true, true_implies, false_implies, not_true_eq_false, not_false_eq_true, Bool.true_eq_false, Bool.false_eq_true, qj_sub, qinB_t, qinB_f, q2_e, qj_add, qj_s1, qj_c1, qj_c2, qj_c9, qj_c17, qj_c97]
            refine ⟨_, _, kh, ?_⟩
            simp (disch := omega) only [qz0, qj_lt, qj_le, qj_eq, qtk, qfk, qbtt, qbft, qbtf, qbff, qIx_z, qj_nat, true_and, and_true, true_implies, false_implies, not_true_eq_false, not_false_eq_true, Bool.true_eq_false, Bool.false_eq_true, qj_sub, qinB_t, qinB_f, q2_e, qj_add, qj_s1, qj_c1, qj_c2, qj_c9, qj_c17, qj_c97, Int.add_zero]
            simp (disch := omega) only [Int.natCast_zero, Int.add_zero] at ihk ⊢
            exact ihk
          | true =>
            rw [ha] at kh
            rw [ha, if_pos rfl] at ihk
            rw [if_pos rfl]
            cases hb : aAl F S k with
            | false =>
              rw [hb] at kk
              rw [cn_sf (by rw [hb]; rfl)] at ihk
              simp (disch := omega) only [qz0, qj_lt, qj_le, qj_eq, qtk, qfk, qbtt, qbft, qbtf, qbff, qIx_z, qj_nat, true_and, and_true, true_implies, false_implies, not_true_eq_false, not_false_eq_true, Bool.true_eq_false, Bool.false_eq_true, qj_sub, qinB_t, qinB_f, q2_e, qj_add, qj_s1, qj_c1, qj_c2, qj_c9, qj_c17, qj_c97]
              refine ⟨_, _, kh, ?_⟩
              simp (disch := omega) only [qz0, qj_lt, qj_le, qj_eq, qtk, qfk, qbtt, qbft, qbtf, qbff, qIx_z, qj_nat, true_and, and_true, true_implies, false_implies, not_true_eq_false, not_false_eq_true, Bool.true_eq_false, Bool.false_eq_true, qj_sub, qinB_t, qinB_f, q2_e, qj_add, qj_s1, qj_c1, qj_c2, qj_c9, qj_c17, qj_c97]
              refine ⟨_, _, kk, ?_⟩
              simp (disch := omega) only [qz0, qj_lt, qj_le, qj_eq, qtk, qfk, qbtt, qbft, qbtf, qbff, qIx_z, qj_nat, true_and, and_true, true_implies, false_implies, not_true_eq_false, not_false_eq_true, Bool.true_eq_false, Bool.false_eq_true, qj_sub, qinB_t, qinB_f, q2_e, qj_add, qj_s1, qj_c1, qj_c2, qj_c9, qj_c17, qj_c97, Int.add_zero]
              exact ihk
            | true =>
              rw [hb] at kk
              cases hs : F.2 2 h k with
              | true =>
                rw [cn_sf (by rw [hb, hs]; rfl)] at ihk
                simp (disch := omega) only [qz0, qj_lt, qj_le, qj_eq, qtk, qfk, qbtt, qbft, qbtf, qbff, qIx_z, qj_nat, true_and, and_true, true_implies, false_implies, not_true_eq_false, not_false_eq_true, Bool.true_eq_false, Bool.false_eq_true, qj_sub, qinB_t, qinB_f, q2_e, qj_add, qj_s1, qj_c1, qj_c2, qj_c9, qj_c17, qj_c97]
                refine ⟨_, _, kh, ?_⟩
                simp (disch := omega) only [qz0, qj_lt, qj_le, qj_eq, qtk, qfk, qbtt, qbft, qbtf, qbff, qIx_z, qj_nat, true_and, and_true, true_implies, false_implies, not_true_eq_false, not_false_eq_true, Bool.true_eq_false, Bool.false_eq_true, qj_sub, qinB_t, qinB_f, q2_e, qj_add, qj_s1, qj_c1, qj_c2, qj_c9, qj_c17, qj_c97]
                refine ⟨_, _, kk, ?_⟩
                simp (disch := omega) only [qz0, qj_lt, qj_le, qj_eq, qtk, qfk, qbtt, qbft, qbtf, qbff, qIx_z, qj_nat, true_and, and_true, true_implies, false_implies, not_true_eq_false, not_false_eq_true, Bool.true_eq_false, Bool.false_eq_true, qj_sub, qinB_t, qinB_f, q2_e, qj_add, qj_s1, qj_c1, qj_c2, qj_c9, qj_c17, qj_c97, e16, qhas_bm, hs, Int.add_zero]
                exact ihk
              | false =>
                rw [cn_st (by rw [hb, hs]; rfl)] at ihk
                simp (disch := omega) only [qz0, qj_lt, qj_le, qj_eq, qtk, qfk, qbtt, qbft, qbtf, qbff, qIx_z, qj_nat, true_and, and_true, true_implies, false_implies, not_true_eq_false, not_false_eq_true, Bool.true_eq_false, Bool.false_eq_true, qj_sub, qinB_t, qinB_f, q2_e, qj_add, qj_s1, qj_c1, qj_c2, qj_c9, qj_c17, qj_c97]
                refine ⟨_, _, kh, ?_⟩
                simp (disch := omega) only [qz0, qj_lt, qj_le, qj_eq, qtk, qfk, qbtt, qbft, qbtf, qbff, qIx_z, qj_nat, true_and, and_true, true_implies, false_implies, not_true_eq_false, not_false_eq_true, Bool.true_eq_false, Bool.false_eq_true, qj_sub, qinB_t, qinB_f, q2_e, qj_add, qj_s1, qj_c1, qj_c2, qj_c9, qj_c17, qj_c97]
                refine ⟨_, _, kk, ?_⟩
                simp (disch := omega) only [qz0, qj_lt, qj_le, qj_eq, qtk, qfk, qbtt, qbft, qbtf, qbff, qIx_z, qj_nat, true_and, and_true, true_implies, false_implies, not_true_eq_false, not_false_eq_true, Bool.true_eq_false, Bool.false_eq_true, qj_sub, qinB_t, qinB_f, q2_e, qj_add, qj_s1, qj_c1, qj_c2, qj_c9, qj_c17, qj_c97, e16, qhas_bm, hs, Int.add_assoc]
                exact ihk
      have := inner 0 (Nat.zero_le _)
      have e0 : ((aSpk F S h : Nat) : Int) + ((if aAl F S h = true then cn 0 (fun k => aAl F S k && !F.2 2 h k) else 0 : Nat) : Int) = (aSpk F S h : Nat) := by
        have : (if aAl F S h = true then cn 0 (fun k => aAl F S k && !F.2 2 h k) else 0 : Nat) = 0 := by split <;> rfl
        rw [this]; omega
      rw [e0] at this
      exact this
  exact key 0 (Nat.zero_le _)
end RASK6
