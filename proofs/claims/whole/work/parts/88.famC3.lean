/-! ===== the text of the family, the class, 3: acts, clauses, the whole ===== -/
section FAMC3
variable {d : Nat} {g : qG1} {I : Nat → Nat → Int32} {T : Nat → Nat} {n i f : Nat} {F : qFam}
theorem cF_con {J : Nat → Nat → Int32} (hf : qisF f) (h : cF f I J) (C : qCon I) : qCon J := qCon_cg C (fun a p => h.1 a (by omega) (by unfold qisF at hf; omega))
theorem c32p (hd : 1 ≤ d) (hf : qisF f) {a k : Nat} {o : Nat → Nat} (ha : a < 6) (hk : k ≤ 6) (e21 : I (f + 21) a = qj (k : Int)) (e22 : ∀ j, j < k → I (f + 22 + 1 + a) j = qj (o j : Int)) (ho : ∀ j, j < k → o j < 8) :
    qRun d 32 [.ref f, .int (qj a)] (qw g I) (.inl (some (.int (qj (bm 8 (fun p => anb k (fun j => o j == p)) : Nat))), qw g I)) := by
  refine qRun_of fun Q hQ => b32_0 hf (by omega) ?_
  have L : ∀ i, i ≤ k → qwq d 32 4 [(0, .ref f), (1, .int (qj a)), (2, .int (qj (bm 8 (fun p => anb i (fun j => o j == p)) : Nat))), (3, .int (qj i))] [] (qw g I) Q := by
    refine upto _ (b32_4 hf (by omega) ?_) (fun i hi ih => b32_4 hf (by omega) ?_)
    · simp (disch := omega) only [qIx_z, qj_nat, e21, qj_le, true_and]
      exact ⟨fun _ => hQ, fun c => by omega⟩
    · have f17 := e22 i hi
      have hp := ho i hi
      have e : bm 8 (fun q => if q = o i then true else anb i (fun j => o j == q)) = bm 8 (fun p => anb (i + 1) (fun j => o j == p)) := bm_ext (fun k _ => by
        show (if k = o i then true else anb i (fun j => o j == k)) = (anb i (fun j => o j == k) || o i == k)
        by_cases ek : k = o i
        · rw [if_pos ek, ek]; simp
        · rw [if_neg ek]
          have : (o i == k) = false := by rw [beq_eq_false_iff_ne]; exact fun q => ek q.symm
          rw [this, Bool.or_false])
      simp (disch := omega) only [qIx_z, qj_nat, e21, qj_le, q2_e, f17, bm_set, e, qj_add, qj_s1, true_and]
      exact ⟨fun c => by omega, fun _ => ⟨fun c => by omega, fun _ => ih⟩⟩
  have k0 := L 0 (Nat.zero_le _)
  have e0 : bm 8 (fun p => anb 0 (fun j => o j == p)) = 0 := bm_zero.mpr (fun _ _ => rfl)
  rw [e0] at k0
  exact k0
/-- an act's next puppet -/
theorem qRF_acs {l k : Nat} {o : Nat → Nat} (R : qRF (acl F l k o) I f) (ha : F.1 0 2 < 6) (hk : k < 6) {v : Nat} : qRF (acl F l (k + 1) (iup o k v)) (qup (qup I (f + 22 + 1 + F.1 0 2) k (qj (v : Int))) (f + 21) (F.1 0 2) (qj ((k + 1 : Nat) : Int))) f := by
  obtain ⟨h1, h2, h3, h4, h5, h6, h7, h8, h9, h10, h11, h12, h13, h14, h15, h16, h17⟩ := R
  have ne : ∀ a, ¬ a = f + 21 → ¬ a = f + 22 + 1 + F.1 0 2 → qup (qup I (f + 22 + 1 + F.1 0 2) k (qj (v : Int))) (f + 21) (F.1 0 2) (qj ((k + 1 : Nat) : Int)) a = I a := fun a p q => by rw [qup_ne p, qup_ne q]
  refine ⟨?_, ?_, ?_, ?_, ?_, ?_, ?_, ?_, ?_, ?_, ?_, ?_, ?_, ?_, ?_, ?_, ?_⟩
  · rw [ne _ (by omega) (by omega)]; exact h1
  · rw [ne _ (by omega) (by omega)]; exact h2
  · rw [ne _ (by omega) (by omega)]; exact h3
  · rw [ne _ (by omega) (by omega)]; exact h4
  · rw [ne _ (by omega) (by omega)]; exact h5
  · rw [ne _ (by omega) (by omega)]; exact h6
  · rw [ne _ (by omega) (by omega)]; exact h7
  · rw [ne _ (by omega) (by omega)]; exact h8
  · rw [ne _ (by omega) (by omega)]; exact h9
  · rw [ne _ (by omega) (by omega)]; exact h10
  · intro a b ha hb
    rw [ne _ (by omega) (by omega), acl_r (by omega) (by omega) (by omega)]
    have := h11 a b ha hb
    rw [acl_r (by omega) (by omega) (by omega)] at this
    exact this
  · rw [ne _ (by omega) (by omega)]; exact h12
  · rw [ne _ (by omega) (by omega)]; exact h13
  · rw [ne _ (by omega) (by omega)]; exact h14
  · rw [ne _ (by omega) (by omega)]; exact h15
  · intro a ha'
    rw [qup_at]
    show _ = qj ((if a = F.1 0 2 then k + 1 else F.1 8 a : Nat) : Int)
    by_cases e : a = F.1 0 2
    · rw [if_pos e, if_pos e]
    · rw [if_neg e, if_neg e, qup_ne (by omega), h16 a ha']
      show qj ((if a = F.1 0 2 then k else F.1 8 a : Nat) : Int) = _
      rw [if_neg e]
  · intro a b ha' hb
    have hb : b < (if a = F.1 0 2 then k + 1 else F.1 8 a) := hb
    rw [qup_ne (by omega)]
    by_cases e : a = F.1 0 2
    · subst e
      rw [if_pos rfl] at hb
      rw [qup_at, acl_o]
      unfold iup
      by_cases e2 : b = k
      · rw [if_pos e2, if_pos e2]
      · rw [if_neg e2, if_neg e2]
        have := h17 (F.1 0 2) b ha' (by show b < (if F.1 0 2 = F.1 0 2 then k else _); rw [if_pos rfl]; omega)
        rw [acl_o] at this
        exact this
    · rw [if_neg e] at hb
      rw [qup_ne (by omega), acl_r (by omega) (by omega) (by omega)]
      have := h17 a b ha' (by show b < (if a = F.1 0 2 then k else F.1 8 a); rw [if_neg e]; exact hb)
      rw [acl_r (by omega) (by omega) (by omega)] at this
      exact this
theorem c29 (hd : 3 ≤ d) (hf : qisF f) (X : tX T n I i) {l k : Nat} {o : Nat → Nat} (R : qRF (acl F l k o) I f) (W : qWF F) (ha : F.1 0 2 < 6) (hk : k ≤ 6) (ho : ∀ j, j < k → o j < F.1 0 1) :
    match aNum T n i 0 ((F.1 0 1 : Int) - 1) with
    | .inl e => ∃ J, qRun d 29 [.ref f, .ref 65, .int (qj (F.1 0 2 : Int)), .int (qj k)] (qw g I) (.inl (some (.int (qb false)), qw g J)) ∧ tE J e ∧ cF f I J
    | .inr q => if anb k (fun j => o j == q.1) = true then ∃ J, qRun d 29 [.ref f, .ref 65, .int (qj (F.1 0 2 : Int)), .int (qj k)] (qw g I) (.inl (some (.int (qb false)), qw g J)) ∧ tE J (2, tBl T n i) ∧ cF f I J
      else if 6 ≤ k then ∃ J, qRun d 29 [.ref f, .ref 65, .int (qj (F.1 0 2 : Int)), .int (qj k)] (qw g I) (.inl (some (.int (qb false)), qw g J)) ∧ tE J (3, tBl T n i) ∧ cF f I J
      else ∃ J, qRun d 29 [.ref f, .ref 65, .int (qj (F.1 0 2 : Int)), .int (qj k)] (qw g I) (.inl (some (.int (qb true)), qw g J)) ∧ tX T n J q.2 ∧ qRF (acl F l (k + 1) (iup o k q.1)) J f ∧ J (f + 20) = I (f + 20) ∧ cF f I J := by
  have f2 : I f 8 = qj (F.1 0 1) := R.2.1
  have h8 := W.2.1
  have hfb : f = 67 ∨ f = 96 := hf
  have q1 := c79 (d := d - 1) (g := g) (lo := 0) (hi := (F.1 0 1 : Int) - 1) (by omega) X (by omega) (by omega)
  cases h1 : aNum T n i 0 ((F.1 0 1 : Int) - 1) with
  | inl e =>
    rw [h1] at q1
    obtain ⟨J1, a1, a2, a3⟩ := q1
    refine ⟨J1, qRun_of fun Q hQ => b29_0 hf (by omega) ?_, a2, cF_t a3⟩
    rw [f2, qj_sub]
    refine ⟨_, _, a1, ?_⟩
    simp (disch := omega) only [qz0, qj_lt, qj_le, qj_eq, qtk, qfk, qbtt, qbft, qbtf, qbff, qIx_z, qj_nat, true_and, and_true, true_implies, false_implies, not_true_eq_false, not_false_eq_true, Bool.true_eq_false, Bool.false_eq_true]
    exact hQ
  | inr q =>
    rw [h1] at q1
    obtain ⟨J1, a1, a2, a6, a7, -, a3⟩ := q1
    have bq := aNum_b h1 X.2.1
    have R1 := qRF_t R hf a3
    have e21 : J1 (f + 21) (F.1 0 2) = qj (k : Int) := by
      rw [R1.2.2.2.2.2.2.2.2.2.2.2.2.2.2.2.1 (F.1 0 2) ha]
      show qj ((if F.1 0 2 = F.1 0 2 then k else _ : Nat) : Int) = _
      rw [if_pos rfl]
    have e22 : ∀ j, j < k → J1 (f + 22 + 1 + F.1 0 2) j = qj (o j : Int) := fun j hj => by
      have := R1.2.2.2.2.2.2.2.2.2.2.2.2.2.2.2.2 (F.1 0 2) j ha (by show j < (if F.1 0 2 = F.1 0 2 then k else _); rw [if_pos rfl]; exact hj)
      rw [acl_o] at this
      exact this
    have k32 := c32p (d := d - 1) (g := g) (by omega) hf ha hk e21 e22 (fun j hj => by have := ho j hj; omega)
    obtain ⟨tE1, tE2⟩ := tE_f (k := 2) a6
    have tE1 : tE (qup (qup J1 65 4 (qj 2)) 65 5 (J1 65 6)) (2, tBl T n i) := tE1
    have tE2 : tF J1 (qup (qup J1 65 4 (qj 2)) 65 5 (J1 65 6)) := tE2
    obtain ⟨tE3, tE4⟩ := tE_f (k := 3) a6
    have tE3 : tE (qup (qup J1 65 4 (qj 3)) 65 5 (J1 65 6)) (3, tBl T n i) := tE3
    have tE4 : tF J1 (qup (qup J1 65 4 (qj 3)) 65 5 (J1 65 6)) := tE4
    simp only []
    cases hq : anb k (fun j => o j == q.1) with
    | true =>
      rw [if_pos rfl]
      refine ⟨_, qRun_of fun Q hQ => b29_0 hf (by omega) ?_, tE1, cF_t (tF_tr a3 tE2)⟩
      rw [f2, qj_sub]
      refine ⟨_, _, a1, ?_⟩
      simp (disch := omega) only [qz0, qj_lt, qj_le, qj_eq, qtk, qfk, qbtt, qbft, qbtf, qbff, qIx_z, qj_nat, true_and, and_true, true_implies, false_implies, not_true_eq_false, not_false_eq_true, Bool.true_eq_false, Bool.false_eq_true]
      refine ⟨_, _, k32, ?_⟩
      simp (disch := omega) only [qz0, qj_lt, qj_le, qj_eq, qtk, qfk, qbtt, qbft, qbtf, qbff, qIx_z, qj_nat, true_and, and_true, true_implies, false_implies, not_true_eq_false, not_false_eq_true, Bool.true_eq_false, Bool.false_eq_true, a7, qhas_bm, hq]
      exact hQ
    | false =>
      rw [if_neg Bool.false_ne_true]
      by_cases c : 6 ≤ k
      · rw [if_pos c]
        refine ⟨_, qRun_of fun Q hQ => b29_0 hf (by omega) ?_, tE3, cF_t (tF_tr a3 tE4)⟩
        rw [f2, qj_sub]
        refine ⟨_, _, a1, ?_⟩
        simp (disch := omega) only [qz0, qj_lt, qj_le, qj_eq, qtk, qfk, qbtt, qbft, qbtf, qbff, qIx_z, qj_nat, true_and, and_true, true_implies, false_implies, not_true_eq_false, not_false_eq_true, Bool.true_eq_false, Bool.false_eq_true]
        refine ⟨_, _, k32, ?_⟩
        simp (disch := omega) only [qz0, qj_lt, qj_le, qj_eq, qtk, qfk, qbtt, qbft, qbtf, qbff, qIx_z, qj_nat, true_and, and_true, true_implies, false_implies, not_true_eq_false, not_false_eq_true, Bool.true_eq_false, Bool.false_eq_true, a7, qhas_bm, hq]
        exact hQ
      · rw [if_neg c]
        refine ⟨_, qRun_of fun Q hQ => b29_0 hf (by omega) ?_, tX_w (tX_w a2 (by omega) (by omega)) (by omega) (by omega), qRF_acs R1 ha (v := q.1) (by omega), ?_, cF_tr (cF_t a3) (cF_tr (cF_w hf (by omega)) (cF_w hf (by omega)))⟩
        · rw [f2, qj_sub]
          refine ⟨_, _, a1, ?_⟩
          simp (disch := omega) only [qz0, qj_lt, qj_le, qj_eq, qtk, qfk, qbtt, qbft, qbtf, qbff, qIx_z, qj_nat, true_and, and_true, true_implies, false_implies, not_true_eq_false, not_false_eq_true, Bool.true_eq_false, Bool.false_eq_true]
          refine ⟨_, _, k32, ?_⟩
          simp (disch := omega) only [qz0, qj_lt, qj_le, qj_eq, qtk, qfk, qbtt, qbft, qbtf, qbff, qIx_z, qj_nat, true_and, and_true, true_implies, false_implies, not_true_eq_false, not_false_eq_true, Bool.true_eq_false, Bool.false_eq_true, a7, qhas_bm, hq, q2_e, qj_add, qj_s1]
          exact hQ
        · rw [qup_ne (by omega), qup_ne (by omega), a3.1 _ (by omega)]
theorem c28 (hd : 6 ≤ d) (hf : qisF f) (C : qCon I) (X : tX T n I i) (R : qRF F I f) (W : qWP F) (ha : F.1 0 2 < 6) : cPR d 28 [.ref f, .ref 65] g I T n f (aActs T n F i) := by
  have f3 := R.2.2.1
  have h8 := W.1.2.1
  have hfb : f = 67 ∨ f = 96 := hf
  have q1 := c79 (d := d - 1) (g := g) (lo := 0) (hi := 9) (by omega) X (by omega) (by omega)
  unfold aActs
  cases h1 : aNum T n i 0 9 with
  | inl e =>
    rw [h1] at q1
    obtain ⟨J1, a1, a2, a3⟩ := q1
    refine ⟨J1, qRun_of fun Q hQ => b28_0 hf (by omega) ?_, a2, cF_t a3⟩
    simp (disch := omega) only [qz0, qj_lt, qj_le, qj_eq, qtk, qfk, qbtt, qbft, qbtf, qbff, qIx_z, qj_nat, true_and, and_true, true_implies, false_implies, not_true_eq_false, not_false_eq_true, Bool.true_eq_false, Bool.false_eq_true, f3]
    refine ⟨_, _, a1, ?_⟩
    simp (disch := omega) only [qz0, qj_lt, qj_le, qj_eq, qtk, qfk, qbtt, qbft, qbtf, qbff, qIx_z, qj_nat, true_and, and_true, true_implies, false_implies, not_true_eq_false, not_false_eq_true, Bool.true_eq_false, Bool.false_eq_true]
    exact hQ
  | inr r =>
    rw [h1] at q1
    obtain ⟨J1, a1, a2, -, a7, -, a3⟩ := q1
    have bq := aNum_b h1 X.2.1
    simp only []
    -- the puppets
    have key : ∀ m k i o, k + m = 7 → k ≤ 6 → ∀ J, tX T n J i → qRF (acl F r.1 k o) J f → J (f + 20) (F.1 0 2) = qj (r.1 : Int) → cF f I J → (∀ j, j < k → o j < F.1 0 1) →
        match aPps T n F m k i o with
        | .inl e => ∃ J', (tE J' e ∧ cF f I J') ∧ ∀ Q : qR → Prop, Q (.inl (some (.int (qb false)), qw g J')) → qwq d 28 39 [(0, .ref f), (1, .ref 65), (2, .int (qj (F.1 0 2 : Int))), (3, .int (qj k))] [] (qw g J) Q
        | .inr q => ∃ J', (tX T n J' q.2 ∧ qRF (acd (acl F r.1 q.1.1 q.1.2)) J' f ∧ cF f I J') ∧ ∀ Q : qR → Prop, Q (.inl (some (.int (qb true)), qw g J')) → qwq d 28 39 [(0, .ref f), (1, .ref 65), (2, .int (qj (F.1 0 2 : Int))), (3, .int (qj k))] [] (qw g J) Q := by
      intro m
      induction m with
      | zero => intro k i o hk hk6; omega
      | succ m ih =>
        intro k i o hk hk6 J x1 x2 x3 x4 x5
        obtain ⟨J9, s1, s2, s3, s4⟩ := c77 (d := d - 1) (g := g) (by omega) x1
        have R9 := qRF_t x2 hf s3
        have e21 : J9 (f + 21) (F.1 0 2) = qj (k : Int) := by
          rw [R9.2.2.2.2.2.2.2.2.2.2.2.2.2.2.2.1 (F.1 0 2) ha]
          show qj ((if F.1 0 2 = F.1 0 2 then k else _ : Nat) : Int) = _
          rw [if_pos rfl]
        have e20 : J9 (f + 20) (F.1 0 2) = qj (r.1 : Int) := by rw [s3.1 _ (by omega)]; exact x3
        have hb := tBl_b (T := T) x1.2.1
        rw [aPps]
        by_cases hdg : tBl T n i < n ∧ dg (T (tBl T n i)) = true
        · rw [if_pos hdg]
          rw [decide_eq_true hdg.1, hdg.2] at s1
          have k29 := c29 (d := d - 1) (g := g) (by omega) hf s2 R9 W.1 ha hk6 x5
          rw [aNum_i x1.2.1, tBl_i x1.2.1] at k29
          have go : ∀ (J19 : Nat → Nat → Int32) (v : Bool) (Q : qR → Prop), qRun (d - 1) 29 [.ref f, .ref 65, .int (qj (F.1 0 2 : Int)), .int (qj k)] (qw g J9) (.inl (some (.int (qb v)), qw g J19)) → (((v = true → qwq d 28 39 [(0, .ref f), (1, .ref 65), (2, .int (qj (F.1 0 2 : Int))), (3, .int (qj ((k + 1 : Nat) : Int)))] [] (qw g J19) Q) ∧ (v = false → Q (.inl (some (.int (qb false)), qw g J19))))) →
              qwq d 28 39 [(0, .ref f), (1, .ref 65), (2, .int (qj (F.1 0 2 : Int))), (3, .int (qj k))] [] (qw g J) Q := fun J19 v Q k29 h => b28_39 hf (by omega) (by
            simp (disch := omega) only [qj_lt, qfk]
            refine ⟨_, _, s1, fun q => Bool.noConfusion q, fun _ => ⟨_, _, k29, ?_⟩⟩
            simp (disch := omega) only [qj_add, qj_s1]
            exact h)
          cases h2 : aNum T n i 0 ((F.1 0 1 : Int) - 1) with
          | inl e =>
            rw [h2] at k29
            obtain ⟨J19, t1, t2, t3⟩ := k29
            exact ⟨J19, ⟨t2, cF_tr x4 (cF_tr (cF_t s3) t3)⟩, fun Q hQ => go _ _ Q t1 ⟨fun q => Bool.noConfusion q, fun _ => hQ⟩⟩
          | inr q =>
            rw [h2] at k29
            have bq2 := aNum_b h2 x1.2.1
            simp only [] at k29 ⊢
            cases hq : anb k (fun j => o j == q.1) with
            | true =>
              rw [hq, if_pos rfl] at k29
              rw [if_pos rfl]
              obtain ⟨J19, t1, t2, t3⟩ := k29
              exact ⟨J19, ⟨t2, cF_tr x4 (cF_tr (cF_t s3) t3)⟩, fun Q hQ => go _ _ Q t1 ⟨fun q => Bool.noConfusion q, fun _ => hQ⟩⟩
            | false =>
              rw [hq, if_neg Bool.false_ne_true] at k29
              rw [if_neg Bool.false_ne_true]
              by_cases c6 : 6 ≤ k
              · rw [if_pos c6] at k29 ⊢
                obtain ⟨J19, t1, t2, t3⟩ := k29
                exact ⟨J19, ⟨t2, cF_tr x4 (cF_tr (cF_t s3) t3)⟩, fun Q hQ => go _ _ Q t1 ⟨fun q => Bool.noConfusion q, fun _ => hQ⟩⟩
              · rw [if_neg c6] at k29 ⊢
                obtain ⟨J19, t1, t2, t3, t4, t5⟩ := k29
                have ihh := ih (k + 1) q.2 (iup o k q.1) (by omega) (by omega) J19 t2 t3 (by rw [t4]; exact e20) (cF_tr x4 (cF_tr (cF_t s3) t5)) (fun j hj => by
                  unfold iup
                  split
                  · omega
                  · exact x5 j (by omega))
                cases hr : aPps T n F m (k + 1) q.2 (iup o k q.1) with
                | inl e =>
                  rw [hr] at ihh
                  obtain ⟨J', p1, p2⟩ := ihh
                  exact ⟨J', p1, fun Q hQ => go _ _ Q t1 ⟨fun _ => p2 Q hQ, fun q => Bool.noConfusion q⟩⟩
                | inr z =>
                  rw [hr] at ihh
                  obtain ⟨J', p1, p2⟩ := ihh
                  exact ⟨J', p1, fun Q hQ => go _ _ Q t1 ⟨fun _ => p2 Q hQ, fun q => Bool.noConfusion q⟩⟩
        · rw [if_neg hdg]
          have ebf : (decide (tBl T n i < n) && dg (T (tBl T n i))) = false := by
            cases hq : (decide (tBl T n i < n) && dg (T (tBl T n i))) with
            | false => rfl
            | true =>
              rw [Bool.and_eq_true, decide_eq_true_iff] at hq
              exact absurd hq hdg
          rw [ebf] at s1
          by_cases hk0 : k = 0
          · rw [if_pos hk0]
            refine ⟨qup (qup J9 65 4 (qj 1)) 65 5 (J9 65 3), ⟨⟨by rw [qup_at, if_neg (by omega), qup_at, if_pos rfl]; rfl, by rw [qup_at, if_pos rfl]; exact s2.2.2.2.1⟩, cF_tr x4 (cF_t (tF_tr s3 (tF_tr (tF_u (by omega)) (tF_u (by omega)))))⟩, fun Q hQ => b28_39 hf (by omega) ?_⟩
            simp (disch := omega) only [qj_lt, qfk]
            refine ⟨_, _, s1, fun _ => ?_, fun q => Bool.noConfusion q⟩
            simp (disch := omega) only [qz0, qj_lt, qj_le, qj_eq, qtk, qfk, qbtt, qbft, qbtf, qbff, qIx_z, qj_nat, true_and, and_true, true_implies, false_implies, not_true_eq_false, not_false_eq_true, Bool.true_eq_false, Bool.false_eq_true, e21]
            exact hQ
          · rw [if_neg hk0]
            have k80 := c80 (d := d - 1) (g := g) (by omega) s2
            rw [aWrd_i x1.2.1] at k80
            cases h2 : aWrd T n i with
            | inl e =>
              rw [h2] at k80
              obtain ⟨J12, t1, t2, t3⟩ := k80
              refine ⟨J12, ⟨t2, cF_tr x4 (cF_t (tF_tr s3 t3))⟩, fun Q hQ => b28_39 hf (by omega) ?_⟩
              simp (disch := omega) only [qj_lt, qfk]
              refine ⟨_, _, s1, fun _ => ?_, fun q => Bool.noConfusion q⟩
              simp (disch := omega) only [qz0, qj_lt, qj_le, qj_eq, qtk, qfk, qbtt, qbft, qbtf, qbff, qIx_z, qj_nat, true_and, and_true, true_implies, false_implies, not_true_eq_false, not_false_eq_true, Bool.true_eq_false, Bool.false_eq_true, e21]
              refine ⟨_, _, t1, ?_⟩
              simp (disch := omega) only [qz0, qj_lt, qj_le, qj_eq, qtk, qfk, qbtt, qbft, qbtf, qbff, qIx_z, qj_nat, true_and, and_true, true_implies, false_implies, not_true_eq_false, not_false_eq_true, Bool.true_eq_false, Bool.false_eq_true]
              exact hQ
            | inr w =>
              rw [h2] at k80
              obtain ⟨J12, t1, t2, t6, t3, -, -⟩ := k80
              obtain ⟨bw1, bw2, bw3, bw4⟩ := aWrd_b h2 x1.2.1
              have hC12 : cF f I J12 := cF_tr x4 (cF_t (tF_tr s3 t3))
              have k81 := c81 (d := d - 1) (g := g) (n := 8) (by omega) (cF_con hf hC12 C) t2 bw3 t6 (by omega)
              have R12 := qRF_t R9 hf t3
              have f12 : J12 f 12 = qj (F.1 0 2 : Int) := R12.2.2.1
              simp only []
              cases hw : aIs T w.1 w.2 8 with
              | true =>
                rw [hw] at k81
                rw [if_pos rfl]
                refine ⟨qup J12 f 12 (qj ((F.1 0 2 + 1 : Nat) : Int)), ⟨tX_w t2 (by omega) (by omega), qRF_acd R12 (fun a ha' => ?_), cF_tr hC12 (cF_w hf (by omega))⟩, fun Q hQ => b28_39 hf (by omega) ?_⟩
                · have ha' : a < F.1 0 2 + 1 := ha'
                  show _ = qj ((if a = F.1 0 2 then r.1 else F.1 7 a : Nat) : Int)
                  by_cases ea : a = F.1 0 2
                  · rw [if_pos ea, ea, t3.1 _ (by omega)]; exact e20
                  · rw [if_neg ea]
                    have := R12.2.2.2.2.2.2.2.2.2.2.2.2.2.2.1 a (by show a < F.1 0 2; omega)
                    rw [this]
                    show qj ((if a = F.1 0 2 then r.1 else F.1 7 a : Nat) : Int) = _
                    rw [if_neg ea]
                · simp (disch := omega) only [qj_lt, qfk]
                  refine ⟨_, _, s1, fun _ => ?_, fun q => Bool.noConfusion q⟩
                  simp (disch := omega) only [qz0, qj_lt, qj_le, qj_eq, qtk, qfk, qbtt, qbft, qbtf, qbff, qIx_z, qj_nat, true_and, and_true, true_implies, false_implies, not_true_eq_false, not_false_eq_true, Bool.true_eq_false, Bool.false_eq_true, e21]
                  refine ⟨_, _, t1, ?_⟩
                  simp (disch := omega) only [qz0, qj_lt, qj_le, qj_eq, qtk, qfk, qbtt, qbft, qbtf, qbff, qIx_z, qj_nat, true_and, and_true, true_implies, false_implies, not_true_eq_false, not_false_eq_true, Bool.true_eq_false, Bool.false_eq_true]
                  refine ⟨_, _, k81, ?_⟩
                  simp (disch := omega) only [qz0, qj_lt, qj_le, qj_eq, qtk, qfk, qbtt, qbft, qbtf, qbff, qIx_z, qj_nat, true_and, and_true, true_implies, false_implies, not_true_eq_false, not_false_eq_true, Bool.true_eq_false, Bool.false_eq_true, f12, qj_add, qj_s1]
                  exact hQ
              | false =>
                rw [hw] at k81
                rw [if_neg Bool.false_ne_true]
                obtain ⟨tE1, tE2⟩ := tE_f (k := 1) t6
                refine ⟨_, ⟨tE1, cF_tr hC12 (cF_t tE2)⟩, fun Q hQ => b28_39 hf (by omega) ?_⟩
                simp (disch := omega) only [qj_lt, qfk]
                refine ⟨_, _, s1, fun _ => ?_, fun q => Bool.noConfusion q⟩
                simp (disch := omega) only [qz0, qj_lt, qj_le, qj_eq, qtk, qfk, qbtt, qbft, qbtf, qbff, qIx_z, qj_nat, true_and, and_true, true_implies, false_implies, not_true_eq_false, not_false_eq_true, Bool.true_eq_false, Bool.false_eq_true, e21]
                refine ⟨_, _, t1, ?_⟩
                simp (disch := omega) only [qz0, qj_lt, qj_le, qj_eq, qtk, qfk, qbtt, qbft, qbtf, qbff, qIx_z, qj_nat, true_and, and_true, true_implies, false_implies, not_true_eq_false, not_false_eq_true, Bool.true_eq_false, Bool.false_eq_true]
                refine ⟨_, _, k81, ?_⟩
                simp (disch := omega) only [qz0, qj_lt, qj_le, qj_eq, qtk, qfk, qbtt, qbft, qbtf, qbff, qIx_z, qj_nat, true_and, and_true, true_implies, false_implies, not_true_eq_false, not_false_eq_true, Bool.true_eq_false, Bool.false_eq_true]
                exact hQ
    -- the act's start
    have R0 : qRF (acl F r.1 0 (F.1 (10 + F.1 0 2))) (qup J1 (f + 20) (F.1 0 2) (qj (r.1 : Int))) f := by
      have R1 := qRF_t R hf a3
      have e8 : F.1 8 (F.1 0 2) = 0 := W.2 _ (Nat.le_refl _)
      obtain ⟨h1', h2, h3, h4, h5, h6, h7, h8', h9, h10, h11, h12, h13, h14, h15, h16, h17⟩ := R1
      refine ⟨?_, ?_, ?_, ?_, ?_, ?_, ?_, ?_, ?_, ?_, ?_, ?_, ?_, ?_, ?_, ?_, ?_⟩
      · rw [qup_ne (by omega)]; exact h1'
      · rw [qup_ne (by omega)]; exact h2
      · rw [qup_ne (by omega)]; exact h3
      · rw [qup_ne (by omega)]; exact h4
      · rw [qup_ne (by omega)]; exact h5
      · rw [qup_ne (by omega)]; exact h6
      · rw [qup_ne (by omega)]; exact h7
      · rw [qup_ne (by omega)]; exact h8'
      · rw [qup_ne (by omega)]; exact h9
      · rw [qup_ne (by omega)]; exact h10
      · intro a b ha' hb; rw [qup_ne (by omega), acl_r (by omega) (by omega) (by omega)]; exact h11 a b ha' hb
      · rw [qup_ne (by omega)]; exact h12
      · rw [qup_ne (by omega)]; exact h13
      · rw [qup_ne (by omega)]; exact h14
      · intro a ha'
        have ha' : a < F.1 0 2 := ha'
        rw [qup_at, if_neg (by omega)]
        show _ = qj ((if a = F.1 0 2 then r.1 else F.1 7 a : Nat) : Int)
        rw [if_neg (by omega)]; exact h15 a ha'
      · intro a ha'
        rw [qup_ne (by omega), h16 a ha']
        show _ = qj ((if a = F.1 0 2 then 0 else F.1 8 a : Nat) : Int)
        by_cases e : a = F.1 0 2
        · rw [if_pos e, e, e8]
        · rw [if_neg e]
      · intro a b ha' hb
        have hb : b < (if a = F.1 0 2 then 0 else F.1 8 a) := hb
        by_cases e : a = F.1 0 2
        · rw [if_pos e] at hb; omega
        · rw [if_neg e] at hb
          rw [qup_ne (by omega), acl_r (by omega) (by omega) (by omega)]; exact h17 a b ha' hb
    have kk := key 7 0 r.2 (F.1 (10 + F.1 0 2)) rfl (by omega) _ (tX_w a2 (by omega) (by omega)) R0 (by rw [qup_at, if_pos rfl]) (cF_tr (cF_t a3) (cF_w hf (by omega))) (fun j hj => absurd hj (Nat.not_lt_zero j))
    cases hr : aPps T n F 7 0 r.2 (F.1 (10 + F.1 0 2)) with
    | inl e =>
      rw [hr] at kk
      obtain ⟨J', ⟨p1, p2⟩, p3⟩ := kk
      refine ⟨J', qRun_of fun Q hQ => b28_0 hf (by omega) ?_, p1, p2⟩
      simp (disch := omega) only [qz0, qj_lt, qj_le, qj_eq, qtk, qfk, qbtt, qbft, qbtf, qbff, qIx_z, qj_nat, true_and, and_true, true_implies, false_implies, not_true_eq_false, not_false_eq_true, Bool.true_eq_false, Bool.false_eq_true, f3]
      refine ⟨_, _, a1, ?_⟩
      simp (disch := omega) only [qz0, qj_lt, qj_le, qj_eq, qtk, qfk, qbtt, qbft, qbtf, qbff, qIx_z, qj_nat, true_and, and_true, true_implies, false_implies, not_true_eq_false, not_false_eq_true, Bool.true_eq_false, Bool.false_eq_true, a7]
      exact p3 Q hQ
    | inr z =>
      rw [hr] at kk
      obtain ⟨J', ⟨p1, p2, p4⟩, p3⟩ := kk
      refine ⟨J', qRun_of fun Q hQ => b28_0 hf (by omega) ?_, p1, p2, p4⟩
      simp (disch := omega) only [qz0, qj_lt, qj_le, qj_eq, qtk, qfk, qbtt, qbft, qbtf, qbff, qIx_z, qj_nat, true_and, and_true, true_implies, false_implies, not_true_eq_false, not_false_eq_true, Bool.true_eq_false, Bool.false_eq_true, f3]
      refine ⟨_, _, a1, ?_⟩
      simp (disch := omega) only [qz0, qj_lt, qj_le, qj_eq, qtk, qfk, qbtt, qbft, qbtf, qbff, qIx_z, qj_nat, true_and, and_true, true_implies, false_implies, not_true_eq_false, not_false_eq_true, Bool.true_eq_false, Bool.false_eq_true, a7]
      exact p3 Q hQ
end FAMC3
