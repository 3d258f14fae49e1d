/-! ===== the reference: goes ===== -/
theorem aStp_0 {F : qFam} {L : qLw} {p : Nat} {S : qSt} (h : aCh F L S p = 0) : aStp F L p S = S := by unfold aStp; rw [h]; rfl
theorem aStp_s {F : qFam} {L : qLw} {p h : Nat} {S : qSt} (e : aCh F L S p = h + 1) : aStp F L p S = aCho S p h := by unfold aStp; rw [e]; rfl
section GOES
variable {d : Nat} {g : qG1} {I : Nat → Nat → Int32} {F : qFam} {S : qSt} {L : qLw} {r : Nat}
theorem m238 (hd : 6 ≤ d) (hr : qisR r) (MF : qMF F I) (Ml : qMl F I S) (W : qWF F) (R : qMS F I r S) (WS : qWS F S) (hy : S.1 0 0 < 1000) (ML : qML L I) (WL : qWL L) {q : Nat} {x : Int32} (hq : q ≤ 16) (h45 : I 245 45 = qj q) (h44 : I 245 44 = x) :
    ∃ I', qRun d 238 [.ref 245, .ref r] (qw g I) (.inl (none, qw g I')) ∧ qMS F I' r (aLiv F L (aDm F (aYr S) x (qj q)) (aYr S)) ∧ qFm r I I' ∧ (0 < q → I' 245 44 = aSd F (aYr S) x (F.1 0 0)) := by
  have h9 := W.1
  have h8 := W.2.1
  have hb := qisR_b hr
  have hsh := qisR_sh (L := g.2.1) hr
  let S0 := aYr S
  let D := aDm F S0 x (qj q)
  have WS0 : qWS F S0 := qWS_yr WS
  have hy0 : S0.1 0 0 ≤ 1000 := by show S.1 0 0 + 1 ≤ 1000; omega
  have hS1 := qOK_dth (D := D) WS0 _ (Nat.le_refl (F.1 0 0))
  have hS2 := qOK_all (L := L) hS1.1 W _ (Nat.le_refl (F.1 0 1))
  have toFm : ∀ {J K : Nat → Nat → Int32}, (∀ a, ¬ a = r → K a = J a) → qFm r J K := fun h => ⟨fun a h1 _ _ _ => h a h1, fun j _ => by rw [h 245 (by omega)]⟩
  have kp : ∀ {J K : Nat → Nat → Int32}, (∀ a, ¬ a = r → K a = J a) → K 245 44 = J 245 44 := fun h => by rw [h 245 (by omega)]
  have kps : ∀ {J K : Nat → Nat → Int32}, qFs J K → K 245 44 = J 245 44 := fun h => by rw [h 245 (by omega) (by omega)]
  let y : Int32 := if 0 < q then aSd F S0 x (F.1 0 0) else x
  have Mlk : ∀ {J : Nat → Nat → Int32} {T : qSt}, qFm r I J → qOK F S0 T → qMl F J T := fun h k => by
    have := qFm_l h hr W Ml
    intro h hh
    rw [k.2.2]; exact this h hh
  let Post : (Nat → Nat → Int32) → Prop := fun I' => qMS F I' r (aLiv F L D S0) ∧ qFm r I I' ∧ I' 245 44 = y
  -- strings
  have K4 : ∀ i, i ≤ F.1 0 1 → ∀ J, qMS F J r (aWr F i (aAll F L (F.1 0 1) (aDth F D (F.1 0 0) S0))) → qFm r I J → J 245 44 = y →
      ∃ I', Post I' ∧ ∀ Q : qR → Prop, Q (.inl (none, qw g I')) → qwq d 238 241 [(0, .ref 245), (1, .ref r), (3, .int (qj i))] [] (qw g J) Q := by
    refine upto _ (fun J R1 h1 h2 => ⟨J, ⟨R1, h1, h2⟩, fun Q hQ => b238_241 hsh (by omega) ?_⟩) (fun i hi ih J R1 h1 h2 => ?_)
    · have e := (qFm_F h1 hr W MF).2.1
      simp (disch := omega) only [e, qj_le]
      exact ⟨fun _ => hQ, fun c => by omega⟩
    · have MF' := qFm_F h1 hr W MF
      have e := MF'.2.1
      have e4 := MF'.2.2.2.1
      have hT := qOK_wr hS2.1 i
      have w4 := W.2.2.2.1
      have s3 := R1.2.2.1 i hi
      have ih2 : ∀ J, qMS F J r (aWr1 F i (aWr F i (aAll F L (F.1 0 1) (aDth F D (F.1 0 0) S0)))) → qFm r I J → J 245 44 = y → ∃ I', Post I' ∧ ∀ Q : qR → Prop, Q (.inl (none, qw g I')) → qwq d 238 241 [(0, .ref 245), (1, .ref r), (3, .int (qj (i + 1 : Nat)))] [] (qw g J) Q := ih
      have k224 := m224 (d := d - 1) (g := g) (by omega) hr MF' W R1 hi
      generalize aWr F i (aAll F L (F.1 0 1) (aDth F D (F.1 0 0) S0)) = T at R1 hT ih2 s3 k224
      have v3 := hT.1.2.2.1 i hi
      have hw := W.2.2.2.2.2.1 i hi
      have hl2 : aLk F T i ≤ 2 := by unfold aLk; omega
      by_cases hk : aLk F T i = 0
      · have e2 : aWr1 F i T = (qup T.1 3 i (T.1 3 i - F.1 0 3), T.2) := by unfold aWr1; rw [if_pos hk]
        rw [e2] at ih2
        obtain ⟨I', k1, k2⟩ := ih2 (qup J r (9 + i) (qj (max 0 ((T.1 3 i : Int) - F.1 0 3)))) (qMS_n R1 h8 (Or.inl ⟨rfl, rfl, by omega, by congr 1; omega⟩)) (qFm_tr h1 (toFm (fun a ha => qup_ne ha))) ((kp (fun a ha => qup_ne ha)).trans h2)
        refine ⟨I', k1, fun Q hQ => b238_241 hsh (by omega) ?_⟩
        simp (disch := omega) only [e, qj_le]
        refine ⟨fun c => by omega, fun _ => ⟨_, _, k224, ?_⟩⟩
        rw [hk]
        simp (disch := omega) only [qz0, qj_add, qj_c9, qIx_z, qj_nat, s3, e4, qj_sub, qmax_z, qj_s1]
        exact ⟨fun c => absurd rfl c, fun _ => ⟨trivial, k2 Q hQ⟩⟩
      · have e2 : aWr1 F i T = T := by unfold aWr1; rw [if_neg hk]
        rw [e2] at ih2
        obtain ⟨I', k1, k2⟩ := ih2 J R1 h1 h2
        refine ⟨I', k1, fun Q hQ => b238_241 hsh (by omega) ?_⟩
        simp (disch := omega) only [e, qj_le]
        refine ⟨fun c => by omega, fun _ => ⟨_, _, k224, ?_⟩⟩
        simp (disch := omega) only [qz0, qj_eq, qj_add, qj_s1]
        exact ⟨fun _ => k2 Q hQ, fun c => by omega⟩
  -- puppets choose
  have K3 : ∀ i, i ≤ F.1 0 1 → ∀ J, qMS F J r (aAll F L i (aDth F D (F.1 0 0) S0)) → qFm r I J → J 245 44 = y →
      ∃ I', Post I' ∧ ∀ Q : qR → Prop, Q (.inl (none, qw g I')) → qwq d 238 148 [(0, .ref 245), (1, .ref r), (3, .int (qj i))] [] (qw g J) Q := by
    refine upto _ (fun J R1 h1 h2 => ?_) (fun i hi ih J R1 h1 h2 => ?_)
    · obtain ⟨I', k1, k2⟩ := K4 0 (Nat.zero_le _) J R1 h1 h2
      refine ⟨I', k1, fun Q hQ => b238_148 hsh (by omega) ?_⟩
      have e := (qFm_F h1 hr W MF).2.1
      simp (disch := omega) only [e, qj_le]
      exact ⟨fun _ => k2 Q hQ, fun c => by omega⟩
    · have hT := qOK_tr hS1 (qOK_all (L := L) hS1.1 W i (by omega))
      have ih2 : ∀ J, qMS F J r (aFil F L i (aAll F L i (aDth F D (F.1 0 0) S0))) → qFm r I J → J 245 44 = y → ∃ I', Post I' ∧ ∀ Q : qR → Prop, Q (.inl (none, qw g I')) → qwq d 238 148 [(0, .ref 245), (1, .ref r), (3, .int (qj (i + 1 : Nat)))] [] (qw g J) Q := ih
      have hyT : (aAll F L i (aDth F D (F.1 0 0) S0)).1 0 0 ≤ 1000 := by rw [hT.2.1]; exact hy0
      generalize aAll F L i (aDth F D (F.1 0 0) S0) = T at R1 hT ih2 hyT
      have hw := W.2.2.2.2.2.1 i hi
      have K : ∀ n : Nat, ∀ (U : qSt) (J : Nat → Nat → Int32) (c : Int), aLk F U i = n → itr (aStp F L i) n U = aFil F L i T → qOK F S0 U → (c = -1 → aCh F L U i = 0) → (-1 ≤ c ∧ c ≤ 9) → qMS F J r U → qFm r I J → J 245 44 = y →
          ∃ I', Post I' ∧ ∀ Q : qR → Prop, Q (.inl (none, qw g I')) → qwq d 238 161 [(0, .ref 245), (1, .ref r), (3, .int (qj i)), (4, .int (qj c))] [] (qw g J) Q := by
        intro n
        induction n with
        | zero =>
          intro U J c hl he hU hc hc2 R1 h1 h2
          obtain ⟨I', k1, k2⟩ := ih2 J (by rw [← he]; exact R1) h1 h2
          refine ⟨I', k1, fun Q hQ => b238_161 hsh (by omega) ⟨_, _, m224 (by omega) hr (qFm_F h1 hr W MF) W R1 hi, ?_⟩⟩
          rw [hl]
          simp (disch := omega) only [qz0, qj_le, qj_add, qj_s1]
          exact ⟨fun _ => k2 Q hQ, fun c => by omega⟩
        | succ n ihn =>
          intro U J c hl he hU hc hc2 R1 h1 h2
          have hl3 : aLk F U i ≤ 2 := by unfold aLk; omega
          -- without a choice: it goes on
          have out : aCh F L U i = 0 → ∀ J, qMS F J r U → qFm r I J → J 245 44 = y → ∃ I', Post I' ∧ ∀ Q : qR → Prop, Q (.inl (none, qw g I')) → qwq d 238 161 [(0, .ref 245), (1, .ref r), (3, .int (qj i)), (4, .int (qj (-1)))] [] (qw g J) Q := by
            intro h0 J R1 h1 h2
            obtain ⟨I', k1, k2⟩ := ih2 J (by rw [← he, itr_fix (aStp_0 h0)]; exact R1) h1 h2
            refine ⟨I', k1, fun Q hQ => b238_161 hsh (by omega) ⟨_, _, m224 (by omega) hr (qFm_F h1 hr W MF) W R1 hi, ?_⟩⟩
            rw [hl]
            simp (disch := omega) only [qz0, qj_le, qj_add, qj_s1, qj_eq]
            exact ⟨fun c => by omega, fun _ => ⟨fun _ => k2 Q hQ, fun c => absurd trivial c⟩⟩
          by_cases hc1 : c = -1
          · subst hc1; exact out (hc rfl) J R1 h1 h2
          · have hyU : U.1 0 0 ≤ 1000 := by rw [hU.2.1]; exact hy0
            obtain ⟨J2, r1, r2⟩ := m232 (d := d - 1) (g := g) (by omega) hr (qFm_F h1 hr W MF) (Mlk h1 hU) W R1 hU.1 hyU (qFm_L h1 hr WL ML) WL hi
            have hJ2 := qFm_tr h1 (qFs_m (r := r) r2)
            have R2 := qFs_S r2 hr R1
            have h22 := (kps r2).trans h2
            have hch := aCh_le F L U i
            cases hcc : aCh F L U i with
            | zero =>
              obtain ⟨I', k1, k2⟩ := out hcc J2 R2 hJ2 h22
              refine ⟨I', k1, fun Q hQ => b238_161 hsh (by omega) ⟨_, _, m224 (by omega) hr (qFm_F h1 hr W MF) W R1 hi, ?_⟩⟩
              rw [hl]
              rw [hcc] at r1
              simp (disch := omega) only [qz0, qj_le, qj_eq]
              refine ⟨fun c => by omega, fun _ => ⟨fun c => by omega, fun _ => ⟨_, _, r1, ?_⟩⟩⟩
              simp (disch := omega) only [qj_eq]
              exact ⟨fun c => by omega, fun _ => k2 Q hQ⟩
            | succ h =>
              rw [hcc] at r1 hch
              have z : ((h + 1 : Nat) : Int) - 1 = h := by omega
              rw [z] at r1
              have hcan := aChN_can F U (aSc F L U i) i _ h hcc
              have hfree : U.2.1 h i = false := by
                unfold aCan at hcan
                rw [Bool.and_eq_true, Bool.and_eq_true] at hcan
                have := hcan.1.2
                cases e : U.2.1 h i with
                | false => rfl
                | true => rw [e] at this; cases this
              obtain ⟨J3, r3, r4, r5⟩ := m236 (d := d - 1) (g := g) (by omega) hr R2 h8 (p := i) (h := h) (by omega) (by omega)
              have hJ3 := qFm_tr hJ2 (toFm r5)
              have e5 : (aBeg U h i).1 2 h = U.1 2 h := by show qup U.1 (5 + h) i _ 2 h = _; rw [qup_ne (by omega)]
              have s6 := r4.2.2.2.2.2.1 h (by omega)
              rw [e5] at s6
              have v2 := hU.1.2.1 h
              have eS : aStp F L i U = aCho U i h := aStp_s hcc
              have hl4 : aLk F (aCho U i h) i = n := by rw [aLk_cho (by omega) hfree, hl]; omega
              have hU4 : qOK F S0 (aCho U i h) := qOK_tr hU (qOK_cho hU.1 W (by omega) hi)
              have he4 : itr (aStp F L i) n (aCho U i h) = aFil F L i T := by rw [← he, itr_s, eS]
              have done : ∀ v, (∀ J4, J4 = qup J3 r (97 + h) v → qMS F J4 r (aCho U i h)) → ∃ I', Post I' ∧ ∀ Q : qR → Prop, Q (.inl (none, qw g I')) → qwq d 238 161 [(0, .ref 245), (1, .ref r), (3, .int (qj i)), (4, .int (qj h))] [] (qw g (qup J3 r (97 + h) v)) Q := fun v hv =>
                ihn (aCho U i h) (qup J3 r (97 + h) v) h hl4 he4 hU4 (fun c => by omega) (by omega) (hv _ rfl) (qFm_tr hJ3 (toFm (fun a ha => qup_ne ha))) ((kp (fun a ha => qup_ne ha)).trans ((kp r5).trans h22))
              by_cases hz : U.1 2 h = 0
              · obtain ⟨I', k1, k2⟩ := done (qj i) (fun J4 e => by
                  subst e
                  have e : aCho U i h = (qup (aBeg U h i).1 2 h (i + 1), (aBeg U h i).2) := by unfold aCho; rw [if_pos hz]
                  rw [e]
                  exact qMS_n r4 h8 (Or.inr (Or.inr (Or.inr (Or.inl ⟨rfl, rfl, by omega, by congr 1; omega⟩)))))
                refine ⟨I', k1, fun Q hQ => b238_161 hsh (by omega) ⟨_, _, m224 (by omega) hr (qFm_F h1 hr W MF) W R1 hi, ?_⟩⟩
                rw [hl]
                simp (disch := omega) only [qz0, qj_le, qj_eq]
                refine ⟨fun c => by omega, fun _ => ⟨fun c => by omega, fun _ => ⟨_, _, r1, ?_⟩⟩⟩
                simp (disch := omega) only [qj_eq]
                refine ⟨fun _ => ⟨_, r3, ?_⟩, fun c => by omega⟩
                simp (disch := omega) only [qj_add, qj_c97, qIx_z, qj_nat, s6, qj_eq, true_and]
                exact ⟨fun c => by omega, fun _ => k2 Q hQ⟩
              · obtain ⟨I', k1, k2⟩ := done (J3 r (97 + h)) (fun J4 e => by
                  subst e
                  have e : aCho U i h = aBeg U h i := by unfold aCho; rw [if_neg hz]
                  rw [e, qup_self]; exact r4)
                refine ⟨I', k1, fun Q hQ => b238_161 hsh (by omega) ⟨_, _, m224 (by omega) hr (qFm_F h1 hr W MF) W R1 hi, ?_⟩⟩
                rw [hl]
                simp (disch := omega) only [qz0, qj_le, qj_eq]
                refine ⟨fun c => by omega, fun _ => ⟨fun c => by omega, fun _ => ⟨_, _, r1, ?_⟩⟩⟩
                simp (disch := omega) only [qj_eq]
                refine ⟨fun _ => ⟨_, r3, ?_⟩, fun c => by omega⟩
                rw [s6] at k2
                simp (disch := omega) only [qj_add, qj_c97, qIx_z, qj_nat, s6, qj_eq, true_and]
                exact ⟨fun _ => k2 Q hQ, fun c => by omega⟩
      obtain ⟨I', k1, k2⟩ := K _ T J 0 rfl rfl hT (fun c => by omega) (by omega) R1 h1 h2
      refine ⟨I', k1, fun Q hQ => b238_148 hsh (by omega) ?_⟩
      have e := (qFm_F h1 hr W MF).2.1
      simp (disch := omega) only [e, qj_le]
      exact ⟨fun c => by omega, fun _ => k2 Q hQ⟩
  -- hands die
  have K2 : ∀ m : Int32, (∀ h : Nat, h < F.1 0 0 → qhas m (qj h) = D h) → ∀ i, i ≤ F.1 0 0 → ∀ J, qMS F J r (aDth F D i S0) → qFm r I J → J 245 44 = y →
      ∃ I', Post I' ∧ ∀ Q : qR → Prop, Q (.inl (none, qw g I')) → qwq d 238 92 [(0, .ref 245), (1, .ref r), (2, .int m), (3, .int (qj i))] [] (qw g J) Q := by
    intro m hm
    refine upto _ (fun J R1 h1 h2 => ?_) (fun i hi ih J R1 h1 h2 => ?_)
    · obtain ⟨I', k1, k2⟩ := K3 0 (Nat.zero_le _) J R1 h1 h2
      refine ⟨I', k1, fun Q hQ => b238_92 hsh (by omega) ?_⟩
      have e := (qFm_F h1 hr W MF).1
      simp (disch := omega) only [e, qj_le]
      exact ⟨fun _ => k2 Q hQ, fun c => by omega⟩
    · have hT := qOK_dth (D := D) WS0 i (by omega)
      have ih2 : ∀ J, qMS F J r (aDt1 F D i (aDth F D i S0)) → qFm r I J → J 245 44 = y → ∃ I', Post I' ∧ ∀ Q : qR → Prop, Q (.inl (none, qw g I')) → qwq d 238 92 [(0, .ref 245), (1, .ref r), (2, .int m), (3, .int (qj (i + 1 : Nat)))] [] (qw g J) Q := ih
      have hyT : (aDth F D i S0).1 0 0 ≤ 1000 := by rw [hT.2.1]; exact hy0
      generalize aDth F D i S0 = T at R1 hT ih2 hyT
      have MF' := qFm_F h1 hr W MF
      have e := MF'.1
      have f6 := MF'.2.2.2.2.2.1 i hi
      have hw := W.2.2.2.2.1 i hi
      have s7 := R1.2.2.2.2.2.2
      have k218 := m218 (d := d - 1) (g := g) (by omega) hr MF' W R1 hyT hi
      obtain ⟨J2, r1, r2, r3⟩ := m237 (d := d - 1) (g := g) (by omega) hr MF' W R1 hT.1 hi
      have hmi := hm i hi
      by_cases hk : aAl F T i = true ∧ (F.1 3 i = T.1 0 0 ∨ D i = true)
      · have e2 : aDt1 F D i T = aBur T i := by unfold aDt1; rw [if_pos hk]
        rw [e2] at ih2
        obtain ⟨I', k1, k2⟩ := ih2 J2 r2 (qFm_tr h1 (toFm r3)) ((kp r3).trans h2)
        refine ⟨I', k1, fun Q hQ => b238_92 hsh (by omega) ?_⟩
        simp (disch := omega) only [e, qj_le]
        refine ⟨fun c => by omega, fun _ => ⟨_, _, k218, ?_⟩⟩
        rw [hk.1]
        simp (disch := omega) only [f6, s7, q2_e, qj_nat, qIx_z, qj_eq, hmi, qj_add, qj_s1]
        refine ⟨fun c => Bool.noConfusion c, fun _ => ⟨trivial, fun _ => ⟨_, r1, k2 Q hQ⟩, fun c => ⟨fun c2 => ?_, fun _ => ⟨_, r1, k2 Q hQ⟩⟩⟩⟩
        rcases hk.2 with h | h
        · omega
        · rw [h] at c2; cases c2
      · have e2 : aDt1 F D i T = T := by unfold aDt1; rw [if_neg hk]
        rw [e2] at ih2
        obtain ⟨I', k1, k2⟩ := ih2 J R1 h1 h2
        refine ⟨I', k1, fun Q hQ => b238_92 hsh (by omega) ?_⟩
        simp (disch := omega) only [e, qj_le]
        refine ⟨fun c => by omega, fun _ => ⟨_, _, k218, ?_⟩⟩
        simp (disch := omega) only [f6, s7, q2_e, qj_nat, qIx_z, qj_eq, hmi, qj_add, qj_s1]
        refine ⟨fun _ => k2 Q hQ, fun ha => ⟨trivial, fun c => absurd ⟨ha, Or.inl (by omega)⟩ hk, fun _ => ⟨fun _ => k2 Q hQ, fun c => absurd ⟨ha, Or.inr c⟩ hk⟩⟩⟩
  -- lots
  have R0 : qMS F (qup I r 106 (qj ((S.1 0 0 + 1 : Nat) : Int))) r S0 := qMS_n R h8 (Or.inr (Or.inr (Or.inr (Or.inr ⟨rfl, rfl, rfl, rfl⟩))))
  have h0 : qFm r I (qup I r 106 (qj ((S.1 0 0 + 1 : Nat) : Int))) := toFm (fun a ha => qup_ne ha)
  have fin : ∃ I', Post I' ∧ ∀ Q : qR → Prop, Q (.inl (none, qw g I')) → qwq d 238 12 [(0, .ref 245), (1, .ref r), (2, .int (qj 0)), (3, .int (qj 0))] [] (qw g (qup I r 106 (qj ((S.1 0 0 + 1 : Nat) : Int)))) Q := by
    by_cases hq0 : q = 0
    · have y0 : y = x := if_neg (by omega)
      have e44 : (qup I r 106 (qj ((S.1 0 0 + 1 : Nat) : Int))) 245 44 = y := by rw [qup_ne (by omega), y0]; exact h44
      have e45 : (qup I r 106 (qj ((S.1 0 0 + 1 : Nat) : Int))) 245 45 = qj 0 := by rw [qup_ne (by omega), h45, hq0]; rfl
      obtain ⟨I', k1, k2⟩ := K2 (qj 0) (fun h hh => by
        have := qhas_n 0 (k := h) (by omega)
        rw [Nat.zero_testBit] at this
        show qhas (qj 0) _ = aDm F S0 x (qj q) h
        rw [hq0]
        exact this.trans (aDm_0 F S0 x h).symm) 0 (Nat.zero_le _) _ R0 h0 e44
      refine ⟨I', k1, fun Q hQ => b238_12 hsh (by omega) ?_⟩
      have e := (qFm_F h0 hr W MF).1
      simp (disch := omega) only [e, e45, qz0, qj_le]
      exact ⟨fun _ => k2 Q hQ, fun _ => ⟨fun _ => k2 Q hQ, fun c => absurd (Int.le_refl _) c⟩⟩
    · have y0 : y = aSd F S0 x (F.1 0 0) := if_pos (by omega)
      have K1 : ∀ i, i ≤ F.1 0 0 → ∀ J, qMS F J r S0 → qFm r I J → J 245 44 = aSd F S0 x i →
          ∃ I', Post I' ∧ ∀ Q : qR → Prop, Q (.inl (none, qw g I')) → qwq d 238 12 [(0, .ref 245), (1, .ref r), (2, .int (qj (bm i D : Nat))), (3, .int (qj i))] [] (qw g J) Q := by
        refine upto _ (fun J R1 h1 h2 => ?_) (fun i hi ih J R1 h1 h2 => ?_)
        · obtain ⟨I', k1, k2⟩ := K2 (qj (bm (F.1 0 0) D : Nat)) (fun h hh => qhas_bm _ D hh (by omega)) 0 (Nat.zero_le _) J R1 h1 (by rw [y0]; exact h2)
          refine ⟨I', k1, fun Q hQ => b238_12 hsh (by omega) ?_⟩
          have e := (qFm_F h1 hr W MF).1
          simp (disch := omega) only [e, qj_le]
          exact ⟨fun _ => k2 Q hQ, fun c => by omega⟩
        · have MF' := qFm_F h1 hr W MF
          have e := MF'.1
          have e45 : J 245 45 = qj q := (h1.2 45 (by omega)).trans h45
          have k218 := m218 (d := d - 1) (g := g) (by omega) hr MF' W R1 hy0 hi
          cases ha : aAl F S0 i with
          | false =>
            have e1 : aSd F S0 x (i + 1) = aSd F S0 x i := by rw [aSd, ha]; rfl
            have e2 : D i = false := by show aDm F S0 x (qj q) i = false; unfold aDm; rw [ha]; rfl
            obtain ⟨I', k1, k2⟩ := ih J R1 h1 (by rw [e1]; exact h2)
            rw [bm_sf e2] at k2
            refine ⟨I', k1, fun Q hQ => b238_12 hsh (by omega) ?_⟩
            simp (disch := omega) only [e, e45, qz0, qj_le]
            refine ⟨fun c => by omega, fun _ => ⟨fun c => by omega, fun _ => ⟨_, _, k218, ?_⟩⟩⟩
            rw [ha, qj_add]
            exact ⟨fun c => Bool.noConfusion c, fun _ => k2 Q hQ⟩
          | true =>
            have e1 : aSd F S0 x (i + 1) = sdN (aSd F S0 x i) := by rw [aSd, ha]; rfl
            have e2 : D i = decide (aLot (sdN (aSd F S0 x i)) < qj q) := by show aDm F S0 x (qj q) i = _; unfold aDm; rw [ha, e1]; rfl
            have R2 : qMS F (qup J 245 44 (sdN (aSd F S0 x i))) r S0 := qMS_cg R1 (qup_ne (by omega))
            have h12 : qFm r I (qup J 245 44 (sdN (aSd F S0 x i))) := qFm_tr h1 ⟨fun a _ _ _ ha => qup_ne ha, fun j hj => by rw [qup_at, if_neg hj]⟩
            obtain ⟨I', k1, k2⟩ := ih _ R2 h12 (by rw [qup_at, if_pos rfl, e1])
            refine ⟨I', k1, fun Q hQ => b238_12 hsh (by omega) ?_⟩
            have k3 := k2 Q hQ
            simp (disch := omega) only [e, e45, qz0, qj_le, h2]
            refine ⟨fun c => by omega, fun _ => ⟨fun c => by omega, fun _ => ⟨_, _, k218, ?_⟩⟩⟩
            rw [ha, qj_add]
            refine ⟨fun _ => ?_, fun c => Bool.noConfusion c⟩
            rw [e45, h2, qor_0]
            refine ⟨fun c => ?_, fun c => ?_⟩
            · rw [bm_sf (P := D) (by rw [e2]; exact decide_eq_false ((qlt_nle _ _).mpr c))] at k3
              exact k3
            · rw [bm_st (P := D) (by rw [e2]; exact decide_eq_true ((qle_nlt _ _).mp c)) (by omega)]
              exact k3
      exact K1 0 (Nat.zero_le _) _ R0 h0 (by rw [qup_ne (by omega)]; exact h44)
  obtain ⟨I', ⟨k1, k2, k3⟩, k4⟩ := fin
  refine ⟨I', qRun_of (fun Q hQ => b238_0 hsh (by omega) ?_), k1, k2, fun h => k3.trans (if_pos h)⟩
  rw [R.2.2.2.2.2.2, qj_add]
  exact k4 Q hQ
/-- a year without fates -/
theorem m238y (hd : 6 ≤ d) (hr : qisR r) (MF : qMF F I) (Ml : qMl F I S) (W : qWF F) (R : qMS F I r S) (WS : qWS F S) (hy : S.1 0 0 < 1000) (ML : qML L I) (WL : qWL L) (h45 : I 245 45 = qj 0) :
    ∃ I', qRun d 238 [.ref 245, .ref r] (qw g I) (.inl (none, qw g I')) ∧ qMS F I' r (aYear F L S) ∧ qFm r I I' := by
  obtain ⟨I', k1, k2, k3, -⟩ := m238 (g := g) hd hr MF Ml W R WS hy ML WL (q := 0) (by omega) h45 rfl
  refine ⟨I', k1, ?_, k3⟩
  have : aYear F L S = aLiv F L (aDm F (aYr S) (I 245 44) (qj (0 : Nat))) (aYr S) := aLiv_ext (fun k _ => (aDm_0 F _ _ k).symm)
  rw [this]; exact k2
end GOES
