/-! ===== nights in the class and in the reference ===== -/
theorem cup_at {c : Nat → Nat} {h v : Nat} : cup c h v h = v := if_pos rfl
theorem cup_ne {c : Nat → Nat} {h v g : Nat} (e : ¬ g = h) : cup c h v g = c g := if_neg e
theorem frN_step {α : Type} {f : Nat → Option α} {n B : Nat} (hn : n < B) (h : ∀ k, k < n → f k = none) : (∀ a, f n = some a → frN B f = some a) ∧ (f n = none → ∀ k, k < n + 1 → f k = none) := by
  refine ⟨fun a ha => ?_, fun h2 k hk => ?_⟩
  · have : frN (n + 1) f = some a := by rw [frN, (frN_none n).mpr h]; exact ha
    exact frN_up this B hn
  · by_cases e : k = n
    · subst e; exact h2
    · exact h k (by omega)
section NGT
variable {d : Nat} {g : qG1} {I : Nat → Nat → Int32} {F : qFam} {S : qSt} {f : Nat} {al : Nat → Bool}
theorem c155 (hd : 1 ≤ d) : ∃ I', qRun d 155 [.ref 64] (qw g I) (.inl (none, qw g I')) ∧ (∀ g, g < 9 → I' 243 g = qj (-1)) ∧ ∀ a, ¬ a = 243 → I' a = I a := by
  have key : ∀ i : Nat, i ≤ 9 → ∀ J : Nat → Nat → Int32, (∀ g, g < i → J 243 g = qj (-1)) → (∀ a, ¬ a = 243 → J a = I a) →
      ∃ I', ((∀ g, g < 9 → I' 243 g = qj (-1)) ∧ ∀ a, ¬ a = 243 → I' a = I a) ∧ ∀ Q : qR → Prop, Q (.inl (none, qw g I')) → qwq d 155 2 [(0, .ref 64), (1, .int (qj i))] [] (qw g J) Q := by
    refine upto _ (fun J h1 h2 => ⟨J, ⟨h1, h2⟩, fun Q hQ => b155_2 (by omega) ⟨fun _ => hQ, fun c => absurd (Int32.le_refl _) c⟩⟩) (fun i hi ih J h1 h2 => ?_)
    obtain ⟨I', k1, k2⟩ := ih (qup J 243 i (qj (-1))) (fun g hg => by
      rw [qup_at]
      split
      · rfl
      · exact h1 g (by omega)) (fun a ha => by rw [qup_ne ha]; exact h2 a ha)
    refine ⟨I', k1, fun Q hQ => b155_2 (by omega) ?_⟩
    simp (disch := omega) only [qj_le, qIx_z, qj_nat, qj_add, qj_s1, true_and]
    exact ⟨fun c => by omega, fun _ => k2 Q hQ⟩
  obtain ⟨I', k1, k2⟩ := key 0 (Nat.zero_le _) I (fun g hg => absurd hg (Nat.not_lt_zero _)) (fun _ _ => rfl)
  exact ⟨I', qRun_of (fun Q hQ => b155_0 (by omega) (k2 Q hQ)), k1⟩
theorem c157 (hd : 2 ≤ d) (hf : qisF f) (RF : qRF F I f) {c : Nat → Nat} {h n : Nat} (hh : h < 9) (hn : n ≤ 9) (hc : ∀ k, k < h → I 243 k = qj ((c k : Int) - 1) ∧ c k ≤ 9) : qRun d 157 [.ref f, .ref 243, .int (qj h), .int (qj n)] (qw g I) (.inl (some (.int (qb (fre (F.2 2) h c n))), qw g I)) := by
  refine qRun_of fun Q hQ => b157_0 hf (by omega) ?_
  have f10 := RF.2.2.2.2.2.2.2.2.2.1 h hh
  have L : ∀ i, i ≤ h → anb i (fun k => F.2 2 h k && c k == n + 1) = false → qwq d 157 3 [(0, .ref f), (1, .ref 243), (2, .int (qj h)), (3, .int (qj n)), (4, .int (qj i))] [] (qw g I) Q := by
    refine upto (P := fun i => anb i (fun k => F.2 2 h k && c k == n + 1) = false → _) _ (fun hn => b157_3 hf (by omega) ?_) (fun i hi ih hno => b157_3 hf (by omega) ?_)
    · have : fre (F.2 2) h c n = true := by unfold fre; rw [hn]; rfl
      rw [this] at hQ
      exact ⟨fun _ => hQ, fun c => absurd (Int32.le_refl _) c⟩
    · obtain ⟨e1, e2⟩ := hc i hi
      have step : (F.2 2 h i && c i == n + 1) = false → qwq d 157 3 [(0, .ref f), (1, .ref 243), (2, .int (qj h)), (3, .int (qj n)), (4, .int (qj ((i + 1 : Nat) : Int)))] [] (qw g I) Q := fun e => ih (by rw [anb, hno, e]; rfl)
      simp (disch := omega) only [qj_le, qIx_z, qj_nat, e1, f10, qhas_bm, qj_eq, qj_add, qj_s1, true_and]
      refine ⟨fun c => by omega, fun _ => ⟨fun c => by omega, fun _ => ⟨fun e => step ?_, fun e => ⟨fun s => step ?_, fun s => ?_⟩⟩⟩⟩
      · have : (c i == n + 1) = false := by rw [beq_eq_false_iff_ne]; omega
        rw [this, Bool.and_false]
      · rw [s]; rfl
      · have : fre (F.2 2) h c n = false := by
          unfold fre
          rw [(anb_iff _ _).mpr ⟨i, hi, by rw [s, Bool.true_and, beq_iff_eq]; omega⟩]; rfl
        rw [this] at hQ; exact hQ
  exact L 0 (Nat.zero_le _) rfl
theorem c156 (hf : qisF f) (W : qWF F) {m : Nat} (hm : m ≤ 9) :
    ∀ (r h u : Nat) (c : Nat → Nat) (d : Nat) (I : Nat → Nat → Int32), h + r = F.1 0 0 → 32 + r ≤ d → u ≤ 9 → (∀ k, c k ≤ 9) → (∀ k, h ≤ k → c k = 0) → qRF F I f → (∀ k, k < 9 → I 243 k = qj ((c k : Int) - 1)) →
      ∃ I', qRun d 156 [.ref f, .ref 243, .int (qj (bm 9 al : Nat)), .int (qj h), .int (qj u), .int (qj m)] (qw g I) (.inl (some (.int (qb (dS (F.2 2) al true m r h u c).isSome)), qw g I')) ∧ (∀ a, ¬ a = 243 → I' a = I a) ∧
        (∀ c', dS (F.2 2) al true m r h u c = some c' → ∀ k, k < 9 → I' 243 k = qj ((c' k : Int) - 1)) ∧ (dS (F.2 2) al true m r h u c = none → ∀ k, k < 9 → I' 243 k = qj ((c k : Int) - 1)) := by
  have h9 := W.1
  intro r
  induction r with
  | zero =>
    intro h u c d I hr hd hu hc hc0 RF hI
    have f1 := RF.1
    refine ⟨I, qRun_of fun Q hQ => b156_0 hf (by omega) ?_, fun _ _ => rfl, fun c' e => ?_, fun e => by cases e⟩
    · simp (disch := omega) only [qz0, f1, qj_lt, qj_le]
      exact ⟨fun c => by omega, fun _ => ⟨fun _ => hQ, fun c => by omega⟩⟩
    · have e : some c = some c' := e
      cases e; exact hI
  | succ r ih =>
    intro h u c d I hr hd hu hc hc0 RF hI
    have f1 := RF.1
    cases ha : al h with
    | false =>
      have e0 : cup c h 0 = c := by
        funext k; unfold cup
        by_cases e : k = h
        · rw [if_pos e, e, hc0 h (Nat.le_refl _)]
        · rw [if_neg e]
      have ed : dS (F.2 2) al true m (r + 1) h u c = dS (F.2 2) al true m r (h + 1) u c := by rw [dS, ha, if_neg Bool.false_ne_true, e0]
      obtain ⟨I', k1, k2, k3, k4⟩ := ih (h + 1) u c (d - 1) I (by omega) (by omega) hu hc (fun k hk => hc0 k (by omega)) RF hI
      rw [← ed] at k1 k3 k4
      refine ⟨I', qRun_of fun Q hQ => b156_0 hf (by omega) ?_, k2, k3, k4⟩
      simp (disch := omega) only [qz0, f1, qj_lt, qj_le, qhas_bm, ha, qj_add, qj_s1]
      exact ⟨fun c => by omega, fun _ => ⟨fun c => by omega, fun _ => ⟨fun _ => ⟨fun c => Bool.noConfusion c, fun _ => ⟨_, _, k1, hQ⟩⟩, fun c => by omega⟩⟩⟩
    | true =>
      let fn : Nat → Option (Nat → Nat) := fun n => if fre (F.2 2) h c n = true then dS (F.2 2) al true m r (h + 1) (max u (n + 1)) (cup c h (n + 1)) else none
      have ed : dS (F.2 2) al true m (r + 1) h u c = frN (min (u + 1) m) fn := by rw [dS, ha, if_pos rfl, if_pos rfl]
      let Post : (Nat → Nat → Int32) → Prop := fun I' => (∀ a, ¬ a = 243 → I' a = I a) ∧ (∀ c', dS (F.2 2) al true m (r + 1) h u c = some c' → ∀ k, k < 9 → I' 243 k = qj ((c' k : Int) - 1)) ∧ (dS (F.2 2) al true m (r + 1) h u c = none → ∀ k, k < 9 → I' 243 k = qj ((c k : Int) - 1))
      have key : ∀ n, n ≤ min (u + 1) m → (∀ k, k < n → fn k = none) → ∀ J : Nat → Nat → Int32, (∀ a, ¬ a = 243 → J a = I a) → (∀ k, k < 9 → ¬ k = h → J 243 k = qj ((c k : Int) - 1)) →
          ∃ I', Post I' ∧ ∀ Q : qR → Prop, Q (.inl (some (.int (qb (dS (F.2 2) al true m (r + 1) h u c).isSome)), qw g I')) → qwq d 156 45 [(0, .ref f), (1, .ref 243), (2, .int (qj (bm 9 al : Nat))), (3, .int (qj h)), (4, .int (qj u)), (5, .int (qj m)), (6, .int (qj n))] [] (qw g J) Q := by
        refine upto (P := fun n => (∀ k, k < n → fn k = none) → ∀ J : Nat → Nat → Int32, (∀ a, ¬ a = 243 → J a = I a) → (∀ k, k < 9 → ¬ k = h → J 243 k = qj ((c k : Int) - 1)) → _) _ (fun hno J h1 h2 => ?_) (fun n hn ihn hno J h1 h2 => ?_)
        · have en : dS (F.2 2) al true m (r + 1) h u c = none := by rw [ed]; exact (frN_none _).mpr hno
          refine ⟨qup J 243 h (qj (-1)), ⟨fun a ha => by rw [qup_ne ha]; exact h1 a ha, fun c' e => (by rw [en] at e; cases e), fun _ k hk => ?_⟩, fun Q hQ => b156_45 hf (by omega) ?_⟩
          · rw [qup_at]
            by_cases e : k = h
            · rw [if_pos e, e, hc0 h (Nat.le_refl _)]; rfl
            · rw [if_neg e]; exact h2 k hk e
          · rw [en] at hQ
            simp (disch := omega) only [qj_lt, qj_le, qIx_z, qj_nat, true_and]
            exact ⟨fun _ => hQ, fun c => ⟨fun _ => hQ, fun c2 => by omega⟩⟩
        · have RFJ : qRF F J f := qRF_cg RF (fun a h3 h4 => h1 a (by unfold qisF at hf; omega))
          have k157 := c157 (d := d - 1) (g := g) (by omega) hf RFJ (c := c) (h := h) (n := n) (by omega) (by omega) (fun k hk => ⟨h2 k (by omega) (by omega), hc k⟩)
          obtain ⟨st1, st2⟩ := frN_step hn hno
          cases hfr : fre (F.2 2) h c n with
          | false =>
            have e : fn n = none := if_neg (by rw [hfr]; exact Bool.false_ne_true)
            obtain ⟨I', k1, k2⟩ := ihn (st2 e) J h1 h2
            rw [hfr] at k157
            refine ⟨I', k1, fun Q hQ => b156_45 hf (by omega) ?_⟩
            simp (disch := omega) only [qj_lt, qj_le, qj_add, qj_s1]
            exact ⟨fun c => by omega, fun _ => ⟨fun c => by omega, fun _ => ⟨_, _, k157, fun _ => k2 Q hQ, fun c => Bool.noConfusion c⟩⟩⟩
          | true =>
            have e : fn n = dS (F.2 2) al true m r (h + 1) (max u (n + 1)) (cup c h (n + 1)) := if_pos hfr
            rw [hfr] at k157
            have hJ2 : ∀ a, ¬ a = 243 → (qup J 243 h (qj n)) a = I a := fun a ha => by rw [qup_ne ha]; exact h1 a ha
            obtain ⟨J3, w1, w2, w3, w4⟩ := ih (h + 1) (max u (n + 1)) (cup c h (n + 1)) (d - 1) (qup J 243 h (qj n)) (by omega) (by omega) (by omega) (fun k => by
              by_cases e : k = h
              · rw [e, cup_at]; omega
              · rw [cup_ne e]; exact hc k) (fun k hk => by rw [cup_ne (by omega)]; exact hc0 k (by omega)) (qRF_cg RF (fun a h3 h4 => hJ2 a (by unfold qisF at hf; omega))) (fun k hk => by
              rw [qup_at]
              by_cases e : k = h
              · rw [if_pos e, e, cup_at]; congr 1; omega
              · rw [if_neg e, cup_ne e]; exact h2 k hk e)
            rw [← e] at w1 w3 w4
            have emax : qmax (qj (u : Int)) (qj ((n + 1 : Nat) : Int)) = qj ((max u (n + 1) : Nat) : Int) := by
              rw [qmax_z (by omega) (by omega) (by omega) (by omega)]; congr 1; omega
            cases ef : fn n with
            | none =>
              obtain ⟨I', k1, k2⟩ := ihn (st2 ef) J3 (fun a ha => (w2 a ha).trans (hJ2 a ha)) (fun k hk hkh => by rw [w4 ef k hk, cup_ne hkh])
              rw [ef] at w1
              refine ⟨I', k1, fun Q hQ => b156_45 hf (by omega) ?_⟩
              simp (disch := omega) only [qj_lt, qj_le, qIx_z, qj_nat, qj_add, emax, qj_s1, true_and]
              exact ⟨fun c => by omega, fun _ => ⟨fun c => by omega, fun _ => ⟨_, _, k157, fun c => Bool.noConfusion c, fun _ => ⟨_, _, w1, fun _ => k2 Q hQ, fun c => Bool.noConfusion c⟩⟩⟩⟩
            | some c' =>
              have es : dS (F.2 2) al true m (r + 1) h u c = some c' := by rw [ed]; exact st1 c' ef
              rw [ef] at w1
              refine ⟨J3, ⟨fun a ha => (w2 a ha).trans (hJ2 a ha), fun c'' e2 => (by rw [es] at e2; cases e2; exact w3 c' ef), fun e2 => (by rw [es] at e2; cases e2)⟩, fun Q hQ => b156_45 hf (by omega) ?_⟩
              rw [es] at hQ
              simp (disch := omega) only [qj_lt, qj_le, qIx_z, qj_nat, qj_add, emax, qj_s1, true_and]
              exact ⟨fun c => by omega, fun _ => ⟨fun c => by omega, fun _ => ⟨_, _, k157, fun c => Bool.noConfusion c, fun _ => ⟨_, _, w1, fun c => Bool.noConfusion c, fun _ => hQ⟩⟩⟩⟩
      obtain ⟨I', k1, k2⟩ := key 0 (Nat.zero_le _) (fun k hk => absurd hk (Nat.not_lt_zero _)) I (fun _ _ => rfl) (fun k hk _ => hI k hk)
      refine ⟨I', qRun_of fun Q hQ => b156_0 hf (by omega) ?_, k1⟩
      simp (disch := omega) only [qz0, f1, qj_lt, qj_le, qhas_bm, ha]
      exact ⟨fun c => by omega, fun _ => ⟨fun c => by omega, fun _ => ⟨fun _ => ⟨fun _ => k2 Q hQ, fun c => Bool.noConfusion c⟩, fun c => by omega⟩⟩⟩
theorem c154 (hd : 61 ≤ d) (hf : qisF f) (wf : g.2.2.1 1 = f) (RF : qRF F I f) (W : qWF F) (R : qRS F I 139 S) (hy : S.1 0 0 ≤ 1000) :
    ∃ I', qRun d 154 [.ref 64] (qw g I) (.inl (some (.int (qj (aNt F S))), qw g I')) ∧ (∀ k, k < 9 → I' 243 k = qj ((aNg F S k : Int) - 1)) ∧ ∀ a, ¬ a = 243 → I' a = I a := by
  have h9 := W.1
  obtain ⟨n1, n2, n3⟩ := aNt_at (S := S) W
  have hs : qisS 139 := by unfold qisS; omega
  have k55 := c55' (d := d - 1) (g := g) (by omega) hs hf RF W R hy
  -- one try
  have tr : ∀ m : Nat, m ≤ 9 → ∀ J : Nat → Nat → Int32, (∀ a, ¬ a = 243 → J a = I a) → ∃ J1 J2, qRun (d - 1) 155 [.ref 64] (qw g J) (.inl (none, qw g J1)) ∧ qRun (d - 1) 156 [.ref f, .ref 243, .int (qj (bm 9 (aAlv F S) : Nat)), .int (qj 0), .int (qj 0), .int (qj m)] (qw g J1) (.inl (some (.int (qb (dN F S m).isSome)), qw g J2)) ∧ (∀ a, ¬ a = 243 → J2 a = I a) ∧ (∀ c', dN F S m = some c' → ∀ k, k < 9 → J2 243 k = qj ((c' k : Int) - 1)) := by
    intro m hm J hJ
    obtain ⟨J1, a1, a2, a3⟩ := c155 (d := d - 1) (g := g) (I := J) (by omega)
    have hJ1 : ∀ a, ¬ a = 243 → J1 a = I a := fun a ha => (a3 a ha).trans (hJ a ha)
    obtain ⟨J2, b1, b2, b3, -⟩ := c156 (g := g) (al := aAlv F S) hf W hm (F.1 0 0) 0 0 (fun _ => 0) (d - 1) J1 (Nat.zero_add _) (by omega) (by omega) (fun _ => Nat.zero_le _) (fun _ _ => rfl) (qRF_cg RF (fun a h3 h4 => hJ1 a (by unfold qisF at hf; omega))) (fun k hk => a2 k hk)
    exact ⟨J1, J2, a1, b1, fun a ha => (b2 a ha).trans (hJ1 a ha), b3⟩
  have fin : ∀ c', dN F S (aNt F S) = some c' → aNg F S = c' := fun c' e => by unfold aNg; rw [e]; rfl
  have some_ : ∃ c', dN F S (aNt F S) = some c' := Option.isSome_iff_exists.mp n1
  obtain ⟨c', hc'⟩ := some_
  have key : ∀ r m : Nat, m + r = aNt F S → ∀ J : Nat → Nat → Int32, (∀ a, ¬ a = 243 → J a = I a) →
      ∃ I', ((∀ k, k < 9 → I' 243 k = qj ((aNg F S k : Int) - 1)) ∧ ∀ a, ¬ a = 243 → I' a = I a) ∧ ∀ Q : qR → Prop, Q (.inl (some (.int (qj (aNt F S))), qw g I')) → qwq d 154 14 [(0, .ref 64), (1, .int (qj (bm 9 (aAlv F S) : Nat))), (2, .int (qj m))] [] (qw g J) Q := by
    intro r
    induction r with
    | zero =>
      intro m hm J hJ
      have e : m = aNt F S := by omega
      obtain ⟨J1, J2, a1, a2, a3, a4⟩ := tr m (by omega) J hJ
      have eq : dN F S m = some c' := by rw [e]; exact hc'
      refine ⟨J2, ⟨fun k hk => by rw [fin c' hc']; exact a4 c' eq k hk, a3⟩, fun Q hQ => b154_14 hf wf (by omega) ?_⟩
      rw [eq] at a2
      by_cases h : m = 9
      · subst h
        rw [← e] at hQ
        exact ⟨fun _ => ⟨_, a1, _, _, a2, hQ⟩, fun c => absurd (Int32.le_refl _) c⟩
      · simp (disch := omega) only [qj_le]
        rw [← e] at hQ
        exact ⟨fun c => by omega, fun _ => ⟨_, a1, _, _, a2, fun c => Bool.noConfusion c, fun _ => hQ⟩⟩
    | succ r ih =>
      intro m hm J hJ
      obtain ⟨J1, J2, a1, a2, a3, a4⟩ := tr m (by omega) J hJ
      rw [n2 m (by omega)] at a2
      obtain ⟨I', k1, k2⟩ := ih (m + 1) (by omega) J2 a3
      refine ⟨I', k1, fun Q hQ => b154_14 hf wf (by omega) ?_⟩
      simp (disch := omega) only [qj_le, qj_add, qj_s1]
      exact ⟨fun c => by omega, fun _ => ⟨_, a1, _, _, a2, fun _ => k2 Q hQ, fun c => Bool.noConfusion c⟩⟩
  obtain ⟨I', k1, k2⟩ := key (aNt F S) 0 (Nat.zero_add _) I (fun _ _ => rfl)
  exact ⟨I', qRun_of (fun Q hQ => b154_0 hf wf (by omega) ⟨_, _, k55, k2 Q hQ⟩), k1⟩
theorem m273 (W : qWF F) {m : Nat} (hm : m ≤ 9) :
    ∀ (r h u : Nat) (c : Nat → Nat) (d : Nat) (I : Nat → Nat → Int32), h + r = F.1 0 0 → 32 + r ≤ d → (∀ k, c k ≤ 9) → qMF F I → (∀ k, k < h → I 693 k = qj ((c k : Int) - 1)) →
      ∃ I', qRun d 273 [.ref 245, .int (qj h), .int (qj m), .int (qj (bm 9 al : Nat))] (qw g I) (.inl (some (.int (qb (dS (F.2 2) al false m r h u c).isSome)), qw g I')) ∧ (∀ a, ¬ a = 693 → I' a = I a) ∧
        (∀ c', dS (F.2 2) al false m r h u c = some c' → ∀ k, k < F.1 0 0 → I' 693 k = qj ((c' k : Int) - 1)) ∧ (dS (F.2 2) al false m r h u c = none → ∀ k, k < h → I' 693 k = I 693 k) := by
  have h9 := W.1
  have mf : ∀ {I J : Nat → Nat → Int32}, qMF F I → (∀ a, ¬ a = 693 → J a = I a) → qMF F J := fun MF e => qMF_cg MF (fun a h1 h2 => e a (by omega)) W
  intro r
  induction r with
  | zero =>
    intro h u c d I hr hd hc MF hI
    have f1 := MF.1
    refine ⟨I, qRun_of fun Q hQ => b273_0 (by omega) ?_, fun _ _ => rfl, fun c' e => ?_, fun e => by cases e⟩
    · simp (disch := omega) only [f1, qj_eq]
      exact ⟨fun c => by omega, fun _ => hQ⟩
    · have e : some c = some c' := e
      cases e
      rw [← hr]; exact hI
  | succ r ih =>
    intro h u c d I hr hd hc MF hI
    have f1 := MF.1
    let J0 := qup I 693 h (qj (-1))
    have J0f : ∀ a, ¬ a = 693 → J0 a = I a := fun a ha => qup_ne ha
    have J0i : ∀ k, k < h → J0 693 k = qj ((c k : Int) - 1) := fun k hk => by
      show qup I 693 h (qj (-1)) 693 k = _
      rw [qup_at, if_neg (by omega)]; exact hI k hk
    cases ha : al h with
    | false =>
      have ed : dS (F.2 2) al false m (r + 1) h u c = dS (F.2 2) al false m r (h + 1) u (cup c h 0) := by rw [dS, ha, if_neg Bool.false_ne_true]
      obtain ⟨I', k1, k2, k3, k4⟩ := ih (h + 1) u (cup c h 0) (d - 1) J0 (by omega) (by omega) (fun k => by
        by_cases e : k = h
        · rw [e, cup_at]; omega
        · rw [cup_ne e]; exact hc k) (mf MF J0f) (fun k hk => by
        by_cases e : k = h
        · rw [e, cup_at]; show qup I 693 h (qj (-1)) 693 h = _; rw [qup_at, if_pos rfl]; rfl
        · rw [cup_ne e]; exact J0i k (by omega))
      rw [← ed] at k1 k3 k4
      refine ⟨I', qRun_of fun Q hQ => b273_0 (by omega) ?_, fun a ha => (k2 a ha).trans (J0f a ha), k3, fun e k hk => by rw [k4 e k (by omega), J0i k hk, hI k hk]⟩
      simp (disch := omega) only [f1, qj_eq, qIx_z, qj_nat, qhas_bm, ha, qj_add, qj_s1, true_and]
      exact ⟨fun _ => ⟨fun c => Bool.noConfusion c, fun _ => ⟨_, _, k1, hQ⟩⟩, fun c => by omega⟩
    | true =>
      let fn : Nat → Option (Nat → Nat) := fun n => if fre (F.2 2) h c n = true then dS (F.2 2) al false m r (h + 1) (max u (n + 1)) (cup c h (n + 1)) else none
      have ed : dS (F.2 2) al false m (r + 1) h u c = frN m fn := by rw [dS, ha, if_pos rfl, if_neg Bool.false_ne_true]
      let Post : (Nat → Nat → Int32) → Prop := fun I' => (∀ a, ¬ a = 693 → I' a = I a) ∧ (∀ c', dS (F.2 2) al false m (r + 1) h u c = some c' → ∀ k, k < F.1 0 0 → I' 693 k = qj ((c' k : Int) - 1)) ∧ (dS (F.2 2) al false m (r + 1) h u c = none → ∀ k, k < h → I' 693 k = I 693 k)
      have key : ∀ n, n ≤ m → (∀ k, k < n → fn k = none) → ∀ J : Nat → Nat → Int32, (∀ a, ¬ a = 693 → J a = I a) → (∀ k, k < h → J 693 k = I 693 k) →
          ∃ I', Post I' ∧ ∀ Q : qR → Prop, Q (.inl (some (.int (qb (dS (F.2 2) al false m (r + 1) h u c).isSome)), qw g I')) → qwq d 273 40 [(0, .ref 245), (1, .int (qj h)), (2, .int (qj m)), (3, .int (qj (bm 9 al : Nat))), (4, .int (qj n))] [] (qw g J) Q := by
        refine upto (P := fun n => (∀ k, k < n → fn k = none) → ∀ J : Nat → Nat → Int32, (∀ a, ¬ a = 693 → J a = I a) → (∀ k, k < h → J 693 k = I 693 k) → _) _ (fun hno J h1 h2 => ?_) (fun n hn ihn hno J h1 h2 => ?_)
        · have en : dS (F.2 2) al false m (r + 1) h u c = none := by rw [ed]; exact (frN_none _).mpr hno
          refine ⟨qup J 693 h (qj (-1)), ⟨fun a ha => by rw [qup_ne ha]; exact h1 a ha, fun c' e => (by rw [en] at e; cases e), fun _ k hk => by rw [qup_at, if_neg (by omega)]; exact h2 k hk⟩, fun Q hQ => b273_40 (by omega) ?_⟩
          rw [en] at hQ
          simp (disch := omega) only [qj_le, qIx_z, qj_nat, true_and]
          exact ⟨fun _ => hQ, fun c => by omega⟩
        · obtain ⟨st1, st2⟩ := frN_step hn hno
          have MFJ := mf MF h1
          have f16 := MFJ.2.2.2.2.2.2.2.2.2.2.2.2.2.2.2 h (by omega)
          -- the question whether the night is free
          have quiet : ∀ (Q : qR → Prop), (fre (F.2 2) h c n = true → qwq d 273 52 [(0, .ref 245), (1, .int (qj h)), (2, .int (qj m)), (3, .int (qj (bm 9 al : Nat))), (4, .int (qj n)), (5, .int (qj 1)), (6, .int (qj h))] [] (qw g J) Q) →
              (fre (F.2 2) h c n = false → qwq d 273 52 [(0, .ref 245), (1, .int (qj h)), (2, .int (qj m)), (3, .int (qj (bm 9 al : Nat))), (4, .int (qj n)), (5, .int (qj 0)), (6, .int (qj h))] [] (qw g J) Q) →
              qwq d 273 52 [(0, .ref 245), (1, .int (qj h)), (2, .int (qj m)), (3, .int (qj (bm 9 al : Nat))), (4, .int (qj n)), (5, .int (qj 1)), (6, .int (qj 0))] [] (qw g J) Q := by
            intro Q q1 q2
            have LQ : ∀ i, i ≤ h → qwq d 273 52 [(0, .ref 245), (1, .int (qj h)), (2, .int (qj m)), (3, .int (qj (bm 9 al : Nat))), (4, .int (qj n)), (5, .int (qb (!(anb i (fun k => F.2 2 h k && c k == n + 1))))), (6, .int (qj i))] [] (qw g J) Q := by
              refine upto _ ?_ (fun i hi ihi => ?_)
              · cases e : fre (F.2 2) h c n with
                | true => have e' : (!(anb h (fun k => F.2 2 h k && c k == n + 1))) = true := e
                          rw [e']; exact q1 e
                | false => have e' : (!(anb h (fun k => F.2 2 h k && c k == n + 1))) = false := e
                           rw [e']; exact q2 e
              · have ei := (h2 i hi).trans (hI i hi)
                have hci := hc i
                rw [anb] at ihi
                cases hb : anb i (fun k => F.2 2 h k && c k == n + 1) with
                | true =>
                  rw [hb, Bool.true_or] at ihi
                  refine b273_52 (by omega) ?_
                  simp (disch := omega) only [qj_le, Bool.not_true, qb_f, qz0, qj_add, qj_s1]
                  exact ⟨fun c => by omega, fun _ => ⟨fun _ => ihi, fun c => absurd trivial c⟩⟩
                | false =>
                  rw [hb, Bool.false_or] at ihi
                  refine b273_52 (by omega) ?_
                  simp (disch := omega) only [qj_le, Bool.not_false, qb_t, qz0, qj_eq, f16, qIx_z, qj_nat, qhas_bm, ei, qj_add, qj_s1, true_and]
                  refine ⟨fun c => by omega, fun _ => ⟨fun c => by omega, fun _ => ⟨fun s => ?_, fun s => ⟨fun e => ?_, fun e => ?_⟩⟩⟩⟩
                  · rw [s, Bool.false_and] at ihi; exact ihi
                  · rw [s, Bool.true_and, show (c i == n + 1) = true from beq_iff_eq.mpr (by omega)] at ihi; exact ihi
                  · rw [s, Bool.true_and, show (c i == n + 1) = false by rw [beq_eq_false_iff_ne]; omega] at ihi; exact ihi
            exact LQ 0 (Nat.zero_le _)
          cases hfr : fre (F.2 2) h c n with
          | false =>
            have e : fn n = none := if_neg (by rw [hfr]; exact Bool.false_ne_true)
            obtain ⟨I', k1, k2⟩ := ihn (st2 e) J h1 h2
            refine ⟨I', k1, fun Q hQ => b273_40 (by omega) ?_⟩
            have q := quiet Q (fun e => by rw [hfr] at e; cases e) (fun _ => b273_52 (by omega) (by
              simp (disch := omega) only [qj_le, qz0, qj_add, qj_s1]
              exact ⟨fun _ => ⟨fun c => absurd trivial c, fun _ => k2 Q hQ⟩, fun c => absurd (Int.le_refl _) c⟩))
            simp (disch := omega) only [qj_le]
            exact ⟨fun c => by omega, fun _ => q⟩
          | true =>
            have e : fn n = dS (F.2 2) al false m r (h + 1) (max u (n + 1)) (cup c h (n + 1)) := if_pos hfr
            have hJ2 : ∀ a, ¬ a = 693 → (qup J 693 h (qj n)) a = I a := fun a ha => by rw [qup_ne ha]; exact h1 a ha
            obtain ⟨J3, w1, w2, w3, w4⟩ := ih (h + 1) (max u (n + 1)) (cup c h (n + 1)) (d - 1) (qup J 693 h (qj n)) (by omega) (by omega) (fun k => by
              by_cases e : k = h
              · rw [e, cup_at]; omega
              · rw [cup_ne e]; exact hc k) (mf MF hJ2) (fun k hk => by
              rw [qup_at]
              by_cases e : k = h
              · rw [if_pos e, e, cup_at]; congr 1; omega
              · rw [if_neg e, cup_ne e, h2 k (by omega)]; exact hI k (by omega))
            rw [← e] at w1 w3 w4
            cases ef : fn n with
            | none =>
              obtain ⟨I', k1, k2⟩ := ihn (st2 ef) J3 (fun a ha => (w2 a ha).trans (hJ2 a ha)) (fun k hk => by rw [w4 ef k (by omega), qup_at, if_neg (by omega)]; exact h2 k hk)
              rw [ef] at w1
              refine ⟨I', k1, fun Q hQ => b273_40 (by omega) ?_⟩
              have q := quiet Q (fun _ => b273_52 (by omega) (by
                simp (disch := omega) only [qj_le, qz0, qj_eq, qIx_z, qj_nat, qj_add, qj_s1, true_and]
                exact ⟨fun _ => ⟨fun _ => ⟨_, _, w1, fun _ => k2 Q hQ, fun c => Bool.noConfusion c⟩, fun c => by omega⟩, fun c => absurd (Int.le_refl _) c⟩)) (fun e => by rw [hfr] at e; cases e)
              simp (disch := omega) only [qj_le]
              exact ⟨fun c => by omega, fun _ => q⟩
            | some c' =>
              have es : dS (F.2 2) al false m (r + 1) h u c = some c' := by rw [ed]; exact st1 c' ef
              rw [ef] at w1
              refine ⟨J3, ⟨fun a ha => (w2 a ha).trans (hJ2 a ha), fun c'' e2 => (by rw [es] at e2; cases e2; exact w3 c' ef), fun e2 => (by rw [es] at e2; cases e2)⟩, fun Q hQ => b273_40 (by omega) ?_⟩
              rw [es] at hQ
              have q := quiet Q (fun _ => b273_52 (by omega) (by
                simp (disch := omega) only [qj_le, qz0, qj_eq, qIx_z, qj_nat, qj_add, qj_s1, true_and]
                exact ⟨fun _ => ⟨fun _ => ⟨_, _, w1, fun c => Bool.noConfusion c, fun _ => hQ⟩, fun c => by omega⟩, fun c => absurd (Int.le_refl _) c⟩)) (fun e => by rw [hfr] at e; cases e)
              simp (disch := omega) only [qj_le]
              exact ⟨fun c => by omega, fun _ => q⟩
      obtain ⟨I', ⟨k0, k1, k1'⟩, k2⟩ := key 0 (Nat.zero_le _) (fun k hk => absurd hk (Nat.not_lt_zero _)) I (fun _ _ => rfl) (fun _ _ => rfl)
      obtain ⟨I2, ⟨l0, l1, l1'⟩, l2⟩ := key 0 (Nat.zero_le _) (fun k hk => absurd hk (Nat.not_lt_zero _)) J0 J0f (fun k hk => by rw [J0i k hk, hI k hk])
      refine ⟨I2, qRun_of fun Q hQ => b273_0 (by omega) ?_, l0, l1, l1'⟩
      simp (disch := omega) only [f1, qj_eq, qIx_z, qj_nat, qhas_bm, ha, true_and]
      exact ⟨fun _ => ⟨fun _ => l2 Q hQ, fun c => Bool.noConfusion c⟩, fun c => by omega⟩
theorem m274 (hd : 61 ≤ d) (MF : qMF F I) (W : qWF F) (R : qMS F I 682 S) (hy : S.1 0 0 ≤ 1000) :
    ∃ I', qRun d 274 [.ref 245] (qw g I) (.inl (some (.int (qj (aNt F S))), qw g I')) ∧ (∀ k, k < F.1 0 0 → I' 693 k = qj ((aNg F S k : Int) - 1)) ∧ ∀ a, ¬ a = 693 → I' a = I a := by
  have h9 := W.1
  have hr : qisR 682 := by unfold qisR; omega
  obtain ⟨n1, n2, n3⟩ := aNt_at (S := S) W
  obtain ⟨c', hc'⟩ := Option.isSome_iff_exists.mp n1
  have k219 := m219' (d := d - 1) (g := g) (by omega) hr MF W R hy
  have edn : ∀ m, dS (F.2 2) (aAlv F S) false m (F.1 0 0) 0 0 (fun _ => 0) = dN F S m := fun m => (dS_eq _ _ _ _ (fun g hg => absurd hg (Nat.not_lt_zero _))).symm
  have key : ∀ r m : Nat, m + r = aNt F S → ∀ J : Nat → Nat → Int32, (∀ a, ¬ a = 693 → J a = I a) →
      ∃ I', ((∀ k, k < F.1 0 0 → I' 693 k = qj ((aNg F S k : Int) - 1)) ∧ ∀ a, ¬ a = 693 → I' a = I a) ∧ ∀ Q : qR → Prop, Q (.inl (some (.int (qj (aNt F S))), qw g I')) → qwq d 274 11 [(0, .ref 245), (1, .int (qj m)), (2, .int (qj (bm 9 (aAlv F S) : Nat)))] [] (qw g J) Q := by
    intro r
    induction r with
    | zero =>
      intro m hm J hJ
      have e : m = aNt F S := by omega
      obtain ⟨J2, a1, a2, a3, -⟩ := m273 (g := g) (al := aAlv F S) W (m := m) (by omega) (F.1 0 0) 0 0 (fun _ => 0) (d - 1) J (Nat.zero_add _) (by omega) (fun _ => Nat.zero_le _) (qMF_cg MF (fun a h1 h2 => hJ a (by omega)) W) (fun k hk => absurd hk (Nat.not_lt_zero _))
      have eq : dN F S m = some c' := by rw [e]; exact hc'
      rw [edn, eq] at a1 a3
      refine ⟨J2, ⟨fun k hk => by rw [show aNg F S = c' by unfold aNg; rw [hc']; rfl]; exact a3 c' rfl k hk, fun a ha => (a2 a ha).trans (hJ a ha)⟩, fun Q hQ => b274_11 (by omega) ⟨_, _, a1, fun _ => ?_, fun c => Bool.noConfusion c⟩⟩
      rw [← e] at hQ; exact hQ
    | succ r ih =>
      intro m hm J hJ
      obtain ⟨J2, a1, a2, a3, -⟩ := m273 (g := g) (al := aAlv F S) W (m := m) (by omega) (F.1 0 0) 0 0 (fun _ => 0) (d - 1) J (Nat.zero_add _) (by omega) (fun _ => Nat.zero_le _) (qMF_cg MF (fun a h1 h2 => hJ a (by omega)) W) (fun k hk => absurd hk (Nat.not_lt_zero _))
      rw [edn, n2 m (by omega)] at a1
      obtain ⟨I', k1, k2⟩ := ih (m + 1) (by omega) J2 (fun a ha => (a2 a ha).trans (hJ a ha))
      refine ⟨I', k1, fun Q hQ => b274_11 (by omega) ⟨_, _, a1, fun c => Bool.noConfusion c, fun _ => ?_⟩⟩
      rw [qj_add]; exact k2 Q hQ
  obtain ⟨I', k1, k2⟩ := key (aNt F S) 0 (Nat.zero_add _) I (fun _ _ => rfl)
  exact ⟨I', qRun_of (fun Q hQ => b274_0 (by omega) ⟨_, _, k219, k2 Q hQ⟩), k1⟩
end NGT
