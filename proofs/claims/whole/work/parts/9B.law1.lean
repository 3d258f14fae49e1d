/-! ===== the text of the law, the class ===== -/
section LAW1a
variable {T : Nat → Nat} {n : Nat}
theorem aLw_ok : ∀ r m o L i q k, aLw T n r m o L i = .inr q → i ≤ n → ((m = 1 ∨ m = 3) → lOk L (k + 1) → lOk q.1 (k + 1)) ∧ (¬ (m = 1 ∨ m = 3) → lOk L k → lOk q.1 (k + 1))
  | 0, m, o, L, i, q, k, h, _ => inl_inr h
  | r + 1, m, o, L, i, q, k, h, hi => by
    have hb := tBl_b (T := T) hi
    rw [aLw] at h
    split at h
    · rename_i hm
      cases h1 : aLw T n r 2 o L i with
      | inl e => simp only [h1] at h; exact inl_inr h
      | inr q1 =>
        simp only [h1] at h
        have b1 := (aLw_b r 2 o L i q1 h1 hi).1
        exact ⟨fun x => by omega, fun _ w => (aLw_ok r 1 o q1.1 q1.2 q k h b1).1 (Or.inl rfl) ((aLw_ok r 2 o L i q1 k h1 hi).2 (by omega) w)⟩
    · split at h
      · rename_i hm
        split at h
        · cases h1 : aLw T n r 2 o L (tBl T n i + 1) with
          | inl e => simp only [h1] at h; exact inl_inr h
          | inr q1 =>
            simp only [h1] at h
            have b1 := (aLw_b r 2 o L (tBl T n i + 1) q1 h1 (by omega)).1
            refine ⟨fun _ w => (aLw_ok r 1 o _ q1.2 q k h b1).1 (Or.inl rfl) (lOk_o ((aLw_ok r 2 o L (tBl T n i + 1) q1 (k + 1) h1 (by omega)).2 (by omega) w) ?_ ?_), fun x => by omega⟩
            · split <;> omega
            · split <;> omega
        · injection h with h
          subst h
          exact ⟨fun _ w => w, fun x => by omega⟩
      · split at h
        · rename_i hm
          cases h1 : aLw T n r 4 o L i with
          | inl e => simp only [h1] at h; exact inl_inr h
          | inr q1 =>
            simp only [h1] at h
            have b1 := (aLw_b r 4 o L i q1 h1 hi).1
            exact ⟨fun x => by omega, fun _ w => (aLw_ok r 3 o q1.1 q1.2 q k h b1).1 (Or.inr rfl) ((aLw_ok r 4 o L i q1 k h1 hi).2 (by omega) w)⟩
        · split at h
          · rename_i hm
            split at h
            · cases h1 : aLw T n r 4 o L (tBl T n i + 1) with
              | inl e => simp only [h1] at h; exact inl_inr h
              | inr q1 =>
                simp only [h1] at h
                have b1 := (aLw_b r 4 o L (tBl T n i + 1) q1 h1 (by omega)).1
                refine ⟨fun _ w => (aLw_ok r 3 o _ q1.2 q k h b1).1 (Or.inr rfl) (lOk_o ((aLw_ok r 4 o L (tBl T n i + 1) q1 (k + 1) h1 (by omega)).2 (by omega) w) ?_ ?_), fun x => by omega⟩
                · split
                  · omega
                  · split <;> omega
                · split
                  · omega
                  · split <;> omega
            · injection h with h
              subst h
              exact ⟨fun _ w => w, fun x => by omega⟩
          · rename_i m0 m1 m2 m3
            refine ⟨fun x => by omega, fun _ w0 => ?_⟩
            split at h
            · cases h1 : aNum T n i 0 999 with
              | inl e => simp only [h1] at h; exact inl_inr h
              | inr q1 =>
                simp only [h1] at h
                have b1 := aNum_b h1 hi
                injection h with h
                subst h
                exact lOk_v w0 (by omega)
            · split at h
              · split at h
                · exact inl_inr h
                · cases h1 : aLw T n r 0 (o + 1) L (tBl T n i + 1) with
                  | inl e => simp only [h1] at h; exact inl_inr h
                  | inr q1 =>
                    simp only [h1] at h
                    cases h2 : aSgn T n q1.2 41 with
                    | inl e => simp only [h2] at h; exact inl_inr h
                    | inr j =>
                      simp only [h2] at h
                      injection h with h
                      subst h
                      exact (aLw_ok r 0 (o + 1) L (tBl T n i + 1) q1 k h1 (by omega)).2 (by omega) w0
              · cases h1 : aWrd T n i with
                | inl e => simp only [h1] at h; exact inl_inr h
                | inr w =>
                  simp only [h1] at h
                  have b1 := aWrd_s h1 hi
                  cases h2 : aLwd T w.1 w.2 with
                  | none => simp only [h2] at h; exact inl_inr h
                  | some c =>
                    have bc := aLwd_b h2
                    simp only [h2] at h
                    split at h
                    · injection h with h
                      subst h
                      exact lOk_v w0 (by omega)
                    · split at h
                      · exact inl_inr h
                      · cases h3 : aSgn T n w.2 91 with
                        | inl e => simp only [h3] at h; exact inl_inr h
                        | inr j1 =>
                          simp only [h3] at h
                          have b3 := aSgn_s h3 b1.2.2.2.2
                          cases h4 : aLw T n r 0 (o + 1) L j1 with
                          | inl e => simp only [h4] at h; exact inl_inr h
                          | inr q1 =>
                            simp only [h4] at h
                            have b4 := aLw_b r 0 (o + 1) L j1 q1 h4 b3.2
                            cases h5 : aSgn T n q1.2 44 with
                            | inl e => simp only [h5] at h; exact inl_inr h
                            | inr j2 =>
                              simp only [h5] at h
                              have b5 := aSgn_s h5 b4.1
                              cases h6 : aLw T n r 0 (o + 1) q1.1 j2 with
                              | inl e => simp only [h6] at h; exact inl_inr h
                              | inr q2 =>
                                simp only [h6] at h
                                cases h7 : aSgn T n q2.2 93 with
                                | inl e => simp only [h7] at h; exact inl_inr h
                                | inr j3 =>
                                  simp only [h7] at h
                                  injection h with h
                                  subst h
                                  exact lOk_o ((aLw_ok r 0 (o + 1) q1.1 j2 q2 (k + 1) h6 b5.2).2 (by omega) ((aLw_ok r 0 (o + 1) L j1 q1 k h4 b3.2).2 (by omega) w0)) (by omega) (by omega)
theorem aLawT_ok {L : qLw} (h : aLawT T n = .inr L) (hn : n ≤ 150) : qWL L := by
  unfold aLawT at h
  cases h1 : aLw T n (3 * n + 3) 0 0 (0, fun _ => 0) 0 with
  | inl e => simp only [h1] at h; exact inl_inr h
  | inr q =>
    simp only [h1] at h
    have b := aLw_b _ _ _ _ _ q h1 (Nat.zero_le _)
    have w := (aLw_ok _ _ _ _ _ q 0 h1 (Nat.zero_le _)).2 (by omega) ⟨rfl, fun i hi => absurd hi (Nat.not_lt_zero i)⟩
    split at h
    · injection h with h
      subst h
      have b2 := b.2.1
      have e : ((0 : Nat), (fun _ => 0 : Nat → Nat)).1 = 0 := rfl
      exact ⟨by have := b.1; omega, w.1, w.2⟩
    · exact inl_inr h
end LAW1a
def lF (l : Nat) (I J : Nat → Nat → Int32) : Prop := (∀ a, ¬ a = 65 → ¬ a = l → ¬ a = l + 1 → J a = I a) ∧ J 65 1 = I 65 1
theorem lF_t {l : Nat} {I J : Nat → Nat → Int32} (h : tF I J) : lF l I J := ⟨fun a p _ _ => h.1 a p, h.2⟩
theorem lF_tr {l : Nat} {I J K : Nat → Nat → Int32} (h : lF l I J) (h2 : lF l J K) : lF l I K := ⟨fun a p q r => (h2.1 a p q r).trans (h.1 a p q r), h2.2.trans h.2⟩
theorem lF_con {l : Nat} {I J : Nat → Nat → Int32} (hl : qisL l) (h : lF l I J) (C : qCon I) : qCon J := qCon_cg C (fun a p => h.1 a (by omega) (by unfold qisL at hl; omega) (by unfold qisL at hl; omega))
theorem qRL_t {l : Nat} {L : qLw} {I J : Nat → Nat → Int32} (hl : qisL l) (R : qRL L I l) (h : tF I J) : qRL L J l := qRL_cg R (fun a p q => h.1 a (by unfold qisL at hl; omega))
/-- sum, product, unit -/
def lR (d k o : Nat) (g : qG1) (I : Nat → Nat → Int32) (T : Nat → Nat) (n l : Nat) : qLR → Prop
  | .inr q => ∃ J, qRun d k [.ref l, .ref 65, .int (qj (o : Int))] (qw g I) (.inl (some (.int (qb true)), qw g J)) ∧ tX T n J q.2 ∧ qRL q.1 J l ∧ lF l I J
  | .inl e => ∃ J, qRun d k [.ref l, .ref 65, .int (qj (o : Int))] (qw g I) (.inl (some (.int (qb false)), qw g J)) ∧ tE J e ∧ lF l I J
/-- their tails -/
def lT (d k o c : Nat) (g : qG1) (I : Nat → Nat → Int32) (T : Nat → Nat) (n l : Nat) : qLR → Prop
  | .inr q => ∃ J, (tX T n J q.2 ∧ qRL q.1 J l ∧ lF l I J) ∧ ∀ Q : qR → Prop, Q (.inl (some (.int (qb true)), qw g J)) → qwq d k 13 [(0, .ref l), (1, .ref 65), (2, .int (qj (o : Int))), (3, .int (qj (c : Int)))] [] (qw g I) Q
  | .inl e => ∃ J, (tE J e ∧ lF l I J) ∧ ∀ Q : qR → Prop, Q (.inl (some (.int (qb false)), qw g J)) → qwq d k 13 [(0, .ref l), (1, .ref 65), (2, .int (qj (o : Int))), (3, .int (qj (c : Int)))] [] (qw g I) Q
section LAW1
variable {d : Nat} {g : qG1} {I : Nat → Nat → Int32} {T : Nat → Nat} {n i l : Nat} {L : qLw}
/-- a word of the law more -/
theorem c38w (hd : 1 ≤ d) (hl : qisL l) (X : tX T n I i) (R : qRL L I l) (h : L.1 < 150) (w : Nat) : ∃ J, qRun d 38 [.ref l, .int (qj (w : Int))] (qw g I) (.inl (some (.int (qb true)), qw g J)) ∧ tX T n J i ∧ qRL (ladd L w) J l ∧ lF l I J := by
  have hlb : l = 125 ∨ l = 128 := hl
  refine ⟨_, c38 hd hl h R.1 (qj (w : Int)), tX_w (tX_w X (by omega) (by omega)) (by omega) (by omega), ⟨?_, fun j hj => ?_⟩, ⟨fun a p q r => by rw [qup_ne q, qup_ne r], by rw [qup_ne (by omega), qup_ne (by omega)]⟩⟩
  · rw [qup_at, if_pos rfl]; rfl
  · have hj : j < L.1 + 1 := hj
    rw [qup_ne (by omega), qup_at]
    show _ = qj ((iup L.2 L.1 w j : Nat) : Int)
    unfold iup
    by_cases c : j = L.1
    · rw [if_pos c, if_pos c]
    · rw [if_neg c, if_neg c]; exact R.2 j (by omega)
theorem c43 (hd : 6 ≤ d) (C : qCon I) (X : tX T n I i) {b : Nat} (hb : b ≤ i) (h6 : I 65 6 = qj (b : Int)) : qRun d 43 [.ref 65] (qw g I) (.inl (some (.int (qj (oK (aLwd T b i)))), qw g I)) := by
  have k : ∀ n : Nat, n < 20 → qRun (d - 1) 81 [.ref 65, .ref (10 + n)] (qw g I) (.inl (some (.int (qb (aIs T b i n))), qw g I)) := fun n hn => c81 (by omega) C X hb h6 hn
  have k9 := k 9 (by decide)
  have k10 := k 10 (by decide)
  have k11 := k 11 (by decide)
  have k12 := k 12 (by decide)
  have k13 := k 13 (by decide)
  have k14 := k 14 (by decide)
  have k15 := k 15 (by decide)
  have k16 := k 16 (by decide)
  have k17 := k 17 (by decide)
  have k18 := k 18 (by decide)
  have k19 := k 19 (by decide)
  refine qRun_of fun Q hQ => b43_0 (by omega) ⟨_, _, k9, ?_⟩
  unfold aLwd at hQ
  cases a9 : aIs T b i 9 with
  | true => rw [a9] at hQ; exact ⟨fun q => Bool.noConfusion q, fun _ => hQ⟩
  | false =>
    rw [a9, if_neg Bool.false_ne_true] at hQ
    refine ⟨fun _ => ⟨_, _, k10, ?_⟩, fun q => Bool.noConfusion q⟩
    cases a10 : aIs T b i 10 with
    | true => rw [a10] at hQ; exact ⟨fun q => Bool.noConfusion q, fun _ => hQ⟩
    | false =>
      rw [a10, if_neg Bool.false_ne_true] at hQ
      refine ⟨fun _ => ⟨_, _, k11, ?_⟩, fun q => Bool.noConfusion q⟩
      cases a11 : aIs T b i 11 with
      | true => rw [a11] at hQ; exact ⟨fun q => Bool.noConfusion q, fun _ => hQ⟩
      | false =>
        rw [a11, if_neg Bool.false_ne_true] at hQ
        refine ⟨fun _ => ⟨_, _, k12, ?_⟩, fun q => Bool.noConfusion q⟩
        cases a12 : aIs T b i 12 with
        | true => rw [a12] at hQ; exact ⟨fun q => Bool.noConfusion q, fun _ => hQ⟩
        | false =>
          rw [a12, if_neg Bool.false_ne_true] at hQ
          refine ⟨fun _ => ⟨_, _, k13, ?_⟩, fun q => Bool.noConfusion q⟩
          cases a13 : aIs T b i 13 with
          | true => rw [a13] at hQ; exact ⟨fun q => Bool.noConfusion q, fun _ => hQ⟩
          | false =>
            rw [a13, if_neg Bool.false_ne_true] at hQ
            refine ⟨fun _ => ⟨_, _, k14, ?_⟩, fun q => Bool.noConfusion q⟩
            cases a14 : aIs T b i 14 with
            | true => rw [a14] at hQ; exact ⟨fun q => Bool.noConfusion q, fun _ => hQ⟩
            | false =>
              rw [a14, if_neg Bool.false_ne_true] at hQ
              refine ⟨fun _ => ⟨_, _, k15, ?_⟩, fun q => Bool.noConfusion q⟩
              cases a15 : aIs T b i 15 with
              | true => rw [a15] at hQ; exact ⟨fun q => Bool.noConfusion q, fun _ => hQ⟩
              | false =>
                rw [a15, if_neg Bool.false_ne_true] at hQ
                refine ⟨fun _ => ⟨_, _, k16, ?_⟩, fun q => Bool.noConfusion q⟩
                cases a16 : aIs T b i 16 with
                | true => rw [a16] at hQ; exact ⟨fun q => Bool.noConfusion q, fun _ => hQ⟩
                | false =>
                  rw [a16, if_neg Bool.false_ne_true] at hQ
                  refine ⟨fun _ => ⟨_, _, k17, ?_⟩, fun q => Bool.noConfusion q⟩
                  cases a17 : aIs T b i 17 with
                  | true => rw [a17] at hQ; exact ⟨fun q => Bool.noConfusion q, fun _ => hQ⟩
                  | false =>
                    rw [a17, if_neg Bool.false_ne_true] at hQ
                    refine ⟨fun _ => ⟨_, _, k18, ?_⟩, fun q => Bool.noConfusion q⟩
                    cases a18 : aIs T b i 18 with
                    | true => rw [a18] at hQ; exact ⟨fun q => Bool.noConfusion q, fun _ => hQ⟩
                    | false =>
                      rw [a18, if_neg Bool.false_ne_true] at hQ
                      refine ⟨fun _ => ⟨_, _, k19, ?_⟩, fun q => Bool.noConfusion q⟩
                      cases a19 : aIs T b i 19 with
                      | true => rw [a19] at hQ; exact ⟨fun q => Bool.noConfusion q, fun _ => hQ⟩
                      | false =>
                        rw [a19, if_neg Bool.false_ne_true] at hQ
                        exact ⟨fun _ => hQ, fun q => Bool.noConfusion q⟩
end LAW1
