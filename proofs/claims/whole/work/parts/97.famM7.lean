/-! ===== the text of the family, the reference, 7: it stands ===== -/
def fS (a : Nat) : Prop := a = 249 ∨ a = 251 ∨ a = 253 ∨ a = 255 ∨ (266 < a ∧ a ≤ 275) ∨ (285 < a ∧ a ≤ 293) ∨ (301 < a ∧ a ≤ 307) ∨ (318 < a ∧ a ≤ 327) ∨ a = 684
def tlC (F : qFam) (K : Nat → Nat → Int32) (p h : Nat) : Prop := K 684 (25 + 8 * h + p) = qj (((aTold F).1 (5 + h) p : Int) - 1)
section FAMM7
variable {d : Nat} {g : qG1} {I : Nat → Nat → Int32} {F : qFam}
theorem m202a (hd : 3 ≤ d) (K : Nat → Nat → Int32) : ∃ J, ((∀ j, j < 107 → J 684 j = if 17 ≤ j ∧ j ≤ 105 then qj (-1) else qj 0) ∧ ∀ a, ¬ a = 684 → J a = K a) ∧ ∀ Q : qR → Prop, qwq d 202 153 [(0, .ref 245), (1, .int (qj ((0 : Nat) : Int)))] [] (qw g J) Q → qwq d 202 117 [(0, .ref 245), (1, .int (qj ((0 : Nat) : Int)))] [] (qw g K) Q := by
  have key : ∀ k : Nat, k ≤ 107 → ∀ K1 : Nat → Nat → Int32, (∀ j, j < k → K1 684 j = if 17 ≤ j ∧ j ≤ 105 then qj (-1) else qj 0) → (∀ a, ¬ a = 684 → K1 a = K a) →
      ∃ J, ((∀ j, j < 107 → J 684 j = if 17 ≤ j ∧ j ≤ 105 then qj (-1) else qj 0) ∧ ∀ a, ¬ a = 684 → J a = K a) ∧ ∀ Q : qR → Prop, qwq d 202 153 [(0, .ref 245), (1, .int (qj ((0 : Nat) : Int)))] [] (qw g J) Q → qwq d 202 117 [(0, .ref 245), (1, .int (qj (k : Int)))] [] (qw g K1) Q := by
    refine upto _ (fun K1 h1 h2 => ⟨K1, ⟨h1, h2⟩, fun Q hQ => b202_117 (by omega) ?_⟩) (fun k hk ih K1 h1 h2 => ?_)
    · simp (disch := omega) only [qz0, qj_lt, qj_le, qj_eq, qtk, qfk, qbtt, qbft, qbtf, qbff, qIx_z, qj_nat, true_and, and_true, true_implies, false_implies, not_true_eq_false, not_false_eq_true, Bool.true_eq_false, Bool.false_eq_true, qj_sub, qinB_t, qinB_f, q2_e, qj_add, qj_s1, qj_c1, qj_c2, qj_c9, qj_c17, qj_c97]
      exact hQ
    · obtain ⟨J, q1, q2⟩ := ih (qup K1 684 k (if 17 ≤ k ∧ k ≤ 105 then qj (-1) else qj 0)) (fun j hj => by
        rw [qup_at]
        by_cases e : j = k
        · rw [if_pos e, e]
        · rw [if_neg e]; exact h1 j (by omega)) (fun a ha => by rw [qup_ne ha]; exact h2 a ha)
      refine ⟨J, q1, fun Q hQ => b202_117 (by omega) ?_⟩
      have q2 := q2 Q hQ
      by_cases c : 17 ≤ k ∧ k ≤ 105
      · rw [if_pos c] at q2
        simp (disch := omega) only [qz0, qj_lt, qj_le, qj_eq, qtk, qfk, qbtt, qbft, qbtf, qbff, qIx_z, qj_nat, true_and, and_true, true_implies, false_implies, not_true_eq_false, not_false_eq_true, Bool.true_eq_false, Bool.false_eq_true, qj_sub, qinB_t, qinB_f, q2_e, qj_add, qj_s1, qj_c1, qj_c2, qj_c9, qj_c17, qj_c97]
        exact q2
      · rw [if_neg c] at q2
        simp (disch := omega) only [qz0, qj_lt, qj_le, qj_eq, qtk, qfk, qbtt, qbft, qbtf, qbff, qIx_z, qj_nat, true_and, and_true, true_implies, false_implies, not_true_eq_false, not_false_eq_true, Bool.true_eq_false, Bool.false_eq_true, qj_sub, qinB_t, qinB_f, q2_e, qj_add, qj_s1, qj_c1, qj_c2, qj_c9, qj_c17, qj_c97]
        exact q2
  exact key 0 (Nat.zero_le _) K (fun j hj => absurd hj (Nat.not_lt_zero j)) (fun _ _ => rfl)
theorem m202b (hd : 3 ≤ d) (W : qWF F) (K : Nat → Nat → Int32) (e0 : ∀ j, j < 107 → K 684 j = if 17 ≤ j ∧ j ≤ 105 then qj (-1) else qj 0) (e249 : K 249 1 = qj (F.1 0 1)) (e250 : ∀ p, p < 8 → K 250 p = qj (bm 9 (fun h => F.2 0 h p) : Nat)) (e285 : ∀ p, p < F.1 0 1 → K (285 + 1 + p) 2 = qj (F.1 6 p)) :
    ∃ J, ((∀ p, p < 8 → J 251 p = K 250 p ∧ J 253 p = K 252 p) ∧ qMS F J 684 (aTold F) ∧ ∀ a, ¬ a = 251 → ¬ a = 253 → ¬ a = 684 → J a = K a) ∧ ∀ Q : qR → Prop, qwq d 202 153 [(0, .ref 245), (1, .int (qj ((8 : Nat) : Int)))] [] (qw g J) Q → qwq d 202 153 [(0, .ref 245), (1, .int (qj ((0 : Nat) : Int)))] [] (qw g K) Q := by
  have h8 := W.2.1
  have key : ∀ p : Nat, p ≤ 8 → ∀ K1 : Nat → Nat → Int32, (∀ q, q < p → K1 251 q = K 250 q ∧ K1 253 q = K 252 q) → (∀ q, q < p → K1 684 (1 + q) = qj (bm 9 (fun h => F.2 0 h q) : Nat) ∧ (q < F.1 0 1 → K1 684 (9 + q) = qj (F.1 6 q)) ∧ ∀ h, h < 9 → tlC F K1 q h) →
      (K1 684 0 = qj 0 ∧ (∀ q, q < 8 → K1 684 (17 + q) = qj (-1)) ∧ (∀ h, h < 9 → K1 684 (97 + h) = qj (-1)) ∧ K1 684 106 = qj 0) → (∀ a, ¬ a = 251 → ¬ a = 253 → ¬ a = 684 → K1 a = K a) →
      ∃ J, ((∀ p, p < 8 → J 251 p = K 250 p ∧ J 253 p = K 252 p) ∧ qMS F J 684 (aTold F) ∧ ∀ a, ¬ a = 251 → ¬ a = 253 → ¬ a = 684 → J a = K a) ∧ ∀ Q : qR → Prop, qwq d 202 153 [(0, .ref 245), (1, .int (qj ((8 : Nat) : Int)))] [] (qw g J) Q → qwq d 202 153 [(0, .ref 245), (1, .int (qj (p : Int)))] [] (qw g K1) Q := by
    refine upto _ (fun K1 h1 h2 h3 h4 => ⟨K1, ⟨h1, ?_, h4⟩, fun Q hQ => hQ⟩) (fun p hp ih K1 h1 h2 h3 h4 => ?_)
    · obtain ⟨a1, a2, a3, a4⟩ := h3
      refine ⟨?_, fun q hq => (h2 q hq).1, fun q hq => (h2 q (by omega)).2.1 hq, fun q hq => a2 q hq, fun h q hh hq => (h2 q hq).2.2 h hh, fun h hh => a3 h hh, a4⟩
      rw [a1, show bm 9 (aTold F).2.2 = 0 from bm_zero.mpr (fun k hk => rfl)]; rfl
    · have ne : ∀ (K : Nat → Nat → Int32) (j : Nat) (v : Int32), qup K 684 j v 251 = K 251 ∧ qup K 684 j v 253 = K 253 := fun K j v => ⟨qup_ne (by omega), qup_ne (by omega)⟩
      -- what one puppet's places must be, and what stays
      have L2 : ∀ h : Nat, h ≤ 9 → ∀ K2 : Nat → Nat → Int32, (∀ q, q < p + 1 → K2 251 q = K 250 q ∧ K2 253 q = K 252 q) → (∀ q, q < p + 1 → K2 684 (1 + q) = qj (bm 9 (fun h => F.2 0 h q) : Nat) ∧ (q < F.1 0 1 → K2 684 (9 + q) = qj (F.1 6 q))) → (∀ q, q < p → ∀ h, h < 9 → tlC F K2 q h) → (∀ h', h' < h → tlC F K2 p h') →
          (K2 684 0 = qj 0 ∧ (∀ q, q < 8 → K2 684 (17 + q) = qj (-1)) ∧ (∀ h, h < 9 → K2 684 (97 + h) = qj (-1)) ∧ K2 684 106 = qj 0) → (∀ a, ¬ a = 251 → ¬ a = 253 → ¬ a = 684 → K2 a = K a) →
          ∃ J, ((∀ p, p < 8 → J 251 p = K 250 p ∧ J 253 p = K 252 p) ∧ qMS F J 684 (aTold F) ∧ ∀ a, ¬ a = 251 → ¬ a = 253 → ¬ a = 684 → J a = K a) ∧ ∀ Q : qR → Prop, qwq d 202 153 [(0, .ref 245), (1, .int (qj ((8 : Nat) : Int)))] [] (qw g J) Q → qwq d 202 230 [(0, .ref 245), (1, .int (qj (p : Int))), (2, .int (qj (h : Int)))] [] (qw g K2) Q := by
        refine upto _ (fun K2 x1 x2 x3 x4 x5 x6 => ?_) (fun h hh ih2 K2 x1 x2 x3 x4 x5 x6 => ?_)
        · obtain ⟨J, q1, q2⟩ := ih K2 x1 (fun q hq => ⟨(x2 q hq).1, (x2 q hq).2, fun h hh => by
            by_cases e : q = p
            · rw [e]; exact x4 h hh
            · exact x3 q (by omega) h hh⟩) x5 x6
          refine ⟨J, q1, fun Q hQ => b202_230 (by omega) ?_⟩
          simp (disch := omega) only [qz0, qj_lt, qj_le, qj_eq, qtk, qfk, qbtt, qbft, qbtf, qbff, qIx_z, qj_nat, true_and, and_true, true_implies, false_implies, not_true_eq_false, not_false_eq_true, Bool.true_eq_false, Bool.false_eq_true, qj_sub, qinB_t, qinB_f, q2_e, qj_add, qj_s1, qj_c1, qj_c2, qj_c9, qj_c17, qj_c97]
          exact q2 Q hQ
        · have hv : (((aTold F).1 (5 + h) p : Int) - 1) = if F.2 0 h p = true then 0 else -1 := by
            show (((if 5 + h = 1 then F.1 1 p else if 5 + h = 3 then F.1 6 p else if 5 ≤ 5 + h then (if F.2 0 (5 + h - 5) p = true then 1 else 0) else 0 : Nat) : Int) - 1) = _
            rw [if_neg (by omega), if_neg (by omega), if_pos (by omega), show 5 + h - 5 = h by omega]
            split <;> rfl
          have nb : ∀ q h', tlC F K2 q h' → q ≤ p → h' < 9 → (q = p → ¬ h' = h) → tlC F (qup K2 684 (25 + 8 * h + p) (qj (((aTold F).1 (5 + h) p : Int) - 1))) q h' := fun q h' t hq hh' hn => by
            unfold tlC at t ⊢
            rw [qup_at, if_neg (by omega)]; exact t
          obtain ⟨J, q1, q2⟩ := ih2 (qup K2 684 (25 + 8 * h + p) (qj (((aTold F).1 (5 + h) p : Int) - 1))) (fun q hq => by rw [(ne _ _ _).1, (ne _ _ _).2]; exact x1 q hq) (fun q hq => by
            rw [qup_at, if_neg (by omega), qup_at, if_neg (by omega)]; exact x2 q hq) (fun q hq h' hh' => nb q h' (x3 q hq h' hh') (by omega) hh' (by omega)) (fun h' hh' => by
            by_cases e : h' = h
            · unfold tlC; rw [e, qup_at, if_pos rfl]
            · exact nb p h' (x4 h' (by omega)) (Nat.le_refl _) (by omega) (fun _ => e)) ⟨by rw [qup_at, if_neg (by omega)]; exact x5.1, fun q hq => by rw [qup_at, if_neg (by omega)]; exact x5.2.1 q hq, fun q hq => by rw [qup_at, if_neg (by omega)]; exact x5.2.2.1 q hq, by rw [qup_at, if_neg (by omega)]; exact x5.2.2.2⟩ (fun a p q r => by rw [qup_ne r]; exact x6 a p q r)
          refine ⟨J, q1, fun Q hQ => b202_230 (by omega) ?_⟩
          have q2 := q2 Q hQ
          rw [hv] at q2
          have e251 : K2 251 p = qj (bm 9 (fun h => F.2 0 h p) : Nat) := by rw [(x1 p (by omega)).1]; exact e250 p (by omega)
          simp (disch := omega) only [qz0, qj_lt, qj_le, qj_eq, qtk, qfk, qbtt, qbft, qbtf, qbff, qIx_z, qj_nat, true_and, and_true, true_implies, false_implies, not_true_eq_false, not_false_eq_true, Bool.true_eq_false, Bool.false_eq_true, qj_sub, qinB_t, qinB_f, q2_e, qj_add, qj_s1, qj_c1, qj_c2, qj_c9, qj_c17, qj_c97, qj_mul, qj_c25, e251, qhas_bm]
          cases hq : F.2 0 h p with
          | true => rw [hq, if_pos rfl] at q2; exact ⟨fun q => Bool.noConfusion q, fun _ => q2⟩
          | false => rw [hq, if_neg Bool.false_ne_true] at q2; exact ⟨fun _ => q2, fun q => Bool.noConfusion q⟩
      have hs : ∀ (t2 : Int32), (p < F.1 0 1 → t2 = qj (F.1 6 p)) → ∃ J, ((∀ p, p < 8 → J 251 p = K 250 p ∧ J 253 p = K 252 p) ∧ qMS F J 684 (aTold F) ∧ ∀ a, ¬ a = 251 → ¬ a = 253 → ¬ a = 684 → J a = K a) ∧ ∀ Q : qR → Prop, qwq d 202 153 [(0, .ref 245), (1, .int (qj ((8 : Nat) : Int)))] [] (qw g J) Q → qwq d 202 230 [(0, .ref 245), (1, .int (qj (p : Int))), (2, .int (qj ((0 : Nat) : Int)))] [] (qw g (qup (qup (qup (qup K1 251 p (K 250 p)) 253 p (K 252 p)) 684 (1 + p) (K 250 p)) 684 (9 + p) t2)) Q := by
        intro t2 ht
        refine L2 0 (Nat.zero_le _) _ (fun q hq => ?_) (fun q hq => ?_) (fun q hq h hh => ?_) (fun h' hh' => absurd hh' (Nat.not_lt_zero h')) ⟨?_, fun q hq => ?_, fun q hq => ?_, ?_⟩ (fun a p q r => ?_)
        · rw [(ne _ _ _).1, (ne _ _ _).2, (ne _ _ _).1, (ne _ _ _).2, qup_ne (by omega), qup_at, qup_at]
          by_cases e : q = p
          · rw [if_pos e, if_pos e, e]; exact ⟨rfl, rfl⟩
          · rw [if_neg e, if_neg e, qup_ne (by omega)]; exact h1 q (by omega)
        · refine ⟨?_, fun hq2 => ?_⟩
          · rw [qup_at, if_neg (by omega), qup_at]
            by_cases e : q = p
            · rw [if_pos (by omega), e]; exact e250 p (by omega)
            · rw [if_neg (by omega), qup_ne (by omega), qup_ne (by omega)]; exact (h2 q (by omega)).1
          · rw [qup_at]
            by_cases e : q = p
            · rw [if_pos (by omega), e]; rw [e] at hq2; exact ht hq2
            · rw [if_neg (by omega), qup_at, if_neg (by omega), qup_ne (by omega), qup_ne (by omega)]; exact (h2 q (by omega)).2.1 hq2
        · unfold tlC
          rw [qup_at, if_neg (by omega), qup_at, if_neg (by omega), qup_ne (by omega), qup_ne (by omega)]; exact (h2 q hq).2.2 h hh
        · rw [qup_at, if_neg (by omega), qup_at, if_neg (by omega), qup_ne (by omega), qup_ne (by omega)]; exact h3.1
        · rw [qup_at, if_neg (by omega), qup_at, if_neg (by omega), qup_ne (by omega), qup_ne (by omega)]; exact h3.2.1 q hq
        · rw [qup_at, if_neg (by omega), qup_at, if_neg (by omega), qup_ne (by omega), qup_ne (by omega)]; exact h3.2.2.1 q hq
        · rw [qup_at, if_neg (by omega), qup_at, if_neg (by omega), qup_ne (by omega), qup_ne (by omega)]; exact h3.2.2.2
        · rw [qup_ne r, qup_ne r, qup_ne q, qup_ne p]; exact h4 a p q r
      have k250 : K1 250 = K 250 := h4 250 (by omega) (by omega) (by omega)
      have k252 : K1 252 = K 252 := h4 252 (by omega) (by omega) (by omega)
      have k251 : qup (qup K1 251 p (K 250 p)) 253 p (K 252 p) 251 p = K 250 p := by rw [qup_ne (by omega), qup_at, if_pos rfl]
      have k249 : qup (qup (qup K1 251 p (K 250 p)) 253 p (K 252 p)) 684 (1 + p) (K 250 p) 249 1 = qj (F.1 0 1) := by rw [qup_ne (by omega), qup_ne (by omega), qup_ne (by omega), h4 249 (by omega) (by omega) (by omega)]; exact e249
      have start : ∀ Q : qR → Prop, qwq d 202 197 [(0, .ref 245), (1, .int (qj (p : Int)))] [] (qw g (qup (qup (qup K1 251 p (K 250 p)) 253 p (K 252 p)) 684 (1 + p) (K 250 p))) Q → qwq d 202 153 [(0, .ref 245), (1, .int (qj (p : Int)))] [] (qw g K1) Q := fun Q h => b202_153 (by omega) (by
        simp (disch := omega) only [qz0, qj_lt, qj_le, qj_eq, qtk, qfk, qbtt, qbft, qbtf, qbff, qIx_z, qj_nat, true_and, and_true, true_implies, false_implies, not_true_eq_false, not_false_eq_true, Bool.true_eq_false, Bool.false_eq_true, qj_sub, qinB_t, qinB_f, q2_e, qj_add, qj_s1, qj_c1, qj_c2, qj_c9, qj_c17, qj_c97]
        rw [k250, k252]
        refine b202_183 (by omega) ?_
        simp (disch := omega) only [qz0, qj_lt, qj_le, qj_eq, qtk, qfk, qbtt, qbft, qbtf, qbff, qIx_z, qj_nat, true_and, and_true, true_implies, false_implies, not_true_eq_false, not_false_eq_true, Bool.true_eq_false, Bool.false_eq_true, qj_sub, qinB_t, qinB_f, q2_e, qj_add, qj_s1, qj_c1, qj_c2, qj_c9, qj_c17, qj_c97]
        rw [k251]
        exact h)
      by_cases c : F.1 0 1 ≤ p
      · obtain ⟨J, q1, q2⟩ := hs (qj 0) (fun q => by omega)
        refine ⟨J, q1, fun Q hQ => start Q (b202_197 (by omega) ?_)⟩
        rw [k249]
        simp (disch := omega) only [qz0, qj_lt, qj_le, qj_eq, qtk, qfk, qbtt, qbft, qbtf, qbff, qIx_z, qj_nat, true_and, and_true, true_implies, false_implies, not_true_eq_false, not_false_eq_true, Bool.true_eq_false, Bool.false_eq_true, qj_sub, qinB_t, qinB_f, q2_e, qj_add, qj_s1, qj_c1, qj_c2, qj_c9, qj_c17, qj_c97]
        refine b202_227 (by omega) ?_
        simp (disch := omega) only [qz0, qj_lt, qj_le, qj_eq, qtk, qfk, qbtt, qbft, qbtf, qbff, qIx_z, qj_nat, true_and, and_true, true_implies, false_implies, not_true_eq_false, not_false_eq_true, Bool.true_eq_false, Bool.false_eq_true, qj_sub, qinB_t, qinB_f, q2_e, qj_add, qj_s1, qj_c1, qj_c2, qj_c9, qj_c17, qj_c97]
        exact q2 Q hQ
      · obtain ⟨J, q1, q2⟩ := hs (qj (F.1 6 p)) (fun _ => rfl)
        refine ⟨J, q1, fun Q hQ => start Q (b202_197 (by omega) ?_)⟩
        have k285 : qup (qup (qup K1 251 p (K 250 p)) 253 p (K 252 p)) 684 (1 + p) (K 250 p) (285 + 1 + p) 2 = qj (F.1 6 p) := by rw [qup_ne (by omega), qup_ne (by omega), qup_ne (by omega), h4 _ (by omega) (by omega) (by omega)]; exact e285 p (by omega)
        rw [k249]
        simp (disch := omega) only [qz0, qj_lt, qj_le, qj_eq, qtk, qfk, qbtt, qbft, qbtf, qbff, qIx_z, qj_nat, true_and, and_true, true_implies, false_implies, not_true_eq_false, not_false_eq_true, Bool.true_eq_false, Bool.false_eq_true, qj_sub, qinB_t, qinB_f, q2_e, qj_add, qj_s1, qj_c1, qj_c2, qj_c9, qj_c17, qj_c97, k285]
        refine b202_227 (by omega) ?_
        simp (disch := omega) only [qz0, qj_lt, qj_le, qj_eq, qtk, qfk, qbtt, qbft, qbtf, qbff, qIx_z, qj_nat, true_and, and_true, true_implies, false_implies, not_true_eq_false, not_false_eq_true, Bool.true_eq_false, Bool.false_eq_true, qj_sub, qinB_t, qinB_f, q2_e, qj_add, qj_s1, qj_c1, qj_c2, qj_c9, qj_c17, qj_c97]
        exact q2 Q hQ
  have r0 : ∀ j, j < 107 → ¬ (17 ≤ j ∧ j ≤ 105) → K 684 j = qj 0 := fun j hj hn => by rw [e0 j hj, if_neg hn]
  have r1 : ∀ j, 17 ≤ j → j ≤ 105 → K 684 j = qj (-1) := fun j h1 h2 => by rw [e0 j (by omega), if_pos ⟨h1, h2⟩]
  exact key 0 (Nat.zero_le _) K (fun q hq => absurd hq (Nat.not_lt_zero q)) (fun q hq => absurd hq (Nat.not_lt_zero q)) ⟨r0 0 (by omega) (by omega), fun q hq => r1 _ (by omega) (by omega), fun q hq => r1 _ (by omega) (by omega), r0 106 (by omega) (by omega)⟩ (fun _ _ _ _ => rfl)
end FAMM7
