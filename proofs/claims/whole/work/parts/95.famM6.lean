/-! ===== the text of the family, the reference, 6: the start, nothing told, rows laid ===== -/
section FAMM6
variable {d : Nat} {g : qG1} {I : Nat → Nat → Int32} {T : Nat → Nat} {n i c : Nat} {F : qFam}
theorem m188 (hd : 3 ≤ d) (hn : n ≤ 600) (hT : ∀ j, j < n → T j < 256) (h246 : ∀ j, j < n → I 246 j = qj (T j : Int)) : ∃ J, qRun d 188 [.ref 245, .int (qj (n : Int))] (qw g I) (.inl (none, qw g J)) ∧ rX T n J (tBl T n 0) ∧ J 245 5 = qj 0 ∧ J 245 6 = qj (-1) ∧ J 245 7 = qj 0 ∧ J 245 8 = qj 0 ∧ J 245 1 = qj 0 ∧ (∀ a, ¬ a = 245 → J a = I a) ∧ ∀ j, ¬ j = 1 → ¬ j = 2 → ¬ (4 ≤ j ∧ j ≤ 8) → J 245 j = I 245 j := by
  have X0 : rX T n (qup (qup (qup (qup (qup (qup (qup I 245 1 (qj 0)) 245 2 (qj (n : Int))) 245 4 (qj 0)) 245 5 (qj 0)) 245 6 (qj (-1))) 245 7 (qj 0)) 245 8 (qj 0)) 0 := by
    refine ⟨hn, Nat.zero_le _, ?_, ?_, fun j hj => ?_, hT⟩
    · simp only [qup_at]; rfl
    · simp only [qup_at]; rfl
    · rw [qup_ne (by omega), qup_ne (by omega), qup_ne (by omega), qup_ne (by omega), qup_ne (by omega), qup_ne (by omega), qup_ne (by omega)]; exact h246 j hj
  obtain ⟨J, k1, k2, k3, k4, k5⟩ := m175 (d := d - 1) (g := g) (by omega) X0
  refine ⟨J, qRun_of fun Q hQ => b188_0 (by omega) ⟨_, k1, hQ⟩, k2, k4.trans ?_, k5.trans ?_, (k3.2 7 (by omega) (by omega) (by omega)).trans ?_, (k3.2 8 (by omega) (by omega) (by omega)).trans ?_, (k3.2 1 (by omega) (by omega) (by omega)).trans ?_, fun a p => (k3.1 a p).trans ?_, fun j p q r => (k3.2 j (by omega) (by omega) (by omega)).trans ?_⟩
  · simp only [qup_at]; rfl
  · simp only [qup_at]; rfl
  · simp only [qup_at]; rfl
  · simp only [qup_at]; rfl
  · simp only [qup_at]; rfl
  · rw [qup_ne p, qup_ne p, qup_ne p, qup_ne p, qup_ne p, qup_ne p, qup_ne p]
  · rw [qup_at, if_neg (by omega), qup_at, if_neg (by omega), qup_at, if_neg (by omega), qup_at, if_neg (by omega), qup_at, if_neg (by omega), qup_at, if_neg (by omega), qup_at, if_neg (by omega)]
/-- nothing is told yet -/
theorem m165 (hd : 1 ≤ d) : ∃ J, qRun d 165 [.ref 245] (qw g I) (.inl (none, qw g J)) ∧ qNF fam0 J ∧ ∀ a, ¬ rNa a → J a = I a := by
  have fr : ∀ {K : Nat → Nat → Int32} {a j : Nat} {v : Int32}, (∀ b, ¬ rNa b → K b = I b) → rNa a → ∀ b, ¬ rNa b → qup K a j v b = I b := fun h ha b hb => by rw [qup_ne (fun e => hb (by rw [e]; exact ha))]; exact h b hb
  let P0 : (Nat → Nat → Int32) → Prop := fun K => K 248 0 = qj 0 ∧ K 248 1 = qj 0 ∧ K 248 2 = qj 0 ∧ K 248 3 = qj 1
  let P1 : Nat → (Nat → Nat → Int32) → Prop := fun h K => ∀ k, k < h → K 254 k = qj 0 ∧ ∀ j, j < 9 → K (308 + 1 + k) j = qj 0
  have L4 : ∀ p, p ≤ 8 → ∀ K, P0 K → P1 9 K → (∀ k, k < p → K 250 k = qj 0 ∧ K 252 k = qj 0) → (∀ b, ¬ rNa b → K b = I b) →
      ∃ J, (P0 J ∧ P1 9 J ∧ (∀ k, k < 8 → J 250 k = qj 0 ∧ J 252 k = qj 0) ∧ ∀ b, ¬ rNa b → J b = I b) ∧ ∀ Q : qR → Prop, Q (.inl (none, qw g J)) → qwq d 165 73 [(0, .ref 245), (1, .int (qj p))] [] (qw g K) Q := by
    refine upto _ (fun K h0 h1 h2 h3 => ⟨K, ⟨h0, h1, h2, h3⟩, fun Q hQ => b165_73 (by omega) ?_⟩) (fun p hp ih K h0 h1 h2 h3 => ?_)
    · simp (disch := omega) only [qz0, qj_lt, qj_le, qj_eq, qtk, qfk, qbtt, qbft, qbtf, qbff, qIx_z, qj_nat, true_and, and_true, true_implies, false_implies, not_true_eq_false, not_false_eq_true, Bool.true_eq_false, Bool.false_eq_true, qj_sub, qinB_t, qinB_f, q2_e, qj_add, qj_s1, qj_c1, qj_c2, qj_c9, qj_c17, qj_c97]
      exact hQ
    · obtain ⟨J, q1, q2⟩ := ih (qup (qup K 250 p (qj 0)) 252 p (qj 0)) (by
        obtain ⟨x1, x2, x3, x4⟩ := h0
        exact ⟨by rw [qup_ne (by omega), qup_ne (by omega)]; exact x1, by rw [qup_ne (by omega), qup_ne (by omega)]; exact x2, by rw [qup_ne (by omega), qup_ne (by omega)]; exact x3, by rw [qup_ne (by omega), qup_ne (by omega)]; exact x4⟩) (fun k hk => by
        obtain ⟨y1, y2⟩ := h1 k hk
        exact ⟨by rw [qup_ne (by omega), qup_ne (by omega)]; exact y1, fun j hj => by rw [qup_ne (by omega), qup_ne (by omega)]; exact y2 j hj⟩) (fun k hk => by
        refine ⟨?_, ?_⟩
        · rw [qup_ne (by omega), qup_at]; split
          · rfl
          · exact (h2 k (by omega)).1
        · rw [qup_at]; split
          · rfl
          · rw [qup_ne (by omega)]; exact (h2 k (by omega)).2) (fr (fr h3 (by unfold rNa; omega)) (by unfold rNa; omega))
      refine ⟨J, q1, fun Q hQ => b165_73 (by omega) ?_⟩
      simp (disch := omega) only [qz0, qj_lt, qj_le, qj_eq, qtk, qfk, qbtt, qbft, qbtf, qbff, qIx_z, qj_nat, true_and, and_true, true_implies, false_implies, not_true_eq_false, not_false_eq_true, Bool.true_eq_false, Bool.false_eq_true, qj_sub, qinB_t, qinB_f, q2_e, qj_add, qj_s1, qj_c1, qj_c2, qj_c9, qj_c17, qj_c97]
      exact q2 Q hQ
  have L2 : ∀ h, h ≤ 9 → ∀ K, P0 K → P1 h K → (∀ b, ¬ rNa b → K b = I b) →
      ∃ J, (P0 J ∧ P1 9 J ∧ (∀ k, k < 8 → J 250 k = qj 0 ∧ J 252 k = qj 0) ∧ ∀ b, ¬ rNa b → J b = I b) ∧ ∀ Q : qR → Prop, Q (.inl (none, qw g J)) → qwq d 165 29 [(0, .ref 245), (1, .int (qj h))] [] (qw g K) Q := by
    refine upto _ (fun K h0 h1 h3 => ?_) (fun h hh ih K h0 h1 h3 => ?_)
    · obtain ⟨J, q1, q2⟩ := L4 0 (Nat.zero_le _) K h0 h1 (fun k hk => absurd hk (Nat.not_lt_zero k)) h3
      refine ⟨J, q1, fun Q hQ => b165_29 (by omega) ?_⟩
      simp (disch := omega) only [qz0, qj_lt, qj_le, qj_eq, qtk, qfk, qbtt, qbft, qbtf, qbff, qIx_z, qj_nat, true_and, and_true, true_implies, false_implies, not_true_eq_false, not_false_eq_true, Bool.true_eq_false, Bool.false_eq_true, qj_sub, qinB_t, qinB_f, q2_e, qj_add, qj_s1, qj_c1, qj_c2, qj_c9, qj_c17, qj_c97]
      exact q2 Q hQ
    · have L3 : ∀ j, j ≤ 9 → ∀ K, P0 K → P1 h K → (K 254 h = qj 0 ∧ ∀ k, k < j → K (308 + 1 + h) k = qj 0) → (∀ b, ¬ rNa b → K b = I b) →
          ∃ J, (P0 J ∧ P1 9 J ∧ (∀ k, k < 8 → J 250 k = qj 0 ∧ J 252 k = qj 0) ∧ ∀ b, ¬ rNa b → J b = I b) ∧ ∀ Q : qR → Prop, Q (.inl (none, qw g J)) → qwq d 165 44 [(0, .ref 245), (1, .int (qj h)), (2, .int (qj j))] [] (qw g K) Q := by
        refine upto _ (fun K h0 h1 h2 h3 => ?_) (fun j hj ih2 K h0 h1 h2 h3 => ?_)
        · obtain ⟨J, q1, q2⟩ := ih K h0 (fun k hk => by
            by_cases e : k = h
            · rw [e]; exact h2
            · exact h1 k (by omega)) h3
          refine ⟨J, q1, fun Q hQ => b165_44 (by omega) ?_⟩
          simp (disch := omega) only [qz0, qj_lt, qj_le, qj_eq, qtk, qfk, qbtt, qbft, qbtf, qbff, qIx_z, qj_nat, true_and, and_true, true_implies, false_implies, not_true_eq_false, not_false_eq_true, Bool.true_eq_false, Bool.false_eq_true, qj_sub, qinB_t, qinB_f, q2_e, qj_add, qj_s1, qj_c1, qj_c2, qj_c9, qj_c17, qj_c97]
          exact q2 Q hQ
        · obtain ⟨J, q1, q2⟩ := ih2 (qup K (308 + 1 + h) j (qj 0)) (by
            obtain ⟨x1, x2, x3, x4⟩ := h0
            exact ⟨by rw [qup_ne (by omega)]; exact x1, by rw [qup_ne (by omega)]; exact x2, by rw [qup_ne (by omega)]; exact x3, by rw [qup_ne (by omega)]; exact x4⟩) (fun k hk => by
            obtain ⟨y1, y2⟩ := h1 k hk
            exact ⟨by rw [qup_ne (by omega)]; exact y1, fun j hj => by rw [qup_ne (by omega)]; exact y2 j hj⟩) ⟨by rw [qup_ne (by omega)]; exact h2.1, fun k hk => by
            rw [qup_at]; split
            · rfl
            · exact h2.2 k (by omega)⟩ (fr h3 (by unfold rNa; omega))
          refine ⟨J, q1, fun Q hQ => b165_44 (by omega) ?_⟩
          simp (disch := omega) only [qz0, qj_lt, qj_le, qj_eq, qtk, qfk, qbtt, qbft, qbtf, qbff, qIx_z, qj_nat, true_and, and_true, true_implies, false_implies, not_true_eq_false, not_false_eq_true, Bool.true_eq_false, Bool.false_eq_true, qj_sub, qinB_t, qinB_f, q2_e, qj_add, qj_s1, qj_c1, qj_c2, qj_c9, qj_c17, qj_c97]
          exact q2 Q hQ
      obtain ⟨J, q1, q2⟩ := L3 0 (Nat.zero_le _) (qup K 254 h (qj 0)) (by
        obtain ⟨x1, x2, x3, x4⟩ := h0
        exact ⟨by rw [qup_ne (by omega)]; exact x1, by rw [qup_ne (by omega)]; exact x2, by rw [qup_ne (by omega)]; exact x3, by rw [qup_ne (by omega)]; exact x4⟩) (fun k hk => by
        obtain ⟨y1, y2⟩ := h1 k hk
        refine ⟨?_, fun j hj => by rw [qup_ne (by omega)]; exact y2 j hj⟩
        rw [qup_at, if_neg (by omega)]; exact y1) ⟨by rw [qup_at, if_pos rfl], fun k hk => absurd hk (Nat.not_lt_zero k)⟩ (fr h3 (by unfold rNa; omega))
      refine ⟨J, q1, fun Q hQ => b165_29 (by omega) ?_⟩
      simp (disch := omega) only [qz0, qj_lt, qj_le, qj_eq, qtk, qfk, qbtt, qbft, qbtf, qbff, qIx_z, qj_nat, true_and, and_true, true_implies, false_implies, not_true_eq_false, not_false_eq_true, Bool.true_eq_false, Bool.false_eq_true, qj_sub, qinB_t, qinB_f, q2_e, qj_add, qj_s1, qj_c1, qj_c2, qj_c9, qj_c17, qj_c97]
      exact q2 Q hQ
  have L1 : ∀ k : Nat, k ≤ 3 → ∀ K : Nat → Nat → Int32, (∀ j : Nat, j < k → K 248 j = qj 0) → (∀ b, ¬ rNa b → K b = I b) →
      ∃ J, (P0 J ∧ P1 9 J ∧ (∀ k, k < 8 → J 250 k = qj 0 ∧ J 252 k = qj 0) ∧ ∀ b, ¬ rNa b → J b = I b) ∧ ∀ Q : qR → Prop, Q (.inl (none, qw g J)) → qwq d 165 2 [(0, .ref 245), (1, .int (qj k))] [] (qw g K) Q := by
    refine upto _ (fun K h2 h3 => ?_) (fun k hk ih K h2 h3 => ?_)
    · obtain ⟨J, q1, q2⟩ := L2 0 (Nat.zero_le _) (qup K 248 3 (qj 1)) ⟨by rw [qup_at, if_neg (by omega)]; exact h2 0 (by omega), by rw [qup_at, if_neg (by omega)]; exact h2 1 (by omega), by rw [qup_at, if_neg (by omega)]; exact h2 2 (by omega), by rw [qup_at, if_pos rfl]⟩ (fun k hk => absurd hk (Nat.not_lt_zero k)) (fr h3 (by unfold rNa; omega))
      refine ⟨J, q1, fun Q hQ => b165_2 (by omega) ?_⟩
      simp (disch := omega) only [qz0, qj_lt, qj_le, qj_eq, qtk, qfk, qbtt, qbft, qbtf, qbff, qIx_z, qj_nat, true_and, and_true, true_implies, false_implies, not_true_eq_false, not_false_eq_true, Bool.true_eq_false, Bool.false_eq_true, qj_sub, qinB_t, qinB_f, q2_e, qj_add, qj_s1, qj_c1, qj_c2, qj_c9, qj_c17, qj_c97]
      exact q2 Q hQ
    · obtain ⟨J, q1, q2⟩ := ih (qup K 248 k (qj 0)) (fun j hj => by
        rw [qup_at]; split
        · rfl
        · exact h2 j (by omega)) (fr h3 (by unfold rNa; omega))
      refine ⟨J, q1, fun Q hQ => b165_2 (by omega) ?_⟩
      simp (disch := omega) only [qz0, qj_lt, qj_le, qj_eq, qtk, qfk, qbtt, qbft, qbtf, qbff, qIx_z, qj_nat, true_and, and_true, true_implies, false_implies, not_true_eq_false, not_false_eq_true, Bool.true_eq_false, Bool.false_eq_true, qj_sub, qinB_t, qinB_f, q2_e, qj_add, qj_s1, qj_c1, qj_c2, qj_c9, qj_c17, qj_c97]
      exact q2 Q hQ
  obtain ⟨J, ⟨⟨a1, a2, a3, a4⟩, a5, a6, a7⟩, q2⟩ := L1 0 (Nat.zero_le _) I (fun j hj => absurd hj (Nat.not_lt_zero j)) (fun _ _ => rfl)
  have e9 : ∀ {n : Nat} {p : Nat → Bool}, (∀ k, k < n → p k = false) → qj (bm n p : Nat) = qj 0 := fun h => by rw [bm_zero.mpr h]; rfl
  refine ⟨J, qRun_of fun Q hQ => b165_0 (by omega) (q2 Q hQ), ⟨a1, a2, a3, a4, fun h hh => absurd hh (Nat.not_lt_zero h), fun h hh => absurd hh (Nat.not_lt_zero h), fun h hh => absurd hh (Nat.not_lt_zero h), fun h hh => absurd hh (Nat.not_lt_zero h), fun h hh => absurd hh (Nat.not_lt_zero h), fun h hh => absurd hh (Nat.not_lt_zero h), fun h hh => absurd hh (Nat.not_lt_zero h), fun h hh => absurd hh (Nat.not_lt_zero h), fun a b ha => absurd ha (Nat.not_lt_zero a), fun h k hh hk => ?_, fun p hp => ?_, fun p hp => ?_, fun h hh => ?_⟩, a7⟩
  · rw [(a5 h hh).2 k hk]
    show _ = qj ((if 20 + h = 0 then (if k = 3 then 1 else 0) else 0 : Nat) : Int)
    rw [if_neg (by omega)]; rfl
  · exact (a6 p hp).1.trans (e9 (fun _ _ => rfl)).symm
  · exact (a6 p hp).2.trans (e9 (fun _ _ => rfl)).symm
  · exact (a5 h hh).1.trans (e9 (fun _ _ => rfl)).symm
end FAMM6
