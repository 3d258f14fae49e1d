/-! ===== the text of the family, the class, 2 ===== -/
section FAMC2
variable {d : Nat} {g : qG1} {I : Nat → Nat → Int32} {T : Nat → Nat} {n i f : Nat} {F : qFam}
theorem qRF_wrk (R : qRF F I f) {h p : Nat} : qRF (wrk F h p) (qup I (f + 4) h (qj (bm 8 (fun q => if q = p then true else F.2 0 h q) : Nat))) f := by
  obtain ⟨h1, h2, h3, h4, h5, h6, h7, h8, h9, h10, h11, h12, h13, h14, h15, h16, h17⟩ := R
  refine ⟨?_, ?_, ?_, ?_, ?_, ?_, ?_, ?_, ?_, ?_, ?_, ?_, ?_, ?_, ?_, ?_, ?_⟩
  · rw [qup_ne (f := I) (by omega)]; exact h1
  · rw [qup_ne (f := I) (by omega)]; exact h2
  · rw [qup_ne (f := I) (by omega)]; exact h3
  · rw [qup_ne (f := I) (by omega)]; exact h4
  · rw [qup_ne (f := I) (by omega)]; exact h5
  · rw [qup_ne (f := I) (by omega)]; exact h6
  · rw [qup_ne (f := I) (by omega)]; exact h7
  · intro k hk; rw [qup_at]; by_cases e : k = h
    · rw [if_pos e, e]; congr 2; refine bm_ext (fun b _ => ?_); show _ = (if h = h ∧ b = p then true else F.2 0 h b); by_cases eb : b = p
      · rw [if_pos eb, if_pos ⟨rfl, eb⟩]
      · rw [if_neg eb, if_neg (fun x => eb x.2)]
    · rw [if_neg e, h8 k hk]; congr 2; refine bm_ext (fun b _ => ?_); show _ = (if k = h ∧ b = p then true else F.2 0 k b); rw [if_neg (fun x => e x.1)]
  · rw [qup_ne (f := I) (by omega)]; exact h9
  · rw [qup_ne (f := I) (by omega)]; exact h10
  · intro h k hh hk; rw [qup_ne (f := I) (by omega)]; exact h11 h k hh hk
  · rw [qup_ne (f := I) (by omega)]; exact h12
  · rw [qup_ne (f := I) (by omega)]; exact h13
  · rw [qup_ne (f := I) (by omega)]; exact h14
  · rw [qup_ne (f := I) (by omega)]; exact h15
  · rw [qup_ne (f := I) (by omega)]; exact h16
  · intro a k ha hk; rw [qup_ne (f := I) (by omega)]; exact h17 a k ha hk
theorem qRF_qua (R : qRF F I f) {h p : Nat} : qRF (qua F h p) (qup I (f + 5) h (qj (bm 8 (fun q => if q = p then true else F.2 1 h q) : Nat))) f := by
  obtain ⟨h1, h2, h3, h4, h5, h6, h7, h8, h9, h10, h11, h12, h13, h14, h15, h16, h17⟩ := R
  refine ⟨?_, ?_, ?_, ?_, ?_, ?_, ?_, ?_, ?_, ?_, ?_, ?_, ?_, ?_, ?_, ?_, ?_⟩
  · rw [qup_ne (f := I) (by omega)]; exact h1
  · rw [qup_ne (f := I) (by omega)]; exact h2
  · rw [qup_ne (f := I) (by omega)]; exact h3
  · rw [qup_ne (f := I) (by omega)]; exact h4
  · rw [qup_ne (f := I) (by omega)]; exact h5
  · rw [qup_ne (f := I) (by omega)]; exact h6
  · rw [qup_ne (f := I) (by omega)]; exact h7
  · rw [qup_ne (f := I) (by omega)]; exact h8
  · intro k hk; rw [qup_at]; by_cases e : k = h
    · rw [if_pos e, e]; congr 2; refine bm_ext (fun b _ => ?_); show _ = (if h = h ∧ b = p then true else F.2 1 h b); by_cases eb : b = p
      · rw [if_pos eb, if_pos ⟨rfl, eb⟩]
      · rw [if_neg eb, if_neg (fun x => eb x.2)]
    · rw [if_neg e, h9 k hk]; congr 2; refine bm_ext (fun b _ => ?_); show _ = (if k = h ∧ b = p then true else F.2 1 k b); rw [if_neg (fun x => e x.1)]
  · rw [qup_ne (f := I) (by omega)]; exact h10
  · intro h k hh hk; rw [qup_ne (f := I) (by omega)]; exact h11 h k hh hk
  · rw [qup_ne (f := I) (by omega)]; exact h12
  · rw [qup_ne (f := I) (by omega)]; exact h13
  · rw [qup_ne (f := I) (by omega)]; exact h14
  · rw [qup_ne (f := I) (by omega)]; exact h15
  · rw [qup_ne (f := I) (by omega)]; exact h16
  · intro a k ha hk; rw [qup_ne (f := I) (by omega)]; exact h17 a k ha hk
theorem qRF_wea (R : qRF F I f) {v : Nat} : qRF (wea F v) (qup I (f) 16 (qj (v : Int))) f := by
  obtain ⟨h1, h2, h3, h4, h5, h6, h7, h8, h9, h10, h11, h12, h13, h14, h15, h16, h17⟩ := R
  refine ⟨?_, ?_, ?_, ?_, ?_, ?_, ?_, ?_, ?_, ?_, ?_, ?_, ?_, ?_, ?_, ?_, ?_⟩
  · rw [qup_at, if_neg (by omega)]; exact h1
  · rw [qup_at, if_neg (by omega)]; exact h2
  · rw [qup_at, if_neg (by omega)]; exact h3
  · rw [qup_at, if_pos rfl]; rfl
  · rw [qup_ne (f := I) (by omega)]; exact h5
  · rw [qup_ne (f := I) (by omega)]; exact h6
  · rw [qup_ne (f := I) (by omega)]; exact h7
  · rw [qup_ne (f := I) (by omega)]; exact h8
  · rw [qup_ne (f := I) (by omega)]; exact h9
  · rw [qup_ne (f := I) (by omega)]; exact h10
  · intro h k hh hk; rw [qup_ne (f := I) (by omega)]; rw [wea_r (by omega)]; exact h11 h k hh hk
  · rw [qup_ne (f := I) (by omega)]; exact h12
  · rw [qup_ne (f := I) (by omega)]; exact h13
  · rw [qup_ne (f := I) (by omega)]; exact h14
  · rw [qup_ne (f := I) (by omega)]; exact h15
  · rw [qup_ne (f := I) (by omega)]; exact h16
  · intro a k ha hk; rw [qup_ne (f := I) (by omega)]; rw [wea_r (r := 10 + a) (by omega)]; exact h17 a k ha hk
theorem qRF_acd (R : qRF F I f) (hl : ∀ a, a < F.1 0 2 + 1 → I (f + 20) a = qj (F.1 7 a)) : qRF (acd F) (qup I (f) 12 (qj ((F.1 0 2 + 1 : Nat) : Int))) f := by
  obtain ⟨h1, h2, h3, h4, h5, h6, h7, h8, h9, h10, h11, h12, h13, h14, h15, h16, h17⟩ := R
  refine ⟨?_, ?_, ?_, ?_, ?_, ?_, ?_, ?_, ?_, ?_, ?_, ?_, ?_, ?_, ?_, ?_, ?_⟩
  · rw [qup_at, if_neg (by omega)]; exact h1
  · rw [qup_at, if_neg (by omega)]; exact h2
  · rw [qup_at, if_pos rfl]; rfl
  · rw [qup_at, if_neg (by omega)]; exact h4
  · rw [qup_ne (f := I) (by omega)]; exact h5
  · rw [qup_ne (f := I) (by omega)]; exact h6
  · rw [qup_ne (f := I) (by omega)]; exact h7
  · rw [qup_ne (f := I) (by omega)]; exact h8
  · rw [qup_ne (f := I) (by omega)]; exact h9
  · rw [qup_ne (f := I) (by omega)]; exact h10
  · intro h k hh hk; rw [qup_ne (f := I) (by omega)]; rw [acd_r (by omega)]; exact h11 h k hh hk
  · rw [qup_ne (f := I) (by omega)]; exact h12
  · rw [qup_ne (f := I) (by omega)]; exact h13
  · rw [qup_ne (f := I) (by omega)]; exact h14
  · rw [qup_ne (f := I) (by omega)]; exact hl
  · rw [qup_ne (f := I) (by omega)]; exact h16
  · intro a k ha hk; rw [qup_ne (f := I) (by omega)]; rw [acd_r (r := 10 + a) (by omega)]; exact h17 a k ha hk
theorem qRF_sil (R : qRF F I f) {h k : Nat} (hne : ¬ h = k) : qRF (sil F h k) (qup (qup I (f + 6) h (qj (bm 9 (fun q => if q = k then true else F.2 2 h q) : Nat))) (f + 6) k (qj (bm 9 (fun q => if q = h then true else F.2 2 k q) : Nat))) f := by
  obtain ⟨h1, h2, h3, h4, h5, h6, h7, h8, h9, h10, h11, h12, h13, h14, h15, h16, h17⟩ := R
  have ne : ∀ a, ¬ a = f + 6 → qup (qup I (f + 6) h (qj (bm 9 (fun q => if q = k then true else F.2 2 h q) : Nat))) (f + 6) k (qj (bm 9 (fun q => if q = h then true else F.2 2 k q) : Nat)) a = I a := fun a p => by rw [qup_ne p, qup_ne p]
  refine ⟨?_, ?_, ?_, ?_, ?_, ?_, ?_, ?_, ?_, ?_, ?_, ?_, ?_, ?_, ?_, ?_, ?_⟩
  · rw [ne _ (by omega)]; exact h1
  · rw [ne _ (by omega)]; exact h2
  · rw [ne _ (by omega)]; exact h3
  · rw [ne _ (by omega)]; exact h4
  · rw [ne _ (by omega)]; exact h5
  · rw [ne _ (by omega)]; exact h6
  · rw [ne _ (by omega)]; exact h7
  · rw [ne _ (by omega)]; exact h8
  · rw [ne _ (by omega)]; exact h9
  · intro a ha
    rw [qup_at]
    by_cases e : a = k
    · rw [if_pos e, e]; congr 2; refine bm_ext (fun b _ => ?_)
      show _ = (if (k = h ∧ b = k) ∨ (k = k ∧ b = h) then true else F.2 2 k b)
      by_cases eb : b = h
      · rw [if_pos eb, if_pos (Or.inr ⟨rfl, eb⟩)]
      · rw [if_neg eb, if_neg (fun x => by rcases x with x | x; exact hne x.1.symm; exact eb x.2)]
    · rw [if_neg e, qup_at]
      by_cases e2 : a = h
      · rw [if_pos e2, e2]; congr 2; refine bm_ext (fun b _ => ?_)
        show _ = (if (h = h ∧ b = k) ∨ (h = k ∧ b = h) then true else F.2 2 h b)
        by_cases eb : b = k
        · rw [if_pos eb, if_pos (Or.inl ⟨rfl, eb⟩)]
        · rw [if_neg eb, if_neg (fun x => by rcases x with x | x; exact eb x.2; exact hne x.1)]
      · rw [if_neg e2, h10 a ha]; congr 2; refine bm_ext (fun b _ => ?_)
        show _ = (if (a = h ∧ b = k) ∨ (a = k ∧ b = h) then true else F.2 2 a b)
        rw [if_neg (fun x => by rcases x with x | x; exact e2 x.1; exact e x.1)]
  · intro a b ha hb; rw [ne _ (by omega)]; exact h11 a b ha hb
  · rw [ne _ (by omega)]; exact h12
  · rw [ne _ (by omega)]; exact h13
  · rw [ne _ (by omega)]; exact h14
  · rw [ne _ (by omega)]; exact h15
  · rw [ne _ (by omega)]; exact h16
  · intro a b ha hb; rw [ne _ (by omega)]; exact h17 a b ha hb
theorem qRF_ows (R : qRF F I f) {h k v : Nat} (hh : h < 9) (hk : k < 9) : qRF (ows F h k v) (qup I (f + 7 + 1 + h) k (qj ((min 999 (F.1 (20 + h) k + v) : Nat) : Int))) f := by
  obtain ⟨h1, h2, h3, h4, h5, h6, h7, h8, h9, h10, h11, h12, h13, h14, h15, h16, h17⟩ := R
  have r : ∀ r, r < 20 → (ows F h k v).1 r = F.1 r := fun r hr => ows_r (by omega)
  refine ⟨?_, ?_, ?_, ?_, ?_, ?_, ?_, ?_, ?_, ?_, ?_, ?_, ?_, ?_, ?_, ?_, ?_⟩
  · rw [qup_ne (f := I) (by omega), r 0 (by omega)]; exact h1
  · rw [qup_ne (f := I) (by omega), r 0 (by omega)]; exact h2
  · rw [qup_ne (f := I) (by omega), r 0 (by omega)]; exact h3
  · rw [qup_ne (f := I) (by omega), r 0 (by omega)]; exact h4
  · rw [qup_ne (f := I) (by omega), r 0 (by omega), r 1 (by omega)]; exact h5
  · rw [qup_ne (f := I) (by omega), r 0 (by omega), r 2 (by omega)]; exact h6
  · rw [qup_ne (f := I) (by omega), r 0 (by omega), r 3 (by omega)]; exact h7
  · rw [qup_ne (f := I) (by omega)]; exact h8
  · rw [qup_ne (f := I) (by omega)]; exact h9
  · rw [qup_ne (f := I) (by omega)]; exact h10
  · intro a b ha hb
    by_cases e : a = h
    · subst e
      rw [qup_at, ows_o]
      by_cases e2 : b = k
      · rw [if_pos e2, if_pos e2]
      · rw [if_neg e2, if_neg e2]; exact h11 a b ha hb
    · rw [qup_ne (f := I) (by omega), ows_r (by omega)]; exact h11 a b ha hb
  · rw [qup_ne (f := I) (by omega), r 0 (by omega), r 4 (by omega)]; exact h12
  · rw [qup_ne (f := I) (by omega), r 0 (by omega), r 5 (by omega)]; exact h13
  · rw [qup_ne (f := I) (by omega), r 0 (by omega), r 6 (by omega)]; exact h14
  · rw [qup_ne (f := I) (by omega), r 0 (by omega), r 7 (by omega)]; exact h15
  · rw [qup_ne (f := I) (by omega), r 8 (by omega)]; exact h16
  · intro a b ha hb
    rw [r 8 (by omega)] at hb
    rw [qup_ne (f := I) (by omega), r (10 + a) (by omega)]; exact h17 a b ha hb
theorem c25 (hd : 2 ≤ d) (hf : qisF f) (R : qRF F I f) (W : qWF F) {p : Nat} (hp : p < 8) : qRun d 25 [.ref f, .int (qj p)] (qw g I) (.inl (some (.int (qj (cn 9 (fun h => F.2 0 h p) : Nat))), qw g I)) := by
  have f1 := R.1
  have h9 := W.1
  have ec : cn 9 (fun h => F.2 0 h p) = cn (F.1 0 0) (fun h => F.2 0 h p) := by
    rw [← cn_mono (fun h => F.2 0 h p) 9 h9]
    refine cn_ext (fun h _ => ?_)
    cases hq : F.2 0 h p with
    | false => rw [Bool.and_false]
    | true => rw [decide_eq_true (W.2.2.2.2.2.2.2.2.1 h p hq).1]; rfl
  refine qRun_of fun Q hQ => b25_0 hf (by omega) ?_
  rw [ec] at hQ
  have key : ∀ k, k ≤ F.1 0 0 → qwq d 25 4 [(0, .ref f), (1, .int (qj p)), (2, .int (qj (cn k (fun h => F.2 0 h p) : Nat))), (3, .int (qj k))] [] (qw g I) Q := by
    refine upto _ (b25_4 hf (by omega) ?_) (fun k hk ih => b25_4 hf (by omega) ?_)
    · simp (disch := omega) only [qz0, qj_lt, qj_le, qj_eq, qtk, qfk, qbtt, qbft, qbtf, qbff, qIx_z, qj_nat, true_and, and_true, true_implies, false_implies, not_true_eq_false, not_false_eq_true, Bool.true_eq_false, Bool.false_eq_true, f1]
      exact hQ
    · have e := R.2.2.2.2.2.2.2.1 k (by omega)
      cases hw : F.2 0 k p with
      | false =>
        rw [cn_sf (P := fun h => F.2 0 h p) (i := k) hw] at ih
        simp (disch := omega) only [qz0, qj_lt, qj_le, qj_eq, qtk, qfk, qbtt, qbft, qbtf, qbff, qIx_z, qj_nat, true_and, and_true, true_implies, false_implies, not_true_eq_false, not_false_eq_true, Bool.true_eq_false, Bool.false_eq_true, f1, e, qhas_bm, hw, qj_add, qj_s1, Int.add_zero]
        exact ih
      | true =>
        rw [cn_st (P := fun h => F.2 0 h p) (i := k) hw] at ih
        simp (disch := omega) only [qz0, qj_lt, qj_le, qj_eq, qtk, qfk, qbtt, qbft, qbtf, qbff, qIx_z, qj_nat, true_and, and_true, true_implies, false_implies, not_true_eq_false, not_false_eq_true, Bool.true_eq_false, Bool.false_eq_true, f1, e, qhas_bm, hw, qj_add, qj_s1]
        exact ih
  exact key 0 (Nat.zero_le _)
/-- a fault at the number just read -/
theorem tE_f {J : Nat → Nat → Int32} {k p : Nat} (h : J 65 6 = qj (p : Int)) : tE (qup (qup J 65 4 (qj (k : Int))) 65 5 (J 65 6)) (k, p) ∧ tF J (qup (qup J 65 4 (qj (k : Int))) 65 5 (J 65 6)) :=
  ⟨⟨by rw [qup_at, if_neg (by omega), qup_at, if_pos rfl], by rw [qup_at, if_pos rfl]; exact h⟩, tF_tr (tF_u (by omega)) (tF_u (by omega))⟩
theorem c24 (hd : 4 ≤ d) (hf : qisF f) (X : tX T n I i) (R : qRF F I f) (W : qWF F) : cPR d 24 [.ref f, .ref 65] g I T n f (aWks T n F i) := by
  have f2 := R.2.1
  have h8 := W.2.1
  have h9 := W.1
  have hfb : f = 67 ∨ f = 96 := hf
  have q1 := c23 (d := d - 1) (g := g) (by omega) hf X R W (m := F.1 0 1) (by omega)
  unfold aWks
  cases h1 : aHan T n F (F.1 0 1) i with
  | inl e =>
    rw [h1] at q1
    obtain ⟨J1, a1, a2, a3⟩ := q1
    refine ⟨J1, qRun_of fun Q hQ => b24_0 hf (by omega) ?_, a2, cF_t a3⟩
    rw [f2]
    refine ⟨_, _, a1, ?_⟩
    simp (disch := omega) only [qz0, qj_lt, qj_le, qj_eq, qtk, qfk, qbtt, qbft, qbtf, qbff, qIx_z, qj_nat, true_and, and_true, true_implies, false_implies, not_true_eq_false, not_false_eq_true, Bool.true_eq_false, Bool.false_eq_true]
    exact hQ
  | inr r =>
    rw [h1] at q1
    obtain ⟨J1, a1, a2, a8, a7, a6, a3⟩ := q1
    obtain ⟨b1, b2, b3⟩ := aHan_b h1 X.2.1
    have R1 := qRF_t R hf a3
    have x6 := R1.2.2.2.2.2.1 r.1.1 b1
    have x8 := R1.2.2.2.2.2.2.2.1 r.1.1 (by omega)
    have x9 := R1.2.2.2.2.2.2.2.2.1 r.1.1 (by omega)
    have x13 := R1.2.2.2.2.2.2.2.2.2.2.2.2.1 r.1.2 b2
    have hb40 := (W.2.2.2.2.1 r.1.1 b1).2.1
    have hn2 := (W.2.2.2.2.2.1 r.1.2 b2).2.2.1
    have hcn := cn_le 9 (fun h => F.2 0 h r.1.2)
    have k25 := c25 (d := d - 1) (g := g) (by omega) hf R1 W (p := r.1.2) (by omega)
    obtain ⟨tE1, tE2⟩ := tE_f (k := 2) a6
    have tE1 : tE (qup (qup J1 65 4 (qj 2)) 65 5 (J1 65 6)) (2, r.2.1) := tE1
    have tE2 : tF J1 (qup (qup J1 65 4 (qj 2)) 65 5 (J1 65 6)) := tE2
    have hor := qbm_or 8 (F.2 0 r.1.1) (F.2 1 r.1.1)
    by_cases c1 : F.1 2 r.1.1 = 0
    · by_cases c2 : F.2 0 r.1.1 r.1.2 = true ∨ F.2 1 r.1.1 r.1.2 = true
      · simp only []
        rw [if_pos (Or.inr (by rcases c2 with c2 | c2; exact Or.inl c2; exact Or.inr (Or.inl c2)))]
        refine ⟨_, qRun_of fun Q hQ => b24_0 hf (by omega) ?_, tE1, cF_t (tF_tr a3 tE2)⟩
        have hb : (F.2 0 r.1.1 r.1.2 || F.2 1 r.1.1 r.1.2) = true := by rw [Bool.or_eq_true]; exact c2
        rw [f2]
        refine ⟨_, _, a1, ?_⟩
        simp (disch := omega) only [qz0, qj_lt, qj_le, qj_eq, qtk, qfk, qbtt, qbft, qbtf, qbff, qIx_z, qj_nat, true_and, and_true, true_implies, false_implies, not_true_eq_false, not_false_eq_true, Bool.true_eq_false, Bool.false_eq_true, a8, a7, x6, x8, x9, hor, qhas_bm, hb, c1]
        exact hQ
      · have hb : (F.2 0 r.1.1 r.1.2 || F.2 1 r.1.1 r.1.2) = false := by
          cases hq : (F.2 0 r.1.1 r.1.2 || F.2 1 r.1.1 r.1.2) with
          | false => rfl
          | true => rw [Bool.or_eq_true] at hq; exact absurd hq c2
        by_cases c3 : F.1 5 r.1.2 ≤ cn 9 (fun h => F.2 0 h r.1.2)
        · simp only []
          rw [if_pos (Or.inr (Or.inr (Or.inr c3)))]
          refine ⟨_, qRun_of fun Q hQ => b24_0 hf (by omega) ?_, tE1, cF_t (tF_tr a3 tE2)⟩
          rw [f2]
          refine ⟨_, _, a1, ?_⟩
          simp (disch := omega) only [qz0, qj_lt, qj_le, qj_eq, qtk, qfk, qbtt, qbft, qbtf, qbff, qIx_z, qj_nat, true_and, and_true, true_implies, false_implies, not_true_eq_false, not_false_eq_true, Bool.true_eq_false, Bool.false_eq_true, a8, a7, x6, x8, x9, hor, qhas_bm, hb, c1]
          refine ⟨_, _, k25, ?_⟩
          simp (disch := omega) only [qz0, qj_lt, qj_le, qj_eq, qtk, qfk, qbtt, qbft, qbtf, qbff, qIx_z, qj_nat, true_and, and_true, true_implies, false_implies, not_true_eq_false, not_false_eq_true, Bool.true_eq_false, Bool.false_eq_true, x13]
          exact hQ
        · simp only []
          rw [if_neg (fun q => by
            rcases q with q | q | q | q
            · exact q c1
            · exact c2 (Or.inl q)
            · exact c2 (Or.inr q)
            · exact c3 q)]
          refine ⟨_, qRun_of fun Q hQ => b24_0 hf (by omega) ?_, tX_w a2 (by omega) (by omega), qRF_wrk R1, cF_tr (cF_t a3) (cF_w hf (by omega))⟩
          rw [f2]
          refine ⟨_, _, a1, ?_⟩
          simp (disch := omega) only [qz0, qj_lt, qj_le, qj_eq, qtk, qfk, qbtt, qbft, qbtf, qbff, qIx_z, qj_nat, true_and, and_true, true_implies, false_implies, not_true_eq_false, not_false_eq_true, Bool.true_eq_false, Bool.false_eq_true, a8, a7, x6, x8, x9, hor, qhas_bm, hb, c1]
          refine ⟨_, _, k25, ?_⟩
          simp (disch := omega) only [qz0, qj_lt, qj_le, qj_eq, qtk, qfk, qbtt, qbft, qbtf, qbff, qIx_z, qj_nat, true_and, and_true, true_implies, false_implies, not_true_eq_false, not_false_eq_true, Bool.true_eq_false, Bool.false_eq_true, x13, x8, bm_set]
          exact hQ
    · simp only []
      rw [if_pos (Or.inl c1)]
      refine ⟨_, qRun_of fun Q hQ => b24_0 hf (by omega) ?_, tE1, cF_t (tF_tr a3 tE2)⟩
      rw [f2]
      refine ⟨_, _, a1, ?_⟩
      simp (disch := omega) only [qz0, qj_lt, qj_le, qj_eq, qtk, qfk, qbtt, qbft, qbtf, qbff, qIx_z, qj_nat, true_and, and_true, true_implies, false_implies, not_true_eq_false, not_false_eq_true, Bool.true_eq_false, Bool.false_eq_true, a8, a7, x6]
      exact hQ
theorem c26 (hd : 4 ≤ d) (hf : qisF f) (X : tX T n I i) (R : qRF F I f) (W : qWF F) : cPR d 26 [.ref f, .ref 65] g I T n f (aQua T n F i) := by
  have f2 := R.2.1
  have h8 := W.2.1
  have h9 := W.1
  have hfb : f = 67 ∨ f = 96 := hf
  have q1 := c23 (d := d - 1) (g := g) (by omega) hf X R W (m := F.1 0 1) (by omega)
  unfold aQua
  cases h1 : aHan T n F (F.1 0 1) i with
  | inl e =>
    rw [h1] at q1
    obtain ⟨J1, a1, a2, a3⟩ := q1
    refine ⟨J1, qRun_of fun Q hQ => b26_0 hf (by omega) ?_, a2, cF_t a3⟩
    rw [f2]
    refine ⟨_, _, a1, ?_⟩
    simp (disch := omega) only [qz0, qj_lt, qj_le, qj_eq, qtk, qfk, qbtt, qbft, qbtf, qbff, qIx_z, qj_nat, true_and, and_true, true_implies, false_implies, not_true_eq_false, not_false_eq_true, Bool.true_eq_false, Bool.false_eq_true]
    exact hQ
  | inr r =>
    rw [h1] at q1
    obtain ⟨J1, a1, a2, a8, a7, a6, a3⟩ := q1
    obtain ⟨b1, b2, b3⟩ := aHan_b h1 X.2.1
    have R1 := qRF_t R hf a3
    have x8 := R1.2.2.2.2.2.2.2.1 r.1.1 (by omega)
    have x9 := R1.2.2.2.2.2.2.2.2.1 r.1.1 (by omega)
    obtain ⟨tE1, tE2⟩ := tE_f (k := 2) a6
    have tE1 : tE (qup (qup J1 65 4 (qj 2)) 65 5 (J1 65 6)) (2, r.2.1) := tE1
    have tE2 : tF J1 (qup (qup J1 65 4 (qj 2)) 65 5 (J1 65 6)) := tE2
    cases c : F.2 0 r.1.1 r.1.2 with
    | true =>
      simp only []
      rw [if_pos c]
      refine ⟨_, qRun_of fun Q hQ => b26_0 hf (by omega) ?_, tE1, cF_t (tF_tr a3 tE2)⟩
      rw [f2]
      refine ⟨_, _, a1, ?_⟩
      simp (disch := omega) only [qz0, qj_lt, qj_le, qj_eq, qtk, qfk, qbtt, qbft, qbtf, qbff, qIx_z, qj_nat, true_and, and_true, true_implies, false_implies, not_true_eq_false, not_false_eq_true, Bool.true_eq_false, Bool.false_eq_true, a8, a7, x8, qhas_bm, c]
      exact hQ
    | false =>
      simp only []
      rw [if_neg (by rw [c]; exact Bool.false_ne_true)]
      refine ⟨_, qRun_of fun Q hQ => b26_0 hf (by omega) ?_, tX_w a2 (by omega) (by omega), qRF_qua R1, cF_tr (cF_t a3) (cF_w hf (by omega))⟩
      rw [f2]
      refine ⟨_, _, a1, ?_⟩
      simp (disch := omega) only [qz0, qj_lt, qj_le, qj_eq, qtk, qfk, qbtt, qbft, qbtf, qbff, qIx_z, qj_nat, true_and, and_true, true_implies, false_implies, not_true_eq_false, not_false_eq_true, Bool.true_eq_false, Bool.false_eq_true, a8, a7, x8, x9, qhas_bm, c, bm_set]
      exact hQ
theorem c27 (hd : 4 ≤ d) (hf : qisF f) (X : tX T n I i) (R : qRF F I f) (W : qWF F) : cPR d 27 [.ref f, .ref 65] g I T n f (aSil T n F i) := by
  have f1 := R.1
  have h9 := W.1
  have hfb : f = 67 ∨ f = 96 := hf
  have q1 := c23 (d := d - 1) (g := g) (by omega) hf X R W (m := F.1 0 0) (by omega)
  unfold aSil
  cases h1 : aHan T n F (F.1 0 0) i with
  | inl e =>
    rw [h1] at q1
    obtain ⟨J1, a1, a2, a3⟩ := q1
    refine ⟨J1, qRun_of fun Q hQ => b27_0 hf (by omega) ?_, a2, cF_t a3⟩
    rw [f1]
    refine ⟨_, _, a1, ?_⟩
    simp (disch := omega) only [qz0, qj_lt, qj_le, qj_eq, qtk, qfk, qbtt, qbft, qbtf, qbff, qIx_z, qj_nat, true_and, and_true, true_implies, false_implies, not_true_eq_false, not_false_eq_true, Bool.true_eq_false, Bool.false_eq_true]
    exact hQ
  | inr r =>
    rw [h1] at q1
    obtain ⟨J1, a1, a2, a8, a7, a6, a3⟩ := q1
    obtain ⟨b1, b2, b3⟩ := aHan_b h1 X.2.1
    have R1 := qRF_t R hf a3
    have x1 := R1.2.2.2.2.2.2.2.2.2.1 r.1.1 (by omega)
    have x2 := R1.2.2.2.2.2.2.2.2.2.1 r.1.2 (by omega)
    obtain ⟨tE1, tE2⟩ := tE_f (k := 2) a6
    have tE1 : tE (qup (qup J1 65 4 (qj 2)) 65 5 (J1 65 6)) (2, r.2.1) := tE1
    have tE2 : tF J1 (qup (qup J1 65 4 (qj 2)) 65 5 (J1 65 6)) := tE2
    by_cases c : r.1.1 = r.1.2
    · simp only []
      rw [if_pos c]
      refine ⟨_, qRun_of fun Q hQ => b27_0 hf (by omega) ?_, tE1, cF_t (tF_tr a3 tE2)⟩
      rw [f1]
      refine ⟨_, _, a1, ?_⟩
      simp (disch := omega) only [qz0, qj_lt, qj_le, qj_eq, qtk, qfk, qbtt, qbft, qbtf, qbff, qIx_z, qj_nat, true_and, and_true, true_implies, false_implies, not_true_eq_false, not_false_eq_true, Bool.true_eq_false, Bool.false_eq_true, a8, a7]
      exact hQ
    · simp only []
      rw [if_neg c]
      have eK : qup J1 (f + 6) r.1.1 (qj (bm 9 (fun q => if q = r.1.2 then true else F.2 2 r.1.1 q) : Nat)) (f + 6) r.1.2 = qj (bm 9 (F.2 2 r.1.2) : Nat) := by
        rw [qup_at, if_neg (fun q => c q.symm)]; exact x2
      refine ⟨_, qRun_of fun Q hQ => b27_0 hf (by omega) ?_, tX_w (tX_w a2 (by omega) (by omega)) (by omega) (by omega), qRF_sil R1 c, cF_tr (cF_t a3) (cF_tr (cF_w hf (by omega)) (cF_w hf (by omega)))⟩
      rw [f1]
      refine ⟨_, _, a1, ?_⟩
      simp (disch := omega) only [qz0, qj_lt, qj_le, qj_eq, qtk, qfk, qbtt, qbft, qbtf, qbff, qIx_z, qj_nat, true_and, and_true, true_implies, false_implies, not_true_eq_false, not_false_eq_true, Bool.true_eq_false, Bool.false_eq_true, a8, a7, x1, bm_set]
      rw [eK, bm_set (by omega) (by omega)]
      exact hQ
theorem c30 (hd : 4 ≤ d) (hf : qisF f) (X : tX T n I i) (R : qRF F I f) (W : qWF F) : cPR d 30 [.ref f, .ref 65] g I T n f (aOws T n F i) := by
  have f1 := R.1
  have h9 := W.1
  have hfb : f = 67 ∨ f = 96 := hf
  have q1 := c23 (d := d - 1) (g := g) (by omega) hf X R W (m := F.1 0 0) (by omega)
  unfold aOws
  cases h1 : aHan T n F (F.1 0 0) i with
  | inl e =>
    rw [h1] at q1
    obtain ⟨J1, a1, a2, a3⟩ := q1
    refine ⟨J1, qRun_of fun Q hQ => b30_0 hf (by omega) ?_, a2, cF_t a3⟩
    rw [f1]
    refine ⟨_, _, a1, ?_⟩
    simp (disch := omega) only [qz0, qj_lt, qj_le, qj_eq, qtk, qfk, qbtt, qbft, qbtf, qbff, qIx_z, qj_nat, true_and, and_true, true_implies, false_implies, not_true_eq_false, not_false_eq_true, Bool.true_eq_false, Bool.false_eq_true]
    exact hQ
  | inr r =>
    rw [h1] at q1
    obtain ⟨J1, a1, a2, a8, a7, a6, a3⟩ := q1
    obtain ⟨b1, b2, b3⟩ := aHan_b h1 X.2.1
    have R1 := qRF_t R hf a3
    obtain ⟨tE1, tE2⟩ := tE_f (k := 2) a6
    have tE1 : tE (qup (qup J1 65 4 (qj 2)) 65 5 (J1 65 6)) (2, r.2.1) := tE1
    have tE2 : tF J1 (qup (qup J1 65 4 (qj 2)) 65 5 (J1 65 6)) := tE2
    by_cases c : r.1.1 = r.1.2
    · simp only []
      rw [if_pos c]
      refine ⟨_, qRun_of fun Q hQ => b30_0 hf (by omega) ?_, tE1, cF_t (tF_tr a3 tE2)⟩
      rw [f1]
      refine ⟨_, _, a1, ?_⟩
      simp (disch := omega) only [qz0, qj_lt, qj_le, qj_eq, qtk, qfk, qbtt, qbft, qbtf, qbff, qIx_z, qj_nat, true_and, and_true, true_implies, false_implies, not_true_eq_false, not_false_eq_true, Bool.true_eq_false, Bool.false_eq_true, a8, a7]
      exact hQ
    · simp only []
      rw [if_neg c]
      have q2 := c79 (d := d - 1) (g := g) (lo := 1) (hi := 99) (by omega) a2 (by omega) (by omega)
      cases h2 : aNum T n r.2.2 1 99 with
      | inl e =>
        rw [h2] at q2
        obtain ⟨J2, d1, d2, d3⟩ := q2
        refine ⟨J2, qRun_of fun Q hQ => b30_0 hf (by omega) ?_, d2, cF_t (tF_tr a3 d3)⟩
        rw [f1]
        refine ⟨_, _, a1, ?_⟩
        simp (disch := omega) only [qz0, qj_lt, qj_le, qj_eq, qtk, qfk, qbtt, qbft, qbtf, qbff, qIx_z, qj_nat, true_and, and_true, true_implies, false_implies, not_true_eq_false, not_false_eq_true, Bool.true_eq_false, Bool.false_eq_true, a8, a7]
        refine ⟨_, _, d1, ?_⟩
        simp (disch := omega) only [qz0, qj_lt, qj_le, qj_eq, qtk, qfk, qbtt, qbft, qbtf, qbff, qIx_z, qj_nat, true_and, and_true, true_implies, false_implies, not_true_eq_false, not_false_eq_true, Bool.true_eq_false, Bool.false_eq_true]
        exact hQ
      | inr q =>
        rw [h2] at q2
        obtain ⟨J2, d1, d2, d6, d7, d8, d3⟩ := q2
        have R2 := qRF_t R1 hf d3
        have x11 := R2.2.2.2.2.2.2.2.2.2.2.1 r.1.1 r.1.2 (by omega) (by omega)
        have h999 := W.2.2.2.2.2.2.2.1 r.1.1 r.1.2
        have bq := aNum_b h2 b3
        have em : min (999 : Int) ((F.1 (20 + r.1.1) r.1.2 : Int) + (q.1 : Int)) = ((min 999 (F.1 (20 + r.1.1) r.1.2 + q.1) : Nat) : Int) := by omega
        refine ⟨_, qRun_of fun Q hQ => b30_0 hf (by omega) ?_, tX_w d2 (by omega) (by omega), qRF_ows R2 (h := r.1.1) (k := r.1.2) (v := q.1) (by omega) (by omega), cF_tr (cF_t (tF_tr a3 d3)) (cF_w hf (by omega))⟩
        rw [f1]
        refine ⟨_, _, a1, ?_⟩
        simp (disch := omega) only [qz0, qj_lt, qj_le, qj_eq, qtk, qfk, qbtt, qbft, qbtf, qbff, qIx_z, qj_nat, true_and, and_true, true_implies, false_implies, not_true_eq_false, not_false_eq_true, Bool.true_eq_false, Bool.false_eq_true, a8, a7]
        refine ⟨_, _, d1, ?_⟩
        simp (disch := omega) only [qz0, qj_lt, qj_le, qj_eq, qtk, qfk, qbtt, qbft, qbtf, qbff, qIx_z, qj_nat, true_and, and_true, true_implies, false_implies, not_true_eq_false, not_false_eq_true, Bool.true_eq_false, Bool.false_eq_true, q2_e, x11, d7, qj_add, qmin_z, em]
        exact hQ
theorem c31 (hd : 3 ≤ d) (hf : qisF f) (X : tX T n I i) (R : qRF F I f) : cPR d 31 [.ref f, .ref 65] g I T n f (aWea T n F i) := by
  have hfb : f = 67 ∨ f = 96 := hf
  have q1 := c79 (d := d - 1) (g := g) (lo := 0) (hi := 9) (by omega) X (by omega) (by omega)
  unfold aWea
  cases h1 : aNum T n i 0 9 with
  | inl e =>
    rw [h1] at q1
    obtain ⟨J1, a1, a2, a3⟩ := q1
    refine ⟨J1, qRun_of fun Q hQ => b31_0 hf (by omega) ?_, a2, cF_t a3⟩
    refine ⟨_, _, a1, ?_⟩
    simp (disch := omega) only [qz0, qj_lt, qj_le, qj_eq, qtk, qfk, qbtt, qbft, qbtf, qbff, qIx_z, qj_nat, true_and, and_true, true_implies, false_implies, not_true_eq_false, not_false_eq_true, Bool.true_eq_false, Bool.false_eq_true]
    exact hQ
  | inr r =>
    rw [h1] at q1
    obtain ⟨J1, a1, a2, -, a7, -, a3⟩ := q1
    refine ⟨_, qRun_of fun Q hQ => b31_0 hf (by omega) ?_, tX_w a2 (by omega) (by omega), qRF_wea (v := r.1) (qRF_t R hf a3), cF_tr (cF_t a3) (cF_w hf (by omega))⟩
    refine ⟨_, _, a1, ?_⟩
    simp (disch := omega) only [qz0, qj_lt, qj_le, qj_eq, qtk, qfk, qbtt, qbft, qbtf, qbff, qIx_z, qj_nat, true_and, and_true, true_implies, false_implies, not_true_eq_false, not_false_eq_true, Bool.true_eq_false, Bool.false_eq_true, a7]
    exact hQ
end FAMC2
