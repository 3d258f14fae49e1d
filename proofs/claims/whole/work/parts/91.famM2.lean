/-! ===== the text of the family, the reference, 2 ===== -/
section FAMM2
variable {d : Nat} {g : qG1} {I : Nat → Nat → Int32} {T : Nat → Nat} {n i : Nat} {F : qFam}
/-- one row of sets more -/
theorem qNF_w (R : qNF F I) (W : qWF F) {a j : Nat} {v : Int32} {F' : qFam} (h1 : F'.1 = F.1) (ha : a = 250 ∨ a = 252)
    (e0 : ∀ p, p < 8 → qup I a j v 250 p = qj (bm 9 (fun h => F'.2 0 h p) : Nat)) (e1 : ∀ p, p < 8 → qup I a j v 252 p = qj (bm 9 (fun h => F'.2 1 h p) : Nat)) (e2 : F'.2 2 = F.2 2) : qNF F' (qup I a j v) := by
  obtain ⟨r1, r2, r3, r4, r5, r6, r7, r8, r9, r10, r11, r12, r13, r14, r15, r16, r17⟩ := R
  have w1 := W.1
  have w2 := W.2.1
  have w3 := W.2.2.1
  have ne : ∀ b, ¬ b = 250 → ¬ b = 252 → qup I a j v b = I b := fun b p q => qup_ne (by omega)
  refine ⟨?_, ?_, ?_, ?_, ?_, ?_, ?_, ?_, ?_, ?_, ?_, ?_, ?_, ?_, e0, e1, ?_⟩
  · rw [ne _ (by omega) (by omega), h1]; exact r1
  · rw [ne _ (by omega) (by omega), h1]; exact r2
  · rw [ne _ (by omega) (by omega), h1]; exact r3
  · rw [ne _ (by omega) (by omega), h1]; exact r4
  · rw [h1]; intro h hh; rw [ne _ (by omega) (by omega)]; exact r5 h hh
  · rw [h1]; intro h hh; rw [ne _ (by omega) (by omega)]; exact r6 h hh
  · rw [h1]; intro h hh; rw [ne _ (by omega) (by omega)]; exact r7 h hh
  · rw [h1]; intro h hh; rw [ne _ (by omega) (by omega)]; exact r8 h hh
  · rw [h1]; intro h hh; rw [ne _ (by omega) (by omega)]; exact r9 h hh
  · rw [h1]; intro h hh; rw [ne _ (by omega) (by omega)]; exact r10 h hh
  · rw [h1]; intro h hh; rw [ne _ (by omega) (by omega)]; exact r11 h hh
  · rw [h1]; intro h hh; rw [ne _ (by omega) (by omega)]; exact r12 h hh
  · rw [h1]; intro h k hh hk; rw [ne _ (by omega) (by omega)]; exact r13 h k hh hk
  · rw [h1]; intro h k hh hk; rw [ne _ (by omega) (by omega)]; exact r14 h k hh hk
  · rw [e2, ne _ (by omega) (by omega)]; exact r17
theorem qNF_wrk (R : qNF F I) (W : qWF F) {h p : Nat} : qNF (wrk F h p) (qup I 250 p (qj (bm 9 (fun q => if q = h then true else F.2 0 q p) : Nat))) := by
  refine qNF_w R W rfl (Or.inl rfl) (fun b hb => ?_) (fun b hb => ?_) rfl
  · rw [qup_at]
    by_cases e : b = p
    · rw [if_pos e, e]; congr 2; refine bm_ext (fun a _ => ?_)
      show _ = (if a = h ∧ p = p then true else F.2 0 a p)
      by_cases ea : a = h
      · rw [if_pos ea, if_pos ⟨ea, rfl⟩]
      · rw [if_neg ea, if_neg (fun x => ea x.1)]
    · rw [if_neg e, R.2.2.2.2.2.2.2.2.2.2.2.2.2.2.1 b hb]; congr 2; refine bm_ext (fun a _ => ?_)
      show _ = (if a = h ∧ b = p then true else F.2 0 a b)
      rw [if_neg (fun x => e x.2)]
  · rw [qup_ne (by omega)]; exact R.2.2.2.2.2.2.2.2.2.2.2.2.2.2.2.1 b hb
theorem qNF_qua (R : qNF F I) (W : qWF F) {h p : Nat} : qNF (qua F h p) (qup I 252 p (qj (bm 9 (fun q => if q = h then true else F.2 1 q p) : Nat))) := by
  refine qNF_w R W rfl (Or.inr rfl) (fun b hb => ?_) (fun b hb => ?_) rfl
  · rw [qup_ne (by omega)]; exact R.2.2.2.2.2.2.2.2.2.2.2.2.2.2.1 b hb
  · rw [qup_at]
    by_cases e : b = p
    · rw [if_pos e, e]; congr 2; refine bm_ext (fun a _ => ?_)
      show _ = (if a = h ∧ p = p then true else F.2 1 a p)
      by_cases ea : a = h
      · rw [if_pos ea, if_pos ⟨ea, rfl⟩]
      · rw [if_neg ea, if_neg (fun x => ea x.1)]
    · rw [if_neg e, R.2.2.2.2.2.2.2.2.2.2.2.2.2.2.2.1 b hb]; congr 2; refine bm_ext (fun a _ => ?_)
      show _ = (if a = h ∧ b = p then true else F.2 1 a b)
      rw [if_neg (fun x => e x.2)]
theorem rN_245 {J : Nat → Nat → Int32} (h : rF I J) : J 245 7 = I 245 7 := h.2 7 (by omega) (by omega) (by omega)
theorem m196 (hd : 5 ≤ d) (X : rX T n I i) (z : I 245 5 = qj 0) (R : qNF F I) (W : qWF F) : match aWks T n F i with
    | .inr r => ∃ J, qRun d 196 [.ref 245] (qw g I) (.inl (none, qw g J)) ∧ rX T n J r.2 ∧ J 245 5 = qj 0 ∧ qNF r.1 J ∧ rN I J ∧ J 245 7 = I 245 7
    | .inl e => ∃ J, qRun d 196 [.ref 245] (qw g I) (.inl (none, qw g J)) ∧ rE T n J e ∧ rN I J := by
  have h9 := W.1
  have h8 := W.2.1
  have r1' := R.1
  have q1 := m179 (d := d - 1 - 1) (g := g) (lo := 0) (hi := (F.1 0 0 : Int) - 1) (by omega) X z (by omega) (by omega)
  unfold aWks aHan
  cases h1 : aNum T n i 0 ((F.1 0 0 : Int) - 1) with
  | inl e =>
    rw [h1] at q1
    obtain ⟨J1, a1, a2, a3⟩ := q1
    refine ⟨J1, qRun_of fun Q hQ => b196_0 (by omega) ?_, a2, rN_f a3⟩
    rw [r1', qj_sub]
    exact ⟨_, _, a1, fun q => absurd q (rE_ne a2), fun _ => hQ⟩
  | inr r1 =>
    rw [h1] at q1
    obtain ⟨J1, a1, a2, az, a3⟩ := q1
    have x1 := aNum_b h1 X.2.1
    obtain ⟨J3, d1, d2, d3, d4, d5⟩ := m175 (d := d - 1 - 1) (g := g) (by omega) a2
    have e248 : J3 248 1 = qj (F.1 0 1) := by rw [d3.1 _ (by omega), a3.1 _ (by omega)]; exact R.2.1
    have q2 := m179 (d := d - 1 - 1) (g := g) (lo := 0) (hi := (F.1 0 1 : Int) - 1) (by omega) d2 (d4.trans az) (by omega) (by omega)
    rw [aNum_i x1.2.2.1] at q2
    simp only []
    cases h2 : aNum T n r1.2 0 ((F.1 0 1 : Int) - 1) with
    | inl e =>
      rw [h2] at q2
      obtain ⟨J4, b1, b2, b3⟩ := q2
      refine ⟨J4, qRun_of fun Q hQ => b196_0 (by omega) ?_, b2, rN_tr (rN_f a3) (rN_tr (rN_f d3) (rN_f b3))⟩
      rw [r1', qj_sub]
      refine ⟨_, _, a1, fun _ => ⟨_, d1, ?_⟩, fun q => absurd az q⟩
      rw [e248, qj_sub]
      exact ⟨_, _, b1, fun _ => ⟨fun _ => hQ, fun q => absurd (rE_ne b2) q⟩, fun q => absurd (rE_ne b2) q⟩
    | inr r2 =>
      rw [h2] at q2
      obtain ⟨J4, b1, b2, bz, b3⟩ := q2
      have x2 := aNum_b h2 x1.2.2.1
      have hh : r1.1 < F.1 0 0 := by omega
      have hp : r2.1 < F.1 0 1 := by omega
      have rn4 : rF I J4 := rF_tr a3 (rF_tr d3 b3)
      have R4 := qNF_f R W rn4
      have y1 := R4.2.2.2.2.2.1 r1.1 hh
      have y2 := R4.2.2.2.2.2.2.2.2.1 r2.1 hp
      have y3 := R4.2.2.2.2.2.2.2.2.2.2.2.2.2.2.1 r2.1 (by omega)
      have y4 := R4.2.2.2.2.2.2.2.2.2.2.2.2.2.2.2.1 r2.1 (by omega)
      have hb40 := (W.2.2.2.2.1 r1.1 hh).2.1
      have hn2 := (W.2.2.2.2.2.1 r2.1 hp).2.2.1
      have hcn := W.2.2.2.2.2.2.2.2.2.2.2 r2.1 hp
      have k172 := m172 (d := d - 1) (g := g) (I := J4) (by omega) (qj (bm 9 (fun h => F.2 0 h r2.1) : Nat))
      rw [qones (by omega)] at k172
      have hd4 := d2.2.2.2.1
      -- the fault
      obtain ⟨J9, w1, w2, w5, w6, w3⟩ := m176 (d := d - 1) (g := g) (by omega) b2 bz 2 (tBl T n r1.2)
      have w1' : qRun (d - 1) 176 [.ref 245, .int (qj 2), .int (qj (tBl T n r1.2 : Int))] (qw g J4) (.inl (none, qw g J9)) := w1
      have E9 : rE T n J9 (2, tBl T n r1.2) := ⟨(show ¬ (2 : Nat) = 0 by omega), (show (2 : Nat) ≤ 3 by omega), w5, w6, _, w2⟩
      have rn9 : rN I J9 := rN_f (rF_tr rn4 w3)
      have ne9 := rE_ne E9
      simp only []
      by_cases c1 : F.1 2 r1.1 = 0
      · cases c2 : F.2 0 r1.1 r2.1 with
        | true =>
          rw [if_pos (Or.inr (Or.inl rfl))]
          refine ⟨J9, qRun_of fun Q hQ => b196_0 (by omega) ?_, E9, rn9⟩
          rw [r1', qj_sub]
          refine ⟨_, _, a1, fun _ => ⟨_, d1, ?_⟩, fun q => absurd az q⟩
          rw [e248, qj_sub]
          refine ⟨_, _, b1, fun q => absurd bz q, fun _ => ?_⟩
          simp (disch := omega) only [qz0, qj_lt, qj_le, qj_eq, qtk, qfk, qbtt, qbft, qbtf, qbff, qIx_z, qj_nat, true_and, and_true, true_implies, false_implies, not_true_eq_false, not_false_eq_true, Bool.true_eq_false, Bool.false_eq_true, qj_sub, qinB_t, qinB_f, q2_e, qj_add, qj_s1, qj_c1, qj_c2, qj_c9, qj_c17, qj_c97, y1, y3, qhas_bm, c2, c1, hd4]
          exact ⟨_, w1', fun _ => hQ, fun q => absurd ne9 q⟩
        | false =>
          by_cases c4 : F.1 5 r2.1 ≤ cn 9 (fun h => F.2 0 h r2.1)
          · rw [if_pos (Or.inr (Or.inr (Or.inr c4)))]
            refine ⟨J9, qRun_of fun Q hQ => b196_0 (by omega) ?_, E9, rn9⟩
            rw [r1', qj_sub]
            refine ⟨_, _, a1, fun _ => ⟨_, d1, ?_⟩, fun q => absurd az q⟩
            rw [e248, qj_sub]
            refine ⟨_, _, b1, fun q => absurd bz q, fun _ => ?_⟩
            simp (disch := omega) only [qz0, qj_lt, qj_le, qj_eq, qtk, qfk, qbtt, qbft, qbtf, qbff, qIx_z, qj_nat, true_and, and_true, true_implies, false_implies, not_true_eq_false, not_false_eq_true, Bool.true_eq_false, Bool.false_eq_true, qj_sub, qinB_t, qinB_f, q2_e, qj_add, qj_s1, qj_c1, qj_c2, qj_c9, qj_c17, qj_c97, y1, y3, qhas_bm, c2, c1, hd4]
            refine ⟨_, _, k172, ?_⟩
            simp (disch := omega) only [qz0, qj_lt, qj_le, qj_eq, qtk, qfk, qbtt, qbft, qbtf, qbff, qIx_z, qj_nat, true_and, and_true, true_implies, false_implies, not_true_eq_false, not_false_eq_true, Bool.true_eq_false, Bool.false_eq_true, qj_sub, qinB_t, qinB_f, q2_e, qj_add, qj_s1, qj_c1, qj_c2, qj_c9, qj_c17, qj_c97, y2, hd4]
            exact ⟨_, w1', fun _ => hQ, fun q => absurd ne9 q⟩
          · cases c3 : F.2 1 r1.1 r2.1 with
            | true =>
              rw [if_pos (Or.inr (Or.inr (Or.inl rfl)))]
              refine ⟨J9, qRun_of fun Q hQ => b196_0 (by omega) ?_, E9, rn9⟩
              rw [r1', qj_sub]
              refine ⟨_, _, a1, fun _ => ⟨_, d1, ?_⟩, fun q => absurd az q⟩
              rw [e248, qj_sub]
              refine ⟨_, _, b1, fun q => absurd bz q, fun _ => ?_⟩
              simp (disch := omega) only [qz0, qj_lt, qj_le, qj_eq, qtk, qfk, qbtt, qbft, qbtf, qbff, qIx_z, qj_nat, true_and, and_true, true_implies, false_implies, not_true_eq_false, not_false_eq_true, Bool.true_eq_false, Bool.false_eq_true, qj_sub, qinB_t, qinB_f, q2_e, qj_add, qj_s1, qj_c1, qj_c2, qj_c9, qj_c17, qj_c97, y1, y3, qhas_bm, c2, c1, hd4]
              refine ⟨_, _, k172, ?_⟩
              simp (disch := omega) only [qz0, qj_lt, qj_le, qj_eq, qtk, qfk, qbtt, qbft, qbtf, qbff, qIx_z, qj_nat, true_and, and_true, true_implies, false_implies, not_true_eq_false, not_false_eq_true, Bool.true_eq_false, Bool.false_eq_true, qj_sub, qinB_t, qinB_f, q2_e, qj_add, qj_s1, qj_c1, qj_c2, qj_c9, qj_c17, qj_c97, y2, y4, qhas_bm, c3, hd4]
              exact ⟨_, w1', fun _ => hQ, fun q => absurd ne9 q⟩
            | false =>
              rw [if_neg (fun q => by
                rcases q with q | q | q | q
                · exact q c1
                · exact Bool.noConfusion q
                · exact Bool.noConfusion q
                · exact c4 q)]
              refine ⟨_, qRun_of fun Q hQ => b196_0 (by omega) ?_, rX_w b2 (by omega) (by omega), (by rw [qup_ne (by omega)]; exact bz), qNF_wrk R4 W (h := r1.1) (p := r2.1), rN_tr (rN_f rn4) (rN_w (by unfold rNa; omega)), (by rw [qup_ne (by omega)]; exact rN_245 rn4)⟩
              rw [r1', qj_sub]
              refine ⟨_, _, a1, fun _ => ⟨_, d1, ?_⟩, fun q => absurd az q⟩
              rw [e248, qj_sub]
              refine ⟨_, _, b1, fun q => absurd bz q, fun _ => ?_⟩
              simp (disch := omega) only [qz0, qj_lt, qj_le, qj_eq, qtk, qfk, qbtt, qbft, qbtf, qbff, qIx_z, qj_nat, true_and, and_true, true_implies, false_implies, not_true_eq_false, not_false_eq_true, Bool.true_eq_false, Bool.false_eq_true, qj_sub, qinB_t, qinB_f, q2_e, qj_add, qj_s1, qj_c1, qj_c2, qj_c9, qj_c17, qj_c97, y1, y3, qhas_bm, c2, c1]
              refine ⟨_, _, k172, ?_⟩
              simp (disch := omega) only [qz0, qj_lt, qj_le, qj_eq, qtk, qfk, qbtt, qbft, qbtf, qbff, qIx_z, qj_nat, true_and, and_true, true_implies, false_implies, not_true_eq_false, not_false_eq_true, Bool.true_eq_false, Bool.false_eq_true, qj_sub, qinB_t, qinB_f, q2_e, qj_add, qj_s1, qj_c1, qj_c2, qj_c9, qj_c17, qj_c97, y2, y3, y4, qhas_bm, c3, bm_set]
              exact ⟨fun q => absurd bz q, fun _ => hQ⟩
      · rw [if_pos (Or.inl c1)]
        refine ⟨J9, qRun_of fun Q hQ => b196_0 (by omega) ?_, E9, rn9⟩
        rw [r1', qj_sub]
        refine ⟨_, _, a1, fun _ => ⟨_, d1, ?_⟩, fun q => absurd az q⟩
        rw [e248, qj_sub]
        refine ⟨_, _, b1, fun q => absurd bz q, fun _ => ?_⟩
        simp (disch := omega) only [qz0, qj_lt, qj_le, qj_eq, qtk, qfk, qbtt, qbft, qbtf, qbff, qIx_z, qj_nat, true_and, and_true, true_implies, false_implies, not_true_eq_false, not_false_eq_true, Bool.true_eq_false, Bool.false_eq_true, qj_sub, qinB_t, qinB_f, q2_e, qj_add, qj_s1, qj_c1, qj_c2, qj_c9, qj_c17, qj_c97, y1, hd4]
        exact ⟨_, w1', fun _ => hQ, fun q => absurd ne9 q⟩
theorem m197 (hd : 5 ≤ d) (X : rX T n I i) (z : I 245 5 = qj 0) (R : qNF F I) (W : qWF F) : match aQua T n F i with
    | .inr r => ∃ J, qRun d 197 [.ref 245] (qw g I) (.inl (none, qw g J)) ∧ rX T n J r.2 ∧ J 245 5 = qj 0 ∧ qNF r.1 J ∧ rN I J ∧ J 245 7 = I 245 7
    | .inl e => ∃ J, qRun d 197 [.ref 245] (qw g I) (.inl (none, qw g J)) ∧ rE T n J e ∧ rN I J := by
  have h9 := W.1
  have h8 := W.2.1
  have r1' := R.1
  have q1 := m179 (d := d - 1 - 1) (g := g) (lo := 0) (hi := (F.1 0 0 : Int) - 1) (by omega) X z (by omega) (by omega)
  unfold aQua aHan
  cases h1 : aNum T n i 0 ((F.1 0 0 : Int) - 1) with
  | inl e =>
    rw [h1] at q1
    obtain ⟨J1, a1, a2, a3⟩ := q1
    refine ⟨J1, qRun_of fun Q hQ => b197_0 (by omega) ?_, a2, rN_f a3⟩
    rw [r1', qj_sub]
    exact ⟨_, _, a1, fun q => absurd q (rE_ne a2), fun _ => hQ⟩
  | inr r1 =>
    rw [h1] at q1
    obtain ⟨J1, a1, a2, az, a3⟩ := q1
    have x1 := aNum_b h1 X.2.1
    obtain ⟨J3, d1, d2, d3, d4, d5⟩ := m175 (d := d - 1 - 1) (g := g) (by omega) a2
    have e248 : J3 248 1 = qj (F.1 0 1) := by rw [d3.1 _ (by omega), a3.1 _ (by omega)]; exact R.2.1
    have q2 := m179 (d := d - 1 - 1) (g := g) (lo := 0) (hi := (F.1 0 1 : Int) - 1) (by omega) d2 (d4.trans az) (by omega) (by omega)
    rw [aNum_i x1.2.2.1] at q2
    simp only []
    cases h2 : aNum T n r1.2 0 ((F.1 0 1 : Int) - 1) with
    | inl e =>
      rw [h2] at q2
      obtain ⟨J4, b1, b2, b3⟩ := q2
      refine ⟨J4, qRun_of fun Q hQ => b197_0 (by omega) ?_, b2, rN_tr (rN_f a3) (rN_tr (rN_f d3) (rN_f b3))⟩
      rw [r1', qj_sub]
      refine ⟨_, _, a1, fun _ => ⟨_, d1, ?_⟩, fun q => absurd az q⟩
      rw [e248, qj_sub]
      exact ⟨_, _, b1, fun _ => ⟨fun _ => hQ, fun q => absurd (rE_ne b2) q⟩, fun q => absurd (rE_ne b2) q⟩
    | inr r2 =>
      rw [h2] at q2
      obtain ⟨J4, b1, b2, bz, b3⟩ := q2
      have x2 := aNum_b h2 x1.2.2.1
      have hh : r1.1 < F.1 0 0 := by omega
      have hp : r2.1 < F.1 0 1 := by omega
      have rn4 : rF I J4 := rF_tr a3 (rF_tr d3 b3)
      have R4 := qNF_f R W rn4
      have y3 := R4.2.2.2.2.2.2.2.2.2.2.2.2.2.2.1 r2.1 (by omega)
      have y4 := R4.2.2.2.2.2.2.2.2.2.2.2.2.2.2.2.1 r2.1 (by omega)
      have hd4 := d2.2.2.2.1
      obtain ⟨J9, w1, w2, w5, w6, w3⟩ := m176 (d := d - 1) (g := g) (by omega) b2 bz 2 (tBl T n r1.2)
      have w1' : qRun (d - 1) 176 [.ref 245, .int (qj 2), .int (qj (tBl T n r1.2 : Int))] (qw g J4) (.inl (none, qw g J9)) := w1
      have E9 : rE T n J9 (2, tBl T n r1.2) := ⟨(show ¬ (2 : Nat) = 0 by omega), (show (2 : Nat) ≤ 3 by omega), w5, w6, _, w2⟩
      have rn9 : rN I J9 := rN_f (rF_tr rn4 w3)
      have ne9 := rE_ne E9
      simp only []
      cases c2 : F.2 0 r1.1 r2.1 with
      | true =>
        rw [if_pos rfl]
        refine ⟨J9, qRun_of fun Q hQ => b197_0 (by omega) ?_, E9, rn9⟩
        rw [r1', qj_sub]
        refine ⟨_, _, a1, fun _ => ⟨_, d1, ?_⟩, fun q => absurd az q⟩
        rw [e248, qj_sub]
        refine ⟨_, _, b1, fun q => absurd bz q, fun _ => ?_⟩
        simp (disch := omega) only [qz0, qj_lt, qj_le, qj_eq, qtk, qfk, qbtt, qbft, qbtf, qbff, qIx_z, qj_nat, true_and, and_true, true_implies, false_implies, not_true_eq_false, not_false_eq_true, Bool.true_eq_false, Bool.false_eq_true, qj_sub, qinB_t, qinB_f, q2_e, qj_add, qj_s1, qj_c1, qj_c2, qj_c9, qj_c17, qj_c97, y3, qhas_bm, c2, hd4]
        exact ⟨_, w1', fun _ => hQ, fun q => absurd ne9 q⟩
      | false =>
        rw [if_neg Bool.false_ne_true]
        refine ⟨_, qRun_of fun Q hQ => b197_0 (by omega) ?_, rX_w b2 (by omega) (by omega), (by rw [qup_ne (by omega)]; exact bz), qNF_qua R4 W (h := r1.1) (p := r2.1), rN_tr (rN_f rn4) (rN_w (by unfold rNa; omega)), (by rw [qup_ne (by omega)]; exact rN_245 rn4)⟩
        rw [r1', qj_sub]
        refine ⟨_, _, a1, fun _ => ⟨_, d1, ?_⟩, fun q => absurd az q⟩
        rw [e248, qj_sub]
        refine ⟨_, _, b1, fun q => absurd bz q, fun _ => ?_⟩
        simp (disch := omega) only [qz0, qj_lt, qj_le, qj_eq, qtk, qfk, qbtt, qbft, qbtf, qbff, qIx_z, qj_nat, true_and, and_true, true_implies, false_implies, not_true_eq_false, not_false_eq_true, Bool.true_eq_false, Bool.false_eq_true, qj_sub, qinB_t, qinB_f, q2_e, qj_add, qj_s1, qj_c1, qj_c2, qj_c9, qj_c17, qj_c97, y3, y4, qhas_bm, c2, bm_set]
        exact ⟨fun q => absurd bz q, fun _ => hQ⟩
/-- another hand -/
theorem m195 (hd : 5 ≤ d) (X : rX T n I i) (z : I 245 5 = qj 0) (R : qNF F I) (W : qWF F) {h : Nat} (hh : h < F.1 0 0) : match aNum T n i 0 ((F.1 0 0 : Int) - 1) with
    | .inl e => ∃ J v, qRun d 195 [.ref 245, .int (qj h)] (qw g I) (.inl (some (.int v), qw g J)) ∧ rE T n J e ∧ rF I J
    | .inr q => if h = q.1 then ∃ J v, qRun d 195 [.ref 245, .int (qj h)] (qw g I) (.inl (some (.int v), qw g J)) ∧ rE T n J (2, tBl T n i) ∧ rF I J
      else ∃ J, qRun d 195 [.ref 245, .int (qj h)] (qw g I) (.inl (some (.int (qj (q.1 : Int))), qw g J)) ∧ rX T n J q.2 ∧ J 245 5 = qj 0 ∧ rF I J := by
  have h9 := W.1
  obtain ⟨J3, d1, d2, d3, d4, d5⟩ := m175 (d := d - 1 - 1) (g := g) (by omega) X
  have e248 : J3 248 0 = qj (F.1 0 0) := by rw [d3.1 _ (by omega)]; exact R.1
  have q2 := m179 (d := d - 1 - 1) (g := g) (lo := 0) (hi := (F.1 0 0 : Int) - 1) (by omega) d2 (d4.trans z) (by omega) (by omega)
  rw [aNum_i X.2.1] at q2
  cases h2 : aNum T n i 0 ((F.1 0 0 : Int) - 1) with
  | inl e =>
    rw [h2] at q2
    obtain ⟨J4, b1, b2, b3⟩ := q2
    refine ⟨J4, qj 0, qRun_of fun Q hQ => b195_0 (by omega) ⟨fun _ => ⟨_, d1, ?_⟩, fun q => absurd z q⟩, b2, rF_tr d3 b3⟩
    rw [e248, qj_sub]
    exact ⟨_, _, b1, fun _ => hQ, fun q => absurd (rE_ne b2) q⟩
  | inr q =>
    rw [h2] at q2
    obtain ⟨J4, b1, b2, bz, b3⟩ := q2
    have x2 := aNum_b h2 X.2.1
    have hd4 := d2.2.2.2.1
    simp only []
    by_cases c : h = q.1
    · rw [if_pos c]
      obtain ⟨J9, w1, w2, w5, w6, w3⟩ := m176 (d := d - 1) (g := g) (by omega) b2 bz 2 (tBl T n i)
      have w1' : qRun (d - 1) 176 [.ref 245, .int (qj 2), .int (qj (tBl T n i : Int))] (qw g J4) (.inl (none, qw g J9)) := w1
      refine ⟨J9, qj (q.1 : Int), qRun_of fun Q hQ => b195_0 (by omega) ⟨fun _ => ⟨_, d1, ?_⟩, fun q => absurd z q⟩, ⟨(show ¬ (2 : Nat) = 0 by omega), (show (2 : Nat) ≤ 3 by omega), w5, w6, _, w2⟩, rF_tr d3 (rF_tr b3 w3)⟩
      rw [e248, qj_sub, hd4]
      refine ⟨_, _, b1, fun q => absurd bz q, fun _ => ⟨fun q => absurd (by rw [c]) q, fun _ => ⟨_, w1', hQ⟩⟩⟩
    · rw [if_neg c]
      refine ⟨J4, qRun_of fun Q hQ => b195_0 (by omega) ⟨fun _ => ⟨_, d1, ?_⟩, fun q => absurd z q⟩, b2, bz, rF_tr d3 b3⟩
      rw [e248, qj_sub]
      refine ⟨_, _, b1, fun q => absurd bz q, fun _ => ⟨fun _ => hQ, fun q => absurd (fun e => c ?_) q⟩⟩
      rw [qj_eq (by omega) (by omega) (by omega) (by omega)] at e
      omega
end FAMM2
