/-! ===== how the reference holds family, state, law; what is only read ===== -/
def qMF (F : qFam) (I : Nat → Nat → Int32) : Prop :=
  I 249 0 = qj (F.1 0 0) ∧ I 249 1 = qj (F.1 0 1) ∧ I 249 2 = qj (F.1 0 2) ∧ I 249 3 = qj (F.1 0 3) ∧
  (∀ h, h < F.1 0 0 → I (266 + 1 + h) 1 = qj (F.1 2 h)) ∧ (∀ h, h < F.1 0 0 → I (266 + 1 + h) 2 = qj (F.1 3 h)) ∧
  (∀ p, p < F.1 0 1 → I (285 + 1 + p) 0 = qj (F.1 4 p)) ∧ (∀ p, p < F.1 0 1 → I (285 + 1 + p) 1 = qj (F.1 5 p)) ∧ (∀ p, p < F.1 0 1 → I (285 + 1 + p) 2 = qj (F.1 6 p)) ∧
  (∀ a, a < F.1 0 2 → I (301 + 1 + a) 0 = qj (F.1 7 a)) ∧ (∀ a, a < F.1 0 2 → I (301 + 1 + a) 1 = qj (F.1 8 a)) ∧ (∀ a i, a < F.1 0 2 → i < F.1 8 a → I (301 + 1 + a) (2 + i) = qj (F.1 (10 + a) i)) ∧
  (∀ h g, h < 9 → g < 9 → I (318 + 1 + h) g = qj (F.1 (20 + h) g)) ∧
  (∀ p, p < 8 → I 251 p = qj (bm 9 (fun h => F.2 0 h p) : Nat)) ∧ (∀ p, p < 8 → I 253 p = qj (bm 9 (fun h => F.2 1 h p) : Nat)) ∧ ∀ h, h < 9 → I 255 h = qj (bm 9 (F.2 2 h) : Nat)
/-- the limps, by the state -/
def qMl (F : qFam) (I : Nat → Nat → Int32) (S : qSt) : Prop := ∀ h, h < F.1 0 0 → I (266 + 1 + h) 0 = qj (S.1 1 h)
def qMS (F : qFam) (I : Nat → Nat → Int32) (r : Nat) (S : qSt) : Prop :=
  I r 0 = qj (bm 9 S.2.2 : Nat) ∧ (∀ p, p < 8 → I r (1 + p) = qj (bm 9 (fun h => S.2.1 h p) : Nat)) ∧ (∀ p, p < F.1 0 1 → I r (9 + p) = qj (S.1 3 p)) ∧ (∀ p, p < 8 → I r (17 + p) = qj ((S.1 4 p : Int) - 1)) ∧
  (∀ h p, h < 9 → p < 8 → I r (25 + 8 * h + p) = qj ((S.1 (5 + h) p : Int) - 1)) ∧ (∀ h, h < 9 → I r (97 + h) = qj ((S.1 2 h : Int) - 1)) ∧ I r 106 = qj (S.1 0 0)
def qL0 : qLw := (9, fun i => [1000, 2, 2004, 1003, 3, 2004, 2003, 1008, 2002].getD i 0)
def aKd (w : Nat) : Nat := if w < 1000 then 0 else if w < 2000 then 1 else if w < 2002 then w - 1993 else w - 2000
def aVl (w : Nat) : Nat := if w < 1000 then w else if w < 2000 then w - 1000 else 0
def qML (L : qLw) (I : Nat → Nat → Int32) : Prop := (I 245 27 = qj 0 ∧ L = qL0) ∨ (0 < L.1 ∧ I 245 27 = qj (L.1 : Int) ∧ ∀ i, i < L.1 → I (328 + 1 + i) 0 = qj (aKd (L.2 i) : Int) ∧ I (328 + 1 + i) 1 = qj (aVl (L.2 i) : Int))
theorem qMF_cg {F : qFam} {I J : Nat → Nat → Int32} (h : qMF F I) (e : ∀ a, 249 ≤ a → a < 328 → J a = I a) (W : qWF F) : qMF F J := by
  obtain ⟨h1, h2, h3, h4, h5, h6, h7, h8, h9, h10, h11, h12, h13, h14, h15, h16⟩ := h
  have w1 := W.1
  have w2 := W.2.1
  have w3 := W.2.2.1
  refine ⟨?_, ?_, ?_, ?_, ?_, ?_, ?_, ?_, ?_, ?_, ?_, ?_, ?_, ?_, ?_, ?_⟩
  · rw [e _ (by omega) (by omega)]; exact h1
  · rw [e _ (by omega) (by omega)]; exact h2
  · rw [e _ (by omega) (by omega)]; exact h3
  · rw [e _ (by omega) (by omega)]; exact h4
  · intro h hh; rw [e _ (by omega) (by omega)]; exact h5 h hh
  · intro h hh; rw [e _ (by omega) (by omega)]; exact h6 h hh
  · intro h hh; rw [e _ (by omega) (by omega)]; exact h7 h hh
  · intro h hh; rw [e _ (by omega) (by omega)]; exact h8 h hh
  · intro h hh; rw [e _ (by omega) (by omega)]; exact h9 h hh
  · intro h hh; rw [e _ (by omega) (by omega)]; exact h10 h hh
  · intro h hh; rw [e _ (by omega) (by omega)]; exact h11 h hh
  · intro a i ha hi; rw [e _ (by omega) (by omega)]; exact h12 a i ha hi
  · intro h g hh hg; rw [e _ (by omega) (by omega)]; exact h13 h g hh hg
  · rw [e _ (by omega) (by omega)]; exact h14
  · rw [e _ (by omega) (by omega)]; exact h15
  · rw [e _ (by omega) (by omega)]; exact h16
theorem qMl_cg {F : qFam} {I J : Nat → Nat → Int32} {S : qSt} (h : qMl F I S) (e : ∀ a, 266 ≤ a → a < 276 → J a = I a) (W : qWF F) : qMl F J S := fun k hk => by
  have := W.1
  rw [e _ (by omega) (by omega)]; exact h k hk
theorem qMS_cg {F : qFam} {I J : Nat → Nat → Int32} {r : Nat} {S : qSt} (h : qMS F I r S) (e : J r = I r) : qMS F J r S := by
  unfold qMS at h ⊢; rw [e]; exact h
theorem qML_cg {L : qLw} {I J : Nat → Nat → Int32} (h : qML L I) (W : qWL L) (e : J 245 27 = I 245 27) (e2 : ∀ a, 328 ≤ a → a < 489 → J a = I a) : qML L J := by
  have w := W.1
  rcases h with ⟨h1, h2⟩ | ⟨h1, h2, h3⟩
  · exact Or.inl ⟨e.trans h1, h2⟩
  · refine Or.inr ⟨h1, e.trans h2, fun i hi => ?_⟩
    rw [e2 _ (by omega) (by omega)]; exact h3 i hi
def qisR (r : Nat) : Prop := r = 677 ∨ r = 678 ∨ r = 679 ∨ r = 682 ∨ r = 683 ∨ r = 684 ∨ r = 685 ∨ r = 686
theorem qisR_sh {L r : Nat} (h : qisR r) : qSH L r = (1, 107) := by rcases h with rfl | rfl | rfl | rfl | rfl | rfl | rfl | rfl <;> rfl
theorem qj_c1 (p : Nat) : qj (1 + (p : Int)) = qj ((1 + p : Nat) : Int) := rfl
theorem qj_c2 (p : Nat) : qj (2 + (p : Int)) = qj ((2 + p : Nat) : Int) := rfl
theorem qj_c9 (p : Nat) : qj (9 + (p : Int)) = qj ((9 + p : Nat) : Int) := rfl
theorem qj_c17 (p : Nat) : qj (17 + (p : Int)) = qj ((17 + p : Nat) : Int) := rfl
theorem qj_c97 (p : Nat) : qj (97 + (p : Int)) = qj ((97 + p : Nat) : Int) := rfl
theorem qj_c25 (h p : Nat) : qj (25 + 8 * (h : Int) + (p : Int)) = qj ((25 + 8 * h + p : Nat) : Int) := rfl
theorem qor_0 (n : Nat) : qj (n : Int) ||| qj 0 = qj (n : Int) := by
  have := qj_or n 0
  rw [Nat.or_zero] at this; exact this
theorem qones {n : Nat} (hn : n ≤ 9) (p : Nat → Bool) : cn 9 (fun k => qhas (qj (bm n p : Nat)) (qj (k : Int))) = cn n p := by
  rw [← cn_mono p 9 hn]
  refine cn_ext (fun k hk => ?_)
  rw [qhas_n _ (by omega), bm_tb]
theorem qdiv_m1 (x : Int32) : x / qj (-1) = -x := by
  rw [← Int32.toInt_inj, Int32.toInt_div, Int32.toInt_neg]
  have : (qj (-1)).toInt = -1 := by decide
  rw [this]
  congr 1
  rw [show (-1 : Int) = -(1 : Int) from rfl, Int.tdiv_neg, Int.tdiv_one]
theorem qmod_m1 (x : Int32) : x - x / qj (-1) * qj (-1) = qj 0 := by
  rw [qdiv_m1, ← qj_of x, qj_neg, qj_mul, qj_sub]
  congr 1
  omega
def aKinM (F : qFam) (S : qSt) (p h : Nat) : Bool := anb (F.1 0 1) (fun q => !(q == p) && S.2.1 h q && anb 9 (fun g => S.2.1 g q && (S.2.1 g p || S.1 4 p == g + 1) && !(g == h)))
theorem aKinM_eq {F : qFam} {S : qSt} (W : qWF F) (WS : qWS F S) (p h : Nat) : aKinM F S p h = aKin F S p h := by
  have h9 := W.1
  have h8 := W.2.1
  have v3 := WS.1
  unfold aKinM aKin
  rw [Bool.eq_iff_iff, anb_iff, anb_iff]
  constructor
  · rintro ⟨q, hq, e⟩
    rw [Bool.and_eq_true, Bool.and_eq_true, anb_iff] at e
    obtain ⟨⟨e1, e2⟩, g, hg, e3⟩ := e
    rw [Bool.and_eq_true, Bool.and_eq_true] at e3
    obtain ⟨⟨e4, e5⟩, e6⟩ := e3
    refine ⟨g, (v3 g q e4).1, ?_⟩
    rw [Bool.and_eq_true, Bool.and_eq_true, anb_iff]
    refine ⟨⟨e6, e5⟩, q, by omega, ?_⟩
    rw [e1, e2, e4]; rfl
  · rintro ⟨g, hg, e⟩
    rw [Bool.and_eq_true, Bool.and_eq_true, anb_iff] at e
    obtain ⟨⟨e1, e2⟩, q, hq, e3⟩ := e
    rw [Bool.and_eq_true, Bool.and_eq_true] at e3
    obtain ⟨⟨e4, e5⟩, e6⟩ := e3
    refine ⟨q, (v3 h q e5).2, ?_⟩
    rw [Bool.and_eq_true, Bool.and_eq_true, anb_iff]
    refine ⟨⟨e4, e5⟩, g, by omega, ?_⟩
    rw [e1, e2, e6]; rfl
section REF1
variable {d : Nat} {g : qG1} {I : Nat → Nat → Int32} {F : qFam} {S : qSt} {L : qLw} {r : Nat}
theorem m172 (hd : 1 ≤ d) (x : Int32) : qRun d 172 [.int x] (qw g I) (.inl (some (.int (qj (cn 9 (fun k => qhas x (qj (k : Int))) : Nat))), qw g I)) := by
  refine qRun_of fun Q hQ => b172_0 (by omega) ?_
  have L : ∀ i, i ≤ 9 → qwq d 172 4 [(0, .int x), (1, .int (qj (cn i (fun k => qhas x (qj (k : Int))) : Nat))), (2, .int (qj i))] [] (qw g I) Q := by
    refine upto 9 (b172_4 (by omega) ⟨fun _ => hQ, fun c => absurd (Int32.le_refl _) c⟩) (fun i hi ih => b172_4 (by omega) ?_)
    simp (disch := omega) only [qj_le, qshr1]
    refine ⟨fun c => by omega, fun _ => ?_⟩
    cases c : qhas x (qj (i : Int)) with
    | false =>
      rw [cn_sf (P := fun k => qhas x (qj (k : Int))) c] at ih
      rw [qb_f, qj_add, qj_add, Int.add_zero]; exact ih
    | true =>
      rw [cn_st (P := fun k => qhas x (qj (k : Int))) c] at ih
      rw [qb_t, qj_add, qj_add]; exact ih
  exact L 0 (Nat.zero_le _)
theorem m218 (hd : 2 ≤ d) (hr : qisR r) (MF : qMF F I) (W : qWF F) (R : qMS F I r S) (hy : S.1 0 0 ≤ 1000) {h : Nat} (hh : h < F.1 0 0) : qRun d 218 [.ref 245, .ref r, .int (qj h)] (qw g I) (.inl (some (.int (qb (aAl F S h))), qw g I)) := by
  refine qRun_of fun Q hQ => b218_0 (qisR_sh hr) (by omega) ?_
  have hw := W.2.2.2.2.1 h hh
  have h9 := W.1
  obtain ⟨s1, s2, s3, s4, s5, s6, s7⟩ := R
  obtain ⟨f1, f2, f3, f4, f5, -⟩ := MF
  simp (disch := omega) only [qIx_z, qj_nat, q2_e, s1, s7, f5, qj_lt, qhas_bm, true_and]
  refine ⟨fun c => qQ_b ?_ hQ, fun c => ⟨fun e => qQ_b ?_ hQ, fun e => qQ_b ?_ hQ⟩⟩
  · unfold aAl; rw [decide_eq_false (by omega)]; rfl
  · unfold aAl; rw [e]; exact Bool.and_false _
  · unfold aAl; rw [e, decide_eq_true (by omega)]; rfl
theorem m219 (hd : 3 ≤ d) (hr : qisR r) (MF : qMF F I) (W : qWF F) (R : qMS F I r S) (hy : S.1 0 0 ≤ 1000) : qRun d 219 [.ref 245, .ref r] (qw g I) (.inl (some (.int (qj (bm (F.1 0 0) (aAl F S) : Nat))), qw g I)) := by
  refine qRun_of fun Q hQ => b219_0 (qisR_sh hr) (by omega) ?_
  have f1 := MF.1
  have h9 := W.1
  have L : ∀ i, i ≤ F.1 0 0 → qwq d 219 4 [(0, .ref 245), (1, .ref r), (2, .int (qj (bm i (aAl F S) : Nat))), (3, .int (qj i))] [] (qw g I) Q := by
    refine upto _ (b219_4 (qisR_sh hr) (by omega) ?_) (fun i hi ih => b219_4 (qisR_sh hr) (by omega) ?_)
    · simp (disch := omega) only [f1, qj_le]
      exact ⟨fun _ => hQ, fun c => by omega⟩
    · simp (disch := omega) only [f1, qj_le, qor_0, qj_add, qj_s1]
      refine ⟨fun c => by omega, fun _ => ⟨_, _, m218 (by omega) hr MF W R hy hi, fun c => ?_, fun c => ?_⟩⟩
      · rw [bm_sf (P := aAl F S) c] at ih; exact ih
      · rw [bm_st (P := aAl F S) c (by omega)]; exact ih
  exact L 0 (Nat.zero_le _)
theorem m220 (hd : 1 ≤ d) (hr : qisR r) (MF : qMF F I) (W : qWF F) (R : qMS F I r S) : qRun d 220 [.ref 245, .ref r] (qw g I) (.inl (some (.int (qj (sm (F.1 0 1) (S.1 3) : Nat))), qw g I)) := by
  refine qRun_of fun Q hQ => b220_0 (qisR_sh hr) (by omega) ?_
  have f2 := MF.2.1
  have h8 := W.2.1
  have s3 := R.2.2.1
  have L : ∀ i, i ≤ F.1 0 1 → qwq d 220 4 [(0, .ref 245), (1, .ref r), (2, .int (qj (sm i (S.1 3) : Nat))), (3, .int (qj i))] [] (qw g I) Q := by
    refine upto _ (b220_4 (qisR_sh hr) (by omega) ?_) (fun i hi ih => b220_4 (qisR_sh hr) (by omega) ?_)
    · simp (disch := omega) only [f2, qj_le]
      exact ⟨fun _ => hQ, fun c => by omega⟩
    · simp (disch := omega) only [f2, qj_le, qj_add, qj_c9, qIx_z, qj_nat, s3, qj_s1]
      exact ⟨fun c => by omega, fun _ => ⟨trivial, ih⟩⟩
  exact L 0 (Nat.zero_le _)
theorem m222 (hd : 2 ≤ d) (hr : qisR r) (MF : qMF F I) (W : qWF F) (R : qMS F I r S) (WS : qWS F S) {h : Nat} (hh : h < F.1 0 0) : qRun d 222 [.ref 245, .ref r, .int (qj h)] (qw g I) (.inl (some (.int (qj (bm 8 (S.2.1 h) : Nat))), qw g I)) := by
  refine qRun_of fun Q hQ => b222_0 (qisR_sh hr) (by omega) ?_
  have f2 := MF.2.1
  have h8 := W.2.1
  have h9 := W.1
  have s2 := R.2.1
  have hfin : bm (F.1 0 1) (S.2.1 h) = bm 8 (S.2.1 h) := by
    rw [← bm_up (F.1 0 1) (S.2.1 h) 8 h8]
    refine bm_ext (fun k hk => ?_)
    cases e : S.2.1 h k with
    | false => simp
    | true => simp [(WS.1 h k e).2]
  have L : ∀ i, i ≤ F.1 0 1 → qwq d 222 5 [(0, .ref 245), (1, .ref r), (2, .int (qj h)), (3, .int (qj (bm i (S.2.1 h) : Nat))), (4, .int (qj i))] [] (qw g I) Q := by
    refine upto _ (b222_5 (qisR_sh hr) (by omega) ?_) (fun i hi ih => b222_5 (qisR_sh hr) (by omega) ?_)
    · simp (disch := omega) only [f2, qj_le, hfin]
      exact ⟨fun _ => hQ, fun c => by omega⟩
    · simp (disch := omega) only [f2, qj_le, qj_add, qj_c1, qIx_z, qj_nat, s2, qhas_bm, qor_0, qj_s1]
      refine ⟨fun c => by omega, fun _ => ⟨trivial, fun c => ?_, fun c => ?_⟩⟩
      · rw [bm_sf (P := S.2.1 h) c] at ih; exact ih
      · rw [bm_st (P := S.2.1 h) c (by omega)]; exact ih
  exact L 0 (Nat.zero_le _)
theorem m224 (hd : 2 ≤ d) (hr : qisR r) (MF : qMF F I) (W : qWF F) (R : qMS F I r S) {p : Nat} (hp : p < F.1 0 1) : qRun d 224 [.ref 245, .ref r, .int (qj p)] (qw g I) (.inl (some (.int (qj (aLk F S p))), qw g I)) := by
  refine qRun_of fun Q hQ => b224_0 (qisR_sh hr) (by omega) ?_
  have hw := W.2.2.2.2.2.1 p hp
  have h8 := W.2.1
  have hc := cn_le 9 (fun h => S.2.1 h p)
  have s2 := R.2.1 p (by omega)
  have f8 := MF.2.2.2.2.2.2.2.1 p hp
  simp (disch := omega) only [qj_add, qj_c1, qIx_z, qj_nat, s2, q2_e, f8, true_and]
  have k := m172 (d := d - 1) (g := g) (I := I) (by omega) (qj (bm 9 (fun h => S.2.1 h p) : Nat))
  rw [qones (by omega)] at k
  refine ⟨_, _, k, ?_⟩
  simp (disch := omega) only [f8, qj_sub, qmax_z]
  exact qQ_z (by unfold aLk; omega) hQ
theorem m228 (hd : 2 ≤ d) (hr : qisR r) (MF : qMF F I) (W : qWF F) (R : qMS F I r S) (WS : qWS F S) {p h : Nat} (hp : p < F.1 0 1) (hh : h < F.1 0 0) : qRun d 228 [.ref 245, .ref r, .int (qj p), .int (qj h)] (qw g I) (.inl (some (.int (qb (aKin F S p h))), qw g I)) := by
  refine qRun_of fun Q hQ => b228_0 (qisR_sh hr) (by omega) ?_
  have h9 := W.1
  have h8 := W.2.1
  have v4 := WS.2.2.2 p
  have f2 := MF.2.1
  obtain ⟨s1, s2, s3, s4, s5, s6, s7⟩ := R
  let Wi : Nat → Bool := fun k => S.2.1 k p || S.1 4 p == k + 1
  have L : ∀ i, i ≤ F.1 0 1 → anb i (fun q => !(q == p) && S.2.1 h q && anb 9 (fun k => S.2.1 k q && Wi k && !(k == h))) = false →
      qwq d 228 33 [(0, .ref 245), (1, .ref r), (2, .int (qj p)), (3, .int (qj h)), (4, .int (qj (bm 9 Wi : Nat))), (5, .int (qj i))] [] (qw g I) Q := by
    refine upto (P := fun i => anb i (fun q => !(q == p) && S.2.1 h q && anb 9 (fun k => S.2.1 k q && Wi k && !(k == h))) = false → _) _ (fun hn => b228_33 (qisR_sh hr) (by omega) ?_) (fun i hi ih hn => b228_33 (qisR_sh hr) (by omega) ?_)
    · have e : aKin F S p h = false := by rw [← aKinM_eq W WS]; exact hn
      rw [e] at hQ
      simp (disch := omega) only [f2, qj_le]
      exact ⟨fun _ => hQ, fun c => by omega⟩
    · have step : (!(i == p) && S.2.1 h i && anb 9 (fun k => S.2.1 k i && Wi k && !(k == h))) = false → qwq d 228 33 [(0, .ref 245), (1, .ref r), (2, .int (qj p)), (3, .int (qj h)), (4, .int (qj (bm 9 Wi : Nat))), (5, .int (qj ((i + 1 : Nat) : Int)))] [] (qw g I) Q := fun e => ih (by rw [anb, hn, e]; rfl)
      have done : (!(i == p) && S.2.1 h i && anb 9 (fun k => S.2.1 k i && Wi k && !(k == h))) = true → Q (.inl (some (.int (qj 1)), qw g I)) := fun e => by
        have e2 : aKin F S p h = true := by rw [← aKinM_eq W WS]; exact (anb_iff _ _).mpr ⟨i, hi, e⟩
        rw [e2] at hQ; exact hQ
      simp (disch := omega) only [f2, qj_le, qj_eq, qj_add, qj_c1, qIx_z, qj_nat, s2, qhas_bm, qbm_and, qshl1b 9 (show h < 9 by omega), qj_clr, qz0, qbm_eq0, qj_s1, true_and]
      have hZ : (∀ k, k < 9 → ((S.2.1 k i && Wi k) && !(decide (k < 9) && k == h)) = false) ↔ anb 9 (fun k => S.2.1 k i && Wi k && !(k == h)) = false := by
        rw [anb_false]
        exact ⟨fun q k hk => by have := q k hk; simp only [hk, decide_true, Bool.true_and] at this; exact this, fun q k hk => by simp only [hk, decide_true, Bool.true_and]; exact q k hk⟩
      rw [hZ]
      refine ⟨fun c => by omega, fun _ => ⟨fun c => step ?_, fun c => ⟨fun o => step ?_, fun o => ⟨fun z => step ?_, fun z => done ?_⟩⟩⟩⟩
      · rw [show (i == p) = true from beq_iff_eq.mpr (by omega)]; rfl
      · rw [o, Bool.and_false]; rfl
      · rw [z, Bool.and_false]
      · have c2 : (i == p) = false := by rw [beq_eq_false_iff_ne]; omega
        rw [Bool.not_eq_false] at z
        rw [c2, o, z]; rfl
  simp (disch := omega) only [qj_add, qj_c1, qj_c17, qIx_z, qj_nat, s2, s4, qj_eq, qor_0, true_and]
  refine ⟨fun c => ?_, fun c => ?_⟩
  · obtain ⟨k, hk⟩ : ∃ k, S.1 4 p = k + 1 := ⟨S.1 4 p - 1, by omega⟩
    have z : ((k + 1 : Nat) : Int) - 1 = k := by omega
    rw [hk, z, qshl1b 9 (show k < 9 by omega) (by omega), qbm_or]
    have e : (fun j => S.2.1 j p || j == k) = Wi := by
      funext j
      show _ = (S.2.1 j p || S.1 4 p == j + 1)
      rw [hk]
      congr 1
      rw [Bool.eq_iff_iff, beq_iff_eq, beq_iff_eq]; omega
    rw [e]
    exact L 0 (Nat.zero_le _) rfl
  · have hk : S.1 4 p = 0 := by omega
    have e : (fun j => S.2.1 j p) = Wi := by
      funext j
      show _ = (S.2.1 j p || S.1 4 p == j + 1)
      rw [hk]
      have : ((0 : Nat) == j + 1) = false := by rw [beq_eq_false_iff_ne]; omega
      rw [this, Bool.or_false]
    rw [e]
    exact L 0 (Nat.zero_le _) rfl
theorem m211 (hd : 2 ≤ d) {w : Nat} {a b : Int32} (hw : 2000 ≤ w) (hw2 : w ≤ 2006) : qRun d 211 [.int (qj (aKd w)), .int a, .int b] (qw g I) (.inl (some (.int (aJoin w a b)), qw g I)) := by
  refine qRun_of fun Q hQ => b211_0 (by omega) ?_
  unfold aJoin at hQ
  have hv : w = 2000 ∨ w = 2001 ∨ w = 2002 ∨ w = 2003 ∨ w = 2004 ∨ w = 2005 ∨ w = 2006 := by omega
  rcases hv with rfl | rfl | rfl | rfl | rfl | rfl | rfl
  · rw [show aKd 2000 = 7 from rfl]; simp (disch := omega) only [qj_eq]
    exact ⟨fun c => by omega, fun _ => ⟨fun c => by omega, fun _ => ⟨fun c => by omega, fun _ => ⟨fun c => by omega, fun _ => ⟨fun c => by omega, fun _ => ⟨fun _ => hQ, fun c => absurd rfl c⟩⟩⟩⟩⟩⟩
  · rw [show aKd 2001 = 8 from rfl]; simp (disch := omega) only [qj_eq]
    exact ⟨fun c => by omega, fun _ => ⟨fun c => by omega, fun _ => ⟨fun c => by omega, fun _ => ⟨fun c => by omega, fun _ => ⟨fun c => by omega, fun _ => ⟨fun c => by omega, fun _ => hQ⟩⟩⟩⟩⟩⟩
  · rw [show aKd 2002 = 2 from rfl]; simp (disch := omega) only [qj_eq]
    exact ⟨fun _ => hQ, fun c => absurd rfl c⟩
  · rw [show aKd 2003 = 3 from rfl]; simp (disch := omega) only [qj_eq]
    exact ⟨fun c => by omega, fun _ => ⟨fun _ => hQ, fun c => absurd rfl c⟩⟩
  · rw [show aKd 2004 = 4 from rfl]; simp (disch := omega) only [qj_eq]
    exact ⟨fun c => by omega, fun _ => ⟨fun c => by omega, fun _ => ⟨fun _ => hQ, fun c => absurd rfl c⟩⟩⟩
  · rw [show aKd 2005 = 5 from rfl]; simp (disch := omega) only [qj_eq]
    refine ⟨fun c => by omega, fun _ => ⟨fun c => by omega, fun _ => ⟨fun c => by omega, fun _ => ⟨fun _ => ⟨fun z => ⟨fun m => ⟨z, ?_⟩, fun m => ?_⟩, fun z => ?_⟩, fun c => absurd rfl c⟩⟩⟩⟩
    · simp only [z] at hQ; exact hQ
    · simp only [z] at hQ
      have m := Classical.not_not.mp m
      have hQ : Q (.inl (some (.int (a / b)), qw g I)) := hQ
      rw [m, qdiv_m1] at hQ; exact hQ
    · simp only [Classical.not_not.mp z] at hQ; exact hQ
  · rw [show aKd 2006 = 6 from rfl]; simp (disch := omega) only [qj_eq]
    refine ⟨fun c => by omega, fun _ => ⟨fun c => by omega, fun _ => ⟨fun c => by omega, fun _ => ⟨fun c => by omega, fun _ => ⟨fun _ => ⟨fun z => ?_, fun z => ⟨fun m => ⟨z, ?_⟩, fun m => ?_⟩⟩, fun c => absurd rfl c⟩⟩⟩⟩⟩
    · simp only [z] at hQ; exact hQ
    · simp only [z] at hQ; exact hQ
    · simp only [z] at hQ
      have m := Classical.not_not.mp m
      have hQ : Q (.inl (some (.int (a - a / b * b)), qw g I)) := hQ
      rw [m, qmod_m1] at hQ; exact hQ
end REF1
