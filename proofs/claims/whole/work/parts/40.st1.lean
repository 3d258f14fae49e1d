/-! ===== the class' states: what is only read ===== -/
section ST1
variable {d : Nat} {g : qG1} {I : Nat → Nat → Int32} {F : qFam} {S : qSt} {f s : Nat}
theorem qQ_b {Q : qR → Prop} {b c : Bool} {M : qM} (e : b = c) (h : Q (.inl (some (.int (qb b)), M))) : Q (.inl (some (.int (qb c)), M)) := by subst e; exact h
theorem qQ_z {Q : qR → Prop} {b c : Int} {M : qM} (e : b = c) (h : Q (.inl (some (.int (qj b)), M))) : Q (.inl (some (.int (qj c)), M)) := by subst e; exact h
theorem c58 (hd : 2 ≤ d) (hs : qisS s) (R : qRS F I s S) {p : Nat} (hp : p < 8) : qRun d 58 [.ref s, .int (qj p)] (qw g I) (.inl (some (.int (qj (bm 9 (fun h => S.2.1 h p) : Nat))), qw g I)) := by
  refine qRun_of fun Q hQ => b58_0 hs hd ?_
  have r4 := R.2.2.2.1
  have L : ∀ i, i ≤ 9 → qwq d 58 4 [(0, .ref s), (1, .int (qj p)), (2, .int (qj (bm i (fun h => S.2.1 h p) : Nat))), (3, .int (qj i))] [] (qw g I) Q := by
    refine upto 9 ?_ (fun i hi ih => ?_)
    · refine b58_4 hs hd ⟨fun _ => hQ, fun c => absurd (Int32.le_refl _) c⟩
    · refine b58_4 hs hd ?_
      simp (disch := omega) only [qj_le, qIx_z, qj_nat, r4, qhas_bm, qj_add, qj_s1]
      refine ⟨fun c => by omega, fun _ => ⟨trivial, fun c => ?_, fun c => ?_⟩⟩
      · rw [bm_sf (P := fun h => S.2.1 h p) c] at ih; exact ih
      · rw [bm_st (P := fun h => S.2.1 h p) c (by omega)]; exact ih
  exact L 0 (Nat.zero_le _)
theorem c54 (hd : 2 ≤ d) (hs : qisS s) (hf : qisF f) (RF : qRF F I f) (W : qWF F) (R : qRS F I s S) (hy : S.1 0 0 ≤ 1000) {h : Nat} (hh : h < F.1 0 0) : qRun d 54 [.ref s, .ref f, .int (qj h)] (qw g I) (.inl (some (.int (qb (aAl F S h))), qw g I)) := by
  refine qRun_of fun Q hQ => b54_0 hf hs hd ?_
  obtain ⟨s1, s2, s3, s4, s5, s6, s7, s8⟩ := R
  obtain ⟨f1, f2, f3, f4, f5, f6, -⟩ := RF
  have hw := W.2.2.2.2.1 h hh
  have h9 := W.1
  simp (disch := omega) only [qIx_z, qj_nat, s1, s2, f6, qj_lt, qhas_bm, true_and]
  refine ⟨fun c => qQ_b ?_ hQ, fun c => ⟨fun e => qQ_b ?_ hQ, fun e => qQ_b ?_ hQ⟩⟩
  · unfold aAl; rw [decide_eq_false (by omega)]; rfl
  · unfold aAl; rw [e]; exact Bool.and_false _
  · unfold aAl; rw [e, decide_eq_true (by omega)]; rfl
theorem c55 (hd : 3 ≤ d) (hs : qisS s) (hf : qisF f) (RF : qRF F I f) (W : qWF F) (R : qRS F I s S) (hy : S.1 0 0 ≤ 1000) : qRun d 55 [.ref s, .ref f] (qw g I) (.inl (some (.int (qj (bm (F.1 0 0) (aAl F S) : Nat))), qw g I)) := by
  refine qRun_of fun Q hQ => b55_0 hf hs hd ?_
  have f1 := RF.1
  have h9 := W.1
  have L : ∀ i, i ≤ F.1 0 0 → qwq d 55 4 [(0, .ref s), (1, .ref f), (2, .int (qj (bm i (aAl F S) : Nat))), (3, .int (qj i))] [] (qw g I) Q := by
    refine upto _ ?_ (fun i hi ih => ?_)
    · refine b55_4 hf hs hd ?_
      simp (disch := omega) only [f1, qj_le]
      exact ⟨fun _ => hQ, fun c => by omega⟩
    · refine b55_4 hf hs hd ?_
      simp (disch := omega) only [f1, qj_le]
      refine ⟨fun c => by omega, fun _ => ⟨_, _, c54 (by omega) hs hf RF W R hy hi, fun c => ?_, fun c => ?_⟩⟩
      · rw [bm_sf (P := aAl F S) c] at ih; rw [qj_add]; exact ih
      · rw [bm_st (P := aAl F S) c (by omega), qj_add]; exact ih
  exact L 0 (Nat.zero_le _)
theorem c56 (hd : 2 ≤ d) (hs : qisS s) (hf : qisF f) (RF : qRF F I f) (W : qWF F) (R : qRS F I s S) (hy : S.1 0 0 ≤ 1000) {h : Nat} (hh : h < F.1 0 0) : qRun d 56 [.ref s, .ref f, .int (qj h)] (qw g I) (.inl (some (.int (qj (if S.2.2 h then 2 else if F.1 2 h ≤ S.1 0 0 then 1 else 0))), qw g I)) := by
  refine qRun_of fun Q hQ => b56_0 hf hs hd ?_
  obtain ⟨s1, s2, -⟩ := R
  obtain ⟨f1, f2, f3, f4, f5, f6, -⟩ := RF
  have hw := W.2.2.2.2.1 h hh
  have h9 := W.1
  simp (disch := omega) only [qIx_z, qj_nat, s1, s2, f6, qj_lt, qhas_bm, true_and]
  refine ⟨fun e => ⟨fun c => qQ_z ?_ hQ, fun c => qQ_z ?_ hQ⟩, fun e => qQ_z ?_ hQ⟩
  · rw [e, if_neg Bool.false_ne_true, if_neg (by omega)]
  · rw [e, if_neg Bool.false_ne_true, if_pos (by omega)]
  · rw [e, if_pos rfl]
theorem c57 (hd : 2 ≤ d) (hs : qisS s) (hf : qisF f) (RF : qRF F I f) (W : qWF F) (R : qRS F I s S) (hy : S.1 0 0 ≤ 1000) {h : Nat} (hh : h < F.1 0 0) : qRun d 57 [.ref s, .ref f, .int (qj h)] (qw g I) (.inl (some (.int (qj (max 0 ((S.1 0 0 : Int) - F.1 2 h)))), qw g I)) := by
  refine qRun_of fun Q hQ => b57_0 hf hs hd ?_
  obtain ⟨s1, s2, -⟩ := R
  obtain ⟨f1, f2, f3, f4, f5, f6, -⟩ := RF
  have hw := W.2.2.2.2.1 h hh
  have h9 := W.1
  simp (disch := omega) only [qIx_z, qj_nat, s1, f6, qj_sub, qmax_z, true_and]
  exact hQ
theorem c59 (hd : 3 ≤ d) (hs : qisS s) (hf : qisF f) (RF : qRF F I f) (W : qWF F) (R : qRS F I s S) {p : Nat} (hp : p < F.1 0 1) : qRun d 59 [.ref s, .ref f, .int (qj p)] (qw g I) (.inl (some (.int (qj (aLk F S p))), qw g I)) := by
  refine qRun_of fun Q hQ => b59_0 hf hs hd ?_
  obtain ⟨f1, f2, f3, f4, f5, f6, f7, f8, f9, f10, f11, f12, f13, -⟩ := RF
  have hw := W.2.2.2.2.2.1 p hp
  have h8 := W.2.1
  have hc := cn_le 9 (fun h => S.2.1 h p)
  refine ⟨qIx_z (by omega) (by omega) (by omega), _, _, c58 (by omega) hs R (by omega), ?_⟩
  simp (disch := omega) only [qj_nat, f13, qpc_bm, qj_sub, qmax_z]
  exact qQ_z (by unfold aLk; omega) hQ
theorem c60 (hd : 4 ≤ d) (hs : qisS s) (hf : qisF f) (RF : qRF F I f) (W : qWF F) (R : qRS F I s S) : qRun d 60 [.ref s, .ref f] (qw g I) (.inl (some (.int (qj (bm (F.1 0 1) (fun p => decide (0 < aLk F S p)) : Nat))), qw g I)) := by
  refine qRun_of fun Q hQ => b60_0 hf hs hd ?_
  have f2 := RF.2.1
  have h8 := W.2.1
  have L : ∀ i, i ≤ F.1 0 1 → qwq d 60 4 [(0, .ref s), (1, .ref f), (2, .int (qj (bm i (fun p => decide (0 < aLk F S p)) : Nat))), (3, .int (qj i))] [] (qw g I) Q := by
    refine upto _ ?_ (fun i hi ih => ?_)
    · refine b60_4 hf hs hd ?_
      simp (disch := omega) only [f2, qj_le]
      exact ⟨fun _ => hQ, fun c => by omega⟩
    · refine b60_4 hf hs hd ?_
      have hw := W.2.2.2.2.2.1 i hi
      have hl : aLk F S i ≤ 2 := by unfold aLk; omega
      simp (disch := omega) only [f2, qj_le]
      refine ⟨fun c => by omega, fun _ => ⟨_, _, c59 (by omega) hs hf RF W R hi, ?_⟩⟩
      simp (disch := omega) only [qz0, qj_le, qj_add, qj_s1]
      refine ⟨fun c => ?_, fun c => ?_⟩
      · rw [bm_sf (P := fun p => decide (0 < aLk F S p)) (decide_eq_false (by omega))] at ih; exact ih
      · rw [bm_st (P := fun p => decide (0 < aLk F S p)) (decide_eq_true (by omega)) (by omega)]; exact ih
  exact L 0 (Nat.zero_le _)
theorem c61 (hd : 1 ≤ d) (hs : qisS s) (hf : qisF f) (RF : qRF F I f) (W : qWF F) (R : qRS F I s S) : qRun d 61 [.ref s, .ref f] (qw g I) (.inl (some (.int (qj (sm (F.1 0 1) (S.1 3) : Nat))), qw g I)) := by
  refine qRun_of fun Q hQ => b61_0 hf hs hd ?_
  have f2 := RF.2.1
  have h8 := W.2.1
  have s7 := R.2.2.2.2.2.2.1
  have L : ∀ i, i ≤ F.1 0 1 → qwq d 61 4 [(0, .ref s), (1, .ref f), (2, .int (qj (sm i (S.1 3) : Nat))), (3, .int (qj i))] [] (qw g I) Q := by
    refine upto _ ?_ (fun i hi ih => ?_)
    · refine b61_4 hf hs hd ?_
      simp (disch := omega) only [f2, qj_le]
      exact ⟨fun _ => hQ, fun c => by omega⟩
    · refine b61_4 hf hs hd ?_
      simp (disch := omega) only [f2, qj_le, qIx_z, qj_nat, s7, qj_add, qj_s1]
      exact ⟨fun c => by omega, fun _ => ⟨trivial, ih⟩⟩
  exact L 0 (Nat.zero_le _)
theorem c62 (hd : 3 ≤ d) (hs : qisS s) (hf : qisF f) (RF : qRF F I f) (W : qWF F) (R : qRS F I s S) (hy : S.1 0 0 ≤ 1000) {h p : Nat} (hh : h < F.1 0 0) (hp : p < 8) : qRun d 62 [.ref s, .ref f, .int (qj h), .int (qj p)] (qw g I) (.inl (some (.int (qb (aCan F S h p))), qw g I)) := by
  refine qRun_of fun Q hQ => b62_0 hf hs hd ?_
  have h9 := W.1
  have hc := cn_le 8 (S.2.1 h)
  refine ⟨_, _, c54 (by omega) hs hf RF W R hy hh, ?_⟩
  obtain ⟨s1, s2, s3, s4, -⟩ := R
  obtain ⟨f1, f2, f3, f4, f5, f6, f7, f8, f9, -⟩ := RF
  simp (disch := omega) only [qIx_z, qj_nat, s4, f9, qbm_or, qhas_bm, qpc_bm, qj_le, true_and]
  refine ⟨fun c => qQ_b ?_ hQ, fun c => ⟨fun e => qQ_b ?_ hQ, fun e => ⟨fun k => qQ_b ?_ hQ, fun k => qQ_b ?_ hQ⟩⟩⟩
  · unfold aCan; rw [c]; rfl
  · unfold aCan; rw [c, e]; rfl
  · unfold aCan; rw [c, e, decide_eq_false (by omega)]; rfl
  · unfold aCan; rw [c, e, decide_eq_true (by omega)]; rfl
theorem c63 (hd : 1 ≤ d) (hs : qisS s) (hf : qisF f) (RF : qRF F I f) (W : qWF F) (R : qRS F I s S) (WS : qWS F S) {p h : Nat} (hp : p < 8) (hh : h < F.1 0 0) : qRun d 63 [.ref s, .ref f, .int (qj p), .int (qj h)] (qw g I) (.inl (some (.int (qb (aKin F S p h))), qw g I)) := by
  refine qRun_of fun Q hQ => b63_0 hf hs hd ?_
  have h9 := W.1
  have v4 := WS.2.2.2 p
  obtain ⟨s1, s2, s3, s4, s5, s6, s7, s8⟩ := R
  have f1 := RF.1
  simp (disch := omega) only [qIx_z, qj_nat, s4, true_and, qshl1b 8 hp, qj_clr]
  have e1 : bm 8 (fun k => S.2.1 h k && !(decide (k < 8) && k == p)) = bm 8 (fun q => S.2.1 h q && !(q == p)) := bm_ext (fun k hk => by simp [hk])
  rw [e1]
  let P : Nat → Bool := fun g => !(g == h) && (S.2.1 g p || S.1 4 p == g + 1) && anb 8 (fun q => !(q == p) && S.2.1 h q && S.2.1 g q)
  have L : ∀ i, i ≤ F.1 0 0 → anb i P = false → qwq d 63 17 [(0, .ref s), (1, .ref f), (2, .int (qj p)), (3, .int (qj h)), (4, .int (qj (bm 8 (fun q => S.2.1 h q && !(q == p)) : Nat))), (5, .int (qj i))] [] (qw g I) Q := by
    refine upto (P := fun i => anb i P = false → _) _ (fun hn => ?_) (fun i hi ih hn => ?_)
    · refine b63_17 hf hs hd ?_
      simp (disch := omega) only [f1, qj_le]
      exact ⟨fun _ => qQ_b (show aKin F S p h = false from hn) hQ, fun c => by omega⟩
    · have step : P i = false → qwq d 63 17 [(0, .ref s), (1, .ref f), (2, .int (qj p)), (3, .int (qj h)), (4, .int (qj (bm 8 (fun q => S.2.1 h q && !(q == p)) : Nat))), (5, .int (qj ((i : Int) + 1)))] [] (qw g I) Q := fun e => ih (by rw [anb, hn, e]; rfl)
      have done : P i = true → Q (.inl (some (.int (qb true)), qw g I)) := fun e => qQ_b (show aKin F S p h = true from (anb_iff _ _).mpr ⟨i, hi, e⟩) hQ
      have hz : ∀ q, q < 8 → ((S.2.1 i q && (S.2.1 h q && !(q == p))) = (!(q == p) && S.2.1 h q && S.2.1 i q)) := fun q _ => by cases S.2.1 i q <;> cases S.2.1 h q <;> cases (q == p) <;> rfl
      refine b63_17 hf hs hd ?_
      simp (disch := omega) only [f1, qj_le, qIx_z, qj_nat, s4, s8, qz0, qshr1, qhas_bm, qbm_and, qbm_eq0, qj_add, qj_eq, true_and]
      have hZ : (∀ k, k < 8 → (S.2.1 i k && (S.2.1 h k && !(k == p))) = false) ↔ anb 8 (fun q => !(q == p) && S.2.1 h q && S.2.1 i q) = false := by
        rw [anb_false]
        exact ⟨fun q k hk => by rw [← hz k hk]; exact q k hk, fun q k hk => by rw [hz k hk]; exact q k hk⟩
      rw [hZ]
      have hq0 : qb (S.2.1 i p) = qj 0 ↔ S.2.1 i p = false := by rw [← qb_f, qb_inj]
      rw [hq0]
      have e3 : (i == h) = true ↔ (i : Int) = h := by rw [beq_iff_eq]; omega
      have e4 : (S.1 4 p == i + 1) = true ↔ ((S.1 4 p : Int) - 1 = i) := by rw [beq_iff_eq]; omega
      by_cases k1 : (i : Int) = h
      · have k1' : P i = false := by show (!(i == h) && _ && _) = false; rw [e3.mpr k1]; rfl
        have := step k1'
        simp only [k1, not_true_eq_false, false_implies, true_implies, and_true, true_and]
        simp only [k1] at this
        refine ⟨fun c => by omega, fun _ => ⟨fun _ => this, fun _ => ⟨fun _ => this, fun _ => this⟩⟩⟩
      · have k1b : (i == h) = false := by cases e : (i == h) with
          | false => rfl
          | true => exact absurd (e3.mp e) k1
        have fin : (S.2.1 i p || S.1 4 p == i + 1) = true → (anb 8 (fun q => !(q == p) && S.2.1 h q && S.2.1 i q) = false → qwq d 63 17 [(0, .ref s), (1, .ref f), (2, .int (qj p)), (3, .int (qj h)), (4, .int (qj (bm 8 (fun q => S.2.1 h q && !(q == p)) : Nat))), (5, .int (qj ((i : Int) + 1)))] [] (qw g I) Q) ∧ (¬ anb 8 (fun q => !(q == p) && S.2.1 h q && S.2.1 i q) = false → Q (.inl (some (.int (qb true)), qw g I))) := fun o => ⟨fun z => step (by show (!(i == h) && _ && _) = false; rw [o, z, Bool.and_false]), fun z => done (by show (!(i == h) && _ && _) = true; rw [Bool.not_eq_false] at z; rw [o, k1b, z]; rfl)⟩
        simp only [k1, not_false_eq_true, false_implies, true_implies, true_and]
        refine ⟨fun c => by omega, fun _ => ⟨fun c => fin (by rw [Bool.not_eq_false] at c; rw [c]; rfl), fun c => ⟨fun o => step ?_, fun o => fin ?_⟩⟩⟩
        · have o2 : (S.1 4 p == i + 1) = false := by cases e : (S.1 4 p == i + 1) with
            | false => rfl
            | true => exact absurd (e4.mp e) o
          have c2 : S.2.1 i p = false := Classical.byContradiction c
          show (!(i == h) && _ && _) = false; rw [o2, c2]; simp
        · rw [e4.mpr (Classical.byContradiction o), Bool.or_true]
  exact L 0 (Nat.zero_le _) rfl
end ST1
