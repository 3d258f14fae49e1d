/-! ===== the reference: score and choice ===== -/
/-- only the row r, the scratch of the score and the lots have changed -/
def qFm (r : Nat) (I J : Nat → Nat → Int32) : Prop := (∀ a, ¬ a = r → ¬ a = 680 → ¬ a = 681 → ¬ a = 245 → J a = I a) ∧ ∀ j, ¬ j = 44 → J 245 j = I 245 j
theorem qFm_rf {r : Nat} {I : Nat → Nat → Int32} : qFm r I I := ⟨fun _ _ _ _ _ => rfl, fun _ _ => rfl⟩
theorem qFm_tr {r : Nat} {I J K : Nat → Nat → Int32} (h : qFm r I J) (h2 : qFm r J K) : qFm r I K := ⟨fun a h3 h4 h5 h6 => (h2.1 a h3 h4 h5 h6).trans (h.1 a h3 h4 h5 h6), fun j hj => (h2.2 j hj).trans (h.2 j hj)⟩
theorem qisR_b {r : Nat} (h : qisR r) : 677 ≤ r ∧ ¬ r = 680 ∧ ¬ r = 681 := by unfold qisR at h; omega
theorem qFm_F {r : Nat} {I J : Nat → Nat → Int32} {F : qFam} (h : qFm r I J) (hr : qisR r) (W : qWF F) (MF : qMF F I) : qMF F J := qMF_cg MF (fun a h1 h2 => h.1 a (by have := (qisR_b hr).1; omega) (by omega) (by omega) (by omega)) W
theorem qFm_l {r : Nat} {I J : Nat → Nat → Int32} {F : qFam} {S : qSt} (h : qFm r I J) (hr : qisR r) (W : qWF F) (Ml : qMl F I S) : qMl F J S := qMl_cg Ml (fun a h1 h2 => h.1 a (by have := (qisR_b hr).1; omega) (by omega) (by omega) (by omega)) W
theorem qFm_L {r : Nat} {I J : Nat → Nat → Int32} {L : qLw} (h : qFm r I J) (hr : qisR r) (WL : qWL L) (ML : qML L I) : qML L J := qML_cg ML WL (h.2 27 (by omega)) (fun a h1 h2 => h.1 a (by have := (qisR_b hr).1; omega) (by omega) (by omega) (by omega))
/-- only scratch -/
def qFs (I J : Nat → Nat → Int32) : Prop := ∀ a, ¬ a = 680 → ¬ a = 681 → J a = I a
theorem qFs_m {r : Nat} {I J : Nat → Nat → Int32} (h : qFs I J) : qFm r I J := ⟨fun a _ h4 h5 _ => h a h4 h5, fun j _ => by rw [h 245 (by omega) (by omega)]⟩
theorem qFs_tr {I J K : Nat → Nat → Int32} (h : qFs I J) (h2 : qFs J K) : qFs I K := fun a h4 h5 => (h2 a h4 h5).trans (h a h4 h5)
theorem qFs_S {r : Nat} {I J : Nat → Nat → Int32} {F : qFam} {S : qSt} (h : qFs I J) (hr : qisR r) (R : qMS F I r S) : qMS F J r S := qMS_cg R (h r (qisR_b hr).2.1 (qisR_b hr).2.2)
section REF2
variable {d : Nat} {g : qG1} {I : Nat → Nat → Int32} {F : qFam} {S : qSt} {L : qLw} {r : Nat}
theorem aStk_qL0 (v : Nat → Int32) : aStk v qL0.2 qL0.1 0 = (qj 2 * v 1000 - qj 3 * v 1003) + v 1008 := by
  have e : aStk v qL0.2 qL0.1 0 = (v 1000 * qj 2 - v 1003 * qj 3) + v 1008 := rfl
  rw [e, Int32.mul_comm (v 1000), Int32.mul_comm (v 1003)]
theorem m212 (hd : 3 ≤ d) (ML : qML L I) (WL : qWL L) {v : Nat → Int32} (hv : ∀ j, j < 9 → I 681 j = v (1000 + j)) :
    ∃ I', qRun d 212 [.ref 245] (qw g I) (.inl (some (.int (aStk v L.2 L.1 0)), qw g I')) ∧ ∀ a, ¬ a = 680 → I' a = I a := by
  rcases ML with ⟨h1, rfl⟩ | ⟨h0, h1, h2⟩
  · refine ⟨I, qRun_of fun Q hQ => b212_0 (by omega) ⟨fun c => absurd h1 c, fun _ => ?_⟩, fun _ _ => rfl⟩
    rw [aStk_qL0] at hQ
    rw [hv 0 (by omega), hv 3 (by omega), hv 8 (by omega)]; exact hQ
  · have h150 := WL.1
    have key : ∀ i, i ≤ L.1 → ∀ J : Nat → Nat → Int32, (∀ a, ¬ a = 680 → J a = I a) → (∀ j, j < aHg L.2 i → J 680 j = aStk v L.2 i j) →
        ∃ I', (∀ a, ¬ a = 680 → I' a = I a) ∧ ∀ Q : qR → Prop, Q (.inl (some (.int (aStk v L.2 L.1 0)), qw g I')) → qwq d 212 37 [(0, .ref 245), (1, .int (qj (aHg L.2 i))), (2, .int (qj i))] [] (qw g J) Q := by
      refine upto _ (fun J hJ hst => ⟨J, hJ, fun Q hQ => b212_37 (by omega) ?_⟩) (fun i hi ih J hJ hst => ?_)
      · have e : J 245 27 = qj (L.1 : Int) := by rw [hJ 245 (by omega)]; exact h1
        have e2 : J 680 0 = aStk v L.2 L.1 0 := hst 0 (by rw [WL.2.1]; exact Nat.one_pos)
        simp (disch := omega) only [e, qj_le, e2]
        exact ⟨fun _ => hQ, fun c => by omega⟩
      · have hc := WL.2.2 i hi
        have hg := aHg_le L.2 i
        have e : J 245 27 = qj (L.1 : Int) := by rw [hJ 245 (by omega)]; exact h1
        have e1 : J (328 + 1 + i) 0 = qj (aKd (L.2 i) : Int) := by rw [hJ _ (by omega)]; exact (h2 i hi).1
        have e2 : J (328 + 1 + i) 1 = qj (aVl (L.2 i) : Int) := by rw [hJ _ (by omega)]; exact (h2 i hi).2
        have e3 : ∀ j, j < 9 → J 681 j = v (1000 + j) := fun j hj => by rw [hJ 681 (by omega)]; exact hv j hj
        rcases hc with ⟨c1, -⟩ | ⟨c1, c2, c3⟩
        · let x : Int32 := if L.2 i < 1000 then qj (L.2 i) else v (L.2 i)
          have hg1 : aHg L.2 (i + 1) = aHg L.2 i + 1 := by rw [aHg, if_pos (by omega)]
          obtain ⟨I', k1, k2⟩ := ih (qup J 680 (aHg L.2 i) x) (fun a ha => by rw [qup_ne ha]; exact hJ a ha) (fun j hj => by
            rw [qup_at, aStk_lt (by omega)]
            by_cases ej : j = aHg L.2 i
            · rw [if_pos ej, if_pos ej]
            · rw [if_neg ej, if_neg ej]; exact hst j (by omega))
          refine ⟨I', k1, fun Q hQ => b212_37 (by omega) ?_⟩
          have k3 := k2 Q hQ
          rw [hg1] at k3
          by_cases hlt : L.2 i < 1000
          · have hx : x = qj (L.2 i) := if_pos hlt
            have y1 : aKd (L.2 i) = 0 := by unfold aKd; rw [if_pos hlt]
            have y2 : aVl (L.2 i) = L.2 i := by unfold aVl; rw [if_pos hlt]
            rw [hx] at k3
            rw [y1] at e1
            rw [y2] at e2
            simp (disch := omega) only [e, q2_e, e1, e2, qz0, qj_le, qj_eq, qIx_z, qj_nat, qj_add, qj_s1, true_and]
            exact ⟨fun c => by omega, fun _ => ⟨fun c => by omega, fun _ => ⟨fun c => by omega, fun _ => k3⟩⟩⟩
          · have hx : x = v (L.2 i) := if_neg hlt
            have y1 : aKd (L.2 i) = 1 := by unfold aKd; rw [if_neg hlt, if_pos (by omega)]
            have y2 : aVl (L.2 i) = L.2 i - 1000 := by unfold aVl; rw [if_neg hlt, if_pos (by omega)]
            rw [hx] at k3
            rw [y1] at e1
            rw [y2] at e2
            have e4 : J 681 (L.2 i - 1000) = v (L.2 i) := by rw [e3 _ (by omega), show 1000 + (L.2 i - 1000) = L.2 i by omega]
            simp (disch := omega) only [e, q2_e, e1, e2, e4, qz0, qj_le, qj_eq, qIx_z, qj_nat, qj_add, qj_s1, true_and]
            exact ⟨fun c => by omega, fun _ => ⟨fun c => by omega, fun _ => ⟨fun _ => k3, fun c => by omega⟩⟩⟩
        · have hg1 : aHg L.2 (i + 1) = aHg L.2 i - 1 := by rw [aHg, if_neg (by omega)]
          obtain ⟨I', k1, k2⟩ := ih (qup J 680 (aHg L.2 i - 2) (aJoin (L.2 i) (aStk v L.2 i (aHg L.2 i - 2)) (aStk v L.2 i (aHg L.2 i - 1)))) (fun a ha => by rw [qup_ne ha]; exact hJ a ha) (fun j hj => by
            rw [qup_at, aStk_ge (by omega)]
            by_cases ej : j = aHg L.2 i - 2
            · rw [if_pos ej, if_pos ej]
            · rw [if_neg ej, if_neg ej]; exact hst j (by omega))
          refine ⟨I', k1, fun Q hQ => b212_37 (by omega) ?_⟩
          have k3 := k2 Q hQ
          rw [hg1] at k3
          have y0 : 2 ≤ aKd (L.2 i) ∧ aKd (L.2 i) ≤ 8 := by unfold aKd; split <;> (try split) <;> (try split) <;> omega
          have z1 : (aHg L.2 i : Int) + -1 - 1 = ((aHg L.2 i - 2 : Nat) : Int) := by omega
          have z3 : (aHg L.2 i : Int) + -1 = ((aHg L.2 i - 1 : Nat) : Int) := by omega
          have z4 : ((aHg L.2 i - 1 : Nat) : Int) - 1 = ((aHg L.2 i - 2 : Nat) : Int) := by omega
          have y1 := hst (aHg L.2 i - 2) (by omega)
          have y2 := hst (aHg L.2 i - 1) (by omega)
          simp (disch := omega) only [e, q2_e, e1, qj_le, qj_add, z3, qj_sub, z4, qIx_z, qj_nat, y1, y2, qj_s1, true_and]
          exact ⟨fun c => by omega, fun _ => ⟨fun _ => ⟨_, _, m211 (by omega) c1 c2, k3⟩, fun c => by omega⟩⟩
    obtain ⟨I', k1, k2⟩ := key 0 (Nat.zero_le _) I (fun _ _ => rfl) (fun j hj => absurd hj (Nat.not_lt_zero _))
    refine ⟨I', qRun_of fun Q hQ => b212_0 (by omega) ⟨fun _ => k2 Q hQ, fun c => absurd (fun z => ?_) c⟩, k1⟩
    rw [h1, qz0, qj_eq (by omega) (by omega) (by omega) (by omega)] at z
    omega
theorem m229 (hd : 4 ≤ d) (hr : qisR r) (MF : qMF F I) (Ml : qMl F I S) (W : qWF F) (R : qMS F I r S) (WS : qWS F S) (ML : qML L I) (WL : qWL L) {p h : Nat} (hp : p < F.1 0 1) (hh : h < F.1 0 0) :
    ∃ I', qRun d 229 [.ref 245, .ref r, .int (qj p), .int (qj h)] (qw g I) (.inl (some (.int (aSc F L S p h)), qw g I')) ∧ qFs I I' := by
  have h9 := W.1
  have h8 := W.2.1
  have hb := qisR_b hr
  have e0 := Ml h hh
  have e1 := MF.2.2.2.2.2.2.1 p hp
  have e2 := MF.2.2.2.2.1 h hh
  have e4 := R.2.2.1 p hp
  have e5 := R.2.2.2.2.2.2
  let J1 := qup (qup (qup I 681 0 (qj (S.1 1 h))) 681 1 (qj (F.1 4 p))) 681 2 (qj ((S.1 0 0 : Int) - F.1 2 h))
  have J1f : qFs I J1 := fun a _ h5 => by show qup (qup (qup I _ _ _) _ _ _) _ _ _ a = _; rw [qup_ne h5, qup_ne h5, qup_ne h5]
  let J2 := qup (qup (qup (qup (qup J1 681 3 (qj (cn 8 (S.2.1 h) : Nat))) 681 4 (qj (S.1 3 p))) 681 5 (qj (S.1 0 0))) 681 6 (qj h)) 681 7 (qj p)
  have J2f : qFs J1 J2 := fun a _ h5 => by show qup (qup (qup (qup (qup J1 _ _ _) _ _ _) _ _ _) _ _ _) _ _ _ a = _; rw [qup_ne h5, qup_ne h5, qup_ne h5, qup_ne h5, qup_ne h5]
  let J3 := qup J2 681 8 (qb (aKin F S p h))
  have J3f : qFs J2 J3 := fun a _ h5 => qup_ne h5
  have F1 := qFs_m (r := r) J1f
  have F2 := qFs_m (r := r) (qFs_tr J1f J2f)
  have F3 := qFs_m (r := r) (qFs_tr (qFs_tr J1f J2f) J3f)
  have k1 := m222 (d := d - 1) (g := g) (by omega) hr (qFm_F F1 hr W MF) W (qFs_S J1f hr R) WS hh
  have k2 := m172 (d := d - 1) (g := g) (I := J1) (by omega) (qj (bm 8 (S.2.1 h) : Nat))
  rw [qones (by omega)] at k2
  have k3 := m228 (d := d - 1) (g := g) (by omega) hr (qFm_F F2 hr W MF) W (qFs_S (qFs_tr J1f J2f) hr R) WS hp hh
  have hv : ∀ j, j < 9 → J3 681 j = aVal F S p h (1000 + j) := fun j hj => by
    have hj' : j = 0 ∨ j = 1 ∨ j = 2 ∨ j = 3 ∨ j = 4 ∨ j = 5 ∨ j = 6 ∨ j = 7 ∨ j = 8 := by omega
    rcases hj' with rfl | rfl | rfl | rfl | rfl | rfl | rfl | rfl | rfl <;> rfl
  obtain ⟨I', k4, k5⟩ := m212 (d := d - 1) (g := g) (by omega) (qFm_L F3 hr WL ML) WL hv
  refine ⟨I', qRun_of fun Q hQ => b229_0 (qisR_sh hr) (by omega) ?_, qFs_tr (qFs_tr (qFs_tr J1f J2f) J3f) (fun a h4 _ => k5 a h4)⟩
  have e4' : J1 r (9 + p) = qj (S.1 3 p) := by rw [J1f r hb.2.1 hb.2.2]; exact e4
  have e5' : J1 r 106 = qj (S.1 0 0) := by rw [J1f r hb.2.1 hb.2.2]; exact e5
  simp (disch := omega) only [qIx_z, qj_nat, q2_e, e0, qup_ne, e1, e5, e2, qj_sub, true_and]
  refine ⟨_, _, k1, _, _, k2, ?_⟩
  simp (disch := omega) only [qIx_z, qj_add, qj_c9, qj_nat, qup_ne, e4', e5', true_and]
  exact ⟨_, _, k3, _, _, k4, hQ⟩
theorem m231 (hd : 3 ≤ d) (hr : qisR r) (MF : qMF F I) (W : qWF F) (R : qMS F I r S) (WS : qWS F S) (hy : S.1 0 0 ≤ 1000) {p h : Nat} (hp : p < F.1 0 1) (hh : h < F.1 0 0) : qRun d 231 [.ref 245, .ref r, .int (qj p), .int (qj h)] (qw g I) (.inl (some (.int (qb (aCan F S h p))), qw g I)) := by
  refine qRun_of fun Q hQ => b231_0 (qisR_sh hr) (by omega) ⟨_, _, m218 (by omega) hr MF W R hy hh, ?_⟩
  have h9 := W.1
  have h8 := W.2.1
  have hc := cn_le 8 (S.2.1 h)
  have s2 := R.2.1 p (by omega)
  have f15 := MF.2.2.2.2.2.2.2.2.2.2.2.2.2.2.1 p (by omega)
  have k2 := m172 (d := d - 1) (g := g) (I := I) (by omega) (qj (bm 8 (S.2.1 h) : Nat))
  rw [qones (by omega)] at k2
  simp (disch := omega) only [qIx_z, qj_add, qj_c1, qj_nat, s2, f15, qhas_bm, true_and]
  refine ⟨fun c => qQ_b ?_ hQ, fun c => ⟨fun e => qQ_b ?_ hQ, fun e => ⟨fun e2 => qQ_b ?_ hQ, fun e2 => ⟨_, _, m222 (by omega) hr MF W R WS hh, _, _, k2, ?_⟩⟩⟩⟩
  · unfold aCan; rw [c]; rfl
  · unfold aCan; rw [c, e]; rfl
  · unfold aCan; rw [c, e, e2]; rfl
  · simp (disch := omega) only [qj_le]
    refine ⟨fun k => qQ_b ?_ hQ, fun k => qQ_b ?_ hQ⟩
    · unfold aCan; rw [c, e, e2, decide_eq_false (by omega)]; rfl
    · unfold aCan; rw [c, e, e2, decide_eq_true (by omega)]; rfl
theorem m232 (hd : 5 ≤ d) (hr : qisR r) (MF : qMF F I) (Ml : qMl F I S) (W : qWF F) (R : qMS F I r S) (WS : qWS F S) (hy : S.1 0 0 ≤ 1000) (ML : qML L I) (WL : qWL L) {p : Nat} (hp : p < F.1 0 1) :
    ∃ I', qRun d 232 [.ref 245, .ref r, .int (qj p)] (qw g I) (.inl (some (.int (qj ((aCh F L S p : Int) - 1))), qw g I')) ∧ qFs I I' := by
  have h9 := W.1
  have h8 := W.2.1
  let C := aChN F S (aSc F L S p) p
  have key : ∀ i, i ≤ F.1 0 0 → ∀ J : Nat → Nat → Int32, qFs I J →
      ∃ I', qFs I I' ∧ ∀ Q : qR → Prop, Q (.inl (some (.int (qj ((aCh F L S p : Int) - 1))), qw g I')) → qwq d 232 5 [(0, .ref 245), (1, .ref r), (2, .int (qj p)), (3, .int (qj ((C i : Int) - 1))), (4, .int (qj i))] [] (qw g J) Q := by
    refine upto _ (fun J hJ => ⟨J, hJ, fun Q hQ => b232_5 (qisR_sh hr) (by omega) ?_⟩) (fun i hi ih J hJ => ?_)
    · have e := (qFm_F (qFs_m (r := r) hJ) hr W MF).1
      simp (disch := omega) only [e, qj_le]
      exact ⟨fun _ => hQ, fun c => by omega⟩
    · have MF' := qFm_F (qFs_m (r := r) hJ) hr W MF
      have Ml' := qFm_l (qFs_m (r := r) hJ) hr W Ml
      have ML' := qFm_L (qFs_m (r := r) hJ) hr WL ML
      have R' := qFs_S hJ hr R
      have hCi : C i ≤ i := aChN_le F S (aSc F L S p) p i
      have e := MF'.1
      have hC1 : C (i + 1) = if aCan F S i p = true ∧ (C i = 0 ∨ aSc F L S p (C i - 1) < aSc F L S p i) then i + 1 else C i := rfl
      cases hcan : aCan F S i p with
      | false =>
        have hC2 : C (i + 1) = C i := by rw [hC1, if_neg (by rw [hcan]; simp)]
        rw [hC2] at ih
        obtain ⟨I', k1, k2⟩ := ih J hJ
        refine ⟨I', k1, fun Q hQ => b232_5 (qisR_sh hr) (by omega) ?_⟩
        simp (disch := omega) only [e, qj_le, qj_add, qj_s1]
        refine ⟨fun c => by omega, fun _ => ⟨_, _, m231 (by omega) hr MF' W R' WS hy hp hi, ?_⟩⟩
        rw [hcan]
        exact ⟨fun _ => k2 Q hQ, fun c => Bool.noConfusion c⟩
      | true =>
        by_cases hz : C i = 0
        · have hC2 : C (i + 1) = i + 1 := by rw [hC1, if_pos ⟨hcan, Or.inl hz⟩]
          rw [hC2, show ((i + 1 : Nat) : Int) - 1 = i by omega] at ih
          obtain ⟨I', k1, k2⟩ := ih J hJ
          refine ⟨I', k1, fun Q hQ => b232_5 (qisR_sh hr) (by omega) ?_⟩
          simp (disch := omega) only [e, qj_le, qj_add, qj_s1]
          refine ⟨fun c => by omega, fun _ => ⟨_, _, m231 (by omega) hr MF' W R' WS hy hp hi, ?_⟩⟩
          rw [hcan]
          refine ⟨fun c => Bool.noConfusion c, fun _ => ?_⟩
          simp (disch := omega) only [qj_eq]
          exact ⟨fun _ => k2 Q hQ, fun c => by omega⟩
        · have zC : (C i : Int) - 1 = ((C i - 1 : Nat) : Int) := by omega
          obtain ⟨J2, r1, r2⟩ := m229 (d := d - 1) (g := g) (by omega) hr MF' Ml' W R' WS ML' WL hp hi
          have hJ2 := qFs_tr hJ r2
          obtain ⟨J3, r3, r4⟩ := m229 (d := d - 1) (g := g) (h := C i - 1) (by omega) hr (qFm_F (qFs_m (r := r) hJ2) hr W MF) (qFm_l (qFs_m (r := r) hJ2) hr W Ml) W (qFs_S hJ2 hr R) WS (qFm_L (qFs_m (r := r) hJ2) hr WL ML) WL hp (by omega)
          have hJ3 := qFs_tr hJ2 r4
          by_cases hb : aSc F L S p (C i - 1) < aSc F L S p i
          · have hC2 : C (i + 1) = i + 1 := by rw [hC1, if_pos ⟨hcan, Or.inr hb⟩]
            rw [hC2, show ((i + 1 : Nat) : Int) - 1 = i by omega] at ih
            obtain ⟨I', k1, k2⟩ := ih J3 hJ3
            refine ⟨I', k1, fun Q hQ => b232_5 (qisR_sh hr) (by omega) ?_⟩
            simp (disch := omega) only [e, qj_le, qj_add, qj_s1]
            refine ⟨fun c => by omega, fun _ => ⟨_, _, m231 (by omega) hr MF' W R' WS hy hp hi, ?_⟩⟩
            rw [hcan]
            refine ⟨fun c => Bool.noConfusion c, fun _ => ?_⟩
            simp (disch := omega) only [qj_eq, zC]
            refine ⟨fun c => by omega, fun _ => ⟨_, _, r1, _, _, r3, fun c => absurd c ((qle_nlt _ _).mpr hb), fun _ => k2 Q hQ⟩⟩
          · have hC2 : C (i + 1) = C i := by rw [hC1, if_neg (fun q => q.2.elim hz hb)]
            rw [hC2, zC] at ih
            obtain ⟨I', k1, k2⟩ := ih J3 hJ3
            refine ⟨I', k1, fun Q hQ => b232_5 (qisR_sh hr) (by omega) ?_⟩
            simp (disch := omega) only [e, qj_le, qj_add, qj_s1]
            refine ⟨fun c => by omega, fun _ => ⟨_, _, m231 (by omega) hr MF' W R' WS hy hp hi, ?_⟩⟩
            rw [hcan]
            refine ⟨fun c => Bool.noConfusion c, fun _ => ?_⟩
            simp (disch := omega) only [qj_eq, zC]
            refine ⟨fun c => by omega, fun _ => ⟨_, _, r1, _, _, r3, fun _ => k2 Q hQ, fun c => absurd ((qlt_nle _ _).mp hb) c⟩⟩
  obtain ⟨I', k1, k2⟩ := key 0 (Nat.zero_le _) I (fun _ _ _ => rfl)
  exact ⟨I', qRun_of (fun Q hQ => b232_0 (qisR_sh hr) (by omega) (k2 Q hQ)), k1⟩
end REF2
