/-! ===== the class: casts of an act ===== -/
/-- all casts of an act with those alive -/
def aAct (F : qFam) (S : qSt) (al : Nat → Bool) (a : Nat) : List (List Nat) := cE (F.2 2) (cK F (F.1 (10 + a))) (cA F al (F.1 (10 + a))) (fun i => decide (F.1 7 a ≤ S.1 3 (F.1 (10 + a) i))) (F.1 8 a) 0 0
def aPld (F : qFam) (S : qSt) (al : Nat → Bool) (a : Nat) : Bool := !(aAct F S al a).isEmpty
/-- those alive -/
def aAlv (F : qFam) (S : qSt) (h : Nat) : Bool := decide (h < F.1 0 0) && aAl F S h
theorem sm_mono {f : Nat → Nat} {i j : Nat} (h : i ≤ j) : sm i f ≤ sm j f := by
  induction j with
  | zero => rw [show i = 0 by omega]; exact Nat.le_refl _
  | succ j ih =>
    by_cases e : i = j + 1
    · rw [e]; exact Nat.le_refl _
    · have := ih (by omega); rw [sm]; omega
theorem cE_no {F : qFam} {al : Nat → Bool} {ps : Nat → Nat} {b : Nat → Bool} {n m : Nat} (hm : m ≤ n) (h : 9 < sm m (cK F ps) ∨ cn 9 al < sm m (cK F ps)) : cE (F.2 2) (cK F ps) (cA F al ps) b n 0 0 = [] := by
  refine cE_few _ _ _ _ (m := bm 9 al) (fun i => cA_sub F al ps i) n 0 0 (Nat.zero_and _) ?_
  have h1 := sm_mono (f := cK F ps) hm
  have h2 := sumK_sm (cK F ps) n 0
  have h3 := cn_le 9 al
  rw [Nat.zero_add] at h2
  have z : p9 0 = 0 := by decide
  rw [p9_bm, z]
  have h4 : sm 0 (cK F ps) = 0 := rfl
  omega
section CC5
variable {d : Nat} {g : qG1} {I : Nat → Nat → Int32} {F : qFam} {S : qSt} {f s : Nat} {al : Nat → Bool}
theorem aAct_len (W : qWF F) {a : Nat} (ha : a < F.1 0 2) : (aAct F S al a).length ≤ 362880 := by
  have hwa := W.2.2.2.2.2.2.1 a ha
  refine Nat.le_trans (cE_bnd _ _ _ _ _ _ _ (fun j h1 h2 => ?_) (by decide)) (fac_9 (Nat.sub_le _ _))
  have := W.2.2.2.2.2.1 _ (hwa.2.2.2.1 j (by omega))
  unfold cK; omega
theorem c148 (hd : 5 ≤ d) (hf : qisF f) (hs : qisS s) (wf : g.2.2.1 1 = f) (RF : qRF F I f) (R : qRS F I s S) (W : qWF F) (WS : qWS F S) (C : qCst I) (hal : ∀ h, al h = true → h < F.1 0 0) {a : Nat} (ha : a < F.1 0 2) :
    ∃ I', qRun d 148 [.ref 64, .ref s, .int (qj a), .int (qj (bm 9 al : Nat))] (qw g I) (.inl (some (.int (qj (aAct F S al a).length)), qw g I')) ∧ qFc I I' ∧
      (aAct F S al a ≠ [] → qRC F I' al (F.1 (10 + a)) (F.1 8 a) ∧ qTb F I' al (F.1 (10 + a)) (F.1 8 a) 0 ∧ aAct F S al a = cT F al (F.1 (10 + a)) (F.1 8 a) 0 0) := by
  have hwa := W.2.2.2.2.2.2.1 a ha
  obtain ⟨J1, a1, a2, a3⟩ := c6 (d := d - 1) (g := g) (I := I) (al := al) (by omega)
  obtain ⟨J2, b, b1, b2, b3, b4⟩ := c7 (d := d - 1) (g := g) (n := 0) (ps := F.1 (10 + a)) (by omega) hf hs (qFc_F a3 hf RF) (qFc_S a3 hs R) W WS hal ha (fun i _ => by rw [Nat.zero_add]) (a2 F _)
  rw [Nat.zero_add] at b3 b4
  have h2 := qFc_tr a3 b2
  cases b with
  | false =>
    have hnil : aAct F S al a = [] := by
      rcases b4 rfl with ⟨i, hi, h⟩ | ⟨m, hm, h⟩
      · exact cE_nob _ _ _ _ (j := i) (decide_eq_false (by omega)) _ _ _ (Nat.zero_le _) (by omega)
      · rcases h with h | h
        · omega
        · exact cE_no hm h
    refine ⟨J2, qRun_of fun Q hQ => b148_0 hf hs wf (by omega) ⟨_, a1, _, _, b1, fun _ => ?_, fun c => Bool.noConfusion c⟩, h2, fun h => absurd hnil h⟩
    rw [hnil] at hQ; exact hQ
  | true =>
    obtain ⟨c1, c2⟩ := b3 rfl
    obtain ⟨J3, e1, e2, e3, e4⟩ := c9 (d := d - 1) (g := g) (by omega) hf (qFc_F h2 hf RF) W (qFc_C h2 C) (fun i hi => hwa.2.2.2.1 i hi) c1
    have heq : aAct F S al a = cT F al (F.1 (10 + a)) (F.1 8 a) 0 0 := cE_b _ _ _ (fun j _ hj => decide_eq_true (c2 j (by omega)))
    refine ⟨J3, qRun_of fun Q hQ => b148_0 hf hs wf (by omega) ⟨_, a1, _, _, b1, fun c => Bool.noConfusion c, fun _ => ⟨_, _, e1, ?_⟩⟩, qFc_tr h2 e2, fun _ => ⟨e3, e4, heq⟩⟩
    rw [heq] at hQ; exact hQ
theorem c149 (hd : 6 ≤ d) (hf : qisF f) (hs : qisS s) (wf : g.2.2.1 1 = f) (RF : qRF F I f) (R : qRS F I s S) (W : qWF F) (WS : qWS F S) (C : qCst I) (hal : ∀ h, al h = true → h < F.1 0 0) :
    ∃ I', qRun d 149 [.ref 64, .ref s, .int (qj (bm 9 al : Nat))] (qw g I) (.inl (some (.int (qj (bm (F.1 0 2) (aPld F S al) : Nat))), qw g I')) ∧ qFc I I' := by
  have w3 := W.2.2.1
  have key : ∀ i, i ≤ F.1 0 2 → ∀ J, qFc I J → ∃ I', qFc I I' ∧ ∀ Q : qR → Prop, Q (.inl (some (.int (qj (bm (F.1 0 2) (aPld F S al) : Nat))), qw g I')) → qwq d 149 5 [(0, .ref 64), (1, .ref s), (2, .int (qj (bm 9 al : Nat))), (3, .int (qj (bm i (aPld F S al) : Nat))), (4, .int (qj i))] [] (qw g J) Q := by
    refine upto _ (fun J hJ => ⟨J, hJ, fun Q hQ => b149_5 hf hs wf (by omega) ?_⟩) (fun i hi ih J hJ => ?_)
    · have e := (qFc_F hJ hf RF).2.2.1
      simp (disch := omega) only [e, qj_le]
      exact ⟨fun _ => hQ, fun c => by omega⟩
    · have e := (qFc_F hJ hf RF).2.2.1
      obtain ⟨J2, k1, k2, -⟩ := c148 (d := d - 1) (g := g) (by omega) hf hs wf (qFc_F hJ hf RF) (qFc_S hJ hs R) W WS (qFc_C hJ C) hal hi
      have hl := aAct_len (S := S) (al := al) W hi
      obtain ⟨I', r1, r2⟩ := ih J2 (qFc_tr hJ k2)
      refine ⟨I', r1, fun Q hQ => b149_5 hf hs wf (by omega) ?_⟩
      have r3 := r2 Q hQ
      simp (disch := omega) only [e, qj_le, qj_add, qj_s1]
      refine ⟨fun c => by omega, fun _ => ⟨_, _, k1, ?_⟩⟩
      simp (disch := omega) only [qz0, qj_le]
      refine ⟨fun c => ?_, fun c => ?_⟩
      · have : aPld F S al i = false := by
          unfold aPld
          rw [List.eq_nil_of_length_eq_zero (show (aAct F S al i).length = 0 by omega)]; rfl
        rw [bm_sf this] at r3; exact r3
      · have : aPld F S al i = true := by
          unfold aPld
          cases e : aAct F S al i with
          | nil => rw [e] at c; exact absurd (by decide) c
          | cons a l => rfl
        rw [bm_st this (by omega)]; exact r3
  obtain ⟨I', r1, r2⟩ := key 0 (Nat.zero_le _) I qFc_rf
  exact ⟨I', qRun_of (fun Q hQ => b149_0 hs (by omega) (r2 Q hQ)), r1⟩
/-- those alive, as nine bits -/
theorem c55' (hd : 3 ≤ d) (hs : qisS s) (hf : qisF f) (RF : qRF F I f) (W : qWF F) (R : qRS F I s S) (hy : S.1 0 0 ≤ 1000) : qRun d 55 [.ref s, .ref f] (qw g I) (.inl (some (.int (qj (bm 9 (aAlv F S) : Nat))), qw g I)) := by
  have := c55 (g := g) hd hs hf RF W R hy
  rw [← bm_up (F.1 0 0) (aAl F S) 9 W.1] at this
  exact this
theorem aAlv_h {h : Nat} (e : aAlv F S h = true) : h < F.1 0 0 := by
  unfold aAlv at e
  rw [Bool.and_eq_true, decide_eq_true_iff] at e
  exact e.1
end CC5
