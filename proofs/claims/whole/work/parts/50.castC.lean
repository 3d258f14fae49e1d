/-! ===== the class' casting: the table of ways ===== -/
theorem b10r_48 {d : Nat} {g : qG1} {I : Nat → Nat → Int32} {Q : qR → Prop} {r n : Nat} {x2 x3 x5 x6 : Int32} (hr : qSH g.2.1 r = (11, n)) (hd : 1 ≤ d)
    (h : (((Int32.ofNat (qSH g.2.1 r).2) ≤ x6 → Q (.inl (some (.int x5), (qw g I)))) ∧ (¬ ((Int32.ofNat (qSH g.2.1 r).2) ≤ x6) → qIx x6 n ∧ (((¬ ((I r x6.toNatClampNeg) &&& (x3 ^^^ (qj (-1)))) = 0 → qwq d 10 48 [(0, .ref 236), (2, .int x2), (3, .int x3), (4, .ref r), (5, .int x5), (6, .int (x6 + qj 1))] [] (qw g I) Q) ∧ (¬ (¬ ((I r x6.toNatClampNeg) &&& (x3 ^^^ (qj (-1)))) = 0) → qIx (x2 ||| (I r x6.toNatClampNeg)) 512 ∧ (qwq d 10 48 [(0, .ref 236), (2, .int x2), (3, .int x3), (4, .ref r), (5, .int (x5 + (I 241 (x2 ||| (I r x6.toNatClampNeg)).toNatClampNeg))), (6, .int (x6 + qj 1))] [] (qw g I) Q))))))) :
    qwq d 10 48 [(0, .ref 236), (2, .int x2), (3, .int x3), (4, .ref r), (5, .int x5), (6, .int x6)] [] (qw g I) Q := qZ_sound qU_ok (N := qN) (S := qS10) 71 true (⟨(qarr_mk11 hr), ⟨fun q4 => ⟨trivial, (h.1 q4)⟩, fun q4 => ((h.2 q4)).elim (fun c1 h => ⟨(qinR_mk11 hr c1), ⟨fun q3 => (h.1 q3), fun q3 => ⟨rfl, ⟨(qinR_mk11 hr c1), ((h.2 q3)).elim (fun c2 h => ⟨(qinR_mk rfl c2), h⟩)⟩⟩⟩⟩)⟩⟩)
def rS (k : Nat) : Nat := if k = 1 then 3 else 4
/-- the class' constants -/
def qCst (I : Nat → Nat → Int32) : Prop := ∀ k j, (k = 1 ∨ k = 2) → j < (cSt k).length → I (rS k) j = qj ((cSt k).getD j 0 : Nat)
theorem rS_sh {L k : Nat} (h : k = 1 ∨ k = 2) : qSH L (rS k) = (11, (cSt k).length) := by rcases h with rfl | rfl <;> rfl
theorem rS_b {k : Nat} : rS k ≤ 4 := by unfold rS; split <;> omega
theorem qCst_cg {I J : Nat → Nat → Int32} (h : qCst I) (e : ∀ a, a ≤ 4 → J a = I a) : qCst J := fun k j hk hj => by rw [e _ rS_b]; exact h k j hk hj
def cA (F : qFam) (al : Nat → Bool) (ps : Nat → Nat) (i : Nat) : Nat := bm 9 (fun h => al h && !F.2 1 h (ps i))
def cK (F : qFam) (ps : Nat → Nat) (i : Nat) : Nat := F.1 5 (ps i)
/-- the class' casting of n puppets -/
def qRC (F : qFam) (I : Nat → Nat → Int32) (al : Nat → Bool) (ps : Nat → Nat) (n : Nat) : Prop :=
  I 236 0 = qj (bm 9 al : Nat) ∧ I 236 1 = qj n ∧ I 236 2 = qj (sm n (cK F ps) : Nat) ∧ (∀ i, i < n → I 237 i = qj (ps i) ∧ I 238 i = qj (cA F al ps i) ∧ I 239 i = qj (cK F ps i)) ∧
  (∀ i, i ≤ n → I 240 (sm i (cK F ps)) = qj i) ∧ (∀ c, c ≤ 9 → (∀ i, i ≤ n → ¬ sm i (cK F ps) = c) → I 240 c = qj (-1)) ∧ sm n (cK F ps) ≤ 9 ∧ sm n (cK F ps) ≤ cn 9 al ∧ n ≤ 8
def qFc (I J : Nat → Nat → Int32) : Prop := ∀ a, (a < 236 ∨ 242 < a) → J a = I a
theorem qFc_rf {I : Nat → Nat → Int32} : qFc I I := fun _ _ => rfl
theorem qFc_tr {I J K : Nat → Nat → Int32} (h : qFc I J) (h2 : qFc J K) : qFc I K := fun a ha => (h2 a ha).trans (h a ha)
theorem qFc_F {I J : Nat → Nat → Int32} {F : qFam} {f : Nat} (h : qFc I J) (hf : qisF f) (RF : qRF F I f) : qRF F J f := qRF_cg RF (fun a h1 h2 => h a (by unfold qisF at hf; omega))
theorem qFc_S {I J : Nat → Nat → Int32} {F : qFam} {S : qSt} {s : Nat} (h : qFc I J) (hs : qisS s) (R : qRS F I s S) : qRS F J s S := qRS_cg R (fun a h1 h2 => h a (by unfold qisS at hs; omega))
theorem qFc_C {I J : Nat → Nat → Int32} (h : qFc I J) (C : qCst I) : qCst J := qCst_cg C (fun a ha => h a (by omega))
theorem bm_self {s : Nat} (hs : s < 512) : bm 9 (fun k => s.testBit k) = s := by
  apply Nat.eq_of_testBit_eq
  intro i
  rw [bm_tb]
  by_cases h : i < 9
  · simp [h]
  · have : s.testBit i = false := Nat.testBit_lt_two_pow (Nat.lt_of_lt_of_le hs (show 512 ≤ 2 ^ i from Nat.le_trans (by decide : 512 ≤ 2 ^ 9) (Nat.pow_le_pow_right (by decide) (by omega))))
    simp [this]
theorem p9_bm (p : Nat → Bool) : p9 (bm 9 p) = cn 9 p := by
  unfold p9
  exact cn_ext (fun k hk => by rw [bm_tb]; simp [hk])
theorem nsub {s A : Nat} (hs : s < 512) : (s &&& A == s) = true ↔ ∀ k, k < 9 → s.testBit k = true → A.testBit k = true := by
  rw [beq_iff_eq]
  constructor
  · intro h k _ hk
    have := congrArg (fun m => Nat.testBit m k) h
    simp only [Nat.testBit_and, hk, Bool.true_and] at this
    exact this
  · intro h
    apply Nat.eq_of_testBit_eq
    intro i
    rw [Nat.testBit_and]
    by_cases hi : i < 9
    · cases e : s.testBit i with
      | false => rfl
      | true => rw [h i hi e]; rfl
    · have : s.testBit i = false := by rw [← bm_self hs, bm_tb]; simp [hi]
      rw [this]; rfl
theorem ndis {s t : Nat} (hs : s < 512) : (s &&& t == 0) = true ↔ ∀ k, k < 9 → s.testBit k = true → t.testBit k = false := by
  rw [beq_iff_eq]
  constructor
  · intro h k _ hk
    have := congrArg (fun m => Nat.testBit m k) h
    simp only [Nat.testBit_and, hk, Bool.true_and, Nat.zero_testBit] at this
    exact this
  · intro h
    apply Nat.eq_of_testBit_eq
    intro i
    rw [Nat.testBit_and, Nat.zero_testBit]
    by_cases hi : i < 9
    · cases e : s.testBit i with
      | false => rfl
      | true => rw [h i hi e]; rfl
    · have : s.testBit i = false := by rw [← bm_self hs, bm_tb]; simp [hi]
      rw [this]; rfl
/-- the class' question whether a set is free -/
theorem qfree {s A t : Nat} (hs : s < 512) (hA : A < 512) (ht : t < 512) : (qj (s : Int) &&& ((qj (A : Int) &&& (qj (t : Int) ^^^ qj (-1))) ^^^ qj (-1)) = 0) ↔ ((s &&& A == s) && (s &&& t == 0)) = true := by
  have e : qj (s : Int) &&& ((qj (A : Int) &&& (qj (t : Int) ^^^ qj (-1))) ^^^ qj (-1)) = qj (bm 9 (fun k => s.testBit k && !(decide (k < 9) && (A.testBit k && !(decide (k < 9) && t.testBit k)))) : Nat) := by
    rw [← qj_clr, ← qj_clr, bm_self hs, bm_self hA, bm_self ht]
  rw [e, qz0, qbm_eq0 (by omega), Bool.and_eq_true, nsub hs, ndis hs]
  constructor
  · intro h
    refine ⟨fun k hk h1 => ?_, fun k hk h1 => ?_⟩
    · have := h k hk
      rw [h1] at this
      cases e2 : A.testBit k with
      | true => rfl
      | false => rw [e2] at this; simp [hk] at this
    · have := h k hk
      rw [h1] at this
      cases e2 : t.testBit k with
      | false => rfl
      | true => rw [e2] at this; simp [hk] at this
  · rintro ⟨h1, h2⟩ k hk
    cases e1 : s.testBit k with
    | false => rfl
    | true => rw [h1 k hk e1, h2 k hk e1]; simp [hk]
theorem sm_lt {f : Nat → Nat} (hf : ∀ i, 1 ≤ f i) {i j : Nat} (h : i < j) : sm i f < sm j f := by
  induction j with
  | zero => omega
  | succ j ih =>
    have := hf j
    rw [sm]
    by_cases e : i = j
    · subst e; omega
    · have := ih (by omega); omega
theorem sm_ltb {f : Nat → Nat} {n : Nat} (hf : ∀ i, i < n → 1 ≤ f i) {i j : Nat} (h : i < j) (hj : j ≤ n) : sm i f < sm j f := by
  induction j with
  | zero => omega
  | succ j ih =>
    have := hf j (by omega)
    rw [sm]
    by_cases e : i = j
    · subst e; omega
    · have := ih (by omega) (by omega); omega
theorem sumK_sm (K : Nat → Nat) : ∀ r i, sm i K + sumK K r i = sm (i + r) K
  | 0, i => rfl
  | r + 1, i => by
    have := sumK_sm K r (i + 1)
    rw [sm] at this
    rw [sumK, show i + (r + 1) = i + 1 + r by omega, ← this]; omega
section CC
variable {d : Nat} {g : qG1} {I : Nat → Nat → Int32} {F : qFam} {S : qSt} {f s : Nat} {al : Nat → Bool} {ps : Nat → Nat}
theorem c6 (hd : 1 ≤ d) : ∃ I', qRun d 6 [.ref 236, .int (qj (bm 9 al : Nat))] (qw g I) (.inl (none, qw g I')) ∧ (∀ F ps, qRC F I' al ps 0) ∧ qFc I I' := by
  have key : ∀ i : Nat, i ≤ 10 → ∀ J : Nat → Nat → Int32, J 236 0 = qj (bm 9 al : Nat) → J 236 1 = qj 0 → J 236 2 = qj 0 → (∀ c, c < i → J 240 c = qj (-1)) → qFc I J →
      ∃ I', ((∀ F ps, qRC F I' al ps 0) ∧ qFc I I') ∧ ∀ Q : qR → Prop, Q (.inl (none, qw g I')) → qwq d 6 21 [(0, .ref 236), (2, .int (qj i))] [] (qw g J) Q := by
    refine upto _ (fun J h1 h2 h3 h4 h5 => ?_) (fun i hi ih J h1 h2 h3 h4 h5 => ?_)
    · refine ⟨qup J 240 0 (qj 0), ⟨fun F ps => ⟨by rw [qup_ne (by omega)]; exact h1, by rw [qup_ne (by omega)]; exact h2, by rw [qup_ne (by omega)]; exact h3, fun i hi => absurd hi (Nat.not_lt_zero _), fun i hi => ?_, fun c hc hn => ?_, Nat.zero_le _, Nat.zero_le _, Nat.zero_le _⟩, fun a ha => by rw [qup_ne (by omega)]; exact h5 a ha⟩, fun Q hQ => b6_21 (by omega) ?_⟩
      · have : i = 0 := by omega
        subst this
        rw [qup_at, if_pos (show sm 0 (cK F ps) = 0 from rfl)]; rfl
      · have := hn 0 (by omega)
        rw [qup_at, if_neg (fun e => this e.symm)]; exact h4 c (by omega)
      · simp (disch := omega) only [qj_lt]
        exact ⟨fun _ => hQ, fun c => by omega⟩
    · obtain ⟨I', k1, k2⟩ := ih (qup J 240 i (qj (-1))) (by rw [qup_ne (by omega)]; exact h1) (by rw [qup_ne (by omega)]; exact h2) (by rw [qup_ne (by omega)]; exact h3) (fun c hc => by
        rw [qup_at]
        by_cases e : c = i
        · rw [if_pos e]
        · rw [if_neg e]; exact h4 c (by omega)) (fun a ha => by rw [qup_ne (by omega)]; exact h5 a ha)
      refine ⟨I', k1, fun Q hQ => b6_21 (by omega) ?_⟩
      simp (disch := omega) only [qj_lt, qIx_z, qj_nat, qj_add, qj_s1, true_and]
      exact ⟨fun c => by omega, fun _ => k2 Q hQ⟩
  have e511 : qj (bm 9 al : Nat) &&& qj 511 = qj (bm 9 al : Nat) := by
    have := qj_and (bm 9 al) 511
    rw [show (511 : Nat) = 2 ^ 9 - 1 from rfl, Nat.and_two_pow_sub_one_eq_mod, Nat.mod_eq_of_lt (bm_lt 9 al)] at this
    exact this
  obtain ⟨I', k1, k2⟩ := key 0 (Nat.zero_le _) (qup (qup (qup I 236 0 (qj (bm 9 al : Nat))) 236 1 (qj 0)) 236 2 (qj 0)) (by simp only [qup_at]; rfl) (by simp only [qup_at]; rfl) (by simp only [qup_at]; rfl) (fun c hc => absurd hc (Nat.not_lt_zero _)) (fun a ha => by rw [qup_ne (by omega), qup_ne (by omega), qup_ne (by omega)])
  refine ⟨I', qRun_of (fun Q hQ => b6_0 (by omega) ?_), k1⟩
  rw [e511]
  exact k2 Q hQ
theorem c34 (hd : 2 ≤ d) (hf : qisF f) (RF : qRF F I f) (W : qWF F) {p : Nat} (hp : p < 8) : qRun d 34 [.ref f, .int (qj p)] (qw g I) (.inl (some (.int (qj (bm (F.1 0 0) (fun h => !F.2 1 h p) : Nat))), qw g I)) := by
  refine qRun_of fun Q hQ => b34_0 hf (by omega) ?_
  have f1 := RF.1
  have h9 := W.1
  have f9 := RF.2.2.2.2.2.2.2.2.1
  have L : ∀ i, i ≤ F.1 0 0 → qwq d 34 4 [(0, .ref f), (1, .int (qj p)), (2, .int (qj (bm i (fun h => !F.2 1 h p) : Nat))), (3, .int (qj i))] [] (qw g I) Q := by
    refine upto _ (b34_4 hf (by omega) ?_) (fun i hi ih => b34_4 hf (by omega) ?_)
    · simp (disch := omega) only [f1, qj_le]
      exact ⟨fun _ => hQ, fun c => by omega⟩
    · simp (disch := omega) only [f1, qj_le, qIx_z, qj_nat, f9, qhas_bm, qj_add, qj_s1]
      refine ⟨fun c => by omega, fun _ => ⟨trivial, fun c => ?_, fun c => ?_⟩⟩
      · rw [bm_sf (P := fun h => !F.2 1 h p) (by show (!F.2 1 i p) = false; rw [c]; rfl)] at ih; exact ih
      · rw [bm_st (P := fun h => !F.2 1 h p) (by show (!F.2 1 i p) = true; rw [c]; rfl) (by omega)]; exact ih
  exact L 0 (Nat.zero_le _)
theorem c35 (hd : 2 ≤ d) (hf : qisF f) (RF : qRF F I f) (W : qWF F) {m : Nat} (hm : m < 512) : qRun d 35 [.ref f, .int (qj m)] (qw g I) (.inl (some (.int (qb (cQt (F.2 2) m))), qw g I)) := by
  refine qRun_of fun Q hQ => b35_0 hf (by omega) ?_
  have f1 := RF.1
  have h9 := W.1
  have f10 := RF.2.2.2.2.2.2.2.2.2.1
  have w11 := W.2.2.2.2.2.2.2.2.2.2.1
  let P : Nat → Bool := fun h => m.testBit h && anb 9 (fun k => m.testBit k && F.2 2 h k)
  have hP : cQt (F.2 2) m = !(anb (F.1 0 0) P) := by
    unfold cQt
    congr 1
    rw [Bool.eq_iff_iff, anb_iff, anb_iff]
    constructor
    · rintro ⟨h, hh, e⟩
      have e' := e
      rw [Bool.and_eq_true, anb_iff] at e'
      obtain ⟨-, k, hk, e2⟩ := e'
      rw [Bool.and_eq_true] at e2
      exact ⟨h, (w11 h k e2.2).1, e⟩
    · rintro ⟨h, hh, e⟩
      exact ⟨h, by omega, e⟩
  have L : ∀ i, i ≤ F.1 0 0 → anb i P = false → qwq d 35 2 [(0, .ref f), (1, .int (qj m)), (2, .int (qj i))] [] (qw g I) Q := by
    refine upto (P := fun i => anb i P = false → _) _ (fun hn => b35_2 hf (by omega) ?_) (fun i hi ih hn => b35_2 hf (by omega) ?_)
    · rw [hP, hn] at hQ
      simp (disch := omega) only [f1, qj_le]
      exact ⟨fun _ => hQ, fun c => by omega⟩
    · have step : P i = false → qwq d 35 2 [(0, .ref f), (1, .int (qj m)), (2, .int (qj ((i + 1 : Nat) : Int)))] [] (qw g I) Q := fun e => ih (by rw [anb, hn, e]; rfl)
      have done : P i = true → Q (.inl (some (.int (qb false)), qw g I)) := fun e => by
        rw [hP, (anb_iff P _).mpr ⟨i, hi, e⟩] at hQ; exact hQ
      have e1 : qj (m : Int) &&& qj (bm 9 (F.2 2 i) : Nat) = qj (bm 9 (fun k => m.testBit k && F.2 2 i k) : Nat) := by rw [← qbm_and, bm_self hm]
      simp (disch := omega) only [f1, qj_le, qhas_n, qIx_z, qj_nat, f10, e1, qz0, qbm_eq0, qj_add, qj_s1, true_and]
      have hZ : (∀ k, k < 9 → (m.testBit k && F.2 2 i k) = false) ↔ anb 9 (fun k => m.testBit k && F.2 2 i k) = false := (anb_false _ _).symm
      rw [hZ]
      refine ⟨fun c => by omega, fun _ => ⟨fun c => step ?_, fun c => ⟨fun z => step ?_, fun z => done ?_⟩⟩⟩
      · show (m.testBit i && _) = false; rw [c]; rfl
      · show (m.testBit i && _) = false; rw [z, Bool.and_false]
      · rw [Bool.not_eq_false] at z
        show (m.testBit i && _) = true; rw [c, z]; rfl
  exact L 0 (Nat.zero_le _) rfl
theorem c8 (hd : 3 ≤ d) (hf : qisF f) (RF : qRF F I f) (W : qWF F) (hal : ∀ h, al h = true → h < F.1 0 0) {n : Nat} (hp : ps n < F.1 0 1) (RC : qRC F I al ps n) :
    ∃ (I' : Nat → Nat → Int32) (b : Bool), qRun d 8 [.ref 236, .ref f, .int (qj (ps n))] (qw g I) (.inl (some (.int (qb b)), qw g I')) ∧ qFc I I' ∧ (b = true → qRC F I' al ps (n + 1)) ∧ (b = false → 8 ≤ n ∨ 9 < sm (n + 1) (cK F ps) ∨ cn 9 al < sm (n + 1) (cK F ps)) := by
  have h9 := W.1
  have h8 := W.2.1
  have hw := W.2.2.2.2.2.1 (ps n) hp
  obtain ⟨r0, r1, r2, r3, r4, r5, r6, r7, r8⟩ := RC
  have f13 := RF.2.2.2.2.2.2.2.2.2.2.2.2.1 (ps n) hp
  have hc := cn_le 9 al
  have e1 : sm (n + 1) (cK F ps) = sm n (cK F ps) + F.1 5 (ps n) := rfl
  have hfb : f ≤ 96 := by unfold qisF at hf; omega
  have fo : ∀ a, qFc I (qup I 236 2 a) := fun a b hb => qup_ne (by omega)
  by_cases h : n < 8 ∧ sm (n + 1) (cK F ps) ≤ 9 ∧ sm (n + 1) (cK F ps) ≤ cn 9 al
  · let N2 := sm (n + 1) (cK F ps)
    let J0 := qup (qup (qup I 236 2 (qj N2)) 237 n (qj (ps n))) 239 n (qj (F.1 5 (ps n)))
    have J0f : qFc I J0 := fun a ha => by show qup (qup (qup I 236 2 (qj N2)) 237 n (qj (ps n))) 239 n (qj (F.1 5 (ps n))) a = _; rw [qup_ne (by omega), qup_ne (by omega), qup_ne (by omega)]
    have k34 := c34 (d := d - 1) (g := g) (by omega) hf (qFc_F J0f hf RF) W (p := ps n) (by omega)
    have eA : qj (bm (F.1 0 0) (fun h => !F.2 1 h (ps n)) : Nat) &&& qj (bm 9 al : Nat) = qj (cA F al ps n) := by
      rw [← bm_up (F.1 0 0) (fun h => !F.2 1 h (ps n)) 9 h9, qbm_and]
      unfold cA
      congr 2
      refine bm_ext (fun k hk => ?_)
      cases e : al k with
      | false => simp
      | true => simp [hal k e]
    let I' := qup (qup (qup J0 238 n (qj (cA F al ps n))) 236 1 (qj ((n + 1 : Nat) : Int))) 240 N2 (qj ((n + 1 : Nat) : Int))
    refine ⟨I', true, qRun_of fun Q hQ => b8_0 hf (by omega) ?_, fun a ha => ?_, fun _ => ?_, fun c => Bool.noConfusion c⟩
    · have z : ((n + 1 : Nat) : Int) = (n : Int) + 1 := rfl
      have e2 : qj ((sm n (cK F ps) : Nat) : Int) + qj ((F.1 5 (ps n) : Nat) : Int) = qj (N2 : Int) := by rw [qj_add]; rfl
      simp (disch := omega) only [qIx_z, qj_nat, f13, r1, r2, r0, e2, qpc_bm, qj_le, qj_lt, qup_ne, true_and]
      refine ⟨fun c => by omega, fun _ => ⟨fun c => by omega, fun _ => ⟨fun _ => ⟨_, _, k34, ?_⟩, fun c => by omega⟩⟩⟩
      have j1 : J0 236 2 = qj (N2 : Int) := rfl
      have j2 : J0 236 1 = qj (n : Int) := r1
      have j3 : J0 236 0 = qj (bm 9 al : Nat) := r0
      rw [j1, j2, j3, eA, qj_nat (by omega)]
      refine ⟨qIx_z (by omega) (by omega) (by omega), ?_⟩
      rw [qj_add]
      exact hQ
    · show qup (qup (qup J0 238 n _) 236 1 _) 240 N2 _ a = _
      rw [qup_ne (by omega), qup_ne (by omega), qup_ne (by omega)]
      exact J0f a ha
    · have kb : ∀ i, i < n + 1 → 1 ≤ cK F ps i ∨ i < n := fun i hi => by
        by_cases e : i = n
        · subst e; left; exact hw.2.1
        · right; omega
      have hmon : ∀ i, i ≤ n → sm i (cK F ps) < N2 := fun i hi => by
        have a1 : sm i (cK F ps) ≤ sm n (cK F ps) := by
          have : ∀ m, i ≤ m → sm i (cK F ps) ≤ sm m (cK F ps) := by
            intro m
            induction m with
            | zero => intro hm; rw [show i = 0 by omega]; exact Nat.le_refl _
            | succ m ih =>
              intro hm
              by_cases e : i = m + 1
              · rw [e]; exact Nat.le_refl _
              · have := ih (by omega); rw [sm]; omega
          exact this n hi
        show _ < sm (n + 1) (cK F ps)
        rw [e1]; omega
      refine ⟨r0, rfl, rfl, fun i hi => ?_, fun i hi => ?_, fun c hc hn => ?_, h.2.1, h.2.2, by omega⟩
      · by_cases e : i = n
        · subst e
          refine ⟨?_, ?_, ?_⟩
          · show qup (qup (qup J0 238 i _) 236 1 _) 240 N2 _ 237 i = _
            rw [qup_ne (by omega), qup_ne (by omega), qup_ne (by omega)]
            show qup (qup (qup I 236 2 _) 237 i _) 239 i _ 237 i = _
            rw [qup_ne (by omega), qup_at, if_pos rfl]
          · show qup (qup (qup J0 238 i _) 236 1 _) 240 N2 _ 238 i = _
            rw [qup_ne (by omega), qup_ne (by omega), qup_at, if_pos rfl]
          · show qup (qup (qup J0 238 i _) 236 1 _) 240 N2 _ 239 i = _
            rw [qup_ne (by omega), qup_ne (by omega), qup_ne (by omega)]
            show qup (qup (qup I 236 2 _) 237 i _) 239 i _ 239 i = _
            rw [qup_at, if_pos rfl]; rfl
        · have := r3 i (by omega)
          refine ⟨?_, ?_, ?_⟩
          · show qup (qup (qup J0 238 n _) 236 1 _) 240 N2 _ 237 i = _
            rw [qup_ne (by omega), qup_ne (by omega), qup_ne (by omega)]
            show qup (qup (qup I 236 2 _) 237 n _) 239 n _ 237 i = _
            rw [qup_ne (by omega), qup_at, if_neg e, qup_ne (by omega)]; exact this.1
          · show qup (qup (qup J0 238 n _) 236 1 _) 240 N2 _ 238 i = _
            rw [qup_ne (by omega), qup_ne (by omega), qup_at, if_neg e]
            show qup (qup (qup I 236 2 _) 237 n _) 239 n _ 238 i = _
            rw [qup_ne (by omega), qup_ne (by omega), qup_ne (by omega)]; exact this.2.1
          · show qup (qup (qup J0 238 n _) 236 1 _) 240 N2 _ 239 i = _
            rw [qup_ne (by omega), qup_ne (by omega), qup_ne (by omega)]
            show qup (qup (qup I 236 2 _) 237 n _) 239 n _ 239 i = _
            rw [qup_at, if_neg e, qup_ne (by omega), qup_ne (by omega)]; exact this.2.2
      · show qup (qup (qup J0 238 n _) 236 1 _) 240 N2 _ 240 _ = _
        by_cases e : i = n + 1
        · subst e; rw [qup_at, if_pos rfl]
        · have := hmon i (by omega)
          rw [qup_at, if_neg (by omega), qup_ne (by omega), qup_ne (by omega)]
          show qup (qup (qup I 236 2 _) 237 n _) 239 n _ 240 _ = _
          rw [qup_ne (by omega), qup_ne (by omega), qup_ne (by omega)]; exact r4 i (by omega)
      · have hx := hn (n + 1) (Nat.le_refl _)
        show qup (qup (qup J0 238 n _) 236 1 _) 240 N2 _ 240 c = _
        rw [qup_at, if_neg (fun q => hx q.symm), qup_ne (by omega), qup_ne (by omega)]
        show qup (qup (qup I 236 2 _) 237 n _) 239 n _ 240 c = _
        rw [qup_ne (by omega), qup_ne (by omega), qup_ne (by omega)]
        exact r5 c hc (fun i hi => hn i (by omega))
  · refine ⟨qup I 236 2 (qj (sm (n + 1) (cK F ps) : Nat)), false, qRun_of fun Q hQ => b8_0 hf (by omega) ?_, fo _, fun c => Bool.noConfusion c, fun _ => by omega⟩
    have e2 : qj ((sm n (cK F ps) : Nat) : Int) + qj ((F.1 5 (ps n) : Nat) : Int) = qj (sm (n + 1) (cK F ps) : Nat) := by rw [qj_add]; rfl
    have hb2 : sm (n + 1) (cK F ps) ≤ 11 := by rw [e1]; omega
    simp (disch := omega) only [qIx_z, qj_nat, f13, r1, r2, r0, e2, qpc_bm, qj_le, qj_lt, true_and]
    refine ⟨fun _ => hQ, fun c1 => ⟨fun _ => hQ, fun c2 => ⟨fun c3 => ?_, fun _ => hQ⟩⟩⟩
    exact absurd ⟨by omega, by omega, by omega⟩ h
end CC
