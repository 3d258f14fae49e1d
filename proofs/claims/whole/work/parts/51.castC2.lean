/-! ===== the class' casting: how many ways, the first one ===== -/
def fac : Nat → Nat
  | 0 => 1
  | n + 1 => (n + 1) * fac n
theorem cSg_cnt : ∀ t : Fin 512, cn 9 (fun j => cSg.getD j 0 &&& t.val == 0) = 9 - p9 t.val := by decide +kernel
theorem cPr_cnt : ∀ t : Fin 512, cn 36 (fun j => cPr.getD j 0 &&& t.val == 0) = (9 - p9 t.val) * (8 - p9 t.val) / 2 := by decide +kernel
theorem p9_le (t : Nat) : p9 t ≤ 9 := cn_le 9 _
theorem fac_pos : ∀ n, 1 ≤ fac n
  | 0 => Nat.le_refl _
  | n + 1 => by have := fac_pos n; rw [fac]; exact Nat.mul_pos (Nat.succ_pos _) this
theorem sm_bnd {n B : Nat} {f : Nat → Nat} {c : Nat → Bool} (h : ∀ j, j < n → f j ≤ bif c j then B else 0) : sm n f ≤ cn n c * B := by
  induction n with
  | zero => exact Nat.zero_le _
  | succ n ih =>
    have h1 := ih (fun j hj => h j (by omega))
    have h2 := h n (by omega)
    rw [sm, cn, Nat.add_mul]
    cases e : c n with
    | false => rw [e, cond_false] at h2; omega
    | true => rw [e, cond_true] at h2; rw [cond_true]; omega
theorem cE_bnd (sil : Nat → Nat → Bool) (K A : Nat → Nat) (b : Nat → Bool) : ∀ r i t, (∀ j, i ≤ j → j < i + r → K j = 1 ∨ K j = 2) → t < 512 → (cE sil K A b r i t).length ≤ fac (9 - p9 t)
  | 0, i, t, _, _ => fac_pos _
  | r + 1, i, t, hK, ht => by
    have hk := hK i (by omega) (by omega)
    cases hb : b i with
    | false => rw [cE, hb]; exact Nat.zero_le _
    | true =>
      rw [cE_len sil K A b hb hk]
      have hs : ∀ j, j < (cSt (K i)).length → ((cSt (K i)).getD j 0 &&& t == 0) = true → (cE sil K A b r (i + 1) (t ||| (cSt (K i)).getD j 0)).length ≤ fac (9 - (p9 t + K i)) := fun j hj e => by
        obtain ⟨q1, q2, q3, -⟩ := cSt_at hk hj
        have := cE_bnd sil K A b r (i + 1) (t ||| (cSt (K i)).getD j 0) (fun j h1 h2 => hK j (by omega) (by omega)) (Nat.or_lt_two_pow (n := 9) ht q3)
        rw [p9_or (beq_iff_eq.mp e), q1] at this
        exact this
      refine Nat.le_trans (sm_bnd (B := fac (9 - (p9 t + K i))) (c := fun j => (cSt (K i)).getD j 0 &&& t == 0) (fun j hj => ?_)) ?_
      · cases e : ((cSt (K i)).getD j 0 &&& t == 0) with
        | false => simp
        | true =>
          rw [cond_true]
          split
          · exact hs j hj e
          · exact Nat.zero_le _
      · have hp := p9_le t
        rcases hk with e | e
        · rw [e]
          have := cSg_cnt ⟨t, ht⟩
          show cn 9 (fun j => cSg.getD j 0 &&& t == 0) * _ ≤ _
          rw [this]
          by_cases h : p9 t = 9
          · rw [h]; decide
          · obtain ⟨m, hm⟩ : ∃ m, 9 - p9 t = m + 1 := ⟨8 - p9 t, by omega⟩
            rw [hm, show 9 - (p9 t + 1) = m by omega, fac]; exact Nat.le_refl _
        · rw [e]
          have := cPr_cnt ⟨t, ht⟩
          show cn 36 (fun j => cPr.getD j 0 &&& t == 0) * _ ≤ _
          rw [this]
          by_cases h : 8 ≤ p9 t
          · have h2 : 8 - p9 t = 0 := by omega
            rw [h2, Nat.mul_zero, Nat.zero_div, Nat.zero_mul]; exact Nat.zero_le _
          · obtain ⟨m, hm⟩ : ∃ m, 9 - p9 t = m + 2 := ⟨7 - p9 t, by omega⟩
            rw [hm, show 9 - (p9 t + 2) = m by omega, show 8 - p9 t = m + 1 by omega, fac, fac, ← Nat.mul_assoc]
            exact Nat.mul_le_mul_right _ (Nat.div_le_self _ _)
theorem fac_9 {n : Nat} (h : n ≤ 9) : fac n ≤ 362880 := by
  have : ∀ n : Fin 10, fac n.val ≤ 362880 := by decide
  exact this ⟨n, by omega⟩
theorem cE_b {sil : Nat → Nat → Bool} {K A : Nat → Nat} {b c : Nat → Bool} : ∀ r i t, (∀ j, i ≤ j → j < i + r → b j = c j) → cE sil K A b r i t = cE sil K A c r i t
  | 0, i, t, _ => rfl
  | r + 1, i, t, h => by
    rw [cE, cE, h i (by omega) (by omega)]
    split
    · refine congrArg (fun f => List.flatMap f (List.range 512)) (funext (fun s => ?_))
      rw [cE_b r (i + 1) _ (fun j h1 h2 => h j (by omega) (by omega))]
    · rfl
/-- the ways of a casting, strings not asked -/
abbrev cT (F : qFam) (al : Nat → Bool) (ps : Nat → Nat) : Nat → Nat → Nat → List (List Nat) := cE (F.2 2) (cK F ps) (cA F al ps) (fun _ => true)
def cFit (F : qFam) (al : Nat → Bool) (ps : Nat → Nat) (n i t : Nat) : Prop := i ≤ n ∧ sm i (cK F ps) = p9 t ∧ t &&& bm 9 al = t ∧ cQt (F.2 2) t = true
/-- the table from m on -/
def qTb (F : qFam) (I : Nat → Nat → Int32) (al : Nat → Bool) (ps : Nat → Nat) (n m : Nat) : Prop := ∀ t, m ≤ t → t < 512 → (∀ i, cFit F al ps n i t → I 241 t = qj (cT F al ps (n - i) i t).length) ∧ ((∀ i, ¬ cFit F al ps n i t) → I 241 t = qj 0)
theorem qpc_p9 {t : Nat} (h : t < 512) : qpc (qj (t : Int)) = qj (p9 t : Int) := qpcF ⟨t, h⟩
theorem qsub {t A : Nat} (ht : t < 512) (hA : A < 512) : (qj (t : Int) &&& (qj (A : Int) ^^^ qj (-1)) = 0) ↔ t &&& A = t := by
  have e : qj (t : Int) &&& (qj (A : Int) ^^^ qj (-1)) = qj (bm 9 (fun k => t.testBit k && !(decide (k < 9) && A.testBit k)) : Nat) := by rw [← qj_clr, bm_self ht, bm_self hA]
  rw [e, qz0, qbm_eq0 (by omega), ← beq_iff_eq, nsub ht]
  constructor
  · intro h k hk h1
    have := h k hk
    rw [h1] at this
    cases e2 : A.testBit k with
    | true => rfl
    | false => rw [e2] at this; simp [hk] at this
  · intro h k hk
    cases e1 : t.testBit k with
    | false => rfl
    | true => rw [h k hk e1]; simp [hk]
theorem qofNat (n : Nat) : Int32.ofNat n = qj (n : Int) := (Int32.ofInt_eq_ofNat).symm
theorem cA_lt (F : qFam) (al : Nat → Bool) (ps : Nat → Nat) (i : Nat) : cA F al ps i < 512 := bm_lt 9 _
theorem cA_sub (F : qFam) (al : Nat → Bool) (ps : Nat → Nat) (i : Nat) : cA F al ps i &&& bm 9 al = cA F al ps i := by
  rw [← beq_iff_eq, nsub (cA_lt F al ps i)]
  intro k hk h
  unfold cA at h
  rw [bm_tb] at h ⊢
  rw [Bool.and_eq_true, Bool.and_eq_true] at h
  rw [h.1, h.2.1]; rfl
theorem or_gt {t s : Nat} (hs : 0 < s) (h : s &&& t = 0) : t < t ||| s := by
  have h1 : t ≤ t ||| s := Nat.left_le_or
  rcases Nat.lt_or_ge t (t ||| s) with h2 | h2
  · exact h2
  · exfalso
    have e : t ||| s = t := by omega
    have : s = 0 := by
      apply Nat.eq_of_testBit_eq
      intro i
      rw [Nat.zero_testBit]
      have q1 := congrArg (fun m => Nat.testBit m i) e
      have q2 := congrArg (fun m => Nat.testBit m i) h
      simp only [Nat.testBit_or, Nat.testBit_and, Nat.zero_testBit] at q1 q2
      cases e1 : s.testBit i with
      | false => rfl
      | true => rw [e1] at q1 q2; simp at q1 q2; rw [q1] at q2; cases q2
    omega
/-- a step of the table -/
theorem cFit_s {F : qFam} {al : Nat → Bool} {ps : Nat → Nat} {n i t s : Nat} (h : cFit F al ps n i t) (hi : i < n) (hp : p9 s = cK F ps i) (h1 : s &&& cA F al ps i = s) (h2 : s &&& t = 0) (hq : cQt (F.2 2) (t ||| s) = true) : cFit F al ps n (i + 1) (t ||| s) :=
  ⟨hi, by rw [p9_or h2, hp, sm, h.2.1], sub_or (sub_tr h1 (cA_sub F al ps i)) h.2.2.1, hq⟩
section CC2
variable {d : Nat} {g : qG1} {I : Nat → Nat → Int32} {F : qFam} {S : qSt} {f s : Nat} {al : Nat → Bool} {ps : Nat → Nat}
theorem c7 (hd : 4 ≤ d) (hf : qisF f) (hs : qisS s) (RF : qRF F I f) (R : qRS F I s S) (W : qWF F) (WS : qWS F S) (hal : ∀ h, al h = true → h < F.1 0 0) {n a : Nat} (ha : a < F.1 0 2) (hps : ∀ i, i < F.1 8 a → ps (n + i) = F.1 (10 + a) i) (RC : qRC F I al ps n) :
    ∃ (I' : Nat → Nat → Int32) (b : Bool), qRun d 7 [.ref 236, .ref f, .ref s, .int (qj a)] (qw g I) (.inl (some (.int (qb b)), qw g I')) ∧ qFc I I' ∧ (b = true → qRC F I' al ps (n + F.1 8 a) ∧ ∀ i, i < F.1 8 a → F.1 7 a ≤ S.1 3 (F.1 (10 + a) i)) ∧
      (b = false → (∃ i, i < F.1 8 a ∧ S.1 3 (F.1 (10 + a) i) < F.1 7 a) ∨ ∃ m, m ≤ n + F.1 8 a ∧ (8 < m ∨ 9 < sm m (cK F ps) ∨ cn 9 al < sm m (cK F ps))) := by
  have w3 := W.2.2.1
  have h8 := W.2.1
  have hwa := W.2.2.2.2.2.2.1 a ha
  let Post : (Nat → Nat → Int32) → Bool → Prop := fun I' b => qFc I I' ∧ (b = true → qRC F I' al ps (n + F.1 8 a) ∧ ∀ i, i < F.1 8 a → F.1 7 a ≤ S.1 3 (F.1 (10 + a) i)) ∧
      (b = false → (∃ i, i < F.1 8 a ∧ S.1 3 (F.1 (10 + a) i) < F.1 7 a) ∨ ∃ m, m ≤ n + F.1 8 a ∧ (8 < m ∨ 9 < sm m (cK F ps) ∨ cn 9 al < sm m (cK F ps)))
  have key : ∀ i, i ≤ F.1 8 a → ∀ J, qFc I J → qRC F J al ps (n + i) → (∀ j, j < i → F.1 7 a ≤ S.1 3 (F.1 (10 + a) j)) →
      ∃ I' b, Post I' b ∧ ∀ Q : qR → Prop, Q (.inl (some (.int (qb b)), qw g I')) → qwq d 7 3 [(0, .ref 236), (1, .ref f), (2, .ref s), (3, .int (qj a)), (4, .int (qj i))] [] (qw g J) Q := by
    refine upto _ (fun J h1 h2 h3 => ?_) (fun i hi ih J h1 h2 h3 => ?_)
    · refine ⟨J, true, ⟨h1, fun _ => ⟨h2, h3⟩, fun c => Bool.noConfusion c⟩, fun Q hQ => b7_3 hf hs (by omega) ?_⟩
      have f16 := (qFc_F h1 hf RF).2.2.2.2.2.2.2.2.2.2.2.2.2.2.2.1 a (by omega)
      simp (disch := omega) only [qIx_z, qj_nat, f16, qj_le, true_and]
      exact ⟨fun _ => hQ, fun c => by omega⟩
    · have RF' := qFc_F h1 hf RF
      have R' := qFc_S h1 hs R
      have f16 := RF'.2.2.2.2.2.2.2.2.2.2.2.2.2.2.2.1 a (by omega)
      have f15 := RF'.2.2.2.2.2.2.2.2.2.2.2.2.2.2.1 a ha
      have f17 := RF'.2.2.2.2.2.2.2.2.2.2.2.2.2.2.2.2 a i (by omega) hi
      have hp := hwa.2.2.2.1 i hi
      have s7 := R'.2.2.2.2.2.2.1 _ hp
      have v3 := WS.2.2.1 _ hp
      by_cases hl : S.1 3 (F.1 (10 + a) i) < F.1 7 a
      · refine ⟨J, false, ⟨h1, fun c => Bool.noConfusion c, fun _ => Or.inl ⟨i, hi, hl⟩⟩, fun Q hQ => b7_3 hf hs (by omega) ?_⟩
        simp (disch := omega) only [qIx_z, qj_nat, f16, f15, q2_e, f17, s7, qj_le, qj_lt, true_and]
        exact ⟨fun c => by omega, fun _ => ⟨fun c => by omega, fun _ => ⟨fun _ => hQ, fun c => by omega⟩⟩⟩
      · have epn := hps i hi
        obtain ⟨J2, b, r1, r2, r3, r4⟩ := c8 (d := d - 1) (g := g) (by omega) hf RF' W hal (by rw [epn]; exact hp) h2
        rw [epn] at r1
        cases b with
        | true =>
          obtain ⟨I', b2, k1, k2⟩ := ih J2 (qFc_tr h1 r2) (r3 rfl) (fun j hj => by
            by_cases e : j = i
            · subst e; omega
            · exact h3 j (by omega))
          refine ⟨I', b2, k1, fun Q hQ => b7_3 hf hs (by omega) ?_⟩
          simp (disch := omega) only [qIx_z, qj_nat, f16, f15, q2_e, f17, s7, qj_le, qj_lt, qj_add, qj_s1, true_and]
          exact ⟨fun c => by omega, fun _ => ⟨fun c => by omega, fun _ => ⟨fun c => by omega, fun _ => ⟨_, _, r1, fun _ => k2 Q hQ, fun c => Bool.noConfusion c⟩⟩⟩⟩
        | false =>
          refine ⟨J2, false, ⟨qFc_tr h1 r2, fun c => Bool.noConfusion c, fun _ => Or.inr ⟨n + i + 1, by omega, ?_⟩⟩, fun Q hQ => b7_3 hf hs (by omega) ?_⟩
          · rcases r4 rfl with h | h | h
            · left; omega
            · right; left; exact h
            · right; right; exact h
          · simp (disch := omega) only [qIx_z, qj_nat, f16, f15, q2_e, f17, s7, qj_le, qj_lt, true_and]
            exact ⟨fun c => by omega, fun _ => ⟨fun c => by omega, fun _ => ⟨fun c => by omega, fun _ => ⟨_, _, r1, fun c => Bool.noConfusion c, fun _ => hQ⟩⟩⟩⟩
  obtain ⟨I', b, k1, k2⟩ := key 0 (Nat.zero_le _) I qFc_rf RC (fun j hj => absurd hj (Nat.not_lt_zero _))
  exact ⟨I', b, qRun_of (fun Q hQ => b7_0 hf hs (by omega) (k2 Q hQ)), k1⟩
theorem c10 (hd : 1 ≤ d) (W : qWF F) (C : qCst I) {n i t : Nat} (hps : ∀ i, i < n → ps i < F.1 0 1) (RC : qRC F I al ps n) (ht : t < 512) (hfit : cFit F al ps n i t) (T : qTb F I al ps n (t + 1)) :
    qRun d 10 [.ref 236, .int (qj i), .int (qj t)] (qw g I) (.inl (some (.int (qj (cT F al ps (n - i) i t).length)), qw g I)) := by
  refine qRun_of fun Q hQ => b10_0 (by omega) ?_
  obtain ⟨r0, r1, r2, r3, r4, r5, r6, r7, r8⟩ := RC
  have hin := hfit.1
  by_cases hi : i < n
  · have hkk : cK F ps i = 1 ∨ cK F ps i = 2 := by
      have := W.2.2.2.2.2.1 _ (hps i hi)
      unfold cK; omega
    obtain ⟨e1, e2, e3⟩ := r3 i hi
    have hlen := cSt_len hkk
    let v : Nat → Nat := fun j => if (((cSt (cK F ps i)).getD j 0 &&& cA F al ps i == (cSt (cK F ps i)).getD j 0) && ((cSt (cK F ps i)).getD j 0 &&& t == 0) && cQt (F.2 2) (t ||| (cSt (cK F ps i)).getD j 0)) = true then (cT F al ps (n - i - 1) (i + 1) (t ||| (cSt (cK F ps i)).getD j 0)).length else 0
    have hv : (cT F al ps (n - i) i t).length = sm (cSt (cK F ps i)).length v := by
      rw [show n - i = (n - i - 1) + 1 by omega]
      exact cE_len _ _ _ _ rfl hkk
    rw [hv] at hQ
    have L : ∀ j, j ≤ (cSt (cK F ps i)).length → qwq d 10 48 [(0, .ref 236), (2, .int (qj t)), (3, .int (qj (cA F al ps i) &&& (qj t ^^^ qj (-1)))), (4, .ref (rS (cK F ps i))), (5, .int (qj (sm j v))), (6, .int (qj j))] [] (qw g I) Q := by
      refine upto _ (b10r_48 (rS_sh hkk) (by omega) ?_) (fun j hj ih => b10r_48 (rS_sh hkk) (by omega) ?_)
      · rw [rS_sh hkk]
        simp (disch := omega) only [qofNat, qj_le]
        exact ⟨fun _ => hQ, fun c => by omega⟩
      · have ej := C _ j hkk hj
        obtain ⟨q1, q2, q3, -⟩ := cSt_at hkk hj
        rw [rS_sh hkk]
        have hor : t ||| (cSt (cK F ps i)).getD j 0 < 512 := Nat.or_lt_two_pow (n := 9) ht q3
        simp (disch := omega) only [qofNat, qj_le, qIx_z, qj_nat, ej, qj_or, true_and]
        rw [qfree q3 (cA_lt F al ps i) ht]
        refine ⟨fun c => by omega, fun _ => ⟨fun c => ?_, fun c => ?_⟩⟩
        · have hz : v j = 0 := if_neg (fun q => c (by rw [Bool.and_eq_true] at q; exact q.1))
          rw [sm, hz, Nat.add_zero] at ih
          rw [qj_add]; exact ih
        · have c := Classical.not_not.mp c
          have c' := c
          rw [Bool.and_eq_true, beq_iff_eq, beq_iff_eq] at c'
          have hgt := or_gt q2 c'.2
          obtain ⟨t1, t2⟩ := T (t ||| (cSt (cK F ps i)).getD j 0) (by omega) hor
          rw [qj_add]
          cases hq : cQt (F.2 2) (t ||| (cSt (cK F ps i)).getD j 0) with
          | true =>
            have hz : v j = (cT F al ps (n - i - 1) (i + 1) (t ||| (cSt (cK F ps i)).getD j 0)).length := if_pos (by rw [c, hq]; rfl)
            rw [t1 (i + 1) (cFit_s hfit hi q1 c'.1 c'.2 hq), qj_add]
            rw [sm, hz] at ih
            exact ih
          | false =>
            have hz : v j = 0 := if_neg (fun q => by rw [Bool.and_eq_true] at q; rw [hq] at q; exact Bool.noConfusion q.2)
            rw [t2 (fun i hfi => by rw [hfi.2.2.2] at hq; cases hq), qj_add, Int.add_zero]
            rw [sm, hz, Nat.add_zero] at ih
            exact ih
    have k := L 0 (Nat.zero_le _)
    simp (disch := omega) only [r1, qj_lt, qIx_z, qj_nat, e2, e3, qj_eq, true_and]
    refine ⟨fun _ => ⟨fun c => ?_, fun c => ?_⟩, fun c => by omega⟩
    · have : cK F ps i = 2 := by rcases hkk with h | h <;> omega
      rw [this] at k; exact k
    · have : cK F ps i = 1 := by omega
      rw [this] at k; exact k
  · have : n - i = 0 := by omega
    rw [this] at hQ
    simp (disch := omega) only [r1, qj_lt]
    exact ⟨fun c => by omega, fun _ => hQ⟩
theorem qTb_cg {I J : Nat → Nat → Int32} {n m : Nat} (h : qTb F I al ps n m) (e : J 241 = I 241) : qTb F J al ps n m := by
  unfold qTb at h ⊢; rw [e]; exact h
theorem qRC_cg {I J : Nat → Nat → Int32} {n : Nat} (h : qRC F I al ps n) (e : ∀ a, 236 ≤ a → a ≤ 240 → J a = I a) : qRC F J al ps n := by
  unfold qRC at h ⊢
  rw [e 236 (by omega) (by omega), e 237 (by omega) (by omega), e 238 (by omega) (by omega), e 239 (by omega) (by omega), e 240 (by omega) (by omega)]
  exact h
theorem c9 (hd : 3 ≤ d) (hf : qisF f) (RF : qRF F I f) (W : qWF F) (C : qCst I) {n : Nat} (hps : ∀ i, i < n → ps i < F.1 0 1) (RC : qRC F I al ps n) :
    ∃ I', qRun d 9 [.ref 236, .ref f] (qw g I) (.inl (some (.int (qj (cT F al ps n 0 0).length)), qw g I')) ∧ qFc I I' ∧ qRC F I' al ps n ∧ qTb F I' al ps n 0 := by
  have hkp : ∀ i, i < n → 1 ≤ cK F ps i := fun i hi => (W.2.2.2.2.2.1 _ (hps i hi)).2.1
  have fit0 : cFit F al ps n 0 0 := ⟨Nat.zero_le _, (by decide : (0 : Nat) = p9 0), Nat.zero_and _, by
    unfold cQt
    have : anb 9 (fun h => (0 : Nat).testBit h && anb 9 (fun g => (0 : Nat).testBit g && F.2 2 h g)) = false := (anb_false _ _).mpr (fun k _ => by rw [Nat.zero_testBit]; rfl)
    rw [this]; rfl⟩
  have key : ∀ m : Nat, m ≤ 512 → ∀ J, (∀ a, ¬ a = 241 → J a = I a) → qTb F J al ps n m →
      ∃ I', (qFc I I' ∧ qRC F I' al ps n ∧ qTb F I' al ps n 0) ∧ ∀ Q : qR → Prop, Q (.inl (some (.int (qj (cT F al ps n 0 0).length)), qw g I')) → qwq d 9 4 [(0, .ref 236), (1, .ref f), (2, .int (qj ((m : Int) - 1)))] [] (qw g J) Q := by
    intro m
    induction m with
    | zero =>
      intro _ J hJ T
      refine ⟨J, ⟨fun a ha => hJ a (by omega), qRC_cg RC (fun a h1 h2 => hJ a (by omega)), T⟩, fun Q hQ => b9_4 hf (by omega) ?_⟩
      have e : J 241 0 = qj (cT F al ps n 0 0).length := (T 0 (Nat.le_refl _) (by decide)).1 0 fit0
      simp (disch := omega) only [qz0, qj_lt, e]
      exact ⟨fun _ => hQ, fun c => by omega⟩
    | succ t ih =>
      intro ht J hJ T
      have ht9 := p9_le t
      have RC' : qRC F J al ps n := qRC_cg RC (fun a h1 h2 => hJ a (by omega))
      obtain ⟨r0, r1, r2, r3, r4, r5, r6, r7, r8⟩ := RC'
      have RF' : qRF F J f := qRF_cg RF (fun a h1 h2 => hJ a (by unfold qisF at hf; omega))
      have C' : qCst J := qCst_cg C (fun a ha => hJ a (by omega))
      have z : ((t + 1 : Nat) : Int) - 1 = t := by omega
      rw [z]
      -- what is written, and on
      have nxt : ∀ v : Nat, (∀ i, cFit F al ps n i t → v = (cT F al ps (n - i) i t).length) → ((∀ i, ¬ cFit F al ps n i t) → v = 0) →
          ∃ I', (qFc I I' ∧ qRC F I' al ps n ∧ qTb F I' al ps n 0) ∧ ∀ Q : qR → Prop, Q (.inl (some (.int (qj (cT F al ps n 0 0).length)), qw g I')) → qwq d 9 4 [(0, .ref 236), (1, .ref f), (2, .int (qj ((t : Int) + -1)))] [] (qw g (qup J 241 t (qj v))) Q := fun v hv1 hv2 =>
        ih (by omega) (qup J 241 t (qj v)) (fun a ha => by rw [qup_ne ha]; exact hJ a ha) (fun u h1 h2 => by
          rw [qup_at]
          by_cases e : u = t
          · subst e
            rw [if_pos rfl]
            exact ⟨fun i hi => by rw [hv1 i hi], fun hi => by rw [hv2 hi]; rfl⟩
          · rw [if_neg e]; exact T u (by omega) h2)
      have e9 := qpc_p9 (show t < 512 by omega)
      have hsub := qsub (show t < 512 by omega) (bm_lt 9 al)
      by_cases hlv : ∃ i, i ≤ n ∧ sm i (cK F ps) = p9 t
      · obtain ⟨i, hi, hsi⟩ := hlv
        have e240 : J 240 (p9 t) = qj i := by rw [← hsi]; exact r4 i hi
        have huni : ∀ j, j ≤ n → sm j (cK F ps) = p9 t → j = i := fun j hj hsj => by
          rcases Nat.lt_trichotomy i j with h | h | h
          · have := sm_ltb hkp h hj; omega
          · exact h.symm
          · have := sm_ltb hkp h hi; omega
        by_cases hs : t &&& bm 9 al = t
        · have k35 := c35 (d := d - 1) (g := g) (I := J) (by omega) hf RF' W (show t < 512 by omega)
          cases hq : cQt (F.2 2) t with
          | false =>
            obtain ⟨I', k1, k2⟩ := nxt 0 (fun j hj => by rw [hj.2.2.2] at hq; cases hq) (fun _ => rfl)
            refine ⟨I', k1, fun Q hQ => b9_4 hf (by omega) ?_⟩
            rw [hq] at k35
            simp (disch := omega) only [qz0, qj_lt, e9, qIx_z, qj_nat, e240, qj_eq, r0, qj_add, true_and]
            rw [← qz0, hsub]
            exact ⟨fun c => by omega, fun _ => ⟨fun c => by omega, fun _ => ⟨fun c => absurd hs c, fun _ => ⟨_, _, k35, fun _ => k2 Q hQ, fun c => Bool.noConfusion c⟩⟩⟩⟩
          | true =>
            have hfit : cFit F al ps n i t := ⟨hi, hsi, hs, hq⟩
            have k10 := c10 (d := d - 1) (g := g) (I := J) (by omega) W C' hps ⟨r0, r1, r2, r3, r4, r5, r6, r7, r8⟩ (show t < 512 by omega) hfit T
            obtain ⟨I', k1, k2⟩ := nxt (cT F al ps (n - i) i t).length (fun j hj => by rw [huni j hj.1 hj.2.1]) (fun h => absurd hfit (h i))
            refine ⟨I', k1, fun Q hQ => b9_4 hf (by omega) ?_⟩
            rw [hq] at k35
            simp (disch := omega) only [qz0, qj_lt, e9, qIx_z, qj_nat, e240, qj_eq, r0, qj_add, true_and]
            rw [← qz0, hsub]
            exact ⟨fun c => by omega, fun _ => ⟨fun c => by omega, fun _ => ⟨fun c => absurd hs c, fun _ => ⟨_, _, k35, fun c => Bool.noConfusion c, fun _ => ⟨_, _, k10, k2 Q hQ⟩⟩⟩⟩⟩
        · obtain ⟨I', k1, k2⟩ := nxt 0 (fun j hj => absurd hj.2.2.1 hs) (fun _ => rfl)
          refine ⟨I', k1, fun Q hQ => b9_4 hf (by omega) ?_⟩
          simp (disch := omega) only [qz0, qj_lt, e9, qIx_z, qj_nat, e240, qj_eq, r0, qj_add, true_and]
          rw [← qz0, hsub]
          exact ⟨fun c => by omega, fun _ => ⟨fun c => by omega, fun _ => ⟨fun _ => k2 Q hQ, fun c => absurd hs c⟩⟩⟩
      · have e240 : J 240 (p9 t) = qj (-1) := r5 _ ht9 (fun i hi e => hlv ⟨i, hi, e⟩)
        obtain ⟨I', k1, k2⟩ := nxt 0 (fun j hj => absurd ⟨j, hj.1, hj.2.1⟩ hlv) (fun _ => rfl)
        refine ⟨I', k1, fun Q hQ => b9_4 hf (by omega) ?_⟩
        simp (disch := omega) only [qz0, qj_lt, e9, qIx_z, qj_nat, e240, qj_add, true_and]
        exact ⟨fun c => by omega, fun _ => ⟨fun _ => k2 Q hQ, fun c => absurd trivial c⟩⟩
  obtain ⟨I', k1, k2⟩ := key 512 (Nat.le_refl _) I (fun _ _ => rfl) (fun t h1 h2 => by omega)
  exact ⟨I', qRun_of (fun Q hQ => b9_0 hf (by omega) (k2 Q hQ)), k1⟩
end CC2
