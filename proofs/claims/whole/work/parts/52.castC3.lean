/-! ===== ways and their parts; the class' first way, and all that is in some way ===== -/
/-- the hands taken behind so many steps of a way -/
def un : Nat → List Nat → Nat → Nat
  | t, _, 0 => t
  | t, [], _ + 1 => t
  | t, s :: c, m + 1 => un (t ||| s) c m
theorem cE_A {sil : Nat → Nat → Bool} {K A : Nat → Nat} {b : Nat → Bool} : ∀ (m r i t : Nat) (c : List Nat), c ∈ cE sil K A b (m + r) i t → c.drop m ∈ cE sil K A b r (i + m) (un t c m)
  | 0, r, i, t, c, h => by rw [Nat.zero_add] at h; exact h
  | m + 1, r, i, t, c, h => by
    rw [show m + 1 + r = (m + r) + 1 by omega] at h
    obtain ⟨-, s, c', rfl, h1, h2, h3⟩ := cE_mem.mp h
    have := cE_A m r (i + 1) (t ||| s) c' h3
    rw [show i + 1 + m = i + (m + 1) by omega] at this
    exact this
theorem cE_B {sil : Nat → Nat → Bool} {K A : Nat → Nat} {b : Nat → Bool} : ∀ (m r i t : Nat) (c c' : List Nat), c ∈ cE sil K A b (m + r) i t → c' ∈ cE sil K A b r (i + m) (un t c m) → c.take m ++ c' ∈ cE sil K A b (m + r) i t ∧ un t (c.take m ++ c') m = un t c m ∧ (c.take m).length = m
  | 0, r, i, t, c, c', h, h' => by rw [Nat.zero_add]; exact ⟨h', rfl, rfl⟩
  | m + 1, r, i, t, c, c', h, h' => by
    rw [show m + 1 + r = (m + r) + 1 by omega] at h ⊢
    obtain ⟨hb, s, c1, rfl, h1, h2, h3⟩ := cE_mem.mp h
    rw [show i + (m + 1) = i + 1 + m by omega] at h'
    obtain ⟨k1, k2, k3⟩ := cE_B m r (i + 1) (t ||| s) c1 c' h3 h'
    refine ⟨cE_mem.mpr ⟨hb, s, _, rfl, h1, h2, k1⟩, k2, ?_⟩
    show ((c1.take m).length + 1) = _
    rw [k3]
theorem un_s : ∀ (m t s : Nat) (c c' : List Nat), c.drop m = s :: c' → un t c (m + 1) = un t c m ||| s ∧ c.getD m 0 = s
  | 0, t, s, c, c', h => by
    have h : c = s :: c' := h
    subst h; exact ⟨rfl, rfl⟩
  | m + 1, t, s, [], c', h => by cases h
  | m + 1, t, s, u :: c, c', h => by
    have := un_s m (t ||| u) s c c' h
    exact this
theorem cE_nil_len {sil : Nat → Nat → Bool} {K A : Nat → Nat} {b : Nat → Bool} : ∀ (r i t : Nat) (c : List Nat), c ∈ cE sil K A b r i t → c.length = r
  | 0, i, t, c, h => by
    have : c = [] := List.mem_singleton.mp h
    rw [this]; rfl
  | r + 1, i, t, c, h => by
    obtain ⟨-, s, c', rfl, -, -, h3⟩ := cE_mem.mp h
    rw [List.length_cons, cE_nil_len r _ _ _ h3]
/-- the step m of a way -/
theorem cE_st {sil : Nat → Nat → Bool} {K A : Nat → Nat} {b : Nat → Bool} {n m : Nat} {c : List Nat} (h : c ∈ cE sil K A b n 0 0) (hm : m < n) :
    c.getD m 0 < 512 ∧ cOk sil (K m) (A m) (un 0 c m) (c.getD m 0) = true ∧ un 0 c (m + 1) = un 0 c m ||| c.getD m 0 ∧ c.drop (m + 1) ∈ cE sil K A b (n - m - 1) (m + 1) (un 0 c (m + 1)) ∧ c.drop m = c.getD m 0 :: c.drop (m + 1) := by
  have h1 := cE_A m (n - m) 0 0 c (by rw [show m + (n - m) = n by omega]; exact h)
  rw [Nat.zero_add, show n - m = (n - m - 1) + 1 by omega] at h1
  obtain ⟨-, s, c', e, h2, h3, h4⟩ := cE_mem.mp h1
  obtain ⟨e1, e2⟩ := un_s m 0 s c c' e
  have e3 : c.drop (m + 1) = c' := by
    have : (c.drop m).drop 1 = c.drop (m + 1) := by rw [List.drop_drop]
    rw [← this, e]; rfl
  rw [e2, e3]
  exact ⟨h2, h3, e1, by rw [e1]; exact h4, e⟩
theorem un_fit {F : qFam} {al : Nat → Bool} {ps : Nat → Nat} {n : Nat} {c : List Nat} (h : c ∈ cT F al ps n 0 0) (W : qWF F) : ∀ m, m ≤ n → cFit F al ps n m (un 0 c m) ∧ un 0 c m < 512
  | 0, _ => ⟨⟨Nat.zero_le _, (by decide : (0 : Nat) = p9 0), Nat.zero_and _, by
      unfold cQt
      have : anb 9 (fun h => (0 : Nat).testBit h && anb 9 (fun g => (0 : Nat).testBit g && F.2 2 h g)) = false := (anb_false _ _).mpr (fun k _ => by rw [Nat.zero_testBit]; rfl)
      show (!(anb 9 (fun h => (0 : Nat).testBit h && anb 9 (fun g => (0 : Nat).testBit g && F.2 2 h g)))) = true
      rw [this]; rfl⟩, (by decide : (0 : Nat) < 512)⟩
  | m + 1, hm => by
    obtain ⟨k1, k2⟩ := un_fit h W m (by omega)
    obtain ⟨q1, q2, q3, q4, q5⟩ := cE_st h (show m < n by omega)
    rw [q3]
    unfold cOk at q2
    rw [Bool.and_eq_true, Bool.and_eq_true, Bool.and_eq_true, beq_iff_eq, beq_iff_eq, beq_iff_eq] at q2
    obtain ⟨⟨⟨o1, o2⟩, o3⟩, o4⟩ := q2
    exact ⟨cFit_s k1 (by omega) o1 o2 o3 o4, Nat.or_lt_two_pow (n := 9) k2 q1⟩
theorem un_lt {sil : Nat → Nat → Bool} {K A : Nat → Nat} {b : Nat → Bool} {n m : Nat} {c : List Nat} (h : c ∈ cE sil K A b n 0 0) (hK : ∀ i, i < n → 1 ≤ K i) (hm : m < n) : un 0 c m < un 0 c (m + 1) := by
  obtain ⟨q1, q2, q3, q4, q5⟩ := cE_st h hm
  unfold cOk at q2
  rw [Bool.and_eq_true, Bool.and_eq_true, Bool.and_eq_true, beq_iff_eq, beq_iff_eq, beq_iff_eq] at q2
  obtain ⟨⟨⟨o1, o2⟩, o3⟩, o4⟩ := q2
  rw [q3]
  refine or_gt ?_ o3
  rcases Nat.eq_zero_or_pos (c.getD m 0) with e | e
  · rw [e] at o1
    have := hK m hm
    have z : p9 0 = 0 := by decide
    omega
  · exact e
/-- a set that leaves a way -/
def cV (F : qFam) (al : Nat → Bool) (ps : Nat → Nat) (n i t s : Nat) : Prop := s < 512 ∧ cOk (F.2 2) (cK F ps i) (cA F al ps i) t s = true ∧ cT F al ps (n - i - 1) (i + 1) (t ||| s) ≠ []
theorem cV_iff {F : qFam} {al : Nat → Bool} {ps : Nat → Nat} {n i t s : Nat} (hi : i < n) (hr : ∃ c, c ∈ cT F al ps n 0 0 ∧ un 0 c i = t) : cV F al ps n i t s ↔ ∃ c, c ∈ cT F al ps n 0 0 ∧ un 0 c i = t ∧ c.getD i 0 = s := by
  constructor
  · rintro ⟨h1, h2, h3⟩
    obtain ⟨c, hc, he⟩ := hr
    obtain ⟨c', hc'⟩ := List.exists_mem_of_ne_nil _ h3
    have k1 : s :: c' ∈ cT F al ps (n - i) (0 + i) (un 0 c i) := by
      rw [Nat.zero_add, he, show n - i = (n - i - 1) + 1 by omega]
      exact cE_mem.mpr ⟨rfl, s, c', rfl, h1, h2, hc'⟩
    obtain ⟨k2, k3, k4⟩ := cE_B i (n - i) 0 0 c (s :: c') (by rw [show i + (n - i) = n by omega]; exact hc) k1
    rw [show i + (n - i) = n by omega] at k2
    refine ⟨_, k2, k3.trans he, ?_⟩
    have : (c.take i ++ s :: c').drop i = s :: c' := by
      rw [List.drop_append, k4, Nat.sub_self, List.drop_of_length_le (by omega)]; rfl
    exact (un_s i 0 s _ c' this).2
  · rintro ⟨c, hc, rfl, rfl⟩
    obtain ⟨q1, q2, q3, q4, q5⟩ := cE_st hc hi
    refine ⟨q1, q2, fun e => ?_⟩
    have q6 : c.drop (i + 1) ∈ cT F al ps (n - i - 1) (i + 1) (un 0 c (i + 1)) := q4
    rw [q3, e] at q6
    cases q6
section CC3
variable {d : Nat} {g : qG1} {I : Nat → Nat → Int32} {F : qFam} {S : qSt} {f s : Nat} {al : Nat → Bool} {ps : Nat → Nat}
/-- what the table says of a step -/
theorem qTb_s {n i t s : Nat} (W : qWF F) (hps : ∀ i, i < n → ps i < F.1 0 1) (T : qTb F I al ps n 0) (hfit : cFit F al ps n i t) (ht : t < 512) (hi : i < n) (hs : s < 512) (hp : p9 s = cK F ps i) (hfr : ((s &&& cA F al ps i == s) && (s &&& t == 0)) = true) :
    ∃ v : Nat, v ≤ 362880 ∧ I 241 (t ||| s) = qj v ∧ (0 < v ↔ cV F al ps n i t s) := by
  have c := hfr
  rw [Bool.and_eq_true, beq_iff_eq, beq_iff_eq] at c
  have hor : t ||| s < 512 := Nat.or_lt_two_pow (n := 9) ht hs
  obtain ⟨t1, t2⟩ := T (t ||| s) (Nat.zero_le _) hor
  have hok : cOk (F.2 2) (cK F ps i) (cA F al ps i) t s = cQt (F.2 2) (t ||| s) := by
    unfold cOk
    rw [beq_iff_eq.mpr hp, Bool.true_and, hfr, Bool.true_and]
  cases hq : cQt (F.2 2) (t ||| s) with
  | true =>
    refine ⟨_, ?_, t1 (i + 1) (cFit_s hfit hi hp c.1 c.2 hq), ?_⟩
    · refine Nat.le_trans (cE_bnd _ _ _ _ _ _ _ (fun j h1 h2 => ?_) hor) (fac_9 (Nat.sub_le _ _))
      have := W.2.2.2.2.2.1 _ (hps j (by omega))
      unfold cK; omega
    · rw [List.length_pos_iff]
      unfold cV
      rw [hok, hq, show n - (i + 1) = n - i - 1 by omega]
      exact ⟨fun h => ⟨hs, rfl, h⟩, fun h => h.2.2⟩
  | false =>
    refine ⟨0, Nat.zero_le _, t2 (fun j hfi => by rw [hfi.2.2.2] at hq; cases hq), ?_⟩
    unfold cV
    rw [hok, hq]
    exact ⟨fun h => absurd h (Nat.lt_irrefl _), fun h => by cases h.2.1⟩
theorem c12 (hd : 1 ≤ d) (W : qWF F) (C : qCst I) {n i t : Nat} {c : List Nat} {l : List (List Nat)} (hps : ∀ i, i < n → ps i < F.1 0 1) (RC : qRC F I al ps n) (T : qTb F I al ps n 0) (ht : t < 512) (hfit : cFit F al ps n i t) (hi : i < n) (hc : cT F al ps (n - i) i t = c :: l) :
    qRun d 12 [.ref 236, .int (qj i), .int (qj t)] (qw g I) (.inl (some (.int (qj (c.getD 0 0))), qw g I)) := by
  refine qRun_of fun Q hQ => b12_0 (by omega) ?_
  obtain ⟨r0, r1, r2, r3, r4, r5, r6, r7, r8⟩ := RC
  have hkk : cK F ps i = 1 ∨ cK F ps i = 2 := by
    have := W.2.2.2.2.2.1 _ (hps i hi)
    unfold cK; omega
  obtain ⟨e1, e2, e3⟩ := r3 i hi
  have hlen := cSt_len hkk
  rw [show n - i = (n - i - 1) + 1 by omega] at hc
  obtain ⟨s0, c', l', rfl, h0, h1, h2, h3⟩ := cE_head hc
  have hQ : Q (.inl (some (.int (qj s0)), qw g I)) := hQ
  have hV0 : cV F al ps n i t s0 := ⟨h0, h1, by rw [show cT F al ps (n - i - 1) (i + 1) (t ||| s0) = c' :: l' from h2]; simp⟩
  have hp0 : p9 s0 = cK F ps i := by
    unfold cOk at h1
    rw [Bool.and_eq_true, Bool.and_eq_true, Bool.and_eq_true, beq_iff_eq] at h1
    exact h1.1.1.1
  obtain ⟨j0, hj0, ej0⟩ := cSt_in hkk h0 hp0
  have L : ∀ j, j ≤ (cSt (cK F ps i)).length → j ≤ j0 → qwq d 12 35 [(0, .ref 236), (2, .int (qj t)), (3, .int (qj (cA F al ps i) &&& (qj t ^^^ qj (-1)))), (4, .ref (rS (cK F ps i))), (5, .int (qj j))] [] (qw g I) Q := by
    refine upto (P := fun j => j ≤ j0 → _) _ (fun hn => by omega) (fun j hj ih hn => b12_35 (rS_sh hkk) (by omega) ?_)
    have ej := C _ j hkk hj
    obtain ⟨q1, q2, q3, q4⟩ := cSt_at hkk hj
    have hor : t ||| (cSt (cK F ps i)).getD j 0 < 512 := Nat.or_lt_two_pow (n := 9) ht q3
    rw [rS_sh hkk]
    simp (disch := omega) only [qofNat, qj_le, qIx_z, qj_nat, ej, qj_or, true_and]
    rw [qfree q3 (cA_lt F al ps i) ht]
    -- an earlier one leaves no way
    have hear : j < j0 → ¬ cV F al ps n i t ((cSt (cK F ps i)).getD j 0) := fun hjj hv => by
      have := h3 _ (by have := (cSt_at hkk hj0).2.2.2 j hjj; rw [ej0] at this; exact this) hv.2.1
      exact hv.2.2 this
    have hfree0 : j = j0 → (((cSt (cK F ps i)).getD j 0 &&& cA F al ps i == (cSt (cK F ps i)).getD j 0) && ((cSt (cK F ps i)).getD j 0 &&& t == 0)) = true := fun e => by
      rw [e, ej0]
      unfold cOk at h1
      rw [Bool.and_eq_true, Bool.and_eq_true, Bool.and_eq_true] at h1
      rw [h1.1.1.2, h1.1.2]; rfl
    refine ⟨fun c => by omega, fun _ => ⟨fun c => ?_, fun c => ?_⟩⟩
    · rw [qj_add]
      exact ih (by
        rcases Nat.lt_or_ge j j0 with h | h
        · exact h
        · exact absurd (hfree0 (by omega)) c)
    · have c := Classical.not_not.mp c
      obtain ⟨v, v1, v2, v3⟩ := qTb_s W hps T hfit ht hi q3 q1 c
      rw [v2]
      simp (disch := omega) only [qz0, qj_le]
      refine ⟨fun c2 => ?_, fun c2 => ?_⟩
      · rw [qj_add]
        refine ih ?_
        rcases Nat.lt_or_ge j j0 with h | h
        · exact h
        · have e : j = j0 := by omega
          have : 0 < v := v3.mpr (by rw [e, ej0]; exact hV0)
          omega
      · have hv := v3.mp (by omega)
        have e : j = j0 := by
          rcases Nat.lt_or_ge j j0 with h | h
          · exact absurd hv (hear h)
          · omega
        rw [e, ej0]; exact hQ
  have k := L 0 (Nat.zero_le _) (Nat.zero_le _)
  simp (disch := omega) only [qIx_z, qj_nat, e2, e3, qj_eq, true_and]
  refine ⟨fun c => ?_, fun c => ?_⟩
  · have : cK F ps i = 2 := by rcases hkk with h | h <;> omega
    rw [this] at k; exact k
  · have : cK F ps i = 1 := by omega
    rw [this] at k; exact k
/-- what a way gives a puppet -/
def cGv (ps : Nat → Nat) (p : Nat) (c : List Nat) : Nat → Nat → Nat
  | 0, _ => 0
  | r + 1, i => if ps i = p then c.getD i 0 else cGv ps p c r (i + 1)
theorem c11 (hd : 2 ≤ d) (W : qWF F) (C : qCst I) {n p : Nat} {c : List Nat} {l : List (List Nat)} (hps : ∀ i, i < n → ps i < F.1 0 1) (RC : qRC F I al ps n) (T : qTb F I al ps n 0) (hp : p < 8) (hc : cT F al ps n 0 0 = c :: l) :
    qRun d 11 [.ref 236, .int (qj p)] (qw g I) (.inl (some (.int (qj (cGv ps p c n 0))), qw g I)) := by
  refine qRun_of fun Q hQ => b11_0 (by omega) ?_
  have h8 := W.2.1
  have hmem : c ∈ cT F al ps n 0 0 := by rw [hc]; exact List.mem_cons_self
  have hpi : ∀ i, i < n → ps i < 8 := fun i hi => Nat.lt_of_lt_of_le (hps i hi) h8
  have r8 := RC.2.2.2.2.2.2.2.2
  have L : ∀ i, i ≤ n → (∃ l', cT F al ps (n - i) i (un 0 c i) = c.drop i :: l') → cGv ps p c n 0 = cGv ps p c (n - i) i → qwq d 11 4 [(0, .ref 236), (1, .int (qj p)), (2, .int (qj (un 0 c i))), (3, .int (qj i))] [] (qw g I) Q := by
    refine upto (P := fun i => (∃ l', cT F al ps (n - i) i (un 0 c i) = c.drop i :: l') → cGv ps p c n 0 = cGv ps p c (n - i) i → _) _ (fun _ hg => b11_4 (by omega) ?_) (fun i hi ih hl hg => b11_4 (by omega) ?_)
    · rw [hg, Nat.sub_self] at hQ
      have r1 := RC.2.1
      simp (disch := omega) only [r1, qj_le]
      exact ⟨fun _ => hQ, fun c => by omega⟩
    · obtain ⟨l', hl⟩ := hl
      obtain ⟨u1, u2⟩ := un_fit hmem W i (by omega)
      obtain ⟨q1, q2, q3, q4, q5⟩ := cE_st hmem hi
      have k12 := c12 (d := d - 1) (g := g) (by omega) W C hps RC T u2 u1 hi hl
      have e0 : (c.drop i).getD 0 0 = c.getD i 0 := by rw [q5]; rfl
      rw [e0] at k12
      have r1 := RC.2.1
      have r3 := (RC.2.2.2.1 i hi).1
      have hpii := hpi i hi
      simp (disch := omega) only [r1, qj_le]
      refine ⟨fun c => by omega, fun _ => ⟨_, _, k12, ?_⟩⟩
      have hg2 : cGv ps p c (n - i) i = if ps i = p then c.getD i 0 else cGv ps p c (n - i - 1) (i + 1) := by
        rw [show n - i = (n - i - 1) + 1 by omega]; rfl
      simp (disch := omega) only [qIx_z, qj_nat, r3, qj_eq, qj_or, qj_add, qj_s1, true_and]
      refine ⟨fun e => ?_, fun e => ?_⟩
      · rw [← q3]
        refine ih ?_ (by rw [hg, hg2, if_neg (by omega)]; rfl)
        have h2 := hl
        rw [q5, show n - i = (n - i - 1) + 1 by omega] at h2
        obtain ⟨s', c', l'', e1, -, -, e2, -⟩ := cE_head h2
        injection e1 with e3 e4
        rw [← e3, ← q3] at e2
        exact ⟨l'', by rw [show n - (i + 1) = n - i - 1 by omega, e4]; exact e2⟩
      · rw [hg, hg2, if_pos (by omega)] at hQ; exact hQ
  exact L 0 (Nat.zero_le _) ⟨l, hc⟩ rfl
end CC3
