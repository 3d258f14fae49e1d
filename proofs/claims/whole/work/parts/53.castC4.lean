/-! ===== the class' casting: all that is in some way, and in each ===== -/
section CC4
variable {d : Nat} {g : qG1} {I : Nat → Nat → Int32} {F : qFam} {S : qSt} {f s : Nat} {al : Nat → Bool} {ps : Nat → Nat}
/-- reached marks and worked bits only -/
def qFf (I J : Nat → Nat → Int32) : Prop := (∀ a, ¬ a = 242 → ¬ a = 236 → J a = I a) ∧ ∀ x, ¬ x = 9 → ¬ x = 10 → J 236 x = I 236 x
theorem qFf_tr {I J K : Nat → Nat → Int32} (h : qFf I J) (h2 : qFf J K) : qFf I K := ⟨fun a h3 h4 => (h2.1 a h3 h4).trans (h.1 a h3 h4), fun x h3 h4 => (h2.2 x h3 h4).trans (h.2 x h3 h4)⟩
theorem qFf_RC {I J : Nat → Nat → Int32} {n : Nat} (h : qFf I J) (RC : qRC F I al ps n) : qRC F J al ps n := by
  unfold qRC at RC ⊢
  rw [h.2 0 (by omega) (by omega), h.2 1 (by omega) (by omega), h.2 2 (by omega) (by omega), h.1 237 (by omega) (by omega), h.1 238 (by omega) (by omega), h.1 239 (by omega) (by omega), h.1 240 (by omega) (by omega)]
  exact RC
theorem qFf_T {I J : Nat → Nat → Int32} {n m : Nat} (h : qFf I J) (T : qTb F I al ps n m) : qTb F J al ps n m := qTb_cg T (h.1 241 (by omega) (by omega))
theorem qFf_c {I J : Nat → Nat → Int32} (h : qFf I J) : qFc I J := fun a ha => h.1 a (by omega) (by omega)
theorem c14 (hd : 2 ≤ d) (W : qWF F) (C : qCst I) {n i t hand : Nat} {Wk : Nat → Bool} (hps : ∀ i, i < n → ps i < F.1 0 1) (RC : qRC F I al ps n) (T : qTb F I al ps n 0) (ht : t < 512) (hfit : cFit F al ps n i t) (hi : i < n) (hh : hand < 9) (hW : I 236 10 = qj (bm 8 Wk : Nat)) :
    ∃ (I' : Nat → Nat → Int32) (Wk' : Nat → Bool), qRun d 14 [.ref 236, .int (qj i), .int (qj t), .int (qj hand)] (qw g I) (.inl (none, qw g I')) ∧ qFf I I' ∧ I' 236 9 = I 236 9 ∧ I' 236 10 = qj (bm 8 Wk' : Nat) ∧
      (∀ p, Wk' p = true ↔ (Wk p = true ∨ (p = ps i ∧ ∃ u, cV F al ps n i t u ∧ u.testBit hand = true))) ∧ (∀ u, u < 512 → (∃ v, cV F al ps n i t v ∧ t ||| v = u) → I' 242 u = qj 1) ∧ ∀ u, u < 512 → (¬ ∃ v, cV F al ps n i t v ∧ t ||| v = u) → I' 242 u = I 242 u := by
  have h8 := W.2.1
  have hkk : cK F ps i = 1 ∨ cK F ps i = 2 := by
    have := W.2.2.2.2.2.1 _ (hps i hi)
    unfold cK; omega
  have hlen := cSt_len hkk
  have hpi := hps i hi
  have hr4 : rS (cK F ps i) ≤ 4 := rS_b
  have hn8 := RC.2.2.2.2.2.2.2.2
  let G : Nat → Nat → Prop := fun j u => ∃ j', j' < j ∧ cV F al ps n i t ((cSt (cK F ps i)).getD j' 0) ∧ (cSt (cK F ps i)).getD j' 0 = u
  have Gs : ∀ j u, G (j + 1) u ↔ G j u ∨ (cV F al ps n i t ((cSt (cK F ps i)).getD j 0) ∧ (cSt (cK F ps i)).getD j 0 = u) := fun j u => by
    constructor
    · rintro ⟨j', h1, h2, h3⟩
      by_cases e : j' = j
      · subst e; exact Or.inr ⟨h2, h3⟩
      · exact Or.inl ⟨j', by omega, h2, h3⟩
    · rintro (⟨j', h1, h2, h3⟩ | ⟨h2, h3⟩)
      · exact ⟨j', by omega, h2, h3⟩
      · exact ⟨j, by omega, h2, h3⟩
  have Gf : ∀ u, G (cSt (cK F ps i)).length u ↔ cV F al ps n i t u := fun u => by
    constructor
    · rintro ⟨j', h1, h2, h3⟩; rw [← h3]; exact h2
    · intro h
      have hp : p9 u = cK F ps i := by
        have := h.2.1
        unfold cOk at this
        rw [Bool.and_eq_true, Bool.and_eq_true, Bool.and_eq_true, beq_iff_eq] at this
        exact this.1.1.1
      obtain ⟨j, hj, e⟩ := cSt_in hkk h.1 hp
      exact ⟨j, hj, by rw [e]; exact h, e⟩
  let Inv : Nat → (Nat → Nat → Int32) → (Nat → Bool) → Prop := fun j J V => qFf I J ∧ J 236 9 = I 236 9 ∧ J 236 10 = qj (bm 8 V : Nat) ∧ (∀ p, V p = true ↔ (Wk p = true ∨ (p = ps i ∧ ∃ u, G j u ∧ u.testBit hand = true))) ∧
      (∀ u, u < 512 → (∃ v, G j v ∧ t ||| v = u) → J 242 u = qj 1) ∧ ∀ u, u < 512 → (¬ ∃ v, G j v ∧ t ||| v = u) → J 242 u = I 242 u
  have key : ∀ j, j ≤ (cSt (cK F ps i)).length → ∀ J V, Inv j J V →
      ∃ I' V', Inv (cSt (cK F ps i)).length I' V' ∧ ∀ Q : qR → Prop, Q (.inl (none, qw g I')) → qwq d 14 36 [(0, .ref 236), (1, .int (qj i)), (2, .int (qj t)), (3, .int (qj hand)), (4, .int (qj (cA F al ps i) &&& (qj t ^^^ qj (-1)))), (5, .ref (rS (cK F ps i))), (6, .int (qj j))] [] (qw g J) Q := by
    refine upto _ (fun J V h => ⟨J, V, h, fun Q hQ => b14_36 (rS_sh hkk) (by omega) ?_⟩) (fun j hj ih J V h => ?_)
    · rw [rS_sh hkk]
      simp (disch := omega) only [qofNat, qj_le]
      exact ⟨fun _ => hQ, fun c => by omega⟩
    · obtain ⟨h1, h2, h3, h4, h5, h6⟩ := h
      have ej := qCst_cg C (fun a ha => h1.1 a (by omega) (by omega)) _ j hkk hj
      obtain ⟨q1, q2, q3, q4⟩ := cSt_at hkk hj
      have hor : t ||| (cSt (cK F ps i)).getD j 0 < 512 := Nat.or_lt_two_pow (n := 9) ht q3
      have e37 : J 237 i = qj (ps i) := by rw [h1.1 237 (by omega) (by omega)]; exact (RC.2.2.2.1 i hi).1
      -- it leaves no way: nothing changes
      have skip : ¬ cV F al ps n i t ((cSt (cK F ps i)).getD j 0) → ∃ I' V', Inv (cSt (cK F ps i)).length I' V' ∧ ∀ Q : qR → Prop, Q (.inl (none, qw g I')) → qwq d 14 36 [(0, .ref 236), (1, .int (qj i)), (2, .int (qj t)), (3, .int (qj hand)), (4, .int (qj (cA F al ps i) &&& (qj t ^^^ qj (-1)))), (5, .ref (rS (cK F ps i))), (6, .int (qj ((j + 1 : Nat) : Int)))] [] (qw g J) Q := fun hv => by
        have ge : ∀ u, G (j + 1) u ↔ G j u := fun u => (Gs j u).trans ⟨fun q => q.elim id (fun q => absurd q.1 hv), Or.inl⟩
        refine ih J V ⟨h1, h2, h3, fun p => ?_, fun u hu => ?_, fun u hu => ?_⟩
        · simp only [ge]; exact h4 p
        · simp only [ge]; exact h5 u hu
        · simp only [ge]; exact h6 u hu
      by_cases hfr : (((cSt (cK F ps i)).getD j 0 &&& cA F al ps i == (cSt (cK F ps i)).getD j 0) && ((cSt (cK F ps i)).getD j 0 &&& t == 0)) = true
      · obtain ⟨v, v1, v2, v3⟩ := qTb_s W hps (qFf_T h1 T) hfit ht hi q3 q1 hfr
        by_cases hv : 0 < v
        · have hV := v3.mp hv
          cases hb : ((cSt (cK F ps i)).getD j 0).testBit hand with
          | false =>
            obtain ⟨I', V', k1, k2⟩ := ih (qup J 242 (t ||| (cSt (cK F ps i)).getD j 0) (qj 1)) V (by
                refine ⟨qFf_tr h1 ⟨fun a h _ => qup_ne h, fun x _ _ => by rw [qup_ne (by omega)]⟩, by rw [qup_ne (by omega)]; exact h2, by rw [qup_ne (by omega)]; exact h3, fun p => ?_, fun u hu => ?_, fun u hu => ?_⟩
                · rw [h4 p]
                  refine ⟨fun q => q.imp_right (fun q => ⟨q.1, q.2.elim fun u hu => ⟨u, (Gs j u).mpr (Or.inl hu.1), hu.2⟩⟩), fun q => q.imp_right (fun q => ⟨q.1, ?_⟩)⟩
                  obtain ⟨-, u, hu, hu2⟩ := q
                  rcases (Gs j u).mp hu with hu | ⟨-, rfl⟩
                  · exact ⟨u, hu, hu2⟩
                  · rw [hb] at hu2; cases hu2
                · rintro ⟨w, hw, hw2⟩
                  rw [qup_at]
                  split
                  · rfl
                  · rename_i ne
                    rcases (Gs j w).mp hw with hw | ⟨-, rfl⟩
                    · exact h5 u hu ⟨w, hw, hw2⟩
                    · exact absurd hw2.symm ne
                · intro hw
                  rw [qup_at, if_neg (fun e => hw ⟨_, (Gs j _).mpr (Or.inr ⟨hV, rfl⟩), e.symm⟩)]
                  exact h6 u hu (fun ⟨w, q1, q2⟩ => hw ⟨w, (Gs j w).mpr (Or.inl q1), q2⟩))
            refine ⟨I', V', k1, fun Q hQ => b14_36 (rS_sh hkk) (by omega) ?_⟩
            rw [rS_sh hkk]
            simp (disch := omega) only [qofNat, qj_le, qIx_z, qj_nat, ej, qj_or, qup_ne, v2, qz0, qhas_n, hb, qj_add, qj_s1, true_and]
            rw [← qz0, qfree q3 (cA_lt F al ps i) ht]
            exact ⟨fun c => by omega, fun _ => ⟨fun c => absurd hfr c, fun _ => ⟨fun c => by omega, fun _ => ⟨fun _ => k2 Q hQ, fun c => Bool.noConfusion c⟩⟩⟩⟩
          | true =>
            obtain ⟨I', V', k1, k2⟩ := ih (qup (qup J 242 (t ||| (cSt (cK F ps i)).getD j 0) (qj 1)) 236 10 (qj (bm 8 (fun q => if q = ps i then true else V q) : Nat))) (fun q => if q = ps i then true else V q) (by
                refine ⟨qFf_tr h1 ⟨fun a h h' => by rw [qup_ne h', qup_ne h], fun x _ h' => by rw [qup_at, if_neg h', qup_ne (by omega)]⟩, by rw [qup_at, if_neg (by omega), qup_ne (by omega)]; exact h2, by rw [qup_at, if_pos rfl], fun p => ?_, fun u hu => ?_, fun u hu => ?_⟩
                · show (if p = ps i then true else V p) = true ↔ _
                  by_cases e : p = ps i
                  · rw [if_pos e]
                    exact ⟨fun _ => Or.inr ⟨e, _, (Gs j _).mpr (Or.inr ⟨hV, rfl⟩), hb⟩, fun _ => rfl⟩
                  · rw [if_neg e, h4 p]
                    exact ⟨fun q => q.imp_right (fun q => absurd q.1 e), fun q => q.imp_right (fun q => absurd q.1 e)⟩
                · rintro ⟨w, hw, hw2⟩
                  rw [qup_ne (by omega), qup_at]
                  split
                  · rfl
                  · rename_i ne
                    rcases (Gs j w).mp hw with hw | ⟨-, rfl⟩
                    · exact h5 u hu ⟨w, hw, hw2⟩
                    · exact absurd hw2.symm ne
                · intro hw
                  rw [qup_ne (by omega), qup_at, if_neg (fun e => hw ⟨_, (Gs j _).mpr (Or.inr ⟨hV, rfl⟩), e.symm⟩)]
                  exact h6 u hu (fun ⟨w, q1, q2⟩ => hw ⟨w, (Gs j w).mpr (Or.inl q1), q2⟩))
            refine ⟨I', V', k1, fun Q hQ => b14_36 (rS_sh hkk) (by omega) ?_⟩
            rw [rS_sh hkk]
            simp (disch := omega) only [qofNat, qj_le, qIx_z, qj_nat, ej, qj_or, qup_ne, v2, qz0, qhas_n, hb, qj_add, qj_s1, h3, e37, bm_set, true_and]
            rw [← qz0, qfree q3 (cA_lt F al ps i) ht]
            exact ⟨fun c => by omega, fun _ => ⟨fun c => absurd hfr c, fun _ => ⟨fun c => by omega, fun _ => ⟨fun c => Bool.noConfusion c, fun _ => k2 Q hQ⟩⟩⟩⟩
        · obtain ⟨I', V', k1, k2⟩ := skip (fun q => hv (v3.mpr q))
          refine ⟨I', V', k1, fun Q hQ => b14_36 (rS_sh hkk) (by omega) ?_⟩
          rw [rS_sh hkk]
          simp (disch := omega) only [qofNat, qj_le, qIx_z, qj_nat, ej, qj_or, v2, qz0, qj_add, qj_s1, true_and]
          rw [← qz0, qfree q3 (cA_lt F al ps i) ht]
          exact ⟨fun c => by omega, fun _ => ⟨fun c => absurd hfr c, fun _ => ⟨fun _ => k2 Q hQ, fun c => by omega⟩⟩⟩
      · obtain ⟨I', V', k1, k2⟩ := skip (fun q => hfr (by
          have := q.2.1
          unfold cOk at this
          rw [Bool.and_eq_true, Bool.and_eq_true, Bool.and_eq_true] at this
          rw [this.1.1.2, this.1.2]; rfl))
        refine ⟨I', V', k1, fun Q hQ => b14_36 (rS_sh hkk) (by omega) ?_⟩
        rw [rS_sh hkk]
        simp (disch := omega) only [qofNat, qj_le, qIx_z, qj_nat, ej, qj_or, qj_add, qj_s1, true_and]
        rw [qfree q3 (cA_lt F al ps i) ht]
        exact ⟨fun c => by omega, fun _ => ⟨fun _ => k2 Q hQ, fun c => absurd (Classical.not_not.mp c) hfr⟩⟩
  obtain ⟨I', V', ⟨k1, k2, k3, k4, k5, k6⟩, k7⟩ := key 0 (Nat.zero_le _) I Wk ⟨⟨fun _ _ _ => rfl, fun _ _ _ => rfl⟩, rfl, hW, fun p => ⟨Or.inl, fun q => q.elim id (fun q => by obtain ⟨-, u, ⟨j', h1, -⟩, -⟩ := q; omega)⟩, fun u _ ⟨w, ⟨j', h1, _⟩, _⟩ => absurd h1 (Nat.not_lt_zero _), fun _ _ _ => rfl⟩
  obtain ⟨e1, e2, e3⟩ := RC.2.2.2.1 i hi
  have r8 := RC.2.2.2.2.2.2.2.2
  simp only [Gf] at k4 k5 k6
  refine ⟨I', V', qRun_of (fun Q hQ => b14_0 (by omega) ?_), k1, k2, k3, k4, k5, k6⟩
  have k := k7 Q hQ
  simp (disch := omega) only [qIx_z, qj_nat, e2, e3, qj_eq, true_and]
  refine ⟨fun c => ?_, fun c => ?_⟩
  · have : cK F ps i = 2 := by rcases hkk with h | h <;> omega
    rw [this] at k; exact k
  · have : cK F ps i = 1 := by omega
    rw [this] at k; exact k
theorem c13 (hd : 3 ≤ d) (W : qWF F) (C : qCst I) {n hand : Nat} (hps : ∀ i, i < n → ps i < F.1 0 1) (RC : qRC F I al ps n) (T : qTb F I al ps n 0) (hh : hand < 9) (hE : cT F al ps n 0 0 ≠ []) :
    ∃ (I' : Nat → Nat → Int32) (A V : Nat → Bool), qRun d 13 [.ref 236, .int (qj hand)] (qw g I) (.inl (none, qw g I')) ∧ qFf I I' ∧ I' 236 9 = qj (bm 9 A : Nat) ∧ I' 236 10 = qj (bm 8 V : Nat) ∧
      (∀ h, A h = true ↔ (al h = true ∧ ∀ c, c ∈ cT F al ps n 0 0 → (un 0 c n).testBit h = true)) ∧ ∀ p, V p = true ↔ ∃ c, c ∈ cT F al ps n 0 0 ∧ ∃ i, i < n ∧ p = ps i ∧ (c.getD i 0).testBit hand = true := by
  have hkp : ∀ i, i < n → 1 ≤ cK F ps i := fun i hi => (W.2.2.2.2.2.1 _ (hps i hi)).2.1
  obtain ⟨c0, hc0⟩ := List.exists_mem_of_ne_nil _ hE
  have r8 := RC.2.2.2.2.2.2.2.2
  -- reached behind all that lie below m
  let Rm : Nat → Nat → Prop := fun m u => ∃ c, c ∈ cT F al ps n 0 0 ∧ ∃ i, i ≤ n ∧ un 0 c i = u ∧ (i = 0 ∨ un 0 c (i - 1) < m)
  let Inv : Nat → (Nat → Nat → Int32) → (Nat → Bool) → (Nat → Bool) → Prop := fun m J A V => qFf I J ∧ J 236 9 = qj (bm 9 A : Nat) ∧ J 236 10 = qj (bm 8 V : Nat) ∧
      (∀ h, A h = true ↔ (al h = true ∧ ∀ c, c ∈ cT F al ps n 0 0 → un 0 c n < m → (un 0 c n).testBit h = true)) ∧ (∀ p, V p = true ↔ ∃ c, c ∈ cT F al ps n 0 0 ∧ ∃ i, i < n ∧ un 0 c i < m ∧ p = ps i ∧ (c.getD i 0).testBit hand = true) ∧
      (∀ u, u < 512 → Rm m u → J 242 u = qj 1) ∧ ∀ u, u < 512 → ¬ Rm m u → J 242 u = qj 0
  have key : ∀ m, m ≤ 512 → ∀ J A V, Inv m J A V → ∃ I' A' V', Inv 512 I' A' V' ∧ ∀ Q : qR → Prop, Q (.inl (none, qw g I')) → qwq d 13 44 [(0, .ref 236), (1, .int (qj hand)), (2, .int (qj m))] [] (qw g J) Q := by
    refine upto _ (fun J A V h => ⟨J, A, V, h, fun Q hQ => b13_44 (by omega) ?_⟩) (fun m hm ih J A V h => ?_)
    · simp (disch := omega) only [qj_le]
      exact ⟨fun _ => hQ, fun c => by omega⟩
    · obtain ⟨h1, h2, h3, h4, h5, h6, h7⟩ := h
      have hm9 := p9_le m
      have RC' := qFf_RC h1 RC
      obtain ⟨r0, r1, -, -, r4, r5, -, -, -⟩ := RC'
      have e9 := qpc_p9 hm
      by_cases hr : Rm m m
      · obtain ⟨c, hc, i, hi, hu, -⟩ := hr
        obtain ⟨u1, u2⟩ := un_fit hc W i hi
        rw [hu] at u1 u2
        have e240 : J 240 (p9 m) = qj i := by rw [← u1.2.1]; exact r4 i hi
        have e242 : J 242 m = qj 1 := h6 m hm ⟨c, hc, i, hi, hu, by
          by_cases e : i = 0
          · exact Or.inl e
          · right
            have := un_lt hc hkp (show i - 1 < n by omega)
            rw [show i - 1 + 1 = i by omega, hu] at this; exact this⟩
        -- the level of m is i alone
        have huni : ∀ c', c' ∈ cT F al ps n 0 0 → ∀ j, j ≤ n → un 0 c' j = m → j = i := fun c' hc' j hj e => by
          have f2 := (un_fit hc' W j hj).1.2.1
          rw [e, ← u1.2.1] at f2
          rcases Nat.lt_trichotomy i j with h | h | h
          · have := sm_ltb hkp h hj; omega
          · exact h.symm
          · have := sm_ltb hkp h hi; omega
        by_cases hin : i = n
        · subst hin
          obtain ⟨I', A', V', k1, k2⟩ := ih (qup J 236 9 (qj (bm 9 (fun h => A h && m.testBit h) : Nat))) (fun h => A h && m.testBit h) V (by
              refine ⟨qFf_tr h1 ⟨fun a _ h => qup_ne h, fun x h _ => by rw [qup_at, if_neg h]⟩, by rw [qup_at, if_pos rfl], by rw [qup_at, if_neg (by omega)]; exact h3, fun h => ?_, fun p => ?_, fun u hu2 => ?_, fun u hu2 => ?_⟩
              · show (A h && m.testBit h) = true ↔ _
                rw [Bool.and_eq_true, h4 h]
                constructor
                · rintro ⟨⟨q1, q2⟩, q3⟩
                  refine ⟨q1, fun c' hc' q4 => ?_⟩
                  by_cases e : un 0 c' i = m
                  · rw [e]; exact q3
                  · exact q2 c' hc' (by omega)
                · rintro ⟨q1, q2⟩
                  exact ⟨⟨q1, fun c' hc' q4 => q2 c' hc' (by omega)⟩, by rw [← hu]; exact q2 c hc (by omega)⟩
              · rw [h5 p]
                constructor
                · rintro ⟨c', hc', j, hj, q1, q2⟩; exact ⟨c', hc', j, hj, by omega, q2⟩
                · rintro ⟨c', hc', j, hj, q1, q2⟩
                  refine ⟨c', hc', j, hj, ?_, q2⟩
                  rcases Nat.lt_or_ge (un 0 c' j) m with h | h
                  · exact h
                  · have := huni c' hc' j (by omega) (by omega); omega
              · rintro ⟨c', hc', j, hj, q1, q2⟩
                rw [qup_ne (by omega)]
                refine h6 u hu2 ⟨c', hc', j, hj, q1, ?_⟩
                by_cases e0 : j = 0
                · exact Or.inl e0
                · right
                  rcases q2 with q2 | q2
                  · exact absurd q2 e0
                  · rcases Nat.lt_or_ge (un 0 c' (j - 1)) m with h | h
                    · exact h
                    · have := huni c' hc' (j - 1) (by omega) (by omega); omega
              · intro q
                rw [qup_ne (by omega)]
                exact h7 u hu2 (fun ⟨c', hc', j, hj, q1, q2⟩ => q ⟨c', hc', j, hj, q1, q2.imp_right (fun q => by omega)⟩))
          refine ⟨I', A', V', k1, fun Q hQ => b13_44 (by omega) ?_⟩
          have eand : qj (bm 9 A : Nat) &&& qj (m : Int) = qj (bm 9 (fun h => A h && m.testBit h) : Nat) := by rw [← qbm_and, bm_self hm]
          simp (disch := omega) only [qz0, qj_le, e9, qIx_z, qj_nat, e242, e240, r1, qj_eq, qj_lt, h2, eand, qj_add, qj_s1, true_and]
          exact ⟨fun c => by omega, fun _ => ⟨fun c => by omega, fun _ => ⟨fun c => by omega, fun _ => k2 Q hQ⟩⟩⟩
        · have hiv := fun s => cV_iff (s := s) (show i < n by omega) ⟨c, hc, hu⟩
          obtain ⟨J2, V2, s1, s2, s3, s4, s5, s6, s7⟩ := c14 (d := d - 1) (g := g) (by omega) W (qFc_C (qFf_c h1) C) hps (qFf_RC h1 RC) (qFf_T h1 T) hm u1 (show i < n by omega) hh h3
          obtain ⟨I', A', V', k1, k2⟩ := ih J2 A V2 (by
              refine ⟨qFf_tr h1 s2, s3.trans h2, s4, fun h => ?_, fun p => ?_, fun u hu2 => ?_, fun u hu2 => ?_⟩
              · rw [h4 h]
                refine and_congr_right (fun _ => ⟨fun q c' hc' q4 => ?_, fun q c' hc' q4 => q c' hc' (by omega)⟩)
                rcases Nat.lt_or_ge (un 0 c' n) m with h | h
                · exact q c' hc' h
                · have := huni c' hc' n (Nat.le_refl _) (by omega); omega
              · rw [s5 p, h5 p]
                constructor
                · rintro (⟨c', hc', j, hj, q1, q2⟩ | ⟨q1, u, q2, q3⟩)
                  · exact ⟨c', hc', j, hj, by omega, q2⟩
                  · obtain ⟨c', hc', q4, q5⟩ := (hiv u).mp q2
                    exact ⟨c', hc', i, by omega, by omega, q1, by rw [q5]; exact q3⟩
                · rintro ⟨c', hc', j, hj, q1, q2, q3⟩
                  rcases Nat.lt_or_ge (un 0 c' j) m with h | h
                  · exact Or.inl ⟨c', hc', j, hj, h, q2, q3⟩
                  · have e := huni c' hc' j (by omega) (by omega)
                    subst e
                    exact Or.inr ⟨q2, _, (hiv _).mpr ⟨c', hc', by omega, rfl⟩, q3⟩
              · rintro ⟨c', hc', j, hj, q1, q2⟩
                by_cases ex : ∃ v, cV F al ps n i m v ∧ m ||| v = u
                · exact s6 u hu2 ex
                · rw [s7 u hu2 ex]
                  refine h6 u hu2 ⟨c', hc', j, hj, q1, ?_⟩
                  by_cases e0 : j = 0
                  · exact Or.inl e0
                  · right
                    rcases q2 with q2 | q2
                    · exact absurd q2 e0
                    · rcases Nat.lt_or_ge (un 0 c' (j - 1)) m with h | h
                      · exact h
                      · exfalso
                        have e1 := huni c' hc' (j - 1) (by omega) (by omega)
                        have e2 : un 0 c' i = m := by rw [← e1]; omega
                        refine ex ⟨c'.getD i 0, (hiv _).mpr ⟨c', hc', e2, rfl⟩, ?_⟩
                        have := (cE_st hc' (show i < n by omega)).2.2.1
                        rw [e2, show i + 1 = j by omega, q1] at this
                        exact this.symm
              · intro q
                have ex : ¬ ∃ v, cV F al ps n i m v ∧ m ||| v = u := fun ⟨v, hv, hv2⟩ => by
                  obtain ⟨c', hc', q4, q5⟩ := (hiv v).mp hv
                  have := (cE_st hc' (show i < n by omega)).2.2.1
                  rw [q4, q5, hv2] at this
                  exact q ⟨c', hc', i + 1, by omega, this, Or.inr (by rw [Nat.add_sub_cancel, q4]; omega)⟩
                rw [s7 u hu2 ex]
                exact h7 u hu2 (fun ⟨c', hc', j, hj, q1, q2⟩ => q ⟨c', hc', j, hj, q1, q2.imp_right (fun q => by omega)⟩))
          refine ⟨I', A', V', k1, fun Q hQ => b13_44 (by omega) ?_⟩
          simp (disch := omega) only [qz0, qj_le, e9, qIx_z, qj_nat, e242, e240, r1, qj_eq, qj_lt, qj_add, qj_s1, true_and]
          exact ⟨fun c => by omega, fun _ => ⟨fun c => by omega, fun _ => ⟨fun _ => ⟨fun c => by omega, fun _ => ⟨fun c => by omega, fun _ => ⟨_, s1, k2 Q hQ⟩⟩⟩, fun c => by omega⟩⟩⟩
      · -- m isn't reached
        have hno : ∀ c, c ∈ cT F al ps n 0 0 → ∀ i, i ≤ n → ¬ un 0 c i = m := fun c hc i hi e => hr ⟨c, hc, i, hi, e, by
          by_cases e0 : i = 0
          · exact Or.inl e0
          · right
            have := un_lt hc hkp (show i - 1 < n by omega)
            rw [show i - 1 + 1 = i by omega, e] at this; exact this⟩
        have e242 : J 242 m = qj 0 := h7 m hm hr
        obtain ⟨I', A', V', k1, k2⟩ := ih J A V (by
            refine ⟨h1, h2, h3, fun h => ?_, fun p => ?_, fun u hu2 => ?_, fun u hu2 => ?_⟩
            · rw [h4 h]
              refine and_congr_right (fun _ => ⟨fun q c' hc' q4 => ?_, fun q c' hc' q4 => q c' hc' (by omega)⟩)
              have := hno c' hc' n (Nat.le_refl _)
              exact q c' hc' (by omega)
            · rw [h5 p]
              constructor
              · rintro ⟨c', hc', j, hj, q1, q2⟩; exact ⟨c', hc', j, hj, by omega, q2⟩
              · rintro ⟨c', hc', j, hj, q1, q2⟩
                have := hno c' hc' j (by omega)
                exact ⟨c', hc', j, hj, by omega, q2⟩
            · rintro ⟨c', hc', j, hj, q1, q2⟩
              refine h6 u hu2 ⟨c', hc', j, hj, q1, q2.imp_right (fun q => ?_)⟩
              have := hno c' hc' (j - 1) (by omega)
              omega
            · intro q
              exact h7 u hu2 (fun ⟨c', hc', j, hj, q1, q2⟩ => q ⟨c', hc', j, hj, q1, q2.imp_right (fun q => by omega)⟩))
        refine ⟨I', A', V', k1, fun Q hQ => b13_44 (by omega) ?_⟩
        simp (disch := omega) only [qz0, qj_le, e9, qIx_z, qj_nat, e242, qj_add, qj_s1, true_and]
        exact ⟨fun c => by omega, fun _ => ⟨fun _ => ⟨fun _ => k2 Q hQ, fun c => absurd trivial c⟩, fun c => absurd trivial c⟩⟩
  let J0 := qup (qup I 236 9 (qj (bm 9 al : Nat))) 236 10 (qj 0)
  have J0f : qFf I J0 := ⟨fun a _ h => by show qup (qup I _ _ _) _ _ _ a = _; rw [qup_ne h, qup_ne h], fun x h h' => by show qup (qup I _ _ _) _ _ _ 236 x = _; rw [qup_at, if_neg h', qup_at, if_neg h]⟩
  have clr : ∀ m : Nat, m ≤ 512 → ∀ J, qFf I J → J 236 9 = qj (bm 9 al : Nat) → J 236 10 = qj 0 → (∀ u, u < m → J 242 u = qj 0) →
      ∃ I' A' V', Inv 512 I' A' V' ∧ ∀ Q : qR → Prop, Q (.inl (none, qw g I')) → qwq d 13 15 [(0, .ref 236), (1, .int (qj hand)), (2, .int (qj m))] [] (qw g J) Q := by
    refine upto _ (fun J h1 h2 h3 h4 => ?_) (fun m hm ih J h1 h2 h3 h4 => ?_)
    · have hI : Inv 0 (qup J 242 0 (qj 1)) al (fun _ => false) := by
        refine ⟨qFf_tr h1 ⟨fun a h _ => qup_ne h, fun x _ _ => by rw [qup_ne (by omega)]⟩, by rw [qup_ne (by omega)]; exact h2, ?_, fun h => ⟨fun q => ⟨q, fun _ _ q => absurd q (Nat.not_lt_zero _)⟩, fun q => q.1⟩, fun p => ⟨fun q => Bool.noConfusion q, fun ⟨c, _, i, _, q, _⟩ => absurd q (Nat.not_lt_zero _)⟩, fun u hu => ?_, fun u hu => ?_⟩
        · rw [qup_ne (by omega), h3]
          have : bm 8 (fun _ => false) = 0 := bm_zero.mpr (fun _ _ => rfl)
          rw [this]; rfl
        · rintro ⟨c, hc, i, hi, q1, q2⟩
          have e0 : i = 0 := by omega
          subst e0
          have q1 : 0 = u := q1
          rw [qup_at, if_pos q1.symm]
        · intro q
          have : ¬ u = 0 := fun e => q ⟨c0, hc0, 0, Nat.zero_le _, e.symm, Or.inl rfl⟩
          rw [qup_at, if_neg this]; exact h4 u hu
      obtain ⟨I', A', V', k1, k2⟩ := key 0 (Nat.zero_le _) (qup J 242 0 (qj 1)) al (fun _ => false) hI
      refine ⟨I', A', V', k1, fun Q hQ => b13_15 (by omega) ?_⟩
      simp (disch := omega) only [qj_le]
      exact ⟨fun _ => k2 Q hQ, fun c => by omega⟩
    · obtain ⟨I', A', V', k1, k2⟩ := ih (qup J 242 m (qj 0)) (qFf_tr h1 ⟨fun a h _ => qup_ne h, fun x _ _ => by rw [qup_ne (by omega)]⟩) (by rw [qup_ne (by omega)]; exact h2) (by rw [qup_ne (by omega)]; exact h3) (fun u hu => by
        rw [qup_at]
        split
        · rfl
        · exact h4 u (by omega))
      refine ⟨I', A', V', k1, fun Q hQ => b13_15 (by omega) ?_⟩
      simp (disch := omega) only [qj_le, qIx_z, qj_nat, qj_add, qj_s1, true_and]
      exact ⟨fun c => by omega, fun _ => k2 Q hQ⟩
  obtain ⟨I', A', V', ⟨k1, k2, k3, k4, k5, -, -⟩, k6⟩ := clr 0 (Nat.zero_le _) J0 J0f (by show qup (qup I _ _ _) _ _ _ 236 9 = _; rw [qup_at, if_neg (by omega), qup_at, if_pos rfl]) (by show qup (qup I _ _ _) _ _ _ 236 10 = _; rw [qup_at, if_pos rfl]) (fun u hu => absurd hu (Nat.not_lt_zero _))
  refine ⟨I', A', V', qRun_of (fun Q hQ => b13_0 (by omega) ?_), k1, k2, k3, fun h => ?_, fun p => ?_⟩
  · rw [RC.1]; exact k6 Q hQ
  · rw [k4 h]
    exact and_congr_right (fun _ => ⟨fun q c hc => q c hc (un_fit hc W n (Nat.le_refl _)).2, fun q c hc _ => q c hc⟩)
  · rw [k5 p]
    exact ⟨fun ⟨c, hc, i, hi, _, q⟩ => ⟨c, hc, i, hi, q⟩, fun ⟨c, hc, i, hi, q⟩ => ⟨c, hc, i, hi, (un_fit hc W i (by omega)).2, q⟩⟩
end CC4
