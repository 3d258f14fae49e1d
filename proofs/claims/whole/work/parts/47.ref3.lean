/-! ===== the reference: a year that goes by ===== -/
theorem qup_self {α : Type} (f : Nat → Nat → α) (a i : Nat) : qup f a i (f a i) = f := by
  funext b j
  unfold qup
  by_cases h : b = a
  · subst h
    by_cases h2 : j = i
    · subst h2; rw [if_pos rfl, if_pos rfl]
    · rw [if_pos rfl, if_neg h2]
  · rw [if_neg h]
theorem itr_s {α : Type} (f : α → α) : ∀ (n : Nat) (a : α), itr f (n + 1) a = itr f n (f a)
  | 0, _ => rfl
  | n + 1, a => by rw [itr, itr_s f n a]; rfl
theorem itr_fix {α : Type} {f : α → α} {a : α} (h : f a = a) : ∀ n, itr f n a = a
  | 0 => rfl
  | n + 1 => by rw [itr, itr_fix h n, h]
theorem cn_set {P : Nat → Bool} {h : Nat} (hP : P h = false) : ∀ n, h < n → cn n (fun k => if k = h then true else P k) = cn n P + 1
  | 0, hn => by omega
  | n + 1, hn => by
    by_cases e : n = h
    · subst e
      rw [cn, cn, if_pos rfl, hP, cond_true, cond_false]
      have : cn n (fun k => if k = n then true else P k) = cn n P := cn_ext (fun k hk => by rw [if_neg (by omega)])
      rw [this]
    · rw [cn, cn, cn_set hP n (by omega), if_neg e]
      omega
theorem aBuN_die (S : qSt) (h : Nat) : ∀ n, aBuN (aDie S h) h n = aDie (aBuN S h n) h
  | 0 => rfl
  | n + 1 => by
    rw [aBuN, aBuN, aBuN_die S h n]
    show (if (aBuN S h n).2.1 h n = true then _ else _) = _
    split <;> rfl
theorem aBuN_up {F : qFam} {S : qSt} (WS : qWS F S) {h : Nat} (hh : h < F.1 0 0) : ∀ n, F.1 0 1 ≤ n → aBuN S h n = aBuN S h (F.1 0 1)
  | n, hn => by
    induction n with
    | zero => rw [show F.1 0 1 = 0 by omega]
    | succ n ih =>
      by_cases e : F.1 0 1 = n + 1
      · rw [e]
      · rw [aBuN, ih (by omega)]
        have : ¬ (aBuN S h (F.1 0 1)).2.1 h n = true := fun q => by
          have := ((qOK_bun WS hh (F.1 0 1)).1.1 h n q).2
          omega
        rw [if_neg this]
theorem aCho_w (S : qSt) (p h : Nat) : (aCho S p h).2.1 = qup S.2.1 h p true := by unfold aCho; split <;> rfl
theorem aLk_cho {F : qFam} {S : qSt} {p h : Nat} (hh : h < 9) (hc : S.2.1 h p = false) : aLk F (aCho S p h) p = aLk F S p - 1 := by
  unfold aLk
  rw [aCho_w]
  have : cn 9 (fun k => qup S.2.1 h p true k p) = cn 9 (fun k => S.2.1 k p) + 1 := by
    rw [← cn_set (P := fun k => S.2.1 k p) hc 9 hh]
    refine cn_ext (fun k _ => ?_)
    by_cases e : k = h
    · rw [e, qup_at, if_pos rfl, if_pos rfl]
    · rw [qup_ne e, if_neg e]
  rw [this]; omega
theorem aDth_ext {F : qFam} {S : qSt} {D E : Nat → Bool} : ∀ n, (∀ h, h < n → D h = E h) → aDth F D n S = aDth F E n S
  | 0, _ => rfl
  | n + 1, h => by
    rw [aDth, aDth, aDth_ext n (fun k hk => h k (by omega))]
    unfold aDt1
    rw [h n (by omega)]
theorem aLiv_ext {F : qFam} {L : qLw} {S : qSt} {D E : Nat → Bool} (h : ∀ k, k < F.1 0 0 → D k = E k) : aLiv F L D S = aLiv F L E S := by
  unfold aLiv; rw [aDth_ext _ h]
theorem aLot_nn (x : Int32) : ∃ n : Nat, n < 16 ∧ aLot x = qj n := by
  obtain ⟨n, h1, h2, h3⟩ := qlow (x >>> (qj 16 &&& 31))
  exact ⟨n % 16, Nat.mod_lt _ (by decide), h3⟩
theorem aDm_0 (F : qFam) (S : qSt) (x : Int32) (h : Nat) : aDm F S x (qj 0) h = false := by
  unfold aDm
  obtain ⟨n, h1, h2⟩ := aLot_nn (aSd F S x (h + 1))
  rw [h2, decide_eq_false, Bool.and_false]
  rw [qj_lt (by omega) (by omega) (by omega) (by omega)]; omega
section REF3
variable {d : Nat} {g : qG1} {I : Nat → Nat → Int32} {F : qFam} {S : qSt} {L : qLw} {r : Nat}
theorem qMS_w (R : qMS F I r S) {p : Nat} {X : Nat → Nat → Bool} {v : Int32} (hp : p < 8) (hX : ∀ h q, ¬ q = p → X h q = S.2.1 h q) (hv : v = qj (bm 9 (fun h => X h p) : Nat)) : qMS F (qup I r (1 + p) v) r (S.1, X, S.2.2) := by
  obtain ⟨s1, s2, s3, s4, s5, s6, s7⟩ := R
  refine ⟨?_, fun q hq => ?_, fun q hq => ?_, fun q hq => ?_, fun h q hh hq => ?_, fun h hh => ?_, ?_⟩
  · rw [qup_at, if_neg (by omega)]; exact s1
  · rw [qup_at]
    by_cases e : q = p
    · subst e; rw [if_pos rfl, hv]
    · rw [if_neg (by omega)]
      rw [show (fun h => (S.1, X, S.2.2).2.1 h q) = (fun h => S.2.1 h q) from funext (fun h => hX h q e)]
      exact s2 q hq
  · by_cases e : 9 + q = 1 + p
    · omega
    · rw [qup_at, if_neg e]; exact s3 q hq
  · rw [qup_at, if_neg (by omega)]; exact s4 q hq
  · rw [qup_at, if_neg (by omega)]; exact s5 h q hh hq
  · rw [qup_at, if_neg (by omega)]; exact s6 h hh
  · rw [qup_at, if_neg (by omega)]; exact s7
theorem qMS_n (R : qMS F I r S) {k row i n : Nat} {v : Int32} (W8 : F.1 0 1 ≤ 8)
    (hk : (row = 3 ∧ k = 9 + i ∧ i < 8 ∧ v = qj (n : Int)) ∨ (row = 4 ∧ k = 17 + i ∧ i < 8 ∧ v = qj ((n : Int) - 1)) ∨ (∃ h, row = 5 + h ∧ h < 9 ∧ k = 25 + 8 * h + i ∧ i < 8 ∧ v = qj ((n : Int) - 1)) ∨ (row = 2 ∧ k = 97 + i ∧ i < 9 ∧ v = qj ((n : Int) - 1)) ∨ (row = 0 ∧ i = 0 ∧ k = 106 ∧ v = qj (n : Int))) :
    qMS F (qup I r k v) r (qup S.1 row i n, S.2) := by
  obtain ⟨s1, s2, s3, s4, s5, s6, s7⟩ := R
  have hk0 : 9 ≤ k := by rcases hk with h | h | ⟨h, h⟩ | h | h <;> omega
  refine ⟨?_, fun q hq => ?_, fun q hq => ?_, fun q hq => ?_, fun h q hh hq => ?_, fun h hh => ?_, ?_⟩
  · rw [qup_at, if_neg (by omega)]; exact s1
  · rw [qup_at, if_neg (by omega)]; exact s2 q hq
  · show qup I r k v r (9 + q) = qj ((qup S.1 row i n 3 q : Nat) : Int)
    rw [qup_at]
    by_cases e : 9 + q = k
    · rcases hk with h | h | ⟨j, h⟩ | h | h <;> try omega
      rw [if_pos e, h.1, qup_at, if_pos (by omega), h.2.2.2]
    · rw [if_neg e]
      by_cases e2 : row = 3
      · rcases hk with h | h | ⟨j, h⟩ | h | h <;> try omega
        rw [e2, qup_at, if_neg (by omega)]; exact s3 q hq
      · rw [qup_ne (f := S.1) (by omega)]; exact s3 q hq
  · show qup I r k v r (17 + q) = qj (((qup S.1 row i n 4 q : Nat) : Int) - 1)
    rw [qup_at]
    by_cases e : 17 + q = k
    · rcases hk with h | h | ⟨j, h⟩ | h | h <;> try omega
      rw [if_pos e, h.1, qup_at, if_pos (by omega), h.2.2.2]
    · rw [if_neg e]
      by_cases e2 : row = 4
      · rcases hk with h | h | ⟨j, h⟩ | h | h <;> try omega
        rw [e2, qup_at, if_neg (by omega)]; exact s4 q hq
      · rw [qup_ne (f := S.1) (by omega)]; exact s4 q hq
  · show qup I r k v r (25 + 8 * h + q) = qj (((qup S.1 row i n (5 + h) q : Nat) : Int) - 1)
    rw [qup_at]
    by_cases e : 25 + 8 * h + q = k
    · rcases hk with hk | hk | ⟨j, hk⟩ | hk | hk <;> try omega
      have e3 : h = j := by omega
      subst e3
      rw [if_pos e, hk.1, qup_at, if_pos (by omega), hk.2.2.2.2]
    · rw [if_neg e]
      by_cases e2 : row = 5 + h
      · rcases hk with hk | hk | ⟨j, hk⟩ | hk | hk <;> try omega
        have e3 : h = j := by omega
        subst e3
        rw [e2, qup_at, if_neg (by omega)]; exact s5 h q hh hq
      · rw [qup_ne (f := S.1) (by omega)]; exact s5 h q hh hq
  · show qup I r k v r (97 + h) = qj (((qup S.1 row i n 2 h : Nat) : Int) - 1)
    rw [qup_at]
    by_cases e : 97 + h = k
    · rcases hk with hk | hk | ⟨j, hk⟩ | hk | hk <;> try omega
      rw [if_pos e, hk.1, qup_at, if_pos (by omega), hk.2.2.2]
    · rw [if_neg e]
      by_cases e2 : row = 2
      · rcases hk with hk | hk | ⟨j, hk⟩ | hk | hk <;> try omega
        rw [e2, qup_at, if_neg (by omega)]; exact s6 h hh
      · rw [qup_ne (f := S.1) (by omega)]; exact s6 h hh
  · show qup I r k v r 106 = qj ((qup S.1 row i n 0 0 : Nat) : Int)
    rw [qup_at]
    by_cases e : 106 = k
    · rcases hk with hk | hk | ⟨j, hk⟩ | hk | hk <;> try omega
      rw [if_pos e, hk.1, qup_at, if_pos (by omega), hk.2.2.2]
    · rw [if_neg e]
      by_cases e2 : row = 0
      · rcases hk with hk | hk | ⟨j, hk⟩ | hk | hk <;> omega
      · rw [qup_ne (f := S.1) (by omega)]; exact s7
theorem m235 (hd : 1 ≤ d) (hr : qisR r) (R : qMS F I r S) (W8 : F.1 0 1 ≤ 8) {p h : Nat} (hp : p < 8) (hh : h < 9) :
    ∃ I', qRun d 235 [.ref 245, .ref r, .int (qj p), .int (qj h)] (qw g I) (.inl (none, qw g I')) ∧ qMS F I' r (aCea S h p) ∧ ∀ a, ¬ a = r → I' a = I a := by
  refine ⟨qup (qup I r (1 + p) (qj (bm 9 (fun k => if k = h then false else S.2.1 k p) : Nat))) r (17 + p) (qj h), qRun_of fun Q hQ => b235_0 (qisR_sh hr) (by omega) ?_, ?_, fun a ha => ?_⟩
  · have s2 := R.2.1
    simp (disch := omega) only [qj_add, qj_c1, qj_c17, qIx_z, qj_nat, s2, bm_clr, true_and]
    exact hQ
  · refine qMS_n (qMS_w R (X := qup S.2.1 h p false) hp (fun k q hq => ?_) ?_) W8 (Or.inr (Or.inl ⟨rfl, rfl, hp, by congr 1; omega⟩))
    · by_cases e : k = h
      · subst e; rw [qup_at, if_neg hq]
      · rw [qup_ne e]
    · congr 2
      refine bm_ext (fun k _ => ?_)
      by_cases e : k = h
      · subst e; rw [if_pos rfl, qup_at, if_pos rfl]
      · rw [if_neg e, qup_ne e]
  · rw [qup_ne ha, qup_ne ha]
theorem m236 (hd : 1 ≤ d) (hr : qisR r) (R : qMS F I r S) (W8 : F.1 0 1 ≤ 8) {p h : Nat} (hp : p < 8) (hh : h < 9) :
    ∃ I', qRun d 236 [.ref 245, .ref r, .int (qj p), .int (qj h)] (qw g I) (.inl (none, qw g I')) ∧ qMS F I' r (aBeg S h p) ∧ ∀ a, ¬ a = r → I' a = I a := by
  refine ⟨qup (qup I r (1 + p) (qj (bm 9 (fun k => if k = h then true else S.2.1 k p) : Nat))) r (25 + 8 * h + p) (qj (S.1 0 0)), qRun_of fun Q hQ => b236_0 (qisR_sh hr) (by omega) ?_, ?_, fun a ha => ?_⟩
  · have s2 := R.2.1
    have s7 := R.2.2.2.2.2.2
    have e : ∀ v, qup I r (1 + p) v r 106 = I r 106 := fun v => by rw [qup_at, if_neg (by omega)]
    simp (disch := omega) only [qj_add, qj_mul, qj_c1, qj_c25, qIx_z, qj_nat, s2, bm_set, e, s7, true_and]
    exact hQ
  · refine qMS_n (qMS_w R (X := qup S.2.1 h p true) hp (fun k q hq => ?_) ?_) W8 (Or.inr (Or.inr (Or.inl ⟨h, rfl, hh, rfl, hp, by congr 1; omega⟩)))
    · by_cases e : k = h
      · subst e; rw [qup_at, if_neg hq]
      · rw [qup_ne e]
    · congr 2
      refine bm_ext (fun k _ => ?_)
      by_cases e : k = h
      · subst e; rw [if_pos rfl, qup_at, if_pos rfl]
      · rw [if_neg e, qup_ne e]
  · rw [qup_ne ha, qup_ne ha]
theorem m237 (hd : 2 ≤ d) (hr : qisR r) (MF : qMF F I) (W : qWF F) (R : qMS F I r S) (WS : qWS F S) {h : Nat} (hh : h < F.1 0 0) :
    ∃ I', qRun d 237 [.ref 245, .ref r, .int (qj h)] (qw g I) (.inl (none, qw g I')) ∧ qMS F I' r (aBur S h) ∧ ∀ a, ¬ a = r → I' a = I a := by
  have h9 := W.1
  have h8 := W.2.1
  have hb := qisR_b hr
  have e8 : aBur S h = aBuN (aDie S h) h (F.1 0 1) := by
    show aDie (aBuN S h 8) h = _
    rw [aBuN_die, aBuN_up WS hh 8 h8]
  have WSd : qWS F (aDie S h) := WS
  have key : ∀ i, i ≤ F.1 0 1 → ∀ J, qMS F J r (aBuN (aDie S h) h i) → (∀ a, ¬ a = r → J a = I a) →
      ∃ I', (qMS F I' r (aBur S h) ∧ ∀ a, ¬ a = r → I' a = I a) ∧ ∀ Q : qR → Prop, Q (.inl (none, qw g I')) → qwq d 237 11 [(0, .ref 245), (1, .ref r), (2, .int (qj h)), (3, .int (qj i))] [] (qw g J) Q := by
    refine upto _ (fun J R1 h1 => ?_) (fun i hi ih J R1 h1 => ?_)
    · refine ⟨J, ⟨by rw [e8]; exact R1, h1⟩, fun Q hQ => b237_11 (qisR_sh hr) (by omega) ?_⟩
      have e : J 249 1 = qj (F.1 0 1) := by rw [h1 249 (by omega)]; exact MF.2.1
      simp (disch := omega) only [e, qj_le]
      exact ⟨fun _ => hQ, fun c => by omega⟩
    · have e : J 249 1 = qj (F.1 0 1) := by rw [h1 249 (by omega)]; exact MF.2.1
      have s2 := R1.2.1 i (by omega)
      cases hw : (aBuN (aDie S h) h i).2.1 h i with
      | false =>
        have e1 : aBuN (aDie S h) h (i + 1) = aBuN (aDie S h) h i := by rw [aBuN, hw]; rfl
        obtain ⟨I', k1, k2⟩ := ih J (by rw [e1]; exact R1) h1
        refine ⟨I', k1, fun Q hQ => b237_11 (qisR_sh hr) (by omega) ?_⟩
        simp (disch := omega) only [e, qj_le, qj_add, qj_c1, qIx_z, qj_nat, s2, qhas_bm, hw, qj_s1, true_and]
        exact ⟨fun c => by omega, fun _ => ⟨fun _ => k2 Q hQ, fun c => Bool.noConfusion c⟩⟩
      | true =>
        have e1 : aBuN (aDie S h) h (i + 1) = aCea (aBuN (aDie S h) h i) h i := by rw [aBuN, hw]; rfl
        obtain ⟨J2, r1, r2, r3⟩ := m235 (d := d - 1) (g := g) (by omega) hr R1 h8 (p := i) (h := h) (by omega) (by omega)
        obtain ⟨I', k1, k2⟩ := ih J2 (by rw [e1]; exact r2) (fun a ha => (r3 a ha).trans (h1 a ha))
        refine ⟨I', k1, fun Q hQ => b237_11 (qisR_sh hr) (by omega) ?_⟩
        simp (disch := omega) only [e, qj_le, qj_add, qj_c1, qIx_z, qj_nat, s2, qhas_bm, hw, qj_s1, true_and]
        exact ⟨fun c => by omega, fun _ => ⟨fun c => Bool.noConfusion c, fun _ => ⟨_, r1, k2 Q hQ⟩⟩⟩
  have R0 : qMS F (qup I r 0 (qj (bm 9 (fun k => if k = h then true else S.2.2 k) : Nat))) r (aDie S h) := by
    obtain ⟨s1, s2, s3, s4, s5, s6, s7⟩ := R
    refine ⟨by rw [qup_at, if_pos rfl]; rfl, fun q hq => ?_, fun q hq => ?_, fun q hq => ?_, fun k q hk hq => ?_, fun k hk => ?_, ?_⟩
    · rw [qup_at, if_neg (by omega)]; exact s2 q hq
    · rw [qup_at, if_neg (by omega)]; exact s3 q hq
    · rw [qup_at, if_neg (by omega)]; exact s4 q hq
    · rw [qup_at, if_neg (by omega)]; exact s5 k q hk hq
    · rw [qup_at, if_neg (by omega)]; exact s6 k hk
    · rw [qup_at, if_neg (by omega)]; exact s7
  obtain ⟨I', k1, k2⟩ := key 0 (Nat.zero_le _) _ R0 (fun a ha => qup_ne ha)
  refine ⟨I', qRun_of (fun Q hQ => b237_0 (qisR_sh hr) (by omega) ?_), k1⟩
  rw [R.1, bm_set (by omega) (by omega)]
  exact k2 Q hQ
theorem m201 {r2 : Nat} (hd : 1 ≤ d) (hr : qisR r) (hr2 : qisR r2) (hn : ¬ r = r2) :
    ∃ I', qRun d 201 [.ref r, .ref r2] (qw g I) (.inl (none, qw g I')) ∧ (∀ j, j < 107 → I' r2 j = I r j) ∧ ∀ a, ¬ a = r2 → I' a = I a := by
  have key : ∀ i, i ≤ 107 → ∀ J, (∀ j, j < i → J r2 j = I r j) → (∀ a, ¬ a = r2 → J a = I a) →
      ∃ I', ((∀ j, j < 107 → I' r2 j = I r j) ∧ ∀ a, ¬ a = r2 → I' a = I a) ∧ ∀ Q : qR → Prop, Q (.inl (none, qw g I')) → qwq d 201 2 [(0, .ref r), (1, .ref r2), (2, .int (qj i))] [] (qw g J) Q := by
    refine upto _ (fun J h1 h2 => ⟨J, ⟨h1, h2⟩, fun Q hQ => b201_2 (qisR_sh hr) (qisR_sh hr2) (by omega) ?_⟩) (fun i hi ih J h1 h2 => ?_)
    · simp (disch := omega) only [qj_le]
      exact ⟨fun _ => hQ, fun c => by omega⟩
    · obtain ⟨I', k1, k2⟩ := ih (qup J r2 i (J r i)) (fun j hj => by
        rw [qup_at]
        by_cases e : j = i
        · rw [if_pos e, e, h2 r hn]
        · rw [if_neg e]; exact h1 j (by omega)) (fun a ha => by rw [qup_ne ha]; exact h2 a ha)
      refine ⟨I', k1, fun Q hQ => b201_2 (qisR_sh hr) (qisR_sh hr2) (by omega) ?_⟩
      simp (disch := omega) only [qj_le, qIx_z, qj_nat, qj_add, qj_s1, true_and]
      exact ⟨fun c => by omega, fun _ => k2 Q hQ⟩
  obtain ⟨I', k1, k2⟩ := key 0 (Nat.zero_le _) I (fun j hj => absurd hj (Nat.not_lt_zero _)) (fun _ _ => rfl)
  exact ⟨I', qRun_of (fun Q hQ => b201_0 (qisR_sh hr) (qisR_sh hr2) (by omega) (k2 Q hQ)), k1⟩
theorem qMS_cp {r2 : Nat} {J : Nat → Nat → Int32} (W8 : F.1 0 1 ≤ 8) (R : qMS F I r S) (h : ∀ j, j < 107 → J r2 j = I r j) : qMS F J r2 S := by
  obtain ⟨s1, s2, s3, s4, s5, s6, s7⟩ := R
  exact ⟨(h _ (by omega)).trans s1, fun q hq => (h _ (by omega)).trans (s2 q hq), fun q hq => (h _ (by omega)).trans (s3 q hq), fun q hq => (h _ (by omega)).trans (s4 q hq), fun k q hk hq => (h _ (by omega)).trans (s5 k q hk hq), fun k hk => (h _ (by omega)).trans (s6 k hk), (h _ (by omega)).trans s7⟩
end REF3
