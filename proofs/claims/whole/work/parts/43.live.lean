/-! ===== a year that goes by; the class' states written ===== -/
def aSel (S : qSt) (p : Nat) : Nat → qSt
  | 0 => S
  | h + 1 => aCho S p h
def aStp (F : qFam) (L : qLw) (p : Nat) (S : qSt) : qSt := aSel S p (aCh F L S p)
def aFil (F : qFam) (L : qLw) (p : Nat) (S : qSt) : qSt := itr (aStp F L p) (aLk F S p) S
def aAll (F : qFam) (L : qLw) : Nat → qSt → qSt
  | 0, S => S
  | p + 1, S => aFil F L p (aAll F L p S)
def aWr1 (F : qFam) (p : Nat) (S : qSt) : qSt := if aLk F S p = 0 then (qup S.1 3 p (S.1 3 p - F.1 0 3), S.2) else S
def aWr (F : qFam) : Nat → qSt → qSt
  | 0, S => S
  | p + 1, S => aWr1 F p (aWr F p S)
def aDt1 (F : qFam) (D : Nat → Bool) (h : Nat) (S : qSt) : qSt := if aAl F S h = true ∧ (F.1 3 h = S.1 0 0 ∨ D h = true) then aBur S h else S
def aDth (F : qFam) (D : Nat → Bool) : Nat → qSt → qSt
  | 0, S => S
  | h + 1, S => aDt1 F D h (aDth F D h S)
def aLiv (F : qFam) (L : qLw) (D : Nat → Bool) (S : qSt) : qSt := aWr F (F.1 0 1) (aAll F L (F.1 0 1) (aDth F D (F.1 0 0) S))
/-- a year without fates -/
def aYear (F : qFam) (L : qLw) (S : qSt) : qSt := aLiv F L (fun _ => false) (aYr S)
/-- T is fine, and its year and limps are S' -/
def qOK (F : qFam) (S T : qSt) : Prop := qWS F T ∧ T.1 0 0 = S.1 0 0 ∧ T.1 1 = S.1 1
theorem qOK_rf {F : qFam} {S : qSt} (h : qWS F S) : qOK F S S := ⟨h, rfl, rfl⟩
theorem qOK_tr {F : qFam} {S T U : qSt} (h : qOK F S T) (h2 : qOK F T U) : qOK F S U := ⟨h2.1, h2.2.1.trans h.2.1, h2.2.2.trans h.2.2⟩
theorem qOK_beg {F : qFam} {S : qSt} (h : qWS F S) {k p : Nat} (hk : k < F.1 0 0) (hp : p < F.1 0 1) : qOK F S (aBeg S k p) := by
  obtain ⟨h1, h2, h3, h4⟩ := h
  refine ⟨⟨fun a b hab => ?_, fun a => ?_, fun a ha => ?_, fun a => ?_⟩, ?_, ?_⟩
  · have hab : qup S.2.1 k p true a b = true := hab
    by_cases e : a = k
    · subst e
      rw [qup_at] at hab
      by_cases e2 : b = p
      · subst e2; exact ⟨hk, hp⟩
      · rw [if_neg e2] at hab; exact h1 a b hab
    · rw [qup_ne e] at hab; exact h1 a b hab
  · show qup S.1 (5 + k) p (S.1 0 0 + 1) 2 a ≤ 8; rw [qup_ne (by omega)]; exact h2 a
  · show qup S.1 (5 + k) p (S.1 0 0 + 1) 3 a ≤ 30; rw [qup_ne (by omega)]; exact h3 a ha
  · show qup S.1 (5 + k) p (S.1 0 0 + 1) 4 a ≤ _; rw [qup_ne (by omega)]; exact h4 a
  · show qup S.1 (5 + k) p (S.1 0 0 + 1) 0 0 = _; rw [qup_ne (by omega)]
  · show qup S.1 (5 + k) p (S.1 0 0 + 1) 1 = _; rw [qup_ne (by omega)]
theorem qOK_cea {F : qFam} {S : qSt} (h : qWS F S) {k p : Nat} (hk : k < F.1 0 0) : qOK F S (aCea S k p) := by
  obtain ⟨h1, h2, h3, h4⟩ := h
  refine ⟨⟨fun a b hab => ?_, fun a => ?_, fun a ha => ?_, fun a => ?_⟩, ?_, ?_⟩
  · have hab : qup S.2.1 k p false a b = true := hab
    by_cases e : a = k
    · subst e
      rw [qup_at] at hab
      by_cases e2 : b = p
      · rw [if_pos e2] at hab; cases hab
      · rw [if_neg e2] at hab; exact h1 a b hab
    · rw [qup_ne e] at hab; exact h1 a b hab
  · show qup S.1 4 p (k + 1) 2 a ≤ 8; rw [qup_ne (by omega)]; exact h2 a
  · show qup S.1 4 p (k + 1) 3 a ≤ 30; rw [qup_ne (by omega)]; exact h3 a ha
  · show qup S.1 4 p (k + 1) 4 a ≤ _; rw [qup_at]; split
    · omega
    · exact h4 a
  · show qup S.1 4 p (k + 1) 0 0 = _; rw [qup_ne (by omega)]
  · show qup S.1 4 p (k + 1) 1 = _; rw [qup_ne (by omega)]
theorem qOK_bun {F : qFam} {S : qSt} (h : qWS F S) {k : Nat} (hk : k < F.1 0 0) : ∀ n, qOK F S (aBuN S k n)
  | 0 => qOK_rf h
  | n + 1 => by
    have ih := qOK_bun h hk n
    rw [aBuN]
    split
    · exact qOK_tr ih (qOK_cea ih.1 hk)
    · exact ih
theorem qOK_bur {F : qFam} {S : qSt} (h : qWS F S) {k : Nat} (hk : k < F.1 0 0) : qOK F S (aBur S k) := qOK_bun h hk 8
theorem qOK_cho {F : qFam} {S : qSt} (h : qWS F S) (W : qWF F) {k p : Nat} (hk : k < F.1 0 0) (hp : p < F.1 0 1) : qOK F S (aCho S p k) := by
  have h8 := W.2.1
  have hb := qOK_beg h hk hp
  unfold aCho
  split
  · obtain ⟨⟨h1, h2, h3, h4⟩, h5, h6⟩ := hb
    refine ⟨⟨h1, fun a => ?_, fun a ha => ?_, fun a => ?_⟩, ?_, ?_⟩
    · show qup (aBeg S k p).1 2 k (p + 1) 2 a ≤ 8
      rw [qup_at]; split
      · omega
      · exact h2 a
    · show qup (aBeg S k p).1 2 k (p + 1) 3 a ≤ 30; rw [qup_ne (by omega)]; exact h3 a ha
    · show qup (aBeg S k p).1 2 k (p + 1) 4 a ≤ _; rw [qup_ne (by omega)]; exact h4 a
    · show qup (aBeg S k p).1 2 k (p + 1) 0 0 = _; rw [qup_ne (by omega)]; exact h5
    · show qup (aBeg S k p).1 2 k (p + 1) 1 = _; rw [qup_ne (by omega)]; exact h6
  · exact hb
theorem qOK_sel {F : qFam} {S : qSt} (h : qWS F S) (W : qWF F) {c p : Nat} (hc : c ≤ F.1 0 0) (hp : p < F.1 0 1) : qOK F S (aSel S p c) := by
  cases c with
  | zero => exact qOK_rf h
  | succ k => exact qOK_cho h W (by omega) hp
theorem aCh_le (F : qFam) (L : qLw) (S : qSt) (p : Nat) : aCh F L S p ≤ F.1 0 0 := aChN_le _ _ _ _ _
theorem qOK_stp {F : qFam} {S : qSt} {L : qLw} (h : qWS F S) (W : qWF F) {p : Nat} (hp : p < F.1 0 1) : qOK F S (aStp F L p S) := qOK_sel h W (aCh_le F L S p) hp
theorem qOK_itr {F : qFam} {S : qSt} {L : qLw} (h : qWS F S) (W : qWF F) {p : Nat} (hp : p < F.1 0 1) : ∀ n, qOK F S (itr (aStp F L p) n S)
  | 0 => qOK_rf h
  | n + 1 => by
    have ih := qOK_itr (L := L) h W hp n
    exact qOK_tr ih (qOK_stp ih.1 W hp)
theorem qOK_all {F : qFam} {S : qSt} {L : qLw} (h : qWS F S) (W : qWF F) : ∀ n, n ≤ F.1 0 1 → qOK F S (aAll F L n S)
  | 0, _ => qOK_rf h
  | n + 1, hn => by
    have ih := qOK_all (L := L) h W n (by omega)
    exact qOK_tr ih (qOK_itr ih.1 W (by omega) _)
theorem qOK_wr {F : qFam} {S : qSt} (h : qWS F S) : ∀ n, qOK F S (aWr F n S)
  | 0 => qOK_rf h
  | n + 1 => by
    have ih := qOK_wr h n
    refine qOK_tr ih ?_
    show qOK F _ (aWr1 F n (aWr F n S))
    unfold aWr1
    split
    · obtain ⟨⟨h1, h2, h3, h4⟩, -, -⟩ := ih
      generalize aWr F n S = T at h1 h2 h3 h4
      refine ⟨⟨h1, fun a => ?_, fun a ha => ?_, fun a => ?_⟩, ?_, ?_⟩
      · show qup T.1 3 n (T.1 3 n - F.1 0 3) 2 a ≤ 8; rw [qup_ne (by omega)]; exact h2 a
      · show qup T.1 3 n (T.1 3 n - F.1 0 3) 3 a ≤ 30; rw [qup_at]; split
        · rename_i e; subst e; have := h3 a ha; omega
        · exact h3 a ha
      · show qup T.1 3 n (T.1 3 n - F.1 0 3) 4 a ≤ _; rw [qup_ne (by omega)]; exact h4 a
      · show qup T.1 3 n (T.1 3 n - F.1 0 3) 0 0 = _; rw [qup_ne (by omega)]
      · show qup T.1 3 n (T.1 3 n - F.1 0 3) 1 = _; rw [qup_ne (by omega)]
    · exact qOK_rf ih.1
theorem qOK_dth {F : qFam} {S : qSt} {D : Nat → Bool} (h : qWS F S) : ∀ n, n ≤ F.1 0 0 → qOK F S (aDth F D n S)
  | 0, _ => qOK_rf h
  | n + 1, hn => by
    have ih := qOK_dth (D := D) h n (by omega)
    refine qOK_tr ih ?_
    show qOK F _ (aDt1 F D n (aDth F D n S))
    unfold aDt1
    split
    · exact qOK_bur ih.1 (by omega)
    · exact qOK_rf ih.1
theorem qOK_liv {F : qFam} {S : qSt} {L : qLw} {D : Nat → Bool} (h : qWS F S) (W : qWF F) : qOK F S (aLiv F L D S) := by
  have h1 := qOK_dth (D := D) h _ (Nat.le_refl _)
  have h2 := qOK_all (L := L) h1.1 W _ (Nat.le_refl _)
  exact qOK_tr h1 (qOK_tr h2 (qOK_wr h2.1 _))
theorem qWS_yr {F : qFam} {S : qSt} (h : qWS F S) : qWS F (aYr S) := by
  obtain ⟨h1, h2, h3, h4⟩ := h
  refine ⟨h1, fun a => ?_, fun a ha => ?_, fun a => ?_⟩
  · show qup S.1 0 0 (S.1 0 0 + 1) 2 a ≤ 8; rw [qup_ne (by omega)]; exact h2 a
  · show qup S.1 0 0 (S.1 0 0 + 1) 3 a ≤ 30; rw [qup_ne (by omega)]; exact h3 a ha
  · show qup S.1 0 0 (S.1 0 0 + 1) 4 a ≤ _; rw [qup_ne (by omega)]; exact h4 a
/-- a year on -/
theorem aYear_ok {F : qFam} {S : qSt} {L : qLw} {D : Nat → Bool} (h : qWS F S) (W : qWF F) : qWS F (aLiv F L D (aYr S)) ∧ (aLiv F L D (aYr S)).1 0 0 = S.1 0 0 + 1 ∧ (aLiv F L D (aYr S)).1 1 = S.1 1 := by
  obtain ⟨h1, h2, h3⟩ := qOK_liv (L := L) (D := D) (qWS_yr h) W
  exact ⟨h1, h2, h3⟩
/-- nothing changed but the state at s and the stack of the law at l -/
def qFr (s l : Nat) (I J : Nat → Nat → Int32) : Prop := ∀ a, (a < s ∨ s + 16 ≤ a) → ¬ a = l + 2 → J a = I a
theorem qFr_rf {s l : Nat} {I : Nat → Nat → Int32} : qFr s l I I := fun _ _ _ => rfl
theorem qFr_tr {s l : Nat} {I J K : Nat → Nat → Int32} (h : qFr s l I J) (h2 : qFr s l J K) : qFr s l I K := fun a h3 h4 => (h2 a h3 h4).trans (h a h3 h4)
theorem qFr_F {s l f : Nat} {I J : Nat → Nat → Int32} {F : qFam} (h : qFr s l I J) (hs : qisS s) (hl : qisL l) (hf : qisF f) (RF : qRF F I f) : qRF F J f :=
  qRF_cg RF (fun a h1 h2 => h a (by unfold qisF at hf; unfold qisS at hs; omega) (by unfold qisF at hf; unfold qisL at hl; omega))
theorem qFr_L {s l : Nat} {I J : Nat → Nat → Int32} {L : qLw} (h : qFr s l I J) (hs : qisS s) (hl : qisL l) (RL : qRL L I l) : qRL L J l :=
  qRL_cg RL (fun a h1 h2 => h a (by unfold qisL at hl; unfold qisS at hs; omega) (by omega))
section LIVE
variable {d : Nat} {g : qG1} {I : Nat → Nat → Int32} {F : qFam} {S : qSt} {L : qLw} {f s l : Nat}
theorem c64 (hd : 1 ≤ d) (hs : qisS s) (R : qRS F I s S) {h p : Nat} (hh : h < 9) (hp : p < 8) :
    ∃ I', qRun d 64 [.ref s, .int (qj h), .int (qj p)] (qw g I) (.inl (none, qw g I')) ∧ qRS F I' s (aBeg S h p) ∧ ∀ a, (a < s ∨ s + 16 ≤ a) → I' a = I a := by
  refine ⟨qup (qup I (s + 2) h (qj (bm 8 (fun q => if q = p then true else S.2.1 h q) : Nat))) (s + 4 + 1 + h) p (qj (S.1 0 0)), qRun_of fun Q hQ => b64_0 hs (by omega) ?_, ?_, fun a ha => ?_⟩
  · obtain ⟨s1, s2, s3, s4, s5, s6, s7, s8⟩ := R
    simp (disch := omega) only [qIx_z, qj_nat, q2_e, s4, bm_set, qup_ne, s1, true_and]
    exact hQ
  · exact qRS_u6 (qRS_u4 R (X := qup S.2.1 h p true) (fun k hk => qup_ne hk) (by rw [qup_row])) hh (by congr 1; omega)
  · rw [qup_ne (by omega), qup_ne (by omega)]
theorem c65 (hd : 1 ≤ d) (hs : qisS s) (R : qRS F I s S) {h p : Nat} (hh : h < 9) (hp : p < 8) :
    ∃ I', qRun d 65 [.ref s, .int (qj h), .int (qj p)] (qw g I) (.inl (none, qw g I')) ∧ qRS F I' s (aCea S h p) ∧ ∀ a, (a < s ∨ s + 16 ≤ a) → I' a = I a := by
  refine ⟨qup (qup I (s + 2) h (qj (bm 8 (fun q => if q = p then false else S.2.1 h q) : Nat))) (s + 15) p (qj h), qRun_of fun Q hQ => b65_0 hs (by omega) ?_, ?_, fun a ha => ?_⟩
  · obtain ⟨s1, s2, s3, s4, s5, s6, s7, s8⟩ := R
    simp (disch := omega) only [qIx_z, qj_nat, s4, bm_clr, true_and]
    exact hQ
  · exact qRS_u8 (qRS_u4 R (X := qup S.2.1 h p false) (fun k hk => qup_ne hk) (by rw [qup_row])) (by congr 1; omega)
  · rw [qup_ne (by omega), qup_ne (by omega)]
theorem c66 (hd : 2 ≤ d) (hs : qisS s) (R : qRS F I s S) {h : Nat} (hh : h < 9) :
    ∃ I', qRun d 66 [.ref s, .int (qj h)] (qw g I) (.inl (none, qw g I')) ∧ qRS F I' s (aBur S h) ∧ ∀ a, (a < s ∨ s + 16 ≤ a) → I' a = I a := by
  have key : ∀ i, i ≤ 8 → ∀ J, qRS F J s (aBuN S h i) → (∀ a, (a < s ∨ s + 16 ≤ a) → J a = I a) →
      ∃ I', (qRS F I' s (aBur S h) ∧ ∀ a, (a < s ∨ s + 16 ≤ a) → I' a = I a) ∧ ∀ Q : qR → Prop, Q (.inl (none, qw g I')) → qwq d 66 2 [(0, .ref s), (1, .int (qj h)), (2, .int (qj i))] [] (qw g J) Q := by
    refine upto _ (fun J R1 h1 => ?_) (fun i hi ih J R1 h1 => ?_)
    · refine ⟨qup J s 1 (qj (bm 9 (fun k => if k = h then true else (aBuN S h 8).2.2 k) : Nat)), ⟨qRS_u2 R1 rfl, fun a ha => ?_⟩, fun Q hQ => b66_2 hs (by omega) ?_⟩
      · rw [qup_ne (by omega)]; exact h1 a ha
      · obtain ⟨s1, s2, -⟩ := R1
        simp (disch := omega) only [qj_le, s2, bm_set]
        exact ⟨fun _ => hQ, fun c => by omega⟩
    · have R1' := R1
      obtain ⟨s1, s2, s3, s4, s5, s6, s7, s8⟩ := R1
      cases hw : (aBuN S h i).2.1 h i with
      | false =>
        have e : aBuN S h (i + 1) = aBuN S h i := by rw [aBuN, hw]; rfl
        obtain ⟨I', k1, k2⟩ := ih J (by rw [e]; exact R1') h1
        refine ⟨I', k1, fun Q hQ => b66_2 hs (by omega) ?_⟩
        simp (disch := omega) only [qj_le, qIx_z, qj_nat, s4, qhas_bm, hw, qj_add, qj_s1, true_and]
        exact ⟨fun c => by omega, fun _ => ⟨fun _ => k2 Q hQ, fun c => Bool.noConfusion c⟩⟩
      | true =>
        have e : aBuN S h (i + 1) = aCea (aBuN S h i) h i := by rw [aBuN, hw]; rfl
        obtain ⟨J2, r1, r2, r3⟩ := c65 (d := d - 1) (g := g) (by omega) hs R1' hh hi
        obtain ⟨I', k1, k2⟩ := ih J2 (by rw [e]; exact r2) (fun a ha => (r3 a ha).trans (h1 a ha))
        refine ⟨I', k1, fun Q hQ => b66_2 hs (by omega) ?_⟩
        simp (disch := omega) only [qj_le, qIx_z, qj_nat, s4, qhas_bm, hw, qj_add, qj_s1, true_and]
        exact ⟨fun c => by omega, fun _ => ⟨fun c => Bool.noConfusion c, fun _ => ⟨_, r1, k2 Q hQ⟩⟩⟩
  obtain ⟨I', k1, k2⟩ := key 0 (Nat.zero_le _) I R (fun _ _ => rfl)
  exact ⟨I', qRun_of (fun Q hQ => b66_0 hs (by omega) (k2 Q hQ)), k1⟩
theorem c69 (hd : 2 ≤ d) (hs : qisS s) (R : qRS F I s S) (WS : qWS F S) {p c : Nat} (hp : p < 8) (hc : c ≤ 9) :
    ∃ I', qRun d 69 [.ref s, .int (qj p), .int (qj ((c : Int) - 1))] (qw g I) (.inl (none, qw g I')) ∧ qRS F I' s (aSel S p c) ∧ ∀ a, (a < s ∨ s + 16 ≤ a) → I' a = I a := by
  cases c with
  | zero =>
    refine ⟨I, qRun_of fun Q hQ => b69_0 hs (by omega) ?_, R, fun _ _ => rfl⟩
    simp (disch := omega) only [qz0, qj_lt]
    exact ⟨fun _ => hQ, fun c => by omega⟩
  | succ h =>
    have z : ((h + 1 : Nat) : Int) - 1 = h := by omega
    rw [z]
    obtain ⟨J, r1, r2, r3⟩ := c64 (d := d - 1) (g := g) (by omega) hs R (h := h) (by omega) hp
    have s5 := r2.2.2.2.2.1 h (by omega)
    have e5 : (aBeg S h p).1 2 h = S.1 2 h := by show qup S.1 (5 + h) p _ 2 h = _; rw [qup_ne (by omega)]
    have v2 := WS.2.1 h
    rw [e5] at s5
    by_cases hz : S.1 2 h = 0
    · refine ⟨qup J (s + 3) h (qj p), qRun_of fun Q hQ => b69_0 hs (by omega) ?_, ?_, fun a ha => ?_⟩
      · simp (disch := omega) only [qz0, qj_lt]
        refine ⟨fun c => by omega, fun _ => ⟨fun _ => ⟨_, r1, qIx_z (by omega) (by omega) (by omega), ?_⟩, fun c => by omega⟩⟩
        simp (disch := omega) only [qj_nat, s5, qj_eq]
        exact ⟨fun c => by omega, fun _ => hQ⟩
      · have e : aSel S p (h + 1) = (qup (aBeg S h p).1 2 h (p + 1), (aBeg S h p).2) := by show aCho S p h = _; unfold aCho; rw [if_pos hz]
        rw [e]
        exact qRS_u5 r2 (by congr 1; omega)
      · rw [qup_ne (by omega)]; exact r3 a ha
    · refine ⟨J, qRun_of fun Q hQ => b69_0 hs (by omega) ?_, ?_, r3⟩
      · simp (disch := omega) only [qz0, qj_lt]
        refine ⟨fun c => by omega, fun _ => ⟨fun _ => ⟨_, r1, qIx_z (by omega) (by omega) (by omega), ?_⟩, fun c => by omega⟩⟩
        simp (disch := omega) only [qj_nat, s5, qj_eq]
        exact ⟨fun _ => hQ, fun c => by omega⟩
      · have e : aSel S p (h + 1) = aBeg S h p := by show aCho S p h = _; unfold aCho; rw [if_neg hz]
        rw [e]; exact r2
theorem c68 (hd : 5 ≤ d) (hs : qisS s) (hf : qisF f) (hl : qisL l) (RF : qRF F I f) (W : qWF F) (R : qRS F I s S) (WS : qWS F S) (hy : S.1 0 0 ≤ 1000) (RL : qRL L I l) (WL : qWL L) {D : Nat → Bool} {m : Int32} (hm : ∀ h : Nat, h < F.1 0 0 → qhas m (qj h) = D h) :
    ∃ I', qRun d 68 [.ref s, .ref f, .ref l, .int m] (qw g I) (.inl (none, qw g I')) ∧ qRS F I' s (aLiv F L D S) ∧ qFr s l I I' := by
  have h9 := W.1
  have h8 := W.2.1
  have hF : ∀ J, qFr s l I J → qRF F J f := fun J h => qFr_F h hs hl hf RF
  have hL : ∀ J, qFr s l I J → qRL L J l := fun J h => qFr_L h hs hl RL
  have toFr : ∀ {J K : Nat → Nat → Int32}, (∀ a, (a < s ∨ s + 16 ≤ a) → K a = J a) → qFr s l J K := fun h a h1 _ => h a h1
  have toFr2 : ∀ {J K : Nat → Nat → Int32}, (∀ a, ¬ a = l + 2 → K a = J a) → qFr s l J K := fun h a _ h1 => h a h1
  have hS1 := qOK_dth (D := D) WS _ (Nat.le_refl (F.1 0 0))
  have hS2 := qOK_all (L := L) hS1.1 W _ (Nat.le_refl (F.1 0 1))
  -- the last loop: strings
  have K3 : ∀ i, i ≤ F.1 0 1 → ∀ J, qRS F J s (aWr F i (aAll F L (F.1 0 1) (aDth F D (F.1 0 0) S))) → qFr s l I J →
      ∃ I', (qRS F I' s (aLiv F L D S) ∧ qFr s l I I') ∧ ∀ Q : qR → Prop, Q (.inl (none, qw g I')) → qwq d 68 117 [(0, .ref s), (1, .ref f), (4, .int (qj i))] [] (qw g J) Q := by
    refine upto _ (fun J R1 h1 => ?_) (fun i hi ih J R1 h1 => ?_)
    · refine ⟨J, ⟨R1, h1⟩, fun Q hQ => b68_117 hf hs (by omega) ?_⟩
      have e := (hF J h1).2.1
      simp (disch := omega) only [e, qj_le]
      exact ⟨fun _ => hQ, fun c => by omega⟩
    · have e := (hF J h1).2.1
      have e4 := (hF J h1).2.2.2.1
      have hT := qOK_wr hS2.1 i
      have w4 := W.2.2.2.1
      have s7 := R1.2.2.2.2.2.2.1 i hi
      have hw := W.2.2.2.2.2.1 i hi
      have ih2 : ∀ J, qRS F J s (aWr1 F i (aWr F i (aAll F L (F.1 0 1) (aDth F D (F.1 0 0) S)))) → qFr s l I J → ∃ I', (qRS F I' s (aLiv F L D S) ∧ qFr s l I I') ∧ ∀ Q : qR → Prop, Q (.inl (none, qw g I')) → qwq d 68 117 [(0, .ref s), (1, .ref f), (4, .int (qj (i + 1 : Nat)))] [] (qw g J) Q := ih
      have c59' := c59 (d := d - 1) (g := g) (by omega) hs (hf := hf) (hF J h1) W R1 hi
      generalize aWr F i (aAll F L (F.1 0 1) (aDth F D (F.1 0 0) S)) = T at R1 hT ih2 s7 c59'
      have v3 := hT.1.2.2.1 i hi
      have hl2 : aLk F T i ≤ 2 := by unfold aLk; omega
      by_cases hk : aLk F T i = 0
      · have e2 : aWr1 F i T = (qup T.1 3 i (T.1 3 i - F.1 0 3), T.2) := by unfold aWr1; rw [if_pos hk]
        rw [e2] at ih2
        obtain ⟨I', k1, k2⟩ := ih2 (qup J (s + 14) i (qj (max 0 ((T.1 3 i : Int) - F.1 0 3)))) (qRS_u7 R1 (by congr 1; omega)) (qFr_tr h1 (toFr (fun a ha => qup_ne (by omega))))
        refine ⟨I', k1, fun Q hQ => b68_117 hf hs (by omega) ?_⟩
        simp (disch := omega) only [e, qj_le]
        refine ⟨fun c => by omega, fun _ => ⟨_, _, c59', ?_⟩⟩
        rw [hk]
        simp (disch := omega) only [qz0, qIx_z, qj_nat, s7, e4, qj_sub, qmax_z, qj_add, qj_s1]
        exact ⟨fun c => absurd rfl c, fun _ => ⟨trivial, k2 Q hQ⟩⟩
      · have e2 : aWr1 F i T = T := by unfold aWr1; rw [if_neg hk]
        rw [e2] at ih2
        obtain ⟨I', k1, k2⟩ := ih2 J R1 h1
        refine ⟨I', k1, fun Q hQ => b68_117 hf hs (by omega) ?_⟩
        simp (disch := omega) only [e, qj_le]
        refine ⟨fun c => by omega, fun _ => ⟨_, _, c59', ?_⟩⟩
        simp (disch := omega) only [qz0, qj_eq, qj_add, qj_s1]
        exact ⟨fun _ => k2 Q hQ, fun c => by omega⟩
  -- puppets choose
  have K2 : ∀ i, i ≤ F.1 0 1 → ∀ J, qRS F J s (aAll F L i (aDth F D (F.1 0 0) S)) → qFr s l I J →
      ∃ I', (qRS F I' s (aLiv F L D S) ∧ qFr s l I I') ∧ ∀ Q : qR → Prop, Q (.inl (none, qw g I')) → qwq d 68 60 [(0, .ref s), (1, .ref f), (2, .ref l), (4, .int (qj i))] [] (qw g J) Q := by
    refine upto _ (fun J R1 h1 => ?_) (fun i hi ih J R1 h1 => ?_)
    · obtain ⟨I', k1, k2⟩ := K3 0 (Nat.zero_le _) J R1 h1
      refine ⟨I', k1, fun Q hQ => b68_60 hf hl hs (by omega) ?_⟩
      have e := (hF J h1).2.1
      simp (disch := omega) only [e, qj_le]
      exact ⟨fun _ => k2 Q hQ, fun c => by omega⟩
    · have hT := qOK_all (L := L) hS1.1 W i (by omega)
      have ih2 : ∀ J, qRS F J s (aFil F L i (aAll F L i (aDth F D (F.1 0 0) S))) → qFr s l I J → ∃ I', (qRS F I' s (aLiv F L D S) ∧ qFr s l I I') ∧ ∀ Q : qR → Prop, Q (.inl (none, qw g I')) → qwq d 68 60 [(0, .ref s), (1, .ref f), (2, .ref l), (4, .int (qj (i + 1 : Nat)))] [] (qw g J) Q := ih
      have c59' := c59 (d := d - 1) (g := g) (by omega) hs (hf := hf) (hF J h1) W R1 hi
      have hyT : (aAll F L i (aDth F D (F.1 0 0) S)).1 0 0 ≤ 1000 := by rw [hT.2.1, hS1.2.1]; exact hy
      generalize aAll F L i (aDth F D (F.1 0 0) S) = T at R1 hT ih2 c59' hyT
      have hw := W.2.2.2.2.2.1 i hi
      have hl2 : aLk F T i ≤ 2 := by unfold aLk; omega
      have K : ∀ j, j ≤ aLk F T i → ∀ J, qRS F J s (itr (aStp F L i) j T) → qFr s l I J →
          ∃ I', (qRS F I' s (aLiv F L D S) ∧ qFr s l I I') ∧ ∀ Q : qR → Prop, Q (.inl (none, qw g I')) → qwq d 68 81 [(0, .ref s), (1, .ref f), (2, .ref l), (4, .int (qj i)), (5, .int (qj (aLk F T i))), (6, .int (qj j))] [] (qw g J) Q := by
        refine upto _ (fun J R1 h1 => ?_) (fun j hj ihj J R1 h1 => ?_)
        · obtain ⟨I', k1, k2⟩ := ih2 J R1 h1
          refine ⟨I', k1, fun Q hQ => b68_81 hf hl hs (by omega) ?_⟩
          simp (disch := omega) only [qj_le, qj_add, qj_s1]
          exact ⟨fun _ => k2 Q hQ, fun c => by omega⟩
        · have hU := qOK_itr (L := L) hT.1 W hi j
          have hyU : (itr (aStp F L i) j T).1 0 0 ≤ 1000 := by rw [hU.2.1]; exact hyT
          have ihj2 : ∀ J, qRS F J s (aStp F L i (itr (aStp F L i) j T)) → qFr s l I J → ∃ I', (qRS F I' s (aLiv F L D S) ∧ qFr s l I I') ∧ ∀ Q : qR → Prop, Q (.inl (none, qw g I')) → qwq d 68 81 [(0, .ref s), (1, .ref f), (2, .ref l), (4, .int (qj i)), (5, .int (qj (aLk F T i))), (6, .int (qj (j + 1 : Nat)))] [] (qw g J) Q := ihj
          generalize itr (aStp F L i) j T = U at R1 hU hyU ihj2
          obtain ⟨J2, r1, r2⟩ := c47 (d := d - 1) (g := g) (by omega) hs hf hl (hF J h1) W R1 hU.1 hyU (hL J h1) WL hi
          have hns : ∀ a, s ≤ a → a < s + 16 → ¬ a = l + 2 := fun a h1 h2 => by unfold qisS at hs; unfold qisL at hl; omega
          have R2 : qRS F J2 s U := qRS_cg R1 (fun a h1 h2 => r2 a (hns a h1 h2))
          have hc := aCh_le F L U i
          obtain ⟨J3, r3, r4, r5⟩ := c69 (d := d - 1) (g := g) (by omega) hs R2 hU.1 (p := i) (c := aCh F L U i) (by omega) (by omega)
          obtain ⟨I', k1, k2⟩ := ihj2 J3 r4 (qFr_tr h1 (qFr_tr (toFr2 r2) (toFr r5)))
          refine ⟨I', k1, fun Q hQ => b68_81 hf hl hs (by omega) ?_⟩
          simp (disch := omega) only [qj_le, qj_add, qj_s1]
          exact ⟨fun c => by omega, fun _ => ⟨_, _, r1, _, r3, k2 Q hQ⟩⟩
      obtain ⟨I', k1, k2⟩ := K 0 (Nat.zero_le _) J R1 h1
      refine ⟨I', k1, fun Q hQ => b68_60 hf hl hs (by omega) ?_⟩
      have e := (hF J h1).2.1
      simp (disch := omega) only [e, qj_le]
      exact ⟨fun c => by omega, fun _ => ⟨_, _, c59', k2 Q hQ⟩⟩
  -- hands die
  have K1 : ∀ i, i ≤ F.1 0 0 → ∀ J, qRS F J s (aDth F D i S) → qFr s l I J →
      ∃ I', (qRS F I' s (aLiv F L D S) ∧ qFr s l I I') ∧ ∀ Q : qR → Prop, Q (.inl (none, qw g I')) → qwq d 68 3 [(0, .ref s), (1, .ref f), (2, .ref l), (3, .int m), (4, .int (qj i))] [] (qw g J) Q := by
    refine upto _ (fun J R1 h1 => ?_) (fun i hi ih J R1 h1 => ?_)
    · obtain ⟨I', k1, k2⟩ := K2 0 (Nat.zero_le _) J R1 h1
      refine ⟨I', k1, fun Q hQ => b68_3 hf hl hs (by omega) ?_⟩
      have e := (hF J h1).1
      simp (disch := omega) only [e, qj_le]
      exact ⟨fun _ => k2 Q hQ, fun c => by omega⟩
    · have hT := qOK_dth (D := D) WS i (by omega)
      have ih2 : ∀ J, qRS F J s (aDt1 F D i (aDth F D i S)) → qFr s l I J → ∃ I', (qRS F I' s (aLiv F L D S) ∧ qFr s l I I') ∧ ∀ Q : qR → Prop, Q (.inl (none, qw g I')) → qwq d 68 3 [(0, .ref s), (1, .ref f), (2, .ref l), (3, .int m), (4, .int (qj (i + 1 : Nat)))] [] (qw g J) Q := ih
      have hyT : (aDth F D i S).1 0 0 ≤ 1000 := by rw [hT.2.1]; exact hy
      generalize aDth F D i S = T at R1 hT ih2 hyT
      have e := (hF J h1).1
      have f7 := (hF J h1).2.2.2.2.2.2.1 i hi
      have hw := W.2.2.2.2.1 i hi
      have s1 := R1.1
      have c54' := c54 (d := d - 1) (g := g) (by omega) hs hf (hF J h1) W R1 hyT hi
      obtain ⟨J2, r1, r2, r3⟩ := c66 (d := d - 1) (g := g) (by omega) hs R1 (h := i) (by omega)
      have hmi := hm i hi
      by_cases hk : aAl F T i = true ∧ (F.1 3 i = T.1 0 0 ∨ D i = true)
      · have e2 : aDt1 F D i T = aBur T i := by unfold aDt1; rw [if_pos hk]
        rw [e2] at ih2
        obtain ⟨I', k1, k2⟩ := ih2 J2 r2 (qFr_tr h1 (toFr r3))
        refine ⟨I', k1, fun Q hQ => b68_3 hf hl hs (by omega) ?_⟩
        simp (disch := omega) only [e, qj_le]
        refine ⟨fun c => by omega, fun _ => ⟨_, _, c54', ?_⟩⟩
        rw [hk.1]
        simp (disch := omega) only [f7, s1, qj_nat, qIx_z, qj_eq, hmi, qj_add, qj_s1]
        refine ⟨fun c => Bool.noConfusion c, fun _ => ⟨trivial, fun _ => ⟨_, r1, k2 Q hQ⟩, fun c => ⟨fun c2 => ?_, fun _ => ⟨_, r1, k2 Q hQ⟩⟩⟩⟩
        rcases hk.2 with h | h
        · omega
        · rw [h] at c2; cases c2
      · have e2 : aDt1 F D i T = T := by unfold aDt1; rw [if_neg hk]
        rw [e2] at ih2
        obtain ⟨I', k1, k2⟩ := ih2 J R1 h1
        refine ⟨I', k1, fun Q hQ => b68_3 hf hl hs (by omega) ?_⟩
        simp (disch := omega) only [e, qj_le]
        refine ⟨fun c => by omega, fun _ => ⟨_, _, c54', ?_⟩⟩
        simp (disch := omega) only [f7, s1, qj_nat, qIx_z, qj_eq, hmi, qj_add, qj_s1]
        refine ⟨fun _ => k2 Q hQ, fun ha => ⟨trivial, fun c => absurd ⟨ha, Or.inl (by omega)⟩ hk, fun _ => ⟨fun _ => k2 Q hQ, fun c => absurd ⟨ha, Or.inr c⟩ hk⟩⟩⟩
  obtain ⟨I', ⟨k1, k2⟩, k3⟩ := K1 0 (Nat.zero_le _) I R qFr_rf
  exact ⟨I', qRun_of (fun Q hQ => b68_0 hf hl hs (by omega) (k3 Q hQ)), k1, k2⟩
theorem c67 (hd : 6 ≤ d) (hs : qisS s) (hf : qisF f) (hl : qisL l) (RF : qRF F I f) (W : qWF F) (R : qRS F I s S) (WS : qWS F S) (hy : S.1 0 0 < 1000) (RL : qRL L I l) (WL : qWL L) :
    ∃ I', qRun d 67 [.ref s, .ref f, .ref l] (qw g I) (.inl (none, qw g I')) ∧ qRS F I' s (aYear F L S) ∧ qFr s l I I' := by
  have R1 : qRS F (qup I s 0 (qj ((S.1 0 0 + 1 : Nat) : Int))) s (aYr S) := qRS_u1 R rfl
  have h1 : qFr s l I (qup I s 0 (qj ((S.1 0 0 + 1 : Nat) : Int))) := fun a ha _ => qup_ne (by omega)
  obtain ⟨I', k1, k2, k3⟩ := c68 (d := d - 1) (g := g) (D := fun _ => false) (m := qj 0) (by omega) hs hf hl (qFr_F h1 hs hl hf RF) W R1 (qWS_yr WS) (by show S.1 0 0 + 1 ≤ 1000; omega) (qFr_L h1 hs hl RL) WL (fun h hh => by
    have h9 := W.1
    have := qhas_n 0 (k := h) (by omega)
    rw [Nat.zero_testBit] at this; exact this)
  refine ⟨I', qRun_of fun Q hQ => b67_0 hf hl hs (by omega) ?_, k2, qFr_tr h1 k3⟩
  rw [R.1, qj_add]
  exact ⟨_, k1, hQ⟩
end LIVE
