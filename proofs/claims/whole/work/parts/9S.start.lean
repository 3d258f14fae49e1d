/-! ===== the start: the first memory, both objects made ===== -/
theorem bfb {a c x y m : Nat} (h1 : a < c → x < m) (h2 : c ≤ a → y < m) : (bif Nat.blt a c then x else y) < m := by
  cases h : Nat.blt a c with
  | true => exact h1 (Nat.le_of_ble_eq_true h)
  | false =>
    refine h2 ?_
    have : ¬ a < c := fun q => by
      have : Nat.blt a c = true := Nat.ble_eq_true_of_le q
      rw [this] at h; exact Bool.noConfusion h
    omega
theorem bfe {a c x y m : Nat} (h1 : x < m) (h2 : y < m) : (bif Nat.beq a c then x else y) < m := by
  cases Nat.beq a c with
  | true => exact h1
  | false => exact h2
theorem bfz2 {α : Type} {c : Bool} {x y z : α} (hc : c = false) (hy : y = z) : (bif c then x else y) = z := by rw [hc]; exact hy
theorem q2_lt {n o j m : Nat} (h : o + n < m) : q2 n o j < m := by
  rw [q2_if]; split <;> omega
theorem qW0_lt {r6 k : Nat} (h : ¬ k = 1000) : qW0 r6 k < 245 := by
  unfold qW0
  repeat (first | omega | split)
set_option maxHeartbeats 2000000 in
theorem qPf_b1 {r6 L a j : Nat} (ha : a < 245) (hs : ¬ (qSH L a).1 = 0) : qPf (qW0 r6) a j < 245 := by
  have h6 : ¬ a = 6 := fun e => by subst e; exact hs rfl
  unfold qPf
  repeat' first | omega | refine bfb (fun _ => ?_) (fun _ => ?_) | refine bfe ?_ ?_ | exact q2_lt (by omega) | exact qW0_lt (by decide)
set_option maxHeartbeats 2000000 in
theorem qPf_b2 {r6 L a j : Nat} (ha : a < 694) (hs : ¬ (qSH L a).1 = 0) : qPf (qW0 r6) a j < 694 := by
  have h6 : ¬ a = 6 := fun e => by subst e; exact hs rfl
  unfold qPf
  repeat' first | omega | refine bfb (fun _ => ?_) (fun _ => ?_) | refine bfe ?_ ?_ | exact q2_lt (by omega) | exact Nat.lt_trans (qW0_lt (by decide)) (by omega)
theorem qPf_hi {W : Nat → Nat} {a j : Nat} (ha : 695 ≤ a) : qPf W a j = 0 := by
  unfold qPf
  repeat (first | rfl | refine bfz2 (bltF (by omega)) ?_)
theorem qSH_hi {L a : Nat} (ha : 695 ≤ a) : qSH L a = (0, 0) := by
  unfold qSH
  repeat (first | rfl | refine bfz2 (bltF (by omega)) ?_)
section START
variable {L r6 : Nat} {xs : Nat → Int32}
theorem m0_eq : qM0 L xs r6 = mc 64 0 0 L (qI (qM0 L xs r6)) (qP (qM0 L xs r6)) := by
  have e : qsh (qM0 L xs r6) = qShm L 64 := by
    funext a
    unfold qShm
    by_cases h : a < 64
    · rw [if_pos h]
      exact q2c (n := 64) (fun a => qsh (qM0 L xs r6) a = qSH L a) ⟨rfl, rfl, rfl, rfl, rfl, rfl, rfl, rfl, rfl, rfl, rfl, rfl, rfl, rfl, rfl, rfl, rfl, rfl, rfl, rfl, rfl, rfl, rfl, rfl, rfl, rfl, rfl, rfl, rfl, rfl, rfl, rfl, rfl, rfl, rfl, rfl, rfl, rfl, rfl, rfl, rfl, rfl, rfl, rfl, rfl, rfl, rfl, rfl, rfl, rfl, rfl, rfl, rfl, rfl, rfl, rfl, rfl, rfl, rfl, rfl, rfl, rfl, rfl, rfl, trivial⟩ a h
    · rw [if_neg h]
      show (if a = 1 then (11, L) else if a = 2 ∨ a = 3 ∨ a = 4 then (11, (qar a).length) else if 10 ≤ a ∧ a < 30 then (29, 2) else if 30 ≤ a ∧ a < 50 then (12, (qsb (a - 30)).length) else (0, 0)) = _
      rw [if_neg (by omega), if_neg (by omega), if_neg (by omega), if_neg (by omega)]
  show ((64, true, 0, 0), qsh (qM0 L xs r6), _, _, _) = ((64, true, 0, 0), qShm L 64, _, _, _)
  rw [e]; rfl
theorem m0_P (a b : Nat) : qP (qM0 L xs r6) a b = if a = 6 ∧ b = 0 then r6 else if 10 ≤ a ∧ a < 30 ∧ b = 0 then a + 20 else 0 := rfl
theorem m0_I (a j : Nat) : qI (qM0 L xs r6) a j = if a = 1 then xs j else if a = 2 ∨ a = 3 ∨ a = 4 then (qar a).getD j 0 else if 30 ≤ a ∧ a < 50 then (qsb (a - 30)).getD j 0 else 0 := rfl
theorem beq_if {b : Nat} {x y : Nat} : (bif Nat.beq b 0 then x else y) = if b = 0 then x else y := by
  cases b with
  | zero => rfl
  | succ b => rfl
theorem m0_f (a b : Nat) (ha : a < 64) : qPf (qW0 r6) a b = if a = 6 then (if b = 0 then r6 else 0) else if 10 ≤ a ∧ a < 30 then (if b = 0 then a + 20 else 0) else 0 := by
  by_cases h6 : a = 6
  · subst h6
    rw [if_pos rfl]
    exact beq_if
  · rw [if_neg h6]
    by_cases h1 : 10 ≤ a ∧ a < 30
    · rw [if_pos h1, ← beq_if]
      have : ∀ i, i < 20 → qPf (qW0 r6) (10 + i) b = bif Nat.beq b 0 then 10 + i + 20 else 0 := fun i hi => q2c (n := 20) (fun i => qPf (qW0 r6) (10 + i) b = bif Nat.beq b 0 then 10 + i + 20 else 0) ⟨rfl, rfl, rfl, rfl, rfl, rfl, rfl, rfl, rfl, rfl, rfl, rfl, rfl, rfl, rfl, rfl, rfl, rfl, rfl, rfl, trivial⟩ i hi
      have h2 := this (a - 10) (by omega)
      rw [show 10 + (a - 10) = a by omega] at h2
      exact h2
    · rw [if_neg h1]
      have h2 : a < 6 ∨ (7 ≤ a ∧ a < 10) ∨ (30 ≤ a ∧ a < 64) := by omega
      rcases h2 with h2 | h2 | h2
      · exact q2c (n := 6) (fun i => qPf (qW0 r6) i b = 0) ⟨rfl, rfl, rfl, rfl, rfl, rfl, trivial⟩ a h2
      · have := q2c (n := 3) (fun i => qPf (qW0 r6) (7 + i) b = 0) ⟨rfl, rfl, rfl, trivial⟩ (a - 7) (by omega)
        rw [show 7 + (a - 7) = a by omega] at this
        exact this
      · have := q2c (n := 34) (fun i => qPf (qW0 r6) (30 + i) b = 0) ⟨rfl, rfl, rfl, rfl, rfl, rfl, rfl, rfl, rfl, rfl, rfl, rfl, rfl, rfl, rfl, rfl, rfl, rfl, rfl, rfl, rfl, rfl, rfl, rfl, rfl, rfl, rfl, rfl, rfl, rfl, rfl, rfl, rfl, rfl, trivial⟩ (a - 30) (by omega)
        rw [show 30 + (a - 30) = a by omega] at this
        exact this
theorem m0_z (a : Nat) (ha : 64 ≤ a) : qI (qM0 L xs r6) a = fun _ => 0 := by
  funext j
  rw [m0_I, if_neg (by omega), if_neg (by omega), if_neg (by omega)]
theorem m0_pk : qMc (qW0 r6) 64 [] (qI (qM0 L xs r6)) (qP (qM0 L xs r6)) := by
  refine ⟨⟨fun a b ha _ => ?_, fun a b h => ?_⟩, m0_z⟩
  · rw [m0_P, m0_f a b ha]
    by_cases h6 : a = 6
    · rw [if_pos h6]
      by_cases hb : b = 0
      · rw [if_pos ⟨h6, hb⟩, if_pos hb]
      · rw [if_neg (by omega), if_neg (by omega), if_neg hb]
    · rw [if_neg (by omega), if_neg h6]
      by_cases h1 : 10 ≤ a ∧ a < 30
      · rw [if_pos h1]
        by_cases hb : b = 0
        · rw [if_pos (by omega), if_pos hb]
        · rw [if_neg (by omega), if_neg hb]
      · rw [if_neg (by omega), if_neg h1]
  · have ha : 64 ≤ a := by
      rcases h with h | h
      · exact h
      · exact absurd h opn_n
    rw [m0_P, if_neg (by omega), if_neg (by omega)]
theorem m0_con : qCon (qI (qM0 L xs r6)) := by
  refine ⟨fun k j hk hj => ?_, fun j hj => ?_, fun n j hn hj => ?_, fun n hn => ?_⟩
  · rcases hk with rfl | rfl
    · have h : ∀ j, j < (cSt 1).length → (qar 3).getD j 0 = qj ((cSt 1).getD j 0 : Nat) := by decide +kernel
      exact h j hj
    · have h : ∀ j, j < (cSt 2).length → (qar 4).getD j 0 = qj ((cSt 2).getD j 0 : Nat) := by decide +kernel
      exact h j hj
  · have h : ∀ j, j < 9 → (qar 2).getD j 0 = qj (qL0.2 j : Int) := by decide +kernel
    exact h j hj
  · rw [m0_I, if_neg (by omega), if_neg (by omega), if_pos (by omega), show 30 + n - 30 = n by omega]
  · rw [m0_I, if_neg (by omega), if_neg (by omega), if_neg (by omega)]; rfl
/-- what the class' constructor leaves -/
def cJ (I J : Nat → Nat → Int32) : Prop := qRF fam0 J 67 ∧ qRL qL0 J 125 ∧ J 131 0 = qj 0 ∧ qRS fam0 J 139 (aTold fam0) ∧ qRS fam0 J 155 (aTold fam0) ∧ (J 64 9 = qj 0 ∧ J 64 12 = qj 0 ∧ J 64 16 = qj 0 ∧ J 64 17 = qj 0 ∧ J 65 1 = qj 0 ∧ J 65 5 = qj (-1)) ∧ ∀ a, a < 64 → J a = I a
variable {d : Nat} {Q : qR → Prop} {I : Nat → Nat → Int32} {P : Nat → Nat → Nat}
theorem qRF_0 {I1 : Nat → Nat → Int32} (z : ∀ a, 67 ≤ a → a < 96 → ∀ j, I1 a j = if a = 67 ∧ j = 16 then qj 1 else qj 0) : qRF fam0 I1 67 := by
  have b0 : ∀ (n : Nat) (f : Nat → Bool), (∀ k, f k = false) → qj ((bm n f : Nat) : Int) = qj 0 := fun n f h => by
    rw [show bm n f = 0 from bm_zero.mpr (fun k _ => h k)]; rfl
  refine ⟨?_, ?_, ?_, ?_, fun h hh => absurd hh (Nat.not_lt_zero h), fun h hh => absurd hh (Nat.not_lt_zero h), fun h hh => absurd hh (Nat.not_lt_zero h), fun h hh => ?_, fun h hh => ?_, fun h hh => ?_, fun h g hh hg => ?_, fun h hh => absurd hh (Nat.not_lt_zero h), fun h hh => absurd hh (Nat.not_lt_zero h), fun h hh => absurd hh (Nat.not_lt_zero h), fun h hh => absurd hh (Nat.not_lt_zero h), fun a ha => ?_, fun a i ha hi => absurd hi (Nat.not_lt_zero i)⟩
  · rw [z 67 (by omega) (by omega), if_neg (by omega)]; rfl
  · rw [z 67 (by omega) (by omega), if_neg (by omega)]; rfl
  · rw [z 67 (by omega) (by omega), if_neg (by omega)]; rfl
  · rw [z 67 (by omega) (by omega), if_pos ⟨rfl, rfl⟩]; rfl
  · rw [z _ (by omega) (by omega), if_neg (by omega), b0 8 (fam0.2 0 h) (fun k => rfl)]
  · rw [z _ (by omega) (by omega), if_neg (by omega), b0 8 (fam0.2 1 h) (fun k => rfl)]
  · rw [z _ (by omega) (by omega), if_neg (by omega), b0 9 (fam0.2 2 h) (fun k => rfl)]
  · rw [z _ (by omega) (by omega), if_neg (by omega)]
    show qj 0 = qj (((if 20 + h = 0 then (if g = 3 then 1 else 0) else 0 : Nat)) : Int)
    rw [if_neg (by omega)]; rfl
  · rw [z _ (by omega) (by omega), if_neg (by omega)]
    show qj 0 = qj (((if 8 = 0 then (if a = 3 then 1 else 0) else 0 : Nat)) : Int)
    rw [if_neg (by omega)]; rfl
theorem c84 (hd : 60 ≤ d) (H : qMc (qW0 r6) 65 [(64, 0)] I P) (hz : ∀ a, 64 ≤ a → I a = fun _ => 0) (Cn : qCon I)
    (h : ∀ P2 J, qMc (qW0 r6) 245 [] (qIm 245 J) P2 → cJ I J → Q (.inl (none, mc 245 181 3665 L (qIm 245 J) P2))) : qwp d 84 [.ref 64] (mc 65 1 18 L I P) Q := by
  refine n84_64 (by omega) H (fun P2 H2 => ?_)
  generalize hI1 : qup (qup (qup I 65 5 (qj (-1))) 67 16 (qj 1)) 96 16 (qj 1) = I1 at H2 ⊢
  have lo : ∀ a, ¬ a = 65 → ¬ a = 67 → ¬ a = 96 → I1 a = I a := fun a p q r => by rw [← hI1, qup_ne r, qup_ne q, qup_ne p]
  have z67 : ∀ a, 67 ≤ a → a < 96 → ∀ j, I1 a j = if a = 67 ∧ j = 16 then qj 1 else qj 0 := fun a h1 h2 j => by
    by_cases e : a = 67
    · subst e
      rw [← hI1, qup_ne (by omega), qup_at]
      by_cases c : j = 16
      · rw [if_pos c, if_pos ⟨rfl, c⟩]
      · rw [if_neg c, if_neg (by omega), qup_ne (by omega), hz 67 (by omega)]; rfl
    · rw [lo a (by omega) e (by omega), hz a (by omega), if_neg (by omega)]; rfl
  have z65 : ∀ j, I1 65 j = if j = 5 then qj (-1) else qj 0 := fun j => by
    rw [← hI1, qup_ne (by omega), qup_ne (by omega), qup_at, hz 65 (by omega)]; rfl
  obtain ⟨J, k1, k2, k3, k4, k5, k6, k7, k8, k9⟩ := c146 (d := d - 1) (g := ((245, true, 181, 3665), L, qW0 r6, fun _ _ => 0)) (I := I1) (f := 67) (l := 125) (b := 131) (F := fam0) (by omega) (Or.inl rfl) (Or.inl rfl) (Or.inl rfl) rfl rfl rfl (qRF_0 z67) fam0_ok.1 (qCon_cg Cn (fun a ha => lo a (by omega) (by omega) (by omega)))
  have has : qrs 245 [.ref 64] := fun v hv => by
    rw [List.mem_singleton] at hv
    subst hv
    exact (show (64 : Nat) < 245 by omega)
  have run := mc_run (ce := 181) (us := 3665) (L := L) (g := ((245, true, 181, 3665), L, qW0 r6, fun _ _ => 0)) (m := 245) (I := I1) (P := P2) (J := J) (d := d - 1) (k2 := 146) (as := [.ref 64]) kC_ok (by omega) rfl has (fun a j ha hs => qPf_b1 (L := L) ha hs) H2 rfl k1
  have fin : Q (.inl (none, mc 245 181 3665 L (qIm 245 J) P2)) := by
    refine h P2 J ⟨H2.1, fun a ha => if_neg (by omega)⟩ ⟨?_, k2, k3, k6, k7, ⟨k5, k4, ?_, ?_, ?_, ?_⟩, fun a ha => ?_⟩
    · exact qRF_cg (qRF_0 z67) (fun a p q => k8 a (by omega) (by omega) (by omega) (by omega))
    · rw [k9 16 (by omega) (by omega), lo 64 (by omega) (by omega) (by omega), hz 64 (by omega)]; rfl
    · rw [k9 17 (by omega) (by omega), lo 64 (by omega) (by omega) (by omega), hz 64 (by omega)]; rfl
    · rw [k8 65 (by omega) (by omega) (by omega) (by omega), z65, if_neg (by omega)]
    · rw [k8 65 (by omega) (by omega) (by omega) (by omega), z65, if_pos rfl]
    · rw [k8 a (by omega) (by omega) (by omega) (by omega)]; exact lo a (by omega) (by omega) (by omega)
  have last : qwq d 84 186 [(0, .ref 64)] [] (mc 245 181 3665 L (qIm 245 J) P2) Q := qY_sound qU_ok (fun _ => none) 12 true ⟨rfl, fin⟩
  exact qY_sound qU_ok (fun _ => none) 12 true ⟨by omega, rfl, qRun_to run last⟩
/-- what the reference's constructor leaves -/
def cM0 (I J : Nat → Nat → Int32) : Prop := (qMF fam0 J ∧ qMl fam0 J (aTold fam0) ∧ qMS fam0 J 682 (aTold fam0) ∧ qMS fam0 J 683 (aTold fam0) ∧ qMS fam0 J 684 (aTold fam0)) ∧ (J 245 27 = qj 0 ∧ J 245 41 = qj 0 ∧ J 245 43 = qj 0 ∧ J 245 42 = qj 0) ∧ (J 247 0 = qj 0 ∧ J 247 1 = qj 0 ∧ J 245 1 = qj 0 ∧ J 245 3 = qj (-1) ∧ J 245 45 = qj 0) ∧ ∀ a, a < 245 → J a = I a
theorem c164 (hd : 60 ≤ d) (H : qMc (qW0 r6) 246 [(245, 0)] I P) (hz : ∀ a, 245 ≤ a → I a = fun _ => 0)
    (h : ∀ P2 J, qMc (qW0 r6) 694 [] (qIm 694 J) P2 → cM0 I J → Q (.inl (none, mc 694 630 6970 L (qIm 694 J) P2))) : qwp d 164 [.ref 245] (mc 246 182 3721 L I P) Q := by
  refine n164_245 (by omega) H (fun P2 H2 => ?_)
  generalize hI1 : qup I 245 3 (qj (-1)) = I1 at H2 ⊢
  have lo : ∀ a, ¬ a = 245 → I1 a = I a := fun a p => by rw [← hI1, qup_ne p]
  have z245 : ∀ j, I1 245 j = if j = 3 then qj (-1) else qj 0 := fun j => by
    rw [← hI1, qup_at, hz 245 (by omega)]; rfl
  have has : qrs 694 [.ref 245] := fun v hv => by
    rw [List.mem_singleton] at hv
    subst hv
    exact (show (245 : Nat) < 694 by omega)
  obtain ⟨J1, k1, k2, k3⟩ := m165 (d := d - 1) (g := ((694, true, 630, 6970), L, qW0 r6, fun _ _ => 0)) (I := I1) (by omega)
  have run1 := mc_run (ce := 630) (us := 6970) (L := L) (g := ((694, true, 630, 6970), L, qW0 r6, fun _ _ => 0)) (m := 694) (I := I1) (P := P2) (J := J1) (d := d - 1) (k2 := 165) (as := [.ref 245]) kM_ok (by omega) rfl has (fun a j ha hs => qPf_b2 (L := L) ha hs) H2 rfl k1
  have H3 : qMc (qW0 r6) 694 [] (qIm 694 J1) P2 := ⟨H2.1, fun a ha => if_neg (by omega)⟩
  have i1 : ∀ a, a < 694 → qIm 694 J1 a = J1 a := fun a ha => if_pos ha
  obtain ⟨J2, m1, m2, m3, m4, m5, m6, m7, m8, m9⟩ := m202 (d := d - 1) (g := ((694, true, 630, 6970), L, qW0 r6, fun _ _ => 0)) (I := qIm 694 J1) (F := fam0) (by omega) (qNF_cg k2 fam0_ok.1 (fun a ha => i1 a (by unfold rNa at ha; omega))) fam0_ok.1
  have run2 := mc_run (ce := 630) (us := 6970) (L := L) (g := ((694, true, 630, 6970), L, qW0 r6, fun _ _ => 0)) (m := 694) (I := qIm 694 J1) (P := P2) (J := J2) (d := d - 1) (k2 := 202) (as := [.ref 245]) kM_ok (by omega) rfl has (fun a j ha hs => qPf_b2 (L := L) ha hs) H3 rfl m1
  have e1 : ∀ a, ¬ rNa a → a < 694 → qIm 694 J1 a = I1 a := fun a p q => by rw [i1 a q]; exact k3 a p
  have e245 : ∀ j, ¬ j = 27 → ¬ j = 41 → ¬ j = 42 → ¬ j = 43 → ¬ j = 44 → J2 245 j = if j = 3 then qj (-1) else qj 0 := fun j p q r s t => by
    rw [m9 j p q r s t, e1 245 (by unfold rNa; omega) (by omega), z245]
  have e247 : J2 247 = fun _ => 0 := by
    rw [m8 247 (by omega), e1 247 (by unfold rNa; omega) (by omega), lo 247 (by omega), hz 247 (by omega)]
  have fin : Q (.inl (none, mc 694 630 6970 L (qIm 694 J2) P2)) := by
    refine h P2 J2 ⟨H2.1, fun a ha => if_neg (by omega)⟩ ⟨⟨m2, m3, m4, m5, m6⟩, m7, ⟨?_, ?_, ?_, ?_, ?_⟩, fun a ha => ?_⟩
    · rw [e247]; rfl
    · rw [e247]; rfl
    · rw [e245 1 (by omega) (by omega) (by omega) (by omega) (by omega), if_neg (by omega)]
    · rw [e245 3 (by omega) (by omega) (by omega) (by omega) (by omega), if_pos rfl]
    · rw [e245 45 (by omega) (by omega) (by omega) (by omega) (by omega), if_neg (by omega)]
    · rw [m8 a (Or.inl ha), e1 a (by unfold rNa; omega) (by omega), lo a (by omega)]
  have last : qwq d 164 357 [(0, .ref 245)] [] (mc 694 630 6970 L (qIm 694 J2) P2) Q := qY_sound qU_ok (fun _ => none) 12 true ⟨rfl, fin⟩
  have mid : qwq d 164 353 [(0, .ref 245)] [] (mc 694 630 6970 L (qIm 694 J1) P2) Q := qY_sound qU_ok (fun _ => none) 12 true ⟨by omega, rfl, qRun_to run2 last⟩
  exact qY_sound qU_ok (fun _ => none) 12 true ⟨by omega, rfl, qRun_to run1 mid⟩
/-- the last cell: all stands -/
theorem mc_end (H : qMc (qW0 r6) 695 [] I P) {ce us : Nat} : mc 695 ce us L I P = qw ((695, true, ce, us), L, qW0 r6, fun _ _ => 0) I := by
  have e1 : qShm L 695 = qSH L := by
    funext a
    unfold qShm
    by_cases h : a < 695
    · rw [if_pos h]
    · rw [if_neg h, qSH_hi (by omega)]
  have e2 : P = qPf (qW0 r6) := by
    funext a b
    by_cases h : a < 695
    · exact H.1.1 a b h opn_n
    · rw [H.1.2 a b (Or.inl (by omega)), qPf_hi (by omega)]
  show ((695, true, ce, us), qShm L 695, I, P, fun _ _ => 0) = ((695, true, ce, us), qSH L, I, qPf (qW0 r6), fun _ _ => 0)
  rw [e1, e2]
/-- the object as it is made -/
theorem obj0 {J K : Nat → Nat → Int32} {g : qG1} (hg : g.2.2.1 = qW0 r6) (hJ : cJ I J) (Cn : qCon I) (hK : cM0 (qIm 245 J) K) : qObj g (qIm 694 K) := by
  obtain ⟨j1, j2, j3, j4, j5, ⟨j6, j7, j8, j9, j10, j11⟩, j12⟩ := hJ
  obtain ⟨⟨k1, k2, k3, k4, k5⟩, ⟨k6, k7, k8, k9⟩, ⟨k10, k11, k12, k13, k14⟩, k15⟩ := hK
  have i : ∀ a, a < 694 → qIm 694 K a = K a := fun a ha => if_pos ha
  have lo : ∀ a, a < 245 → qIm 694 K a = J a := fun a ha => by rw [i a (by omega), k15 a ha]; exact if_pos ha
  have W := fam0_ok.1
  have s := qSok_told W
  have wo : qWo g.2.2.1 := by
    rw [hg]
    exact ⟨Or.inl rfl, Or.inr rfl, (by show ¬ 67 = 96; omega), Or.inl rfl, Or.inr rfl, (by show ¬ 125 = 128; omega), Or.inl rfl, Or.inr rfl, (by show ¬ 131 = 135; omega)⟩
  have w1 : g.2.2.1 1 = 67 := by rw [hg]; rfl
  have w3 : g.2.2.1 3 = 125 := by rw [hg]; rfl
  have w5 : g.2.2.1 5 = 131 := by rw [hg]; rfl
  refine ⟨fam0, qL0, (0, fun _ _ => 0), aTold fam0, aTold fam0, fun _ => aTold fam0, fun _ => 0, fun _ => 0, -1, ⟨W, qL0_ok, ⟨Nat.zero_le _, fun k hk => absurd hk (Nat.not_lt_zero k)⟩, s, s, fun k hk => absurd hk (Nat.not_lt_zero k), Nat.zero_le _, Nat.zero_le _, Nat.zero_le _, fun j hj => absurd hj (Nat.not_lt_zero j)⟩, ?_, ?_, rfl⟩
  · refine ⟨wo, ?_, ?_, ⟨?_, fun k hk => absurd hk (Nat.not_lt_zero k)⟩, qRS_cg j4 (fun a p q => lo a (by omega)), qRS_cg j5 (fun a p q => lo a (by omega)), fun k hk => absurd hk (Nat.not_lt_zero k), ?_, ?_, ?_, ?_, ?_, fun j hj => absurd hj (Nat.not_lt_zero j), ?_, qCon_cg Cn (fun a ha => by rw [lo a (by omega)]; exact j12 a ha)⟩
    · rw [w1]; exact qRF_cg j1 (fun a p q => lo a (by omega))
    · rw [w3]; exact qRL_cg j2 (fun a p q => lo a (by omega))
    · rw [w5, lo 131 (by omega)]; exact j3
    · rw [lo 64 (by omega)]; exact j6
    · rw [lo 64 (by omega)]; exact j7
    · rw [lo 64 (by omega)]; exact j8
    · rw [lo 64 (by omega)]; exact j9
    · rw [lo 65 (by omega)]; exact j10
    · rw [lo 65 (by omega)]; exact j11
  · refine ⟨qMF_cg k1 (fun a p q => i a (by omega)) W, qMl_cg k2 (fun a p q => i a (by omega)) W, Or.inl ⟨?_, rfl⟩, ⟨?_, fun k hk => absurd hk (Nat.not_lt_zero k)⟩, qMS_cg k3 (i _ (by omega)), qMS_cg k4 (i _ (by omega)), qMS_cg k5 (i _ (by omega)), fun k hk => absurd hk (Nat.not_lt_zero k), ?_, ?_, ?_, ?_, ?_, fun j hj => absurd hj (Nat.not_lt_zero j), ?_, ?_⟩
    · rw [i 245 (by omega)]; exact k6
    · rw [i 245 (by omega)]; exact k7
    · rw [i 245 (by omega)]; exact k9
    · rw [i 245 (by omega)]; exact k8
    · rw [i 247 (by omega)]; exact k10
    · rw [i 247 (by omega)]; exact k11
    · rw [i 245 (by omega)]; exact k12
    · rw [i 245 (by omega)]; exact k13
    · rw [i 245 (by omega)]; exact k14
end START
