/-! ===== the text of the family, the reference ===== -/
def qNF (F : qFam) (I : Nat → Nat → Int32) : Prop :=
  I 248 0 = qj (F.1 0 0) ∧ I 248 1 = qj (F.1 0 1) ∧ I 248 2 = qj (F.1 0 2) ∧ I 248 3 = qj (F.1 0 3) ∧
  (∀ h, h < F.1 0 0 → I (256 + 1 + h) 0 = qj (F.1 1 h)) ∧ (∀ h, h < F.1 0 0 → I (256 + 1 + h) 1 = qj (F.1 2 h)) ∧ (∀ h, h < F.1 0 0 → I (256 + 1 + h) 2 = qj (F.1 3 h)) ∧
  (∀ p, p < F.1 0 1 → I (276 + 1 + p) 0 = qj (F.1 4 p)) ∧ (∀ p, p < F.1 0 1 → I (276 + 1 + p) 1 = qj (F.1 5 p)) ∧ (∀ p, p < F.1 0 1 → I (276 + 1 + p) 2 = qj (F.1 6 p)) ∧
  (∀ a, a < F.1 0 2 → I (294 + 1 + a) 0 = qj (F.1 7 a)) ∧ (∀ a, a < F.1 0 2 → I (294 + 1 + a) 1 = qj (F.1 8 a)) ∧ (∀ a i, a < F.1 0 2 → i < F.1 8 a → I (294 + 1 + a) (2 + i) = qj (F.1 (10 + a) i)) ∧
  (∀ h g, h < 9 → g < 9 → I (308 + 1 + h) g = qj (F.1 (20 + h) g)) ∧
  (∀ p, p < 8 → I 250 p = qj (bm 9 (fun h => F.2 0 h p) : Nat)) ∧ (∀ p, p < 8 → I 252 p = qj (bm 9 (fun h => F.2 1 h p) : Nat)) ∧ ∀ h, h < 9 → I 254 h = qj (bm 9 (F.2 2 h) : Nat)
def rNa (a : Nat) : Prop := a = 248 ∨ a = 250 ∨ a = 252 ∨ a = 254 ∨ (256 ≤ a ∧ a < 266) ∨ (276 ≤ a ∧ a < 285) ∨ (294 ≤ a ∧ a < 301) ∨ (308 ≤ a ∧ a < 318)
/-- what reading a family may write -/
def rN (I J : Nat → Nat → Int32) : Prop := (∀ a, ¬ a = 245 → ¬ rNa a → J a = I a) ∧ ∀ j, ¬ j = 4 → ¬ j = 5 → ¬ j = 6 → ¬ j = 7 → J 245 j = I 245 j
theorem rN_rf {I : Nat → Nat → Int32} : rN I I := ⟨fun _ _ _ => rfl, fun _ _ _ _ _ => rfl⟩
theorem rN_tr {I J K : Nat → Nat → Int32} (h : rN I J) (h2 : rN J K) : rN I K := ⟨fun a p q => (h2.1 a p q).trans (h.1 a p q), fun j p q r s => (h2.2 j p q r s).trans (h.2 j p q r s)⟩
theorem rN_f {I J : Nat → Nat → Int32} (h : rF I J) : rN I J := ⟨fun a p _ => h.1 a p, fun j p q r _ => h.2 j p q r⟩
theorem rN_w {I : Nat → Nat → Int32} {a j : Nat} {v : Int32} (h : rNa a) : rN I (qup I a j v) := ⟨fun b p q => qup_ne (fun e => q (by rw [e]; exact h)), fun j p q r s => by unfold rNa at h; rw [qup_ne (by omega)]⟩
theorem rN_7 {I : Nat → Nat → Int32} {v : Int32} : rN I (qup I 245 7 v) := ⟨fun b p q => qup_ne p, fun j p q r s => by rw [qup_at, if_neg s]⟩
theorem rX_w {T : Nat → Nat} {n i : Nat} {I : Nat → Nat → Int32} (h : rX T n I i) {a j : Nat} {v : Int32} (ha : ¬ a = 245) (ha2 : ¬ a = 246) : rX T n (qup I a j v) i := by
  obtain ⟨h1, h2, h3, h4, h5, h6⟩ := h
  exact ⟨h1, h2, by rw [qup_ne (by omega)]; exact h3, by rw [qup_ne (by omega)]; exact h4, fun j hj => by rw [qup_ne (by omega)]; exact h5 j hj, h6⟩
theorem rE_w {T : Nat → Nat} {n : Nat} {e : Nat × Nat} {I : Nat → Nat → Int32} (h : rE T n I e) {a j : Nat} {v : Int32} (ha : ¬ a = 245) (ha2 : ¬ a = 246) : rE T n (qup I a j v) e := by
  obtain ⟨h1, h2, h3, h4, i, h5⟩ := h
  exact ⟨h1, h2, by rw [qup_ne (by omega)]; exact h3, by rw [qup_ne (by omega)]; exact h4, i, rX_w h5 ha ha2⟩
theorem rE_ne {T : Nat → Nat} {n : Nat} {e : Nat × Nat} {I : Nat → Nat → Int32} (h : rE T n I e) : ¬ I 245 5 = qj 0 := by
  obtain ⟨h1, h2, h3, -⟩ := h
  rw [h3]
  intro q
  rw [show (qj 0) = qj ((0 : Nat) : Int) from rfl, qj_eq (by omega) (by omega) (by omega) (by omega)] at q
  omega
/-- the counts that go on -/
def aInc (x : Nat) (J : Nat → Nat → Int32) : Nat → Nat → Int32 := if x < 3 then qup J 248 x (J 248 x + qj 1) else J
section FAMM
variable {d : Nat} {g : qG1} {I : Nat → Nat → Int32} {T : Nat → Nat} {n i : Nat} {F : qFam}
theorem qNF_cg (R : qNF F I) (W : qWF F) {J : Nat → Nat → Int32} (e : ∀ a, rNa a → J a = I a) : qNF F J := by
  obtain ⟨h1, h2, h3, h4, h5, h6, h7, h8, h9, h10, h11, h12, h13, h14, h15, h16, h17⟩ := R
  have w1 := W.1
  have w2 := W.2.1
  have w3 := W.2.2.1
  unfold rNa at e
  refine ⟨?_, ?_, ?_, ?_, ?_, ?_, ?_, ?_, ?_, ?_, ?_, ?_, ?_, ?_, ?_, ?_, ?_⟩
  · rw [e _ (by omega)]; exact h1
  · rw [e _ (by omega)]; exact h2
  · rw [e _ (by omega)]; exact h3
  · rw [e _ (by omega)]; exact h4
  · intro h hh; rw [e _ (by omega)]; exact h5 h hh
  · intro h hh; rw [e _ (by omega)]; exact h6 h hh
  · intro h hh; rw [e _ (by omega)]; exact h7 h hh
  · intro h hh; rw [e _ (by omega)]; exact h8 h hh
  · intro h hh; rw [e _ (by omega)]; exact h9 h hh
  · intro h hh; rw [e _ (by omega)]; exact h10 h hh
  · intro h hh; rw [e _ (by omega)]; exact h11 h hh
  · intro h hh; rw [e _ (by omega)]; exact h12 h hh
  · intro a i ha hi; rw [e _ (by omega)]; exact h13 a i ha hi
  · intro h g hh hg; rw [e _ (by omega)]; exact h14 h g hh hg
  · rw [e _ (by omega)]; exact h15
  · rw [e _ (by omega)]; exact h16
  · rw [e _ (by omega)]; exact h17
theorem qNF_f (R : qNF F I) (W : qWF F) {J : Nat → Nat → Int32} (h : rF I J) : qNF F J := qNF_cg R W (fun a p => h.1 a (by unfold rNa at p; omega))
theorem sh3h {L h : Nat} (hh : h < 9) : qSH L (256 + 1 + h) = (1, 3) := by
  have : h = 0 ∨ h = 1 ∨ h = 2 ∨ h = 3 ∨ h = 4 ∨ h = 5 ∨ h = 6 ∨ h = 7 ∨ h = 8 := by omega
  rcases this with rfl | rfl | rfl | rfl | rfl | rfl | rfl | rfl | rfl <;> rfl
theorem sh8a {L a : Nat} (hh : a < 6) : qSH L (294 + 1 + a) = (1, 8) := by
  have : a = 0 ∨ a = 1 ∨ a = 2 ∨ a = 3 ∨ a = 4 ∨ a = 5 := by omega
  rcases this with rfl | rfl | rfl | rfl | rfl | rfl <;> rfl
/-- a hand more: the picture behind its row and the count -/
theorem qNF_hnd (R : qNF F I) (W : qWF F) {J : Nat → Nat → Int32} {l b x : Nat} (e0 : J 248 0 = qj ((F.1 0 0 + 1 : Nat) : Int)) (ej : ∀ j, ¬ j = 0 → J 248 j = I 248 j) (x0 : J (256 + 1 + F.1 0 0) 0 = qj (l : Int)) (x1 : J (256 + 1 + F.1 0 0) 1 = qj (b : Int)) (x2 : J (256 + 1 + F.1 0 0) 2 = qj (x : Int)) (er : ∀ a, rNa a → ¬ a = 248 → ¬ a = 256 + 1 + F.1 0 0 → J a = I a) : qNF (hnd F l b x) J := by
  obtain ⟨h1, h2, h3, h4, h5, h6, h7, h8, h9, h10, h11, h12, h13, h14, h15, h16, h17⟩ := R
  have w1 := W.1
  have w2 := W.2.1
  have w3 := W.2.2.1
  unfold rNa at er
  have row : ∀ h j, h < F.1 0 0 → J (256 + 1 + h) j = I (256 + 1 + h) j := fun h j hh => by rw [er _ (by omega) (by omega) (by omega)]
  refine ⟨e0, (ej 1 (by omega)).trans h2, (ej 2 (by omega)).trans h3, (ej 3 (by omega)).trans h4, fun h hh => ?_, fun h hh => ?_, fun h hh => ?_, ?_, ?_, ?_, ?_, ?_, ?_, ?_, ?_, ?_, ?_⟩
  · have hh : h < F.1 0 0 + 1 := hh
    show _ = qj ((if h = F.1 0 0 then l else F.1 1 h : Nat) : Int)
    by_cases c : h = F.1 0 0
    · rw [if_pos c, c]; exact x0
    · rw [if_neg c, row h 0 (by omega)]; exact h5 h (by omega)
  · have hh : h < F.1 0 0 + 1 := hh
    show _ = qj ((if h = F.1 0 0 then b else F.1 2 h : Nat) : Int)
    by_cases c : h = F.1 0 0
    · rw [if_pos c, c]; exact x1
    · rw [if_neg c, row h 1 (by omega)]; exact h6 h (by omega)
  · have hh : h < F.1 0 0 + 1 := hh
    show _ = qj ((if h = F.1 0 0 then x else F.1 3 h : Nat) : Int)
    by_cases c : h = F.1 0 0
    · rw [if_pos c, c]; exact x2
    · rw [if_neg c, row h 2 (by omega)]; exact h7 h (by omega)
  · intro p hp; have hp : p < F.1 0 1 := hp; rw [er _ (by omega) (by omega) (by omega)]; exact h8 p hp
  · intro p hp; have hp : p < F.1 0 1 := hp; rw [er _ (by omega) (by omega) (by omega)]; exact h9 p hp
  · intro p hp; have hp : p < F.1 0 1 := hp; rw [er _ (by omega) (by omega) (by omega)]; exact h10 p hp
  · intro p hp; have hp : p < F.1 0 2 := hp; rw [er _ (by omega) (by omega) (by omega)]; exact h11 p hp
  · intro p hp; have hp : p < F.1 0 2 := hp; rw [er _ (by omega) (by omega) (by omega)]; exact h12 p hp
  · intro a i ha hi; have ha : a < F.1 0 2 := ha; rw [er _ (by omega) (by omega) (by omega), hnd_r (r := 10 + a) (by omega)]; exact h13 a i ha hi
  · intro h k hh hk; rw [er _ (by omega) (by omega) (by omega), hnd_r (by omega)]; exact h14 h k hh hk
  · rw [er _ (by omega) (by omega) (by omega)]; exact h15
  · rw [er _ (by omega) (by omega) (by omega)]; exact h16
  · rw [er _ (by omega) (by omega) (by omega)]; exact h17
theorem qNF_pup (R : qNF F I) (W : qWF F) {J : Nat → Nat → Int32} {l b x : Nat} (e0 : J 248 1 = qj ((F.1 0 1 + 1 : Nat) : Int)) (ej : ∀ j, ¬ j = 1 → J 248 j = I 248 j) (x0 : J (276 + 1 + F.1 0 1) 0 = qj (l : Int)) (x1 : J (276 + 1 + F.1 0 1) 1 = qj (b : Int)) (x2 : J (276 + 1 + F.1 0 1) 2 = qj (x : Int)) (er : ∀ a, rNa a → ¬ a = 248 → ¬ a = 276 + 1 + F.1 0 1 → J a = I a) : qNF (pup F l b x) J := by
  obtain ⟨h1, h2, h3, h4, h5, h6, h7, h8, h9, h10, h11, h12, h13, h14, h15, h16, h17⟩ := R
  have w1 := W.1
  have w2 := W.2.1
  have w3 := W.2.2.1
  unfold rNa at er
  have row : ∀ h j, h < F.1 0 1 → J (276 + 1 + h) j = I (276 + 1 + h) j := fun h j hh => by rw [er _ (by omega) (by omega) (by omega)]
  refine ⟨(ej 0 (by omega)).trans h1, e0, (ej 2 (by omega)).trans h3, (ej 3 (by omega)).trans h4, ?_, ?_, ?_, fun h hh => ?_, fun h hh => ?_, fun h hh => ?_, ?_, ?_, ?_, ?_, ?_, ?_, ?_⟩
  · intro p hp; have hp : p < F.1 0 0 := hp; rw [er _ (by omega) (by omega) (by omega)]; exact h5 p hp
  · intro p hp; have hp : p < F.1 0 0 := hp; rw [er _ (by omega) (by omega) (by omega)]; exact h6 p hp
  · intro p hp; have hp : p < F.1 0 0 := hp; rw [er _ (by omega) (by omega) (by omega)]; exact h7 p hp
  · have hh : h < F.1 0 1 + 1 := hh
    show _ = qj ((if h = F.1 0 1 then l else F.1 4 h : Nat) : Int)
    by_cases c : h = F.1 0 1
    · rw [if_pos c, c]; exact x0
    · rw [if_neg c, row h 0 (by omega)]; exact h8 h (by omega)
  · have hh : h < F.1 0 1 + 1 := hh
    show _ = qj ((if h = F.1 0 1 then b else F.1 5 h : Nat) : Int)
    by_cases c : h = F.1 0 1
    · rw [if_pos c, c]; exact x1
    · rw [if_neg c, row h 1 (by omega)]; exact h9 h (by omega)
  · have hh : h < F.1 0 1 + 1 := hh
    show _ = qj ((if h = F.1 0 1 then x else F.1 6 h : Nat) : Int)
    by_cases c : h = F.1 0 1
    · rw [if_pos c, c]; exact x2
    · rw [if_neg c, row h 2 (by omega)]; exact h10 h (by omega)
  · intro p hp; have hp : p < F.1 0 2 := hp; rw [er _ (by omega) (by omega) (by omega)]; exact h11 p hp
  · intro p hp; have hp : p < F.1 0 2 := hp; rw [er _ (by omega) (by omega) (by omega)]; exact h12 p hp
  · intro a i ha hi; have ha : a < F.1 0 2 := ha; rw [er _ (by omega) (by omega) (by omega), pup_r (r := 10 + a) (by omega)]; exact h13 a i ha hi
  · intro h k hh hk; rw [er _ (by omega) (by omega) (by omega), pup_r (by omega)]; exact h14 h k hh hk
  · rw [er _ (by omega) (by omega) (by omega)]; exact h15
  · rw [er _ (by omega) (by omega) (by omega)]; exact h16
  · rw [er _ (by omega) (by omega) (by omega)]; exact h17
theorem m194 (hd : 4 ≤ d) (X : rX T n I i) (z : I 245 5 = qj 0) (R : qNF F I) (W : qWF F) (h9 : F.1 0 0 < 9) : match aHand T n F i with
    | .inr r => ∃ J, qRun d 194 [.ref 245, .ref (256 + 1 + F.1 0 0)] (qw g I) (.inl (none, qw g J)) ∧ rX T n J r.2 ∧ J 245 5 = qj 0 ∧ qNF r.1 (aInc 0 J) ∧ rN I J ∧ J 245 7 = I 245 7
    | .inl e => ∃ J, qRun d 194 [.ref 245, .ref (256 + 1 + F.1 0 0)] (qw g I) (.inl (none, qw g J)) ∧ rE T n J e ∧ rN I J := by
  have hra : rNa (256 + 1 + F.1 0 0) := by unfold rNa; omega
  have q1 := m179 (d := d - 1) (g := g) (lo := 0) (hi := 9) (by omega) X z (by omega) (by omega)
  unfold aHand
  cases h1 : aNum T n i 0 9 with
  | inl e =>
    rw [h1] at q1
    obtain ⟨J1, a1, a2, a3⟩ := q1
    have E1 := rE_w (a := 256 + 1 + F.1 0 0) (j := 0) (v := qj 0) a2 (by omega) (by omega)
    have E2 := rE_w (a := 256 + 1 + F.1 0 0) (j := 1) (v := qj 0) E1 (by omega) (by omega)
    refine ⟨_, qRun_of fun Q hQ => b194_0 (sh3h h9) (by omega) ⟨_, _, a1, _, _, m179e (by omega) (rE_ne E1) _ _, fun q => absurd q (rE_ne E2), fun _ => hQ⟩, E2, rN_tr (rN_f a3) (rN_tr (rN_w hra) (rN_w hra))⟩
  | inr r1 =>
    rw [h1] at q1
    obtain ⟨J1, a1, a2, az, a3⟩ := q1
    have x1 := aNum_b h1 X.2.1
    have q2 := m179 (d := d - 1) (g := g) (lo := 0) (hi := 40) (by omega) (rX_w (a := 256 + 1 + F.1 0 0) (j := 0) (v := qj (r1.1 : Int)) a2 (by omega) (by omega)) (by rw [qup_ne (by omega)]; exact az) (by omega) (by omega)
    simp only []
    cases h2 : aNum T n r1.2 0 40 with
    | inl e =>
      rw [h2] at q2
      obtain ⟨J2, b1, b2, b3⟩ := q2
      have E2 := rE_w (a := 256 + 1 + F.1 0 0) (j := 1) (v := qj 0) b2 (by omega) (by omega)
      refine ⟨_, qRun_of fun Q hQ => b194_0 (sh3h h9) (by omega) ⟨_, _, a1, _, _, b1, fun q => absurd q (rE_ne E2), fun _ => hQ⟩, E2, rN_tr (rN_f a3) (rN_tr (rN_w hra) (rN_tr (rN_f b3) (rN_w hra)))⟩
    | inr r2 =>
      rw [h2] at q2
      obtain ⟨J2, b1, b2, bz, b3⟩ := q2
      have x2 := aNum_b h2 x1.2.2.1
      have X2 := rX_w (a := 256 + 1 + F.1 0 0) (j := 1) (v := qj (r2.1 : Int)) b2 (by omega) (by omega)
      have z2 : qup J2 (256 + 1 + F.1 0 0) 1 (qj (r2.1 : Int)) 245 5 = qj 0 := by rw [qup_ne (by omega)]; exact bz
      obtain ⟨J5, d1, d2, d3, d4, d5⟩ := m175 (d := d - 1 - 1) (g := g) (by omega) X2
      have q3 := m179 (d := d - 1) (g := g) (lo := 0) (hi := 60) (by omega) d2 (d4.trans z2) (by omega) (by omega)
      rw [aNum_i x2.2.2.1] at q3
      have rn2 : rN I (qup J2 (256 + 1 + F.1 0 0) 1 (qj (r2.1 : Int))) := rN_tr (rN_f a3) (rN_tr (rN_w hra) (rN_tr (rN_f b3) (rN_w hra)))
      simp only []
      cases h3 : aNum T n r2.2 0 60 with
      | inl e =>
        rw [h3] at q3
        obtain ⟨J6, f1, f2, f3⟩ := q3
        have E3 := rE_w (a := 256 + 1 + F.1 0 0) (j := 2) (v := qj 0) f2 (by omega) (by omega)
        exact ⟨_, qRun_of fun Q hQ => b194_0 (sh3h h9) (by omega) ⟨_, _, a1, _, _, b1, fun _ => ⟨_, d1, _, _, f1, fun _ => hQ, fun q => absurd (rE_ne E3) q⟩, fun q => absurd z2 q⟩, E3, rN_tr rn2 (rN_tr (rN_f d3) (rN_tr (rN_f f3) (rN_w hra)))⟩
      | inr r3 =>
        rw [h3] at q3
        obtain ⟨J6, f1, f2, fz, f3⟩ := q3
        have x3 := aNum_b h3 x2.2.2.1
        have X3 := rX_w (a := 256 + 1 + F.1 0 0) (j := 2) (v := qj (r3.1 : Int)) f2 (by omega) (by omega)
        have z3 : qup J6 (256 + 1 + F.1 0 0) 2 (qj (r3.1 : Int)) 245 5 = qj 0 := by rw [qup_ne (by omega)]; exact fz
        have rn3 : rN I (qup J6 (256 + 1 + F.1 0 0) 2 (qj (r3.1 : Int))) := rN_tr rn2 (rN_tr (rN_f d3) (rN_tr (rN_f f3) (rN_w hra)))
        have row6 : J6 (256 + 1 + F.1 0 0) = qup J2 (256 + 1 + F.1 0 0) 1 (qj (r2.1 : Int)) (256 + 1 + F.1 0 0) := (f3.1 _ (by omega)).trans (d3.1 _ (by omega))
        have row2 : J2 (256 + 1 + F.1 0 0) = qup J1 (256 + 1 + F.1 0 0) 0 (qj (r1.1 : Int)) (256 + 1 + F.1 0 0) := b3.1 _ (by omega)
        have c0 : qup J6 (256 + 1 + F.1 0 0) 2 (qj (r3.1 : Int)) (256 + 1 + F.1 0 0) 0 = qj (r1.1 : Int) := by rw [qup_at, if_neg (by omega), row6, qup_at, if_neg (by omega), row2, qup_at, if_pos rfl]
        have c1 : qup J6 (256 + 1 + F.1 0 0) 2 (qj (r3.1 : Int)) (256 + 1 + F.1 0 0) 1 = qj (r2.1 : Int) := by rw [qup_at, if_neg (by omega), row6, qup_at, if_pos rfl]
        have c2 : qup J6 (256 + 1 + F.1 0 0) 2 (qj (r3.1 : Int)) (256 + 1 + F.1 0 0) 2 = qj (r3.1 : Int) := by rw [qup_at, if_pos rfl]
        have other : ∀ a, ¬ a = 245 → ¬ a = 256 + 1 + F.1 0 0 → qup J6 (256 + 1 + F.1 0 0) 2 (qj (r3.1 : Int)) a = I a := fun a p q => by rw [qup_ne q, f3.1 _ p, d3.1 _ p, qup_ne q, b3.1 _ p, qup_ne q, a3.1 _ p]
        have e7 : qup J6 (256 + 1 + F.1 0 0) 2 (qj (r3.1 : Int)) 245 7 = I 245 7 := by rw [qup_ne (by omega), f3.2 7 (by omega) (by omega) (by omega), d3.2 7 (by omega) (by omega) (by omega), qup_ne (by omega), b3.2 7 (by omega) (by omega) (by omega), qup_ne (by omega), a3.2 7 (by omega) (by omega) (by omega)]
        simp only []
        by_cases c : ¬ r3.1 = 0 ∧ r3.1 ≤ r2.1
        · rw [if_pos c]
          obtain ⟨J8, w1, w2, w5, w6, w3⟩ := m176 (d := d - 1) (g := g) (by omega) X3 z3 2 (tBl T n r2.2)
          have w1' : qRun (d - 1) 176 [.ref 245, .int (qj 2), .int (qj (tBl T n r2.2 : Int))] (qw g (qup J6 (256 + 1 + F.1 0 0) 2 (qj (r3.1 : Int)))) (.inl (none, qw g J8)) := w1
          refine ⟨J8, qRun_of fun Q hQ => b194_0 (sh3h h9) (by omega) ⟨_, _, a1, _, _, b1, fun _ => ⟨_, d1, _, _, f1, ?_⟩, fun q => absurd z2 q⟩, ⟨(show ¬ (2 : Nat) = 0 by omega), (show (2 : Nat) ≤ 3 by omega), w5, w6, _, w2⟩, rN_tr rn3 (rN_f w3)⟩
          rw [c1, c2, d2.2.2.2.1]
          refine ⟨fun q => absurd z3 q, fun _ => ?_⟩
          simp (disch := omega) only [qz0, qj_eq, qj_lt, qfk]
          exact ⟨_, w1', hQ⟩
        · rw [if_neg c]
          refine ⟨_, qRun_of fun Q hQ => b194_0 (sh3h h9) (by omega) ⟨_, _, a1, _, _, b1, fun _ => ⟨_, d1, _, _, f1, ?_⟩, fun q => absurd z2 q⟩, X3, z3, ?_, rn3, e7⟩
          · rw [c1, c2]
            refine ⟨fun q => absurd z3 q, fun _ => ?_⟩
            by_cases c0 : r3.1 = 0
            · simp (disch := omega) only [qz0, qj_eq, qj_lt, qtk]
              exact hQ
            · simp (disch := omega) only [qz0, qj_eq, qj_lt, qtk, qfk]
              exact hQ
          · have e248 : qup J6 (256 + 1 + F.1 0 0) 2 (qj (r3.1 : Int)) 248 = I 248 := other 248 (by omega) (by omega)
            show qNF (hnd F r1.1 r2.1 r3.1) (qup (qup J6 (256 + 1 + F.1 0 0) 2 (qj (r3.1 : Int))) 248 0 (qup J6 (256 + 1 + F.1 0 0) 2 (qj (r3.1 : Int)) 248 0 + qj 1))
            refine qNF_hnd R W ?_ (fun j hj => ?_) ?_ ?_ ?_ (fun a p q r => ?_)
            · rw [qup_at, if_pos rfl, e248, R.1, qj_add]; rfl
            · rw [qup_at, if_neg hj, e248]
            · rw [qup_ne (by omega)]; exact c0
            · rw [qup_ne (by omega)]; exact c1
            · rw [qup_ne (by omega)]; exact c2
            · rw [qup_ne q]; exact other a (by unfold rNa at p; omega) r
end FAMM
