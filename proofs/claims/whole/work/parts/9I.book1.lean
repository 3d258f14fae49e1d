/-! ===== the text of the book; the class ===== -/
def badd (B : qBk) (q : Nat × Nat × Nat) : qBk := (B.1 + 1, fun r j => if j = B.1 then (if r = 0 then q.1 else if r = 1 then q.2.1 else q.2.2) else B.2 r j)
def aLin (T : Nat → Nat) (n : Nat) (F : qFam) (k i : Nat) : (Nat × Nat) ⊕ ((Nat × Nat × Nat) × Nat) := match aNum T n i 1 60 with
  | .inl e => .inl e
  | .inr y => if 12 ≤ k then .inl (3, tBl T n i) else match aNum T n y.2 0 ((F.1 0 1 : Int) - 1) with
    | .inl e => .inl e
    | .inr p => match aNum T n p.2 0 ((F.1 0 0 : Int) - 1) with
      | .inl e => .inl e
      | .inr h => match aSgn T n h.2 59 with
        | .inl e => .inl e
        | .inr j => .inr ((y.1, p.1, h.1), j)
def aBkT (T : Nat → Nat) (n : Nat) (F : qFam) : Nat → Nat → qBk → Nat → (Nat × Nat) ⊕ qBk
  | 0, _, B, _ => .inr B
  | r + 1, k, B, i => if n ≤ tBl T n i then .inr B else match aLin T n F k i with
    | .inl e => .inl e
    | .inr q => aBkT T n F r (k + 1) (badd B q.1) q.2
/-- a book's lines -/
def qWB (F : qFam) (B : qBk) : Prop := B.1 ≤ 12 ∧ ∀ k, k < B.1 → 1 ≤ B.2 0 k ∧ B.2 0 k ≤ 60 ∧ B.2 1 k < F.1 0 1 ∧ B.2 2 k < F.1 0 0
theorem aLin_b {T : Nat → Nat} {n k i : Nat} {F : qFam} {q : (Nat × Nat × Nat) × Nat} (h : aLin T n F k i = .inr q) (hi : i ≤ n) : q.2 ≤ n ∧ k < 12 ∧ 1 ≤ q.1.1 ∧ q.1.1 ≤ 60 ∧ q.1.2.1 < F.1 0 1 ∧ q.1.2.2 < F.1 0 0 := by
  unfold aLin at h
  cases h1 : aNum T n i 1 60 with
  | inl e => rw [h1] at h; exact inl_inr h
  | inr y =>
    rw [h1] at h
    have b1 := aNum_b h1 hi
    simp only [] at h
    split at h
    · exact inl_inr h
    · cases h2 : aNum T n y.2 0 ((F.1 0 1 : Int) - 1) with
      | inl e => simp only [h2] at h; exact inl_inr h
      | inr p =>
        simp only [h2] at h
        have b2 := aNum_b h2 b1.2.2.1
        cases h3 : aNum T n p.2 0 ((F.1 0 0 : Int) - 1) with
        | inl e => simp only [h3] at h; exact inl_inr h
        | inr hh =>
          simp only [h3] at h
          have b3 := aNum_b h3 b2.2.2.1
          cases h4 : aSgn T n hh.2 59 with
          | inl e => simp only [h4] at h; exact inl_inr h
          | inr j =>
            simp only [h4] at h
            have b4 := aSgn_s h4 b3.2.2.1
            injection h with h
            subst h
            refine ⟨b4.2, by omega, ?_, ?_, ?_, ?_⟩
            · show 1 ≤ y.1
              omega
            · show y.1 ≤ 60
              omega
            · show p.1 < F.1 0 1
              omega
            · show hh.1 < F.1 0 0
              omega
theorem badd_ok {F : qFam} {B : qBk} {q : Nat × Nat × Nat} (W : qWB F B) (h : B.1 < 12) (h1 : 1 ≤ q.1 ∧ q.1 ≤ 60 ∧ q.2.1 < F.1 0 1 ∧ q.2.2 < F.1 0 0) : qWB F (badd B q) := by
  refine ⟨h, fun k hk => ?_⟩
  have hk : k < B.1 + 1 := hk
  show 1 ≤ (if k = B.1 then q.1 else B.2 0 k) ∧ (if k = B.1 then q.1 else B.2 0 k) ≤ 60 ∧ (if k = B.1 then q.2.1 else B.2 1 k) < F.1 0 1 ∧ (if k = B.1 then q.2.2 else B.2 2 k) < F.1 0 0
  by_cases c : k = B.1
  · rw [if_pos c, if_pos c, if_pos c]; exact h1
  · rw [if_neg c, if_neg c, if_neg c]; exact W.2 k (by omega)
theorem aBkT_ok {T : Nat → Nat} {n : Nat} {F : qFam} : ∀ r k B i B', aBkT T n F r k B i = .inr B' → i ≤ n → B.1 = k → qWB F B → qWB F B'
  | 0, k, B, i, B', h, _, _, W => by
    rw [aBkT] at h
    injection h with h
    subst h; exact W
  | r + 1, k, B, i, B', h, hi, hk, W => by
    rw [aBkT] at h
    split at h
    · injection h with h
      subst h; exact W
    · cases h1 : aLin T n F k i with
      | inl e => rw [h1] at h; exact inl_inr h
      | inr q =>
        rw [h1] at h
        obtain ⟨p1, p2, p3⟩ := aLin_b h1 hi
        exact aBkT_ok r (k + 1) (badd B q.1) q.2 B' h p1 (by show B.1 + 1 = k + 1; omega) (badd_ok W (by omega) p3)
def bF (b : Nat) (I J : Nat → Nat → Int32) : Prop := (∀ a, ¬ a = 65 → ¬ (b ≤ a ∧ a < b + 4) → J a = I a) ∧ J 65 1 = I 65 1
theorem bF_t {b : Nat} {I J : Nat → Nat → Int32} (h : tF I J) : bF b I J := ⟨fun a p _ => h.1 a p, h.2⟩
theorem bF_tr {b : Nat} {I J K : Nat → Nat → Int32} (h : bF b I J) (h2 : bF b J K) : bF b I K := ⟨fun a p q => (h2.1 a p q).trans (h.1 a p q), h2.2.trans h.2⟩
theorem bF_w {b a j : Nat} {I : Nat → Nat → Int32} {v : Int32} (hb : qisB b) (h : b ≤ a ∧ a < b + 4) : bF b I (qup I a j v) := ⟨fun c p q => qup_ne (fun e => q (by rw [e]; exact h)), by unfold qisB at hb; rw [qup_ne (by omega)]⟩
def rBok (F : qFam) (L : qLw) (B : qBk) (S S0 : qSt) (Im : Nat → qSt) (C T : Nat → Nat) (z : Int) : qRt :=
  if (0 ≤ z ∧ z ≤ C 4) ∧ z ≤ 150 then
    match aBkT T z.toNat F 13 0 (0, fun _ _ => 0) 0 with
    | .inl e => .inl (qj ((e.1 : Int) - 10), F, L, B, S, S0, Im, iup C 4 0, (e.2 : Int))
    | .inr B' => .inl (qj (B'.1 : Int), F, L, B', S, S0, Im, iup C 4 0, -1)
  else .inr 1
section BOOK1
variable {d : Nat} {g : qG1} {I : Nat → Nat → Int32} {F : qFam} {L : qLw} {B : qBk} {S S0 : qSt} {Im : Nat → qSt} {C T : Nat → Nat} {P : Int} {b f n i k : Nat}
theorem c2' (hd : 3 ≤ d) (hb : qisB b) (hf : qisF f) (X : tX T n I i) (RF : qRF F I f) (W : qWF F) (R : qRB B I b) (hk : k ≤ 12) (hB : B.1 = k) : match aLin T n F k i with
    | .inr q => ∃ J, qRun d 2 [.ref b, .ref 65, .ref f, .int (qj (k : Int))] (qw g I) (.inl (some (.int (qb true)), qw g J)) ∧ tX T n J q.2 ∧ qRB (badd B q.1) J b ∧ bF b I J
    | .inl e => ∃ J, qRun d 2 [.ref b, .ref 65, .ref f, .int (qj (k : Int))] (qw g I) (.inl (some (.int (qb false)), qw g J)) ∧ tE J e ∧ bF b I J := by
  have hbb : b = 131 ∨ b = 135 := hb
  have hfb : f = 67 ∨ f = 96 := hf
  have w9 := W.1
  have w8 := W.2.1
  have k1 := c79 (d := d - 1) (g := g) (lo := 1) (hi := 60) (by omega) X (by omega) (by omega)
  unfold aLin
  cases h1 : aNum T n i 1 60 with
  | inl e =>
    rw [h1] at k1
    obtain ⟨J1, a1, a2, a3⟩ := k1
    exact ⟨J1, qRun_of fun Q hQ => b2_0 hb hf (by omega) ⟨_, J1, a1, fun q => Bool.noConfusion q, fun _ => hQ⟩, a2, bF_t a3⟩
  | inr y =>
    rw [h1] at k1
    obtain ⟨J1, a1, x1, a6, a7, -, t1⟩ := k1
    have b1 := aNum_b h1 X.2.1
    simp only []
    by_cases c12 : 12 ≤ k
    · rw [if_pos c12]
      obtain ⟨tE1, tE2⟩ := tE_f (k := 3) a6
      refine ⟨_, qRun_of fun Q hQ => b2_0 hb hf (by omega) ⟨_, J1, a1, fun _ => ?_, fun q => Bool.noConfusion q⟩, tE1, bF_tr (bF_t t1) (bF_t tE2)⟩
      simp (disch := omega) only [qz0, qj_lt, qfk]
      exact hQ
    · rw [if_neg c12]
      have fr1 : ∀ (K : Nat → Nat → Int32), bF b I K → K f 8 = qj (F.1 0 1 : Int) ∧ K f 0 = qj (F.1 0 0 : Int) := fun K h => ⟨by rw [h.1 f (by omega) (by omega)]; exact RF.2.1, by rw [h.1 f (by omega) (by omega)]; exact RF.1⟩
      have f1 : bF b I (qup J1 (b + 1) k (J1 65 7)) := bF_tr (bF_t t1) (bF_w hb (by omega))
      have k2 := c79 (d := d - 1) (g := g) (lo := 0) (hi := (F.1 0 1 : Int) - 1) (by omega) (tX_w (a := b + 1) (j := k) (v := J1 65 7) x1 (by omega) (by omega)) (by omega) (by omega)
      have start : ∀ (v5 : Bool) (J4 : Nat → Nat → Int32) (Q : qR → Prop), qRun (d - 1) 79 [.ref 65, .int (qj 0), .int (qj ((F.1 0 1 : Int) - 1))] (qw g (qup J1 (b + 1) k (J1 65 7))) (.inl (some (.int (qb v5)), qw g J4)) →
          ((v5 = true → ∃ (v7 : Bool) (J6 : _), qRun (d - 1) 79 [.ref 65, .int (qj 0), .int (qup J4 (b + 2) k (J4 65 7) f 0 - qj 1)] (qw g (qup J4 (b + 2) k (J4 65 7))) (.inl (some (.int (qb v7)), qw g J6)) ∧
            ((v7 = true → ∃ (v9 : Bool) (J8 : _), qRun (d - 1) 78 [.ref 65, .int (qj 59)] (qw g (qup (qup J6 (b + 3) k (J6 65 7)) b 0 (qj ((k + 1 : Nat) : Int)))) (.inl (some (.int (qb v9)), qw g J8)) ∧ Q (.inl (some (.int (qb v9)), qw g J8))) ∧ (v7 = false → Q (.inl (some (.int (qb false)), qw g J6))))) ∧ (v5 = false → Q (.inl (some (.int (qb false)), qw g J4)))) →
          qwp d 2 [.ref b, .ref 65, .ref f, .int (qj (k : Int))] (qw g I) Q := by
        intro v5 J4 Q kk h
        refine b2_0 hb hf (by omega) ⟨_, J1, a1, fun _ => ?_, fun q => Bool.noConfusion q⟩
        have e1 := (fr1 _ f1).1
        simp (disch := omega) only [qz0, qj_lt, qj_le, qj_eq, qtk, qfk, qbtt, qbft, qbtf, qbff, qIx_z, qj_nat, true_and, and_true, true_implies, false_implies, not_true_eq_false, not_false_eq_true, Bool.true_eq_false, Bool.false_eq_true, qj_add, qj_s1, e1, qj_sub]
        exact ⟨_, J4, kk, h⟩
      cases h2 : aNum T n y.2 0 ((F.1 0 1 : Int) - 1) with
      | inl e =>
        rw [h2] at k2
        obtain ⟨J4, c1, c2, c3⟩ := k2
        exact ⟨J4, qRun_of fun Q hQ => start _ J4 Q c1 ⟨fun q => Bool.noConfusion q, fun _ => hQ⟩, c2, bF_tr f1 (bF_t c3)⟩
      | inr p =>
        rw [h2] at k2
        obtain ⟨J4, c1, x4, -, c7, -, t4⟩ := k2
        have b2 := aNum_b h2 b1.2.2.1
        have f4 : bF b I (qup J4 (b + 2) k (J4 65 7)) := bF_tr f1 (bF_tr (bF_t t4) (bF_w hb (by omega)))
        have k3 := c79 (d := d - 1) (g := g) (lo := 0) (hi := (F.1 0 0 : Int) - 1) (by omega) (tX_w (a := b + 2) (j := k) (v := J4 65 7) x4 (by omega) (by omega)) (by omega) (by omega)
        have e0 : qup J4 (b + 2) k (J4 65 7) f 0 - qj 1 = qj ((F.1 0 0 : Int) - 1) := by rw [(fr1 _ f4).2, qj_sub]
        simp only []
        cases h3 : aNum T n p.2 0 ((F.1 0 0 : Int) - 1) with
        | inl e =>
          rw [h3] at k3
          obtain ⟨J6, m1, m2, m3⟩ := k3
          exact ⟨J6, qRun_of fun Q hQ => start _ J4 Q c1 ⟨fun _ => ⟨_, J6, by rw [e0]; exact m1, fun q => Bool.noConfusion q, fun _ => hQ⟩, fun q => Bool.noConfusion q⟩, m2, bF_tr f4 (bF_t m3)⟩
        | inr h =>
          rw [h3] at k3
          obtain ⟨J6, m1, x6, -, m7, -, t6⟩ := k3
          have f6 : bF b I (qup (qup J6 (b + 3) k (J6 65 7)) b 0 (qj ((k + 1 : Nat) : Int))) := bF_tr f4 (bF_tr (bF_t t6) (bF_tr (bF_w hb (by omega)) (bF_w hb (by omega))))
          have k4 := c78 (d := d - 1) (g := g) (s := 59) (by omega) (tX_w (a := b) (j := 0) (v := qj ((k + 1 : Nat) : Int)) (tX_w (a := b + 3) (j := k) (v := J6 65 7) x6 (by omega) (by omega)) (by omega) (by omega)) (by omega)
          simp only []
          cases h4 : aSgn T n h.2 59 with
          | inl e =>
            rw [h4] at k4
            obtain ⟨J8, m8, e8, t8⟩ := k4
            exact ⟨J8, qRun_of fun Q hQ => start _ J4 Q c1 ⟨fun _ => ⟨_, J6, by rw [e0]; exact m1, fun _ => ⟨_, J8, m8, hQ⟩, fun q => Bool.noConfusion q⟩, fun q => Bool.noConfusion q⟩, e8, bF_tr f6 (bF_t t8)⟩
          | inr j =>
            rw [h4] at k4
            obtain ⟨J8, m8, x8, t8, -⟩ := k4
            refine ⟨J8, qRun_of fun Q hQ => start _ J4 Q c1 ⟨fun _ => ⟨_, J6, by rw [e0]; exact m1, fun _ => ⟨_, J8, m8, hQ⟩, fun q => Bool.noConfusion q⟩, fun q => Bool.noConfusion q⟩, x8, ⟨?_, fun q hq => ?_⟩, bF_tr f6 (bF_t t8)⟩
            · rw [t8.1 b (by omega), qup_at, if_pos rfl]
              show qj ((k + 1 : Nat) : Int) = qj ((B.1 + 1 : Nat) : Int)
              rw [hB]
            · have hq : q < B.1 + 1 := hq
              have e1 : J8 (b + 1) q = if q = k then J1 65 7 else I (b + 1) q := by
                rw [t8.1 (b + 1) (by omega), qup_ne (by omega), qup_ne (by omega), t6.1 (b + 1) (by omega), qup_ne (by omega), t4.1 (b + 1) (by omega), qup_at, t1.1 (b + 1) (by omega)]
              have e2 : J8 (b + 2) q = if q = k then J4 65 7 else I (b + 2) q := by
                rw [t8.1 (b + 2) (by omega), qup_ne (by omega), qup_ne (by omega), t6.1 (b + 2) (by omega), qup_at, t4.1 (b + 2) (by omega), qup_ne (by omega), t1.1 (b + 2) (by omega)]
              have e3 : J8 (b + 3) q = if q = k then J6 65 7 else I (b + 3) q := by
                rw [t8.1 (b + 3) (by omega), qup_ne (by omega), qup_at, t6.1 (b + 3) (by omega), qup_ne (by omega), t4.1 (b + 3) (by omega), qup_ne (by omega), t1.1 (b + 3) (by omega)]
              show J8 (b + 1) q = qj (((if q = B.1 then y.1 else B.2 0 q) : Nat) : Int) ∧ J8 (b + 2) q = qj (((if q = B.1 then p.1 else B.2 1 q) : Nat) : Int) ∧ J8 (b + 3) q = qj (((if q = B.1 then h.1 else B.2 2 q) : Nat) : Int)
              rw [e1, e2, e3]
              by_cases c : q = k
              · have c' : q = B.1 := by omega
                rw [if_pos c, if_pos c, if_pos c, if_pos c', if_pos c', if_pos c']
                exact ⟨a7, c7, m7⟩
              · have c' : ¬ q = B.1 := by omega
                rw [if_neg c, if_neg c, if_neg c, if_neg c', if_neg c', if_neg c']
                exact R.2 q (by omega)
theorem aLin_i {k : Nat} (h : i ≤ n) : aLin T n F k (tBl T n i) = aLin T n F k i := by
  unfold aLin
  rw [aNum_i h, tBl_i h]
theorem aBkT_i (h : i ≤ n) : ∀ r k B, aBkT T n F r k B (tBl T n i) = aBkT T n F r k B i
  | 0, _, _ => rfl
  | r + 1, k, B => by rw [aBkT, aBkT, tBl_i h, aLin_i h]
theorem qRB_t {B : qBk} {J : Nat → Nat → Int32} (R : qRB B I b) (hb : qisB b) (h : tF I J) : qRB B J b := by
  have hbb : b = 131 ∨ b = 135 := hb
  exact qRB_cg R (fun a p q => h.1 a (by omega))
theorem c1' (hd : 4 ≤ d) (hb : qisB b) (hf : qisF f) (X : tX T n I 0) (RF : qRF F I f) (W : qWF F) : match aBkT T n F 13 0 (0, fun _ _ => 0) 0 with
    | .inr B => ∃ J, qRun d 1 [.ref b, .ref 65, .ref f] (qw g I) (.inl (some (.int (qb true)), qw g J)) ∧ qRB B J b ∧ bF b I J ∧ J 65 5 = qj (-1)
    | .inl e => ∃ J, qRun d 1 [.ref b, .ref 65, .ref f] (qw g I) (.inl (some (.int (qb false)), qw g J)) ∧ tE J e ∧ bF b I J := by
  have hbb : b = 131 ∨ b = 135 := hb
  have hfb : f = 67 ∨ f = 96 := hf
  have key : ∀ r k B i, k + r = 13 → B.1 = k → ∀ J, tX T n J i → qRB B J b → qRF F J f → bF b I J →
      match aBkT T n F r k B i with
      | .inl e => ∃ J', (tE J' e ∧ bF b I J') ∧ ∀ Q : qR → Prop, Q (.inl (some (.int (qb false)), qw g J')) → qwq d 1 7 [(0, .ref b), (1, .ref 65), (2, .ref f), (3, .int (qj (k : Int)))] [] (qw g J) Q
      | .inr B' => ∃ J', (qRB B' J' b ∧ bF b I J' ∧ J' 65 5 = qj (-1)) ∧ ∀ Q : qR → Prop, Q (.inl (some (.int (qb true)), qw g J')) → qwq d 1 7 [(0, .ref b), (1, .ref 65), (2, .ref f), (3, .int (qj (k : Int)))] [] (qw g J) Q := by
    intro r
    induction r with
    | zero =>
      intro k B i hk hB J x1 x2 x3 x4
      refine ⟨J, ⟨x2, x4, x1.2.2.2.2.1.2⟩, fun Q hQ => b1_7 hb hf (by omega) ?_⟩
      simp (disch := omega) only [qz0, qj_lt, qj_le, qj_eq, qtk, qfk, qbtt, qbft, qbtf, qbff, qIx_z, qj_nat, true_and, and_true, true_implies, false_implies, not_true_eq_false, not_false_eq_true, Bool.true_eq_false, Bool.false_eq_true]
      exact hQ
    | succ r ih =>
      intro k B i hk hB J x1 x2 x3 x4
      obtain ⟨J1, s1, s2, s3, s4⟩ := c76 (d := d - 1) (g := g) (by omega) x1
      have R1 := qRB_t x2 hb s3
      have F1 : qRF F J1 f := qRF_cg x3 (fun a p q => s3.1 a (by omega))
      have hC1 : bF b I J1 := bF_tr x4 (bF_t s3)
      rw [aBkT]
      by_cases he : n ≤ tBl T n i
      · rw [if_pos he]
        rw [decide_eq_true he] at s1
        refine ⟨J1, ⟨R1, hC1, s2.2.2.2.2.1.2⟩, fun Q hQ => b1_7 hb hf (by omega) ?_⟩
        simp (disch := omega) only [qj_lt, qfk]
        exact ⟨_, _, s1, fun _ => hQ, fun q => Bool.noConfusion q⟩
      · rw [if_neg he]
        rw [decide_eq_false he] at s1
        have k2 := c2' (d := d - 1) (g := g) (k := k) (by omega) hb hf s2 F1 W R1 (by omega) hB
        rw [aLin_i x1.2.1] at k2
        cases h1 : aLin T n F k i with
        | inl e =>
          rw [h1] at k2
          obtain ⟨J3, t1, t2, t3⟩ := k2
          refine ⟨J3, ⟨t2, bF_tr hC1 t3⟩, fun Q hQ => b1_7 hb hf (by omega) ?_⟩
          simp (disch := omega) only [qj_lt, qfk]
          exact ⟨_, _, s1, fun q => Bool.noConfusion q, fun _ => ⟨_, _, t1, fun q => Bool.noConfusion q, fun _ => hQ⟩⟩
        | inr q =>
          rw [h1] at k2
          obtain ⟨J3, t1, t2, t3, t4⟩ := k2
          have ihh := ih (k + 1) (badd B q.1) q.2 (by omega) (by show B.1 + 1 = k + 1; omega) J3 t2 t3 (qRF_cg F1 (fun a p q => t4.1 a (by omega) (by omega))) (bF_tr hC1 t4)
          simp only []
          cases hr : aBkT T n F r (k + 1) (badd B q.1) q.2 with
          | inl e =>
            rw [hr] at ihh
            obtain ⟨J', o1, o2⟩ := ihh
            refine ⟨J', o1, fun Q hQ => b1_7 hb hf (by omega) ?_⟩
            simp (disch := omega) only [qj_lt, qfk, qj_add, qj_s1]
            exact ⟨_, _, s1, fun q => Bool.noConfusion q, fun _ => ⟨_, _, t1, fun _ => o2 Q hQ, fun q => Bool.noConfusion q⟩⟩
          | inr B' =>
            rw [hr] at ihh
            obtain ⟨J', o1, o2⟩ := ihh
            refine ⟨J', o1, fun Q hQ => b1_7 hb hf (by omega) ?_⟩
            simp (disch := omega) only [qj_lt, qfk, qj_add, qj_s1]
            exact ⟨_, _, s1, fun q => Bool.noConfusion q, fun _ => ⟨_, _, t1, fun _ => o2 Q hQ, fun q => Bool.noConfusion q⟩⟩
  have R0 : qRB ((0, fun _ _ => 0) : qBk) (qup I b 0 (qj 0)) b := ⟨by rw [qup_at, if_pos rfl]; rfl, fun i hi => absurd hi (Nat.not_lt_zero i)⟩
  have kk := key 13 0 (0, fun _ _ => 0) 0 rfl rfl (qup I b 0 (qj 0)) (tX_w X (by omega) (by omega)) R0 (qRF_cg RF (fun a p q => qup_ne (by omega))) (bF_w hb (by omega))
  cases hr : aBkT T n F 13 0 (0, fun _ _ => 0) 0 with
  | inl e =>
    rw [hr] at kk
    obtain ⟨J, ⟨o1, o3⟩, o2⟩ := kk
    exact ⟨J, qRun_of fun Q hQ => b1_0 hb hf (by omega) (o2 Q hQ), o1, o3⟩
  | inr B' =>
    rw [hr] at kk
    obtain ⟨J, ⟨o1, o3, o4⟩, o2⟩ := kk
    exact ⟨J, qRun_of fun Q hQ => b1_0 hb hf (by omega) (o2 Q hQ), o1, o3, o4⟩
theorem f88 (hd : 8 ≤ d) (X : qAbs F L B S S0 Im C T) (H : qCls g I F L B S S0 Im C T P) {z : Int} (hz : -2147483648 ≤ z ∧ z < 2147483648) : qCT d 88 [.ref 64, .int (qj z)] g I T (rBok F L B S S0 Im C T z) := by
  have W := X.1
  have c4 := X.2.2.2.2.2.2.2.2.1
  have c1 := X.2.2.2.2.2.2.2.1
  have hT := X.2.2.2.2.2.2.2.2.2
  obtain ⟨h1, h2, h3, h4, h5, h6, h7, h8, h9, h10, h11, h12, h13, h14, h15⟩ := H
  obtain ⟨o1, o2, o3, o4, o5, o6, o7, o8, o9⟩ := h1
  have p1 : g.2.2.1 1 = 67 ∨ g.2.2.1 1 = 96 := o1
  have p3 : g.2.2.1 3 = 125 ∨ g.2.2.1 3 = 128 := o4
  have p5 : g.2.2.1 5 = 131 ∨ g.2.2.1 5 = 135 := o7
  have p6 : g.2.2.1 6 = 131 ∨ g.2.2.1 6 = 135 := o8
  unfold rBok
  by_cases h : (0 ≤ z ∧ z ≤ C 4) ∧ z ≤ 150
  · rw [if_pos h]
    obtain ⟨n, rfl⟩ : ∃ n : Nat, z = n := ⟨z.toNat, by omega⟩
    rw [Int.toNat_natCast]
    obtain ⟨J1, a1, a2, a3, a4⟩ := c72 (d := d - 1) (g := g) (n := n) (T := T) (I := I) (by omega) (by omega) (fun j hj => hT j (by omega)) (fun j hj => h13 j (by omega))
    have k1 := c1' (d := d - 1) (g := g) (by omega) o8 o1 a2 (qRF_cg h2 (fun a p q => a4 a (by omega))) W
    have start : ∀ (v : Bool) (J2 : Nat → Nat → Int32) (Q : qR → Prop), qRun (d - 1) 1 [.ref (g.2.2.1 6), .ref 65, .ref (g.2.2.1 1)] (qw g J1) (.inl (some (.int (qb v)), qw g J2)) → ((v = true → qwq d 88 86 [(0, .ref 64)] [] (qsP (qsP (qw g J2) 64 6 (g.2.2.1 5)) 64 5 (g.2.2.1 6)) Q) ∧ (v = false → Q (.inl (some (.int (J2 65 4 - qj 10)), qw g J2)))) → qwp d 88 [.ref 64, .int (qj (n : Int))] (qw g I) Q := fun v J2 Q k hq => b88_0 o7 o8 o1 rfl rfl rfl (by omega) (by
      rw [h12]
      simp (disch := omega) only [qz0, qj_lt, qj_le, qj_eq, qtk, qfk, qbtt, qbft, qbtf, qbff, qIx_z, qj_nat, true_and, and_true, true_implies, false_implies, not_true_eq_false, not_false_eq_true, Bool.true_eq_false, Bool.false_eq_true]
      exact ⟨J1, a1, v, J2, k, hq⟩)
    cases hr : aBkT T n F 13 0 (0, fun _ _ => 0) 0 with
    | inl e =>
      rw [hr] at k1
      obtain ⟨J2, b1, b2, b3⟩ := k1
      have x2 : ∀ a, ¬ a = 65 → ¬ (g.2.2.1 6 ≤ a ∧ a < g.2.2.1 6 + 4) → J2 a = I a := fun a p q => by rw [b3.1 a p q, a4 a p]
      refine ⟨g, J2, qRun_of fun Q hQ => start _ _ Q b1 ⟨fun q => Bool.noConfusion q, fun _ => ?_⟩, ⟨rfl, rfl, rfl, rfl⟩, ⟨⟨o1, o2, o3, o4, o5, o6, o7, o8, o9⟩, qRF_cg h2 (fun a p q => x2 a (by omega) (by omega)), qRL_cg h3 (fun a p q => x2 a (by omega) (by omega)), qRB_cg h4 (fun a p q => x2 a (by omega) (by omega)), qRS_cg h5 (fun a p q => x2 a (by omega) (by omega)), qRS_cg h6 (fun a p q => x2 a (by omega) (by omega)), fun k hk => qRS_cg (h7 k hk) (fun a p q => x2 a (by omega) (by omega)), ?_, ?_, ?_, ?_, ?_, fun j hj => absurd hj (Nat.not_lt_zero j), b2.2, qCon_cg h15 (fun a p => x2 a (by omega) (by omega))⟩, fun a ha => x2 a (by omega) (by omega)⟩
      · rw [b2.1, qj_sub]; exact hQ
      · rw [x2 64 (by omega) (by omega)]; exact h8
      · rw [x2 64 (by omega) (by omega)]; exact h9
      · rw [x2 64 (by omega) (by omega)]; exact h10
      · rw [x2 64 (by omega) (by omega)]; exact h11
      · rw [b3.2]; exact a3
    | inr B' =>
      rw [hr] at k1
      obtain ⟨J2, b1, b2, b3, b4⟩ := k1
      have x2 : ∀ a, ¬ a = 65 → ¬ (g.2.2.1 6 ≤ a ∧ a < g.2.2.1 6 + 4) → J2 a = I a := fun a p q => by rw [b3.1 a p q, a4 a p]
      have RF2 : qRF F J2 (g.2.2.1 1) := qRF_cg h2 (fun a p q => x2 a (by omega) (by omega))
      have RL2 : qRL L J2 (g.2.2.1 3) := qRL_cg h3 (fun a p q => x2 a (by omega) (by omega))
      refine ⟨qgW (qgW g 6 (g.2.2.1 5)) 5 (g.2.2.1 6), J2, qRun_of fun Q hQ => start _ _ Q b1 ⟨fun _ => ?_, fun q => Bool.noConfusion q⟩, ⟨rfl, rfl, rfl, rfl⟩, ⟨⟨o1, o2, o3, o4, o5, o6, o8, o7, fun q => o9 q.symm⟩, RF2, RL2, b2, qRS_cg h5 (fun a p q => x2 a (by omega) (by omega)), qRS_cg h6 (fun a p q => x2 a (by omega) (by omega)), fun k hk => qRS_cg (h7 k hk) (fun a p q => x2 a (by omega) (by omega)), ?_, ?_, ?_, ?_, ?_, fun j hj => absurd hj (Nat.not_lt_zero j), b4, qCon_cg h15 (fun a p => x2 a (by omega) (by omega))⟩, fun a ha => x2 a (by omega) (by omega)⟩
      · rw [qsP_w (by omega) (by omega), qsP_w (by omega) (by omega)]
        refine b88_86 (b := g.2.2.1 6) o8 rfl (by omega) ?_
        rw [b2.1]; exact hQ
      · rw [x2 64 (by omega) (by omega)]; exact h8
      · rw [x2 64 (by omega) (by omega)]; exact h9
      · rw [x2 64 (by omega) (by omega)]; exact h10
      · rw [x2 64 (by omega) (by omega)]; exact h11
      · rw [b3.2]; exact a3
  · rw [if_neg h]
    show qRun d 88 [.ref 64, .int (qj z)] (qw g I) _
    refine qRun_of fun Q hQ => b88_0 o7 o8 o1 rfl rfl rfl (by omega) ?_
    rw [h12]
    by_cases c : z < 0
    · simp (disch := omega) only [qz0, qj_lt, qj_le, qj_eq, qtk, qfk, qbtt, qbft, qbtf, qbff, qIx_z, qj_nat, true_and, and_true, true_implies, false_implies, not_true_eq_false, not_false_eq_true, Bool.true_eq_false, Bool.false_eq_true]
      exact hQ
    · by_cases c2 : (C 4 : Int) < z
      · simp (disch := omega) only [qz0, qj_lt, qj_le, qj_eq, qtk, qfk, qbtt, qbft, qbtf, qbff, qIx_z, qj_nat, true_and, and_true, true_implies, false_implies, not_true_eq_false, not_false_eq_true, Bool.true_eq_false, Bool.false_eq_true]
        exact hQ
      · simp (disch := omega) only [qz0, qj_lt, qj_le, qj_eq, qtk, qfk, qbtt, qbft, qbtf, qbff, qIx_z, qj_nat, true_and, and_true, true_implies, false_implies, not_true_eq_false, not_false_eq_true, Bool.true_eq_false, Bool.false_eq_true]
        exact hQ
end BOOK1
