/-! ===== the law read, the class: the whole call ===== -/
def rLaw (F : qFam) (L : qLw) (B : qBk) (S S0 : qSt) (Im : Nat → qSt) (C T : Nat → Nat) (z : Int) : qRt :=
  if (0 ≤ z ∧ z ≤ C 4) ∧ z ≤ 150 then
    match aLawT T z.toNat with
    | .inl e => .inl (qj ((e.1 : Int) - 10), F, L, B, S, S0, Im, iup C 4 0, (e.2 : Int))
    | .inr L' => .inl (qj 1, F, L', B, S, S, Im, iup (iup C 0 0) 4 0, -1)
  else .inr 1
section LAW3
variable {d : Nat} {g : qG1} {I : Nat → Nat → Int32} {F : qFam} {L : qLw} {B : qBk} {S S0 : qSt} {Im : Nat → qSt} {C T : Nat → Nat} {P : Int} {l n : Nat}
theorem c39 (hd : 151 ≤ d) (hl : qisL l) (hn : n ≤ 150) (Cn : qCon I) (X : tX T n I 0) : match aLawT T n with
    | .inr L => ∃ J, qRun d 39 [.ref l, .ref 65] (qw g I) (.inl (some (.int (qb true)), qw g J)) ∧ qRL L J l ∧ lF l I J ∧ J 65 5 = qj (-1)
    | .inl e => ∃ J, qRun d 39 [.ref l, .ref 65] (qw g I) (.inl (some (.int (qb false)), qw g J)) ∧ tE J e ∧ lF l I J := by
  have hlb : l = 125 ∨ l = 128 := hl
  have R0 : qRL ((0, fun _ => 0) : qLw) (qup I l 1 (qj 0)) l := ⟨by rw [qup_at, if_pos rfl]; rfl, fun i hi => absurd hi (Nat.not_lt_zero i)⟩
  have f0 : lF l I (qup I l 1 (qj 0)) := ⟨fun a p q r => qup_ne q, by rw [qup_ne (by omega)]⟩
  have k40 := (cLw (g := g) (T := T) hl hn (3 * n + 3)).1 0 (0, fun _ => 0) 0 (qup I l 1 (qj 0)) (d - 1) (by omega) (by omega) (lF_con hl f0 Cn) (tX_w X (by omega) (by omega)) R0 (Nat.le_refl _) (by omega)
  unfold aLawT
  cases h1 : aLw T n (3 * n + 3) 0 0 (0, fun _ => 0) 0 with
  | inl e =>
    rw [h1] at k40
    obtain ⟨J, k, e1, e2⟩ := k40
    exact ⟨J, qRun_of fun Q hQ => b39_0 hl (by omega) ⟨_, J, k, fun _ => hQ, fun q => Bool.noConfusion q⟩, e1, lF_tr f0 e2⟩
  | inr q =>
    rw [h1] at k40
    obtain ⟨J1, k1, x1, R1, f1⟩ := k40
    obtain ⟨J3, k3, x3, t3, -⟩ := c76 (d := d - 1) (g := g) (by omega) x1
    simp only []
    by_cases c : n ≤ tBl T n q.2
    · rw [if_pos c]
      rw [decide_eq_true c] at k3
      exact ⟨J3, qRun_of fun Q hQ => b39_0 hl (by omega) ⟨_, J1, k1, fun q => Bool.noConfusion q, fun _ => ⟨_, J3, k3, fun _ => hQ, fun q => Bool.noConfusion q⟩⟩, qRL_t hl R1 t3, lF_tr f0 (lF_tr f1 (lF_t t3)), x3.2.2.2.2.1.2⟩
    · rw [if_neg c]
      rw [decide_eq_false c] at k3
      refine ⟨qup (qup J3 65 4 (qj 1)) 65 5 (J3 65 3), qRun_of fun Q hQ => b39_0 hl (by omega) ⟨_, J1, k1, fun q => Bool.noConfusion q, fun _ => ⟨_, J3, k3, fun q => Bool.noConfusion q, fun _ => hQ⟩⟩, ⟨?_, ?_⟩, lF_tr f0 (lF_tr f1 (lF_t (tF_tr t3 (tF_tr (tF_u (by omega)) (tF_u (by omega))))))⟩
      · rw [qup_at, if_neg (by omega), qup_at, if_pos rfl]; rfl
      · rw [qup_at, if_pos rfl]; exact x3.2.2.2.1
theorem f87 (hd : 152 ≤ d) (X : qAbs F L B S S0 Im C T) (H : qCls g I F L B S S0 Im C T P) {z : Int} (hz : -2147483648 ≤ z ∧ z < 2147483648) : qCT d 87 [.ref 64, .int (qj z)] g I T (rLaw F L B S S0 Im C T z) := by
  have W := X.1
  have c4 := X.2.2.2.2.2.2.2.2.1
  have c1 := X.2.2.2.2.2.2.2.1
  have hT := X.2.2.2.2.2.2.2.2.2
  obtain ⟨h1, h2, h3, h4, h5, h6, h7, h8, h9, h10, h11, h12, h13, h14, h15⟩ := H
  obtain ⟨o1, o2, o3, o4, o5, o6, o7, o8, o9⟩ := h1
  have p1 : g.2.2.1 1 = 67 ∨ g.2.2.1 1 = 96 := o1
  have p3 : g.2.2.1 3 = 125 ∨ g.2.2.1 3 = 128 := o4
  have p4 : g.2.2.1 4 = 125 ∨ g.2.2.1 4 = 128 := o5
  have p5 : g.2.2.1 5 = 131 ∨ g.2.2.1 5 = 135 := o7
  unfold rLaw
  by_cases h : (0 ≤ z ∧ z ≤ C 4) ∧ z ≤ 150
  · rw [if_pos h]
    obtain ⟨n, rfl⟩ : ∃ n : Nat, z = n := ⟨z.toNat, by omega⟩
    rw [Int.toNat_natCast]
    obtain ⟨J1, a1, a2, a3, a4⟩ := c72 (d := d - 1) (g := g) (n := n) (T := T) (I := I) (by omega) (by omega) (fun j hj => hT j (by omega)) (fun j hj => h13 j (by omega))
    have k39 := c39 (d := d - 1) (g := g) (by omega) o5 (by omega) (qCon_cg h15 (fun a ha => a4 a (by omega))) a2
    have start : ∀ (v : Bool) (J2 : Nat → Nat → Int32) (Q : qR → Prop), qRun (d - 1) 39 [.ref (g.2.2.1 4), .ref 65] (qw g J1) (.inl (some (.int (qb v)), qw g J2)) → ((v = true → qwq d 87 82 [(0, .ref 64)] [] (qsP (qsP (qw g J2) 64 4 (g.2.2.1 3)) 64 3 (g.2.2.1 4)) Q) ∧ (v = false → Q (.inl (some (.int (J2 65 4 - qj 10)), qw g J2)))) → qwp d 87 [.ref 64, .int (qj (n : Int))] (qw g I) Q := fun v J2 Q k hq => b87_0 o4 o5 rfl rfl (by omega) (by
      rw [h12]
      simp (disch := omega) only [qz0, qj_lt, qj_le, qj_eq, qtk, qfk, qbtt, qbft, qbtf, qbff, qIx_z, qj_nat, true_and, and_true, true_implies, false_implies, not_true_eq_false, not_false_eq_true, Bool.true_eq_false, Bool.false_eq_true]
      exact ⟨J1, a1, v, J2, k, hq⟩)
    cases hr : aLawT T n with
    | inl e =>
      rw [hr] at k39
      obtain ⟨J2, b1, b2, b3⟩ := k39
      have x2 : ∀ a, ¬ a = 65 → ¬ a = g.2.2.1 4 → ¬ a = g.2.2.1 4 + 1 → J2 a = I a := fun a p q r => by rw [b3.1 a p q r, a4 a p]
      refine ⟨g, J2, qRun_of fun Q hQ => start _ _ Q b1 ⟨fun q => Bool.noConfusion q, fun _ => ?_⟩, ⟨rfl, rfl, rfl, rfl⟩, ⟨⟨o1, o2, o3, o4, o5, o6, o7, o8, o9⟩, qRF_cg h2 (fun a p q => x2 a (by omega) (by omega) (by omega)), qRL_cg h3 (fun a p q => x2 a (by omega) (by omega) (by omega)), qRB_cg h4 (fun a p q => x2 a (by omega) (by omega) (by omega)), qRS_cg h5 (fun a p q => x2 a (by omega) (by omega) (by omega)), qRS_cg h6 (fun a p q => x2 a (by omega) (by omega) (by omega)), fun k hk => qRS_cg (h7 k hk) (fun a p q => x2 a (by omega) (by omega) (by omega)), ?_, ?_, ?_, ?_, ?_, fun j hj => absurd hj (Nat.not_lt_zero j), b2.2, qCon_cg h15 (fun a p => x2 a (by omega) (by omega) (by omega))⟩, fun a ha => x2 a (by omega) (by omega) (by omega)⟩
      · rw [b2.1, qj_sub]; exact hQ
      · rw [x2 64 (by omega) (by omega) (by omega)]; exact h8
      · rw [x2 64 (by omega) (by omega) (by omega)]; exact h9
      · rw [x2 64 (by omega) (by omega) (by omega)]; exact h10
      · rw [x2 64 (by omega) (by omega) (by omega)]; exact h11
      · rw [b3.2]; exact a3
    | inr L' =>
      rw [hr] at k39
      obtain ⟨J2, b1, b2, b3, b4⟩ := k39
      have x2 : ∀ a, ¬ a = 65 → ¬ a = g.2.2.1 4 → ¬ a = g.2.2.1 4 + 1 → J2 a = I a := fun a p q r => by rw [b3.1 a p q r, a4 a p]
      obtain ⟨J3, e1, e2, e3, e4, e5⟩ := c147 (d := d - 1) (g := qgW (qgW g 4 (g.2.2.1 3)) 3 (g.2.2.1 4)) (by omega) W (qRS_cg h5 (fun a p q => x2 a (by omega) (by omega) (by omega)))
      have i3 : (qgW (qgW g 4 (g.2.2.1 3)) 3 (g.2.2.1 4)).2.2.1 3 = g.2.2.1 4 := rfl
      have y2 : ∀ a, ¬ (139 ≤ a ∧ a < 171) → ¬ a = 64 → ¬ a = g.2.2.1 4 + 2 → J3 a = J2 a := fun a p q r => e5.1 a p q r
      have y3 : ∀ a, ¬ a = 65 → ¬ (g.2.2.1 4 ≤ a ∧ a < g.2.2.1 4 + 3) → ¬ a = 64 → ¬ (139 ≤ a ∧ a < 171) → J3 a = I a := fun a p q r s => by rw [y2 a s r (by omega), x2 a p (by omega) (by omega)]
      have y64 : ∀ j, ¬ j = 9 → J3 64 j = I 64 j := fun j hj => by rw [e5.2 j hj, x2 64 (by omega) (by omega) (by omega)]
      have RF3 : qRF F J3 (g.2.2.1 1) := qRF_cg h2 (fun a p q => y3 a (by omega) (by omega) (by omega) (by omega))
      have RL3 : qRL L' J3 (g.2.2.1 4) := qRL_cg b2 (fun a p q => y2 a (by omega) (by omega) (by omega))
      have RB3 : qRB B J3 (g.2.2.1 5) := qRB_cg h4 (fun a p q => y3 a (by omega) (by omega) (by omega) (by omega))
      refine ⟨qgW (qgW g 4 (g.2.2.1 3)) 3 (g.2.2.1 4), J3, qRun_of fun Q hQ => start _ _ Q b1 ⟨fun _ => ?_, fun q => Bool.noConfusion q⟩, ⟨rfl, rfl, rfl, rfl⟩, ⟨⟨o1, o2, o3, o5, o4, fun q => o6 q.symm, o7, o8, o9⟩, RF3, RL3, RB3, e2, e3, fun k hk => qRS_cg (h7 k hk) (fun a p q => y3 a (by have : k < C 1 := hk; omega) (by have : k < C 1 := hk; omega) (by omega) (by omega)), e4, ?_, ?_, ?_, ?_, fun j hj => absurd hj (Nat.not_lt_zero j), ?_, qCon_cg h15 (fun a p => y3 a (by omega) (by omega) (by omega) (by omega))⟩, fun a ha => y3 a (by omega) (by omega) (by omega) (by omega)⟩
      · rw [qsP_w (by omega) (by omega), qsP_w (by omega) (by omega)]
        exact b87_82 (by omega) ⟨J3, e1, hQ⟩
      · rw [y64 12 (by omega)]; exact h9
      · rw [y64 16 (by omega)]; exact h10
      · rw [y64 17 (by omega)]; exact h11
      · rw [y2 65 (by omega) (by omega) (by omega), b3.2]; exact a3
      · rw [y2 65 (by omega) (by omega) (by omega)]; exact b4
  · rw [if_neg h]
    show qRun d 87 [.ref 64, .int (qj z)] (qw g I) _
    refine qRun_of fun Q hQ => b87_0 o4 o5 rfl rfl (by omega) ?_
    rw [h12]
    by_cases c : z < 0
    · simp (disch := omega) only [qz0, qj_lt, qj_le, qj_eq, qtk, qfk, qbtt, qbft, qbtf, qbff, qIx_z, qj_nat, true_and, and_true, true_implies, false_implies, not_true_eq_false, not_false_eq_true, Bool.true_eq_false, Bool.false_eq_true]
      exact hQ
    · by_cases c2 : (C 4 : Int) < z
      · simp (disch := omega) only [qz0, qj_lt, qj_le, qj_eq, qtk, qfk, qbtt, qbft, qbtf, qbff, qIx_z, qj_nat, true_and, and_true, true_implies, false_implies, not_true_eq_false, not_false_eq_true, Bool.true_eq_false, Bool.false_eq_true]
        exact hQ
      · simp (disch := omega) only [qz0, qj_lt, qj_le, qj_eq, qtk, qfk, qbtt, qbft, qbtf, qbff, qIx_z, qj_nat, true_and, and_true, true_implies, false_implies, not_true_eq_false, not_false_eq_true, Bool.true_eq_false, Bool.false_eq_true]
        exact hQ
end LAW3
