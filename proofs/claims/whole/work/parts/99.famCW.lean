/-! ===== the family read, the class: the whole call ===== -/
def qgW (g : qG1) (k v : Nat) : qG1 := (g.1, g.2.1, iup g.2.2.1 k v, g.2.2.2)
theorem qPf_W {W W' : Nat → Nat} {a j : Nat} (h64 : ¬ a = 64) (h : W 1000 = W' 1000) : qPf W a j = qPf W' a j := by
  unfold qPf
  cases Nat.blt a 188 with
  | false => rfl
  | true =>
    cases Nat.blt a 125 with
    | false => rfl
    | true =>
      cases Nat.blt a 74 with
      | false => rfl
      | true =>
        cases e : Nat.blt a 64 with
        | true =>
          cases Nat.blt a 7 with
          | false => rfl
          | true =>
            cases Nat.blt a 6 with
            | true => rfl
            | false =>
              cases Nat.beq j 0 with
              | false => rfl
              | true => exact h
        | false =>
          cases Nat.blt a 66 with
          | false => rfl
          | true =>
            cases e2 : Nat.blt a 65 with
            | false => rfl
            | true =>
              have h1 : a + 1 ≤ 65 := Nat.le_of_ble_eq_true e2
              have h2 : ¬ a + 1 ≤ 64 := fun c => by
                have : Nat.blt a 64 = true := Nat.ble_eq_true_of_le c
                rw [this] at e; exact Bool.noConfusion e
              omega
theorem qPf_64 {W : Nat → Nat} {j k v : Nat} (h1 : 1 ≤ k) (h6 : k ≤ 6) : qPf (iup W k v) 64 j = if j = k then v else qPf W 64 j := by
  by_cases hj : j < 8
  · have hk : k = 1 ∨ k = 2 ∨ k = 3 ∨ k = 4 ∨ k = 5 ∨ k = 6 := by omega
    have hj' : j = 0 ∨ j = 1 ∨ j = 2 ∨ j = 3 ∨ j = 4 ∨ j = 5 ∨ j = 6 ∨ j = 7 := by omega
    rcases hj' with rfl | rfl | rfl | rfl | rfl | rfl | rfl | rfl <;> rcases hk with rfl | rfl | rfl | rfl | rfl | rfl <;> rfl
  · rw [if_neg (by omega)]
    unfold qPf
    cases e : Nat.blt j 8 with
    | false => rfl
    | true =>
      have : j + 1 ≤ 8 := Nat.le_of_ble_eq_true e
      omega
theorem qup_Pf {W : Nat → Nat} {k v : Nat} (h1 : 1 ≤ k) (h6 : k ≤ 6) : qup (qPf W) 64 k v = qPf (iup W k v) := by
  funext a j
  by_cases ha : a = 64
  · rw [ha, qPf_64 h1 h6, qup_at]
  · rw [qup_ne ha]
    refine qPf_W ha ?_
    unfold iup
    rw [if_neg (by omega)]
theorem qsP_w {g : qG1} {I : Nat → Nat → Int32} {k v : Nat} (h1 : 1 ≤ k) (h6 : k ≤ 6) : qsP (qw g I) 64 k v = qw (qgW g k v) I := by
  show (_, _, _, qup (qPf g.2.2.1) 64 k v, _) = _
  rw [qup_Pf h1 h6]; rfl
/-- a call of the class that reads a text -/
def qCT (d k : Nat) (as : List Value) (g : qG1) (I : Nat → Nat → Int32) (T : Nat → Nat) : qRt → Prop
  | .inl (v, F, L, B, S, S0, Im, C', P) => ∃ g' I', qRun d k as (qw g I) (.inl (some (.int v), qw g' I')) ∧ (g'.1 = g.1 ∧ g'.2.1 = g.2.1 ∧ g'.2.2.2 = g.2.2.2 ∧ g'.2.2.1 1000 = g.2.2.1 1000) ∧ qCls g' I' F L B S S0 Im C' T P ∧ ∀ a, a < 64 ∨ 245 ≤ a → I' a = I a
  | .inr e => qRun d k as (qw g I) (.inr (e, qw (qgT g) (qup I 64 (16 + e) (I 64 (16 + e) + qj 1))))
section FAMCW
variable {d : Nat} {g : qG1} {I : Nat → Nat → Int32} {F : qFam} {L : qLw} {B : qBk} {S S0 : qSt} {Im : Nat → qSt} {C T : Nat → Nat} {P : Int} {f l b n : Nat}
theorem c72 (hd : 2 ≤ d) (hn : n ≤ 600) (hT : ∀ j, j < n → T j < 256) (h66 : ∀ j, j < n → I 66 j = qj (T j : Int)) : ∃ J, qRun d 72 [.ref 65, .int (qj (n : Int))] (qw g I) (.inl (none, qw g J)) ∧ tX T n J 0 ∧ J 65 1 = qj 0 ∧ ∀ a, ¬ a = 65 → J a = I a := by
  refine ⟨_, qRun_of fun Q hQ => b72_0 (by omega) hQ, ⟨hn, Nat.zero_le _, ?_, ?_, ⟨fun j hj => ?_, ?_⟩, hT⟩, ?_, fun a p => ?_⟩
  · rw [qmin_z (by omega) (by omega) (by omega) (by omega), show min (n : Int) 600 = n by omega]
    simp only [qup_at]; rfl
  · simp only [qup_at]; rfl
  · rw [qup_ne (by omega), qup_ne (by omega), qup_ne (by omega), qup_ne (by omega), qup_ne (by omega), qup_ne (by omega)]; exact h66 j hj
  · simp only [qup_at]; rfl
  · simp only [qup_at]; rfl
  · rw [qup_ne p, qup_ne p, qup_ne p, qup_ne p, qup_ne p, qup_ne p]
theorem c38 (hd : 1 ≤ d) (hl : qisL l) {i : Nat} (hi : i < 150) (e : I l 1 = qj (i : Int)) (v : Int32) : qRun d 38 [.ref l, .int v] (qw g I) (.inl (some (.int (qb true)), qw g (qup (qup I (l + 1) i v) l 1 (qj ((i + 1 : Nat) : Int))))) := by
  refine qRun_of fun Q hQ => b38_0 hl (by omega) ?_
  rw [e]
  simp (disch := omega) only [qz0, qj_lt, qj_le, qj_eq, qtk, qfk, qbtt, qbft, qbtf, qbff, qIx_z, qj_nat, true_and, and_true, true_implies, false_implies, not_true_eq_false, not_false_eq_true, Bool.true_eq_false, Bool.false_eq_true]
  rw [qup_ne (by omega), e, qj_add]
  exact hQ
theorem c37 (hd : 2 ≤ d) (hl : qisL l) (Cn : qCon I) : ∃ J, qRun d 37 [.ref l] (qw g I) (.inl (none, qw g J)) ∧ qRL qL0 J l ∧ ∀ a, ¬ a = l → ¬ a = l + 1 → J a = I a := by
  have hlb : l = 125 ∨ l = 128 := hl
  have key : ∀ i : Nat, i ≤ 9 → ∀ K : Nat → Nat → Int32, K l 1 = qj (i : Int) → (∀ j, j < i → K (l + 1) j = qj (qL0.2 j : Int)) → (∀ a, ¬ a = l → ¬ a = l + 1 → K a = I a) →
      ∃ J, (qRL qL0 J l ∧ ∀ a, ¬ a = l → ¬ a = l + 1 → J a = I a) ∧ ∀ Q : qR → Prop, Q (.inl (none, qw g J)) → qwq d 37 7 [(0, .ref l), (1, .int (qj (i : Int)))] [] (qw g K) Q := by
    refine upto _ (fun K h1 h2 h3 => ⟨K, ⟨⟨h1, h2⟩, h3⟩, fun Q hQ => b37_7 hl (by omega) ?_⟩) (fun i hi ih K h1 h2 h3 => ?_)
    · simp (disch := omega) only [qz0, qj_lt, qj_le, qj_eq, qtk, qfk, qbtt, qbft, qbtf, qbff, qIx_z, qj_nat, true_and, and_true, true_implies, false_implies, not_true_eq_false, not_false_eq_true, Bool.true_eq_false, Bool.false_eq_true]
      exact hQ
    · obtain ⟨J, q1, q2⟩ := ih (qup (qup K (l + 1) i (qj (qL0.2 i : Int))) l 1 (qj ((i + 1 : Nat) : Int))) (by rw [qup_at, if_pos rfl]) (fun j hj => by
        rw [qup_ne (by omega), qup_at]
        by_cases e : j = i
        · rw [if_pos e, e]
        · rw [if_neg e]; exact h2 j (by omega)) (fun a p q => by rw [qup_ne p, qup_ne q]; exact h3 a p q)
      have e2 : K 2 i = qj (qL0.2 i : Int) := by rw [h3 2 (by omega) (by omega)]; exact Cn.2.1 i hi
      have k38 := c38 (d := d - 1) (g := g) (by omega) hl (i := i) (by omega) h1 (qj (qL0.2 i : Int))
      refine ⟨J, q1, fun Q hQ => b37_7 hl (by omega) ?_⟩
      simp (disch := omega) only [qz0, qj_lt, qj_le, qj_eq, qtk, qfk, qbtt, qbft, qbtf, qbff, qIx_z, qj_nat, true_and, and_true, true_implies, false_implies, not_true_eq_false, not_false_eq_true, Bool.true_eq_false, Bool.false_eq_true, e2, qj_add, qj_s1]
      exact ⟨_, _, k38, q2 Q hQ⟩
  obtain ⟨J, q1, q2⟩ := key 0 (Nat.zero_le _) (qup I l 1 (qj ((0 : Nat) : Int))) (by rw [qup_at, if_pos rfl]) (fun j hj => absurd hj (Nat.not_lt_zero j)) (fun a p q => qup_ne p)
  exact ⟨J, qRun_of fun Q hQ => b37_0 hl (by omega) (q2 Q hQ), q1.1, q1.2⟩
theorem c146 (hd : 3 ≤ d) (hf : qisF f) (hl : qisL l) (hb : qisB b) (wf : g.2.2.1 1 = f) (wl : g.2.2.1 3 = l) (wb : g.2.2.1 5 = b) (R : qRF F I f) (W : qWF F) (Cn : qCon I) :
    ∃ J, qRun d 146 [.ref 64] (qw g I) (.inl (none, qw g J)) ∧ qRL qL0 J l ∧ J b 0 = qj 0 ∧ J 64 12 = qj 0 ∧ J 64 9 = qj 0 ∧ qRS F J 139 (aTold F) ∧ qRS F J 155 (aTold F) ∧ (∀ a, ¬ (l ≤ a ∧ a < l + 3) → ¬ a = b → ¬ a = 64 → ¬ (139 ≤ a ∧ a < 171) → J a = I a) ∧ ∀ j, ¬ j = 9 → ¬ j = 12 → J 64 j = I 64 j := by
  have hlb : l = 125 ∨ l = 128 := hl
  have hfb : f = 67 ∨ f = 96 := hf
  have hbb : b = 131 ∨ b = 135 := hb
  obtain ⟨J1, k1, k2, k3⟩ := c37 (d := d - 1) (g := g) (by omega) hl Cn
  have x1 : ∀ a, ¬ a = l → ¬ a = l + 1 → ¬ a = b → ¬ a = 64 → qup (qup J1 b 0 (qj 0)) 64 12 (qj 0) a = I a := fun a p q r s => by rw [qup_ne s, qup_ne r]; exact k3 a p q
  obtain ⟨J2, m1, m2, m3⟩ := c52 (d := d - 1) (g := g) (I := qup (qup J1 b 0 (qj 0)) 64 12 (qj 0)) (by omega) (show qisS 139 by unfold qisS; omega) hf W (qRF_cg R (fun a p q => x1 a (by omega) (by omega) (by omega) (by omega)))
  obtain ⟨J3, n1, n2, n3, n4, n5⟩ := c147 (d := d - 1) (g := g) (by omega) W m2
  refine ⟨J3, qRun_of fun Q hQ => b146_0 hb hf hl wf wl wb (by omega) ⟨J1, k1, J2, m1, J3, n1, hQ⟩, ?_, ?_, ?_, n4, n2, n3, fun a p q r s => ?_, fun j p q => ?_⟩
  · refine qRL_cg k2 (fun a p q => ?_)
    rw [n5.1 a (by omega) (by omega) (by rw [wl]; omega), m3 a (by omega), qup_ne (by omega), qup_ne (by omega)]
  · rw [n5.1 b (by omega) (by omega) (by rw [wl]; omega), m3 b (by omega), qup_ne (by omega), qup_at, if_pos rfl]
  · rw [n5.2 12 (by omega), m3 64 (by omega), qup_at, if_pos rfl]
  · rw [n5.1 a s r (by rw [wl]; omega), m3 a (by omega)]; exact x1 a (by omega) (by omega) q r
  · rw [n5.2 j p, m3 64 (by omega), qup_at, if_neg q, qup_ne (by omega), k3 64 (by omega) (by omega)]
theorem f86 (hd : 9 ≤ d) (X : qAbs F L B S S0 Im C T) (H : qCls g I F L B S S0 Im C T P) {z : Int} (hz : -2147483648 ≤ z ∧ z < 2147483648) : qCT d 86 [.ref 64, .int (qj z)] g I T (rFam F L B S S0 Im C T z) := by
  have W := X.1
  have c4 := X.2.2.2.2.2.2.2.2.1
  have c1 := X.2.2.2.2.2.2.2.1
  have hT := X.2.2.2.2.2.2.2.2.2
  obtain ⟨h1, h2, h3, h4, h5, h6, h7, h8, h9, h10, h11, h12, h13, h14, h15⟩ := H
  obtain ⟨o1, o2, o3, o4, o5, o6, o7, o8, o9⟩ := h1
  have p1 : g.2.2.1 1 = 67 ∨ g.2.2.1 1 = 96 := o1
  have p2 : g.2.2.1 2 = 67 ∨ g.2.2.1 2 = 96 := o2
  have p3 : g.2.2.1 3 = 125 ∨ g.2.2.1 3 = 128 := o4
  have p5 : g.2.2.1 5 = 131 ∨ g.2.2.1 5 = 135 := o7
  unfold rFam
  by_cases h : 0 ≤ z ∧ z ≤ C 4
  · rw [if_pos h]
    obtain ⟨n, rfl⟩ : ∃ n : Nat, z = n := ⟨z.toNat, by omega⟩
    rw [Int.toNat_natCast]
    obtain ⟨J1, a1, a2, a3, a4⟩ := c72 (d := d - 1) (g := g) (n := n) (T := T) (I := I) (by omega) (by omega) (fun j hj => hT j (by omega)) (fun j hj => h13 j (by omega))
    have k17 := c17 (d := d - 1) (g := g) (by omega) o2 (qCon_cg h15 (fun a ha => a4 a (by omega))) a2
    have start : ∀ (v : Bool) (J2 : Nat → Nat → Int32) (Q : qR → Prop), qRun (d - 1) 17 [.ref (g.2.2.1 2), .ref 65] (qw g J1) (.inl (some (.int (qb v)), qw g J2)) → ((v = true → qwq d 86 75 [(0, .ref 64)] [] (qsP (qsP (qw g J2) 64 2 (g.2.2.1 1)) 64 1 (g.2.2.1 2)) Q) ∧ (v = false → Q (.inl (some (.int (J2 65 4 - qj 10)), qw g J2)))) → qwp d 86 [.ref 64, .int (qj (n : Int))] (qw g I) Q := fun v J2 Q k hq => b86_0 o1 o2 rfl rfl (by omega) (by
      rw [h12]
      simp (disch := omega) only [qz0, qj_lt, qj_le, qj_eq, qtk, qfk, qbtt, qbft, qbtf, qbff, qIx_z, qj_nat, true_and, and_true, true_implies, false_implies, not_true_eq_false, not_false_eq_true, Bool.true_eq_false, Bool.false_eq_true]
      exact ⟨J1, a1, v, J2, k, hq⟩)
    cases hr : aFamT T n 61 0 fam0 0 with
    | inl e =>
      rw [hr] at k17
      obtain ⟨J2, b1, b2, b3⟩ := k17
      have x2 : ∀ a, ¬ a = 65 → ¬ (g.2.2.1 2 ≤ a ∧ a < g.2.2.1 2 + 29) → J2 a = I a := fun a p q => by rw [b3.1 a p q, a4 a p]
      refine ⟨g, J2, qRun_of fun Q hQ => start _ _ Q b1 ⟨fun q => Bool.noConfusion q, fun _ => ?_⟩, ⟨rfl, rfl, rfl, rfl⟩, ⟨⟨o1, o2, o3, o4, o5, o6, o7, o8, o9⟩, qRF_cg h2 (fun a p q => x2 a (by omega) (by omega)), qRL_cg h3 (fun a p q => x2 a (by omega) (by omega)), qRB_cg h4 (fun a p q => x2 a (by omega) (by omega)), qRS_cg h5 (fun a p q => x2 a (by omega) (by omega)), qRS_cg h6 (fun a p q => x2 a (by omega) (by omega)), fun k hk => qRS_cg (h7 k hk) (fun a p q => x2 a (by omega) (by omega)), ?_, ?_, ?_, ?_, ?_, fun j hj => absurd hj (Nat.not_lt_zero j), b2.2, qCon_cg h15 (fun a p => x2 a (by omega) (by omega))⟩, fun a ha => x2 a (by omega) (by omega)⟩
      · rw [b2.1, qj_sub]; exact hQ
      · rw [x2 64 (by omega) (by omega)]; exact h8
      · rw [x2 64 (by omega) (by omega)]; exact h9
      · rw [x2 64 (by omega) (by omega)]; exact h10
      · rw [x2 64 (by omega) (by omega)]; exact h11
      · rw [b3.2]; exact a3
    | inr F' =>
      rw [hr] at k17
      have W' := aFamT_ok _ _ _ _ _ hr fam0_ok (Nat.zero_le _)
      obtain ⟨J2, b1, b2, b3, b4⟩ := k17
      have x2 : ∀ a, ¬ a = 65 → ¬ (g.2.2.1 2 ≤ a ∧ a < g.2.2.1 2 + 29) → J2 a = I a := fun a p q => by rw [b3.1 a p q, a4 a p]
      have Cn2 : qCon J2 := qCon_cg h15 (fun a p => x2 a (by omega) (by omega))
      have i1 : (qgW (qgW g 2 (g.2.2.1 1)) 1 (g.2.2.1 2)).2.2.1 1 = g.2.2.1 2 := rfl
      have i2 : (qgW (qgW g 2 (g.2.2.1 1)) 1 (g.2.2.1 2)).2.2.1 2 = g.2.2.1 1 := rfl
      have i3 : (qgW (qgW g 2 (g.2.2.1 1)) 1 (g.2.2.1 2)).2.2.1 3 = g.2.2.1 3 := rfl
      have i5 : (qgW (qgW g 2 (g.2.2.1 1)) 1 (g.2.2.1 2)).2.2.1 5 = g.2.2.1 5 := rfl
      obtain ⟨J3, e1, e2, e3, e4, e5, e6, e7, e8, e9⟩ := c146 (d := d - 1) (g := qgW (qgW g 2 (g.2.2.1 1)) 1 (g.2.2.1 2)) (by omega) o2 o4 o7 i1 i3 i5 b2 W'.1 Cn2
      have y3 : ∀ a, ¬ a = 65 → ¬ (g.2.2.1 2 ≤ a ∧ a < g.2.2.1 2 + 29) → ¬ (g.2.2.1 3 ≤ a ∧ a < g.2.2.1 3 + 3) → ¬ a = g.2.2.1 5 → ¬ a = 64 → ¬ (139 ≤ a ∧ a < 171) → J3 a = I a := fun a p q r s t u => by rw [e8 a r s t u, x2 a p q]
      have R3 : qRF F' J3 (g.2.2.1 2) := qRF_cg b2 (fun a p q => e8 a (by omega) (by omega) (by omega) (by omega))
      refine ⟨qgW (qgW g 2 (g.2.2.1 1)) 1 (g.2.2.1 2), J3, qRun_of fun Q hQ => start _ _ Q b1 ⟨fun _ => ?_, fun q => Bool.noConfusion q⟩, ⟨rfl, rfl, rfl, rfl⟩, ⟨⟨o2, o1, fun q => o3 q.symm, o4, o5, o6, o7, o8, o9⟩, R3, e2, ⟨e3, fun k hk => absurd hk (Nat.not_lt_zero k)⟩, e6, e7, fun k hk => absurd hk (Nat.not_lt_zero k), e5, e4, ?_, ?_, ?_, fun j hj => absurd hj (Nat.not_lt_zero j), ?_, qCon_cg h15 (fun a p => y3 a (by omega) (by omega) (by omega) (by omega) (by omega) (by omega))⟩, fun a ha => y3 a (by omega) (by omega) (by omega) (by omega) (by omega) (by omega)⟩
      · rw [qsP_w (by omega) (by omega), qsP_w (by omega) (by omega)]
        refine b86_75 (f := g.2.2.1 2) o2 i1 (by omega) ⟨J3, e1, ?_⟩
        rw [R3.2.1]; exact hQ
      · rw [e9 16 (by omega) (by omega), x2 64 (by omega) (by omega)]; exact h10
      · rw [e9 17 (by omega) (by omega), x2 64 (by omega) (by omega)]; exact h11
      · rw [e8 65 (by omega) (by omega) (by omega) (by omega), b3.2]; exact a3
      · rw [e8 65 (by omega) (by omega) (by omega) (by omega)]; exact b4
  · rw [if_neg h]
    show qRun d 86 [.ref 64, .int (qj z)] (qw g I) _
    refine qRun_of fun Q hQ => b86_0 o1 o2 rfl rfl (by omega) ?_
    rw [h12]
    by_cases c : z < 0
    · simp (disch := omega) only [qz0, qj_lt, qj_le, qj_eq, qtk, qfk, qbtt, qbft, qbtf, qbff, qIx_z, qj_nat, true_and, and_true, true_implies, false_implies, not_true_eq_false, not_false_eq_true, Bool.true_eq_false, Bool.false_eq_true]
      exact hQ
    · simp (disch := omega) only [qz0, qj_lt, qj_le, qj_eq, qtk, qfk, qbtt, qbft, qbtf, qbff, qIx_z, qj_nat, true_and, and_true, true_implies, false_implies, not_true_eq_false, not_false_eq_true, Bool.true_eq_false, Bool.false_eq_true]
      exact hQ
end FAMCW
