/-! ===== the law's cases: both called, compared, a step on; the second half by program (wip/whole/gen/mkcase.py) ===== -/
def qInv (xs : Nat → Int32) (Ls t : Nat) (g : qG1) (I : Nat → Nat → Int32) : Prop := qObj g I ∧ g.2.1 = Ls ∧ I 1 = xs ∧ g.1.2.2.1 ≤ 631 + t ∧ g.1.2.2.2 ≤ 6971 + 6 * t
section CASES
variable {d t i Ls kc km c wk dc dm : Nat} {g : qG1} {I : Nat → Nat → Int32} {Q : qR → Prop} {xs : Nat → Int32} {A : Nat → Prop} {V : Int32 → Prop} {zs : List Value}
theorem ixa (hi : i + 7 ≤ Ls) (hL : Ls ≤ 3584) {z : Int} (h1 : 1 ≤ z) (h2 : z ≤ 6) : qIx (qj (i : Int) + qj z) Ls := by
  rw [qj_add]
  exact qIx_z (by omega) (by omega) (by omega)
theorem lcW (hc : c = 1 ∨ c = 2) (U : g.2.1 = Ls ∧ I 1 = xs ∧ g.1.2.2.1 ≤ 631 + t ∧ g.1.2.2.2 ≤ 6971 + 6 * t) (hb : qBo (d - 1 - 1) (d - 1) kc km c A V zs g I)
    (wn : ∀ v g1 I1, qRun (d - 1 - 1) kc (.ref 64 :: zs) (qw g I) (.inl (some (.int v), qw g1 I1)) → qRun (d - 1) wk (.ref 64 :: (zs ++ [.ref 694])) (qw g I) (.inl (some (.int (qj 0)), qw (qgL g1 694 0 v.toInt64) I1)))
    (wt : ∀ e g1 I1, A e → qRun (d - 1 - 1) kc (.ref 64 :: zs) (qw g I) (.inr (e, qw g1 I1)) → qRun (d - 1) wk (.ref 64 :: (zs ++ [.ref 694])) (qw g I) (.inl (some (.int (qj ((if e = 0 then 1 else c : Nat) : Int))), qw g1 I1))) :
    ∃ (v : Int32) (G : qG1) (J : Nat → Nat → Int32), qRun (d - 1) wk (.ref 64 :: (zs ++ [.ref 694])) (qw g I) (.inl (some (.int v), qw G J)) ∧ J 1 = I 1 ∧ G.2.1 = Ls ∧
      ∃ (v2 : Int32) (G2 : qG1) (J2 : Nat → Nat → Int32), qRun (d - 1) km (.ref 245 :: zs) (qw G J) (.inl (some (.int v2), qw G2 J2)) ∧ J2 245 0 = v ∧ (v = 0 → lg_cmp (G2.2.2.2 694 0) v2.toInt64 = 0) ∧ qInv xs Ls (t + 1) G2 J2 := by
  obtain ⟨V1, V2, V3, V4⟩ := U
  rcases hb with ⟨v, g1, I1, hv, a1, ⟨a2, a3, a4⟩, a5⟩ | ⟨e, I1, I2, he, a1, a4, b1, b2, b3, b4⟩
  · obtain ⟨I2, b1, b2, b3, b4⟩ := a5 (qgL g1 694 0 v.toInt64).2.2.2
    refine ⟨qj 0, qgL g1 694 0 v.toInt64, I1, wn v g1 I1 a1, a4, a3.trans V1, v, qgL g1 694 0 v.toInt64, I2, b1, b3, fun _ => ?_, qObj_l b4 rfl, a3.trans V1, b2.trans V2, ?_, ?_⟩
    · rw [lg_0]
      show qup g1.2.2.2 694 0 v.toInt64 694 0 = _
      rw [qup_at, if_pos rfl]
    · show g1.1.2.2.1 ≤ _
      rw [a2]; omega
    · show g1.1.2.2.2 ≤ _
      rw [a2]; omega
  · refine ⟨_, qgT g, I1, wt e (qgT g) I1 he a1, a4, V1, qj 0, qgT g, I2, b1, b3, fun q => ?_, qObj_l b4 rfl, V1, b2.trans V2, ?_, ?_⟩
    · exfalso
      have h2 : (if e = 0 then 1 else c : Nat) = 1 ∨ (if e = 0 then 1 else c : Nat) = 2 := by
        split
        · exact Or.inl rfl
        · exact hc
      rcases h2 with h2 | h2 <;> (rw [h2] at q; exact absurd q (by decide))
    · show g.1.2.2.1 + 1 ≤ _
      omega
    · show g.1.2.2.2 + 6 ≤ _
      omega
theorem lcB (hc : c = 1 ∨ c = 2) (U : g.2.1 = Ls ∧ I 1 = xs ∧ g.1.2.2.1 ≤ 631 + t ∧ g.1.2.2.2 ≤ 6971 + 6 * t) (hb : qBo (d - 1 - 1) (d - 1) kc km c A (fun v => ∃ b : Bool, v = qb b) zs g I)
    (wn : ∀ (v : Bool) g1 I1, qRun (d - 1 - 1) kc (.ref 64 :: zs) (qw g I) (.inl (some (.int (qb v)), qw g1 I1)) → qRun (d - 1) wk (.ref 64 :: (zs ++ [.ref 694])) (qw g I) (.inl (some (.int (qj 0)), qw (qgL g1 694 0 (qb v).toInt64) I1)))
    (wt : ∀ e g1 I1, A e → qRun (d - 1 - 1) kc (.ref 64 :: zs) (qw g I) (.inr (e, qw g1 I1)) → qRun (d - 1) wk (.ref 64 :: (zs ++ [.ref 694])) (qw g I) (.inl (some (.int (qj ((if e = 0 then 1 else c : Nat) : Int))), qw g1 I1))) :
    ∃ (v : Int32) (G : qG1) (J : Nat → Nat → Int32), qRun (d - 1) wk (.ref 64 :: (zs ++ [.ref 694])) (qw g I) (.inl (some (.int v), qw G J)) ∧ J 1 = I 1 ∧ G.2.1 = Ls ∧
      ∃ (v2 : Bool) (G2 : qG1) (J2 : Nat → Nat → Int32), qRun (d - 1) km (.ref 245 :: zs) (qw G J) (.inl (some (.int (qb v2)), qw G2 J2)) ∧ J2 245 0 = v ∧ (v = 0 → lg_cmp (G2.2.2.2 694 0) (qb v2).toInt64 = 0) ∧ qInv xs Ls (t + 1) G2 J2 := by
  obtain ⟨V1, V2, V3, V4⟩ := U
  rcases hb with ⟨v, g1, I1, ⟨b, rfl⟩, a1, ⟨a2, a3, a4⟩, a5⟩ | ⟨e, I1, I2, he, a1, a4, b1, b2, b3, b4⟩
  · obtain ⟨I2, b1, b2, b3, b4⟩ := a5 (qgL g1 694 0 (qb b).toInt64).2.2.2
    refine ⟨qj 0, qgL g1 694 0 (qb b).toInt64, I1, wn b g1 I1 a1, a4, a3.trans V1, b, qgL g1 694 0 (qb b).toInt64, I2, b1, b3, fun _ => ?_, qObj_l b4 rfl, a3.trans V1, b2.trans V2, ?_, ?_⟩
    · rw [lg_0]
      show qup g1.2.2.2 694 0 (qb b).toInt64 694 0 = _
      rw [qup_at, if_pos rfl]
    · show g1.1.2.2.1 ≤ _
      rw [a2]; omega
    · show g1.1.2.2.2 ≤ _
      rw [a2]; omega
  · refine ⟨_, qgT g, I1, wt e (qgT g) I1 he a1, a4, V1, false, qgT g, I2, b1, b3, fun q => ?_, qObj_l b4 rfl, V1, b2.trans V2, ?_, ?_⟩
    · exfalso
      have h2 : (if e = 0 then 1 else c : Nat) = 1 ∨ (if e = 0 then 1 else c : Nat) = 2 := by
        split
        · exact Or.inl rfl
        · exact hc
      rcases h2 with h2 | h2 <;> (rw [h2] at q; exact absurd q (by decide))
    · show g.1.2.2.1 + 1 ≤ _
      omega
    · show g.1.2.2.2 + 6 ≤ _
      omega
theorem lcD (U : g.2.1 = Ls ∧ I 1 = xs ∧ g.1.2.2.1 ≤ 631 + t ∧ g.1.2.2.2 ≤ 6971 + 6 * t) (hb : qBo (d - 1) (d - 1) kc km c (fun _ => False) V zs g I) :
    ∃ (v : Int32) (G : qG1) (J : Nat → Nat → Int32), qRun (d - 1) kc (.ref 64 :: zs) (qw g I) (.inl (some (.int v), qw G J)) ∧ J 1 = I 1 ∧ G.2.1 = Ls ∧
      ∃ J2, qRun (d - 1) km (.ref 245 :: zs) (qw G J) (.inl (some (.int v), qw G J2)) ∧ qInv xs Ls (t + 1) G J2 := by
  obtain ⟨V1, V2, V3, V4⟩ := U
  rcases hb with ⟨v, g1, I1, hv, a1, ⟨a2, a3, a4⟩, a5⟩ | ⟨e, I1, I2, he, -⟩
  · obtain ⟨I2, b1, b2, b3, b4⟩ := a5 g1.2.2.2
    refine ⟨v, g1, I1, a1, a4, a3.trans V1, I2, b1, b4, a3.trans V1, b2.trans V2, ?_, ?_⟩
    · rw [a2]; omega
    · rw [a2]; omega
  · exact he.elim
theorem lc_276 (hd : 300 ≤ d) (hi : i + 7 ≤ Ls) (hL : Ls ≤ 3584) (V : qInv xs Ls t g I) (go : ∀ g2 I2, qInv xs Ls (t + 1) g2 I2 → qwq d 348 3171 [(0, .ref 1), (1, .ref 64), (2, .ref 245), (3, .ref 694), (4, .int (qj (i : Int)))] [] (qw g2 I2) Q) : qwq d 348 276 [(0, .ref 1), (1, .ref 64), (2, .ref 245), (3, .ref 694), (4, .int (qj (i : Int)))] [] (qw g I) Q := by
  obtain ⟨⟨F, L, B, S, S0, Im, C, T, P, O⟩, V1, V2, V3, V4⟩ := V
  have ix : ∀ z : Int, 1 ≤ z → z ≤ 6 → qIx (qj (i : Int) + qj z) Ls := fun z h1 h2 => ixa hi hL h1 h2
  have hb : qBo (d - 1) (d - 1) 85 173 1 (fun e => False) (fun _ => True) [.int (I 1 (qj (i : Int) + qj 1).toNatClampNeg), .int (I 1 (qj (i : Int) + qj 2).toNatClampNeg), .int (I 1 (qj (i : Int) + qj 3).toNatClampNeg), .int (I 1 (qj (i : Int) + qj 4).toNatClampNeg), .int (I 1 (qj (i : Int) + qj 5).toNatClampNeg)] g I := qBo_F (dc := d - 1) (dm := d - 1) (A := fun e => False) O (by omega) (by omega)
  obtain ⟨v, G, J, k1, k2, k3, J2, k4, k7⟩ := lcD ⟨V1, V2, V3, V4⟩ hb
  exact b348_276 (by omega) ⟨by rw [V1]; exact ix 1 (by omega) (by omega), by rw [V1]; exact ix 2 (by omega) (by omega), by rw [V1]; exact ix 3 (by omega) (by omega), by rw [V1]; exact ix 4 (by omega) (by omega), by rw [V1]; exact ix 5 (by omega) (by omega), v, G, J, k1, by rw [k3]; exact ix 1 (by omega) (by omega), by rw [k3]; exact ix 2 (by omega) (by omega), by rw [k3]; exact ix 3 (by omega) (by omega), by rw [k3]; exact ix 4 (by omega) (by omega), by rw [k3]; exact ix 5 (by omega) (by omega), v, G, J2, by rw [k2]; exact k4, ⟨fun _ => go _ _ k7, fun q => absurd rfl q⟩⟩
theorem lc_349 (hd : 300 ≤ d) (hi : i + 7 ≤ Ls) (hL : Ls ≤ 3584) (V : qInv xs Ls t g I) (go : ∀ g2 I2, qInv xs Ls (t + 1) g2 I2 → qwq d 348 3171 [(0, .ref 1), (1, .ref 64), (2, .ref 245), (3, .ref 694), (4, .int (qj (i : Int)))] [] (qw g2 I2) Q) : qwq d 348 349 [(0, .ref 1), (1, .ref 64), (2, .ref 245), (3, .ref 694), (4, .int (qj (i : Int)))] [] (qw g I) Q := by
  obtain ⟨⟨F, L, B, S, S0, Im, C, T, P, O⟩, V1, V2, V3, V4⟩ := V
  have ix : ∀ z : Int, 1 ≤ z → z ≤ 6 → qIx (qj (i : Int) + qj z) Ls := fun z h1 h2 => ixa hi hL h1 h2
  obtain ⟨z1, y1, b1⟩ := qj_ex (I 1 (qj (i : Int) + qj 1).toNatClampNeg)
  have hA : ∀ e, (rFam F L B S S0 Im C T z1) = .inr e → (e = 1) ∧ e < 2 := by
    intro e h
    unfold rFam at h
    repeat' first | exact inl_inr h | split at h
    all_goals (cases h; decide)
  have hb : qBo (d - 1 - 1) (d - 1) 86 199 1 (fun e => e = 1) (fun _ => True) [.int (qj z1)] g I := qBo_T (dc := d - 1 - 1) (dm := d - 1) (kc := 86) (km := 199) (A := fun e => e = 1) (V := (fun _ => True)) (zs := [.int (qj z1)]) O hA (fun _ => trivial) (xFam O) (f86 (by omega) O.1 O.2.1 b1) (fun g2 I1 K => r199 (by omega) O.1 K b1)
  obtain ⟨v, G, J, k1, k2, k3, v2, G2, J2, k4, k5, k6, k7⟩ := lcW (wk := 307) (by omega) ⟨V1, V2, V3, V4⟩ hb (fun v g1 I1 h => w307_n (by omega) h) (fun e g1 I1 he h => by subst he; exact w307_t1 (by omega) h)
  exact b348_349 (by omega) ⟨by rw [V1]; exact ix 1 (by omega) (by omega), v, G, J, by rw [y1]; exact k1, by rw [k3]; exact ix 1 (by omega) (by omega), v2, G2, J2, by rw [k2, y1]; exact k4, ⟨fun _ => ⟨fun _ => go _ _ k7, fun q => ⟨fun _ => go _ _ k7, fun q2 => absurd (k6 (Classical.byContradiction q)) q2⟩⟩, fun q => absurd k5 q⟩⟩
theorem lc_405 (hd : 300 ≤ d) (hi : i + 7 ≤ Ls) (hL : Ls ≤ 3584) (V : qInv xs Ls t g I) (go : ∀ g2 I2, qInv xs Ls (t + 1) g2 I2 → qwq d 348 3171 [(0, .ref 1), (1, .ref 64), (2, .ref 245), (3, .ref 694), (4, .int (qj (i : Int)))] [] (qw g2 I2) Q) : qwq d 348 405 [(0, .ref 1), (1, .ref 64), (2, .ref 245), (3, .ref 694), (4, .int (qj (i : Int)))] [] (qw g I) Q := by
  obtain ⟨⟨F, L, B, S, S0, Im, C, T, P, O⟩, V1, V2, V3, V4⟩ := V
  have ix : ∀ z : Int, 1 ≤ z → z ≤ 6 → qIx (qj (i : Int) + qj z) Ls := fun z h1 h2 => ixa hi hL h1 h2
  obtain ⟨z1, y1, b1⟩ := qj_ex (I 1 (qj (i : Int) + qj 1).toNatClampNeg)
  have hA : ∀ e, (rLaw F L B S S0 Im C T z1) = .inr e → (e = 1) ∧ e < 2 := by
    intro e h
    unfold rLaw at h
    repeat' first | exact inl_inr h | split at h
    all_goals (cases h; decide)
  have hb : qBo (d - 1 - 1) (d - 1) 87 210 1 (fun e => e = 1) (fun _ => True) [.int (qj z1)] g I := qBo_T (dc := d - 1 - 1) (dm := d - 1) (kc := 87) (km := 210) (A := fun e => e = 1) (V := (fun _ => True)) (zs := [.int (qj z1)]) O hA (fun _ => trivial) (xLaw O) (f87 (by omega) O.1 O.2.1 b1) (fun g2 I1 K => r210 (by omega) O.1 K b1)
  obtain ⟨v, G, J, k1, k2, k3, v2, G2, J2, k4, k5, k6, k7⟩ := lcW (wk := 308) (by omega) ⟨V1, V2, V3, V4⟩ hb (fun v g1 I1 h => w308_n (by omega) h) (fun e g1 I1 he h => by subst he; exact w308_t1 (by omega) h)
  exact b348_405 (by omega) ⟨by rw [V1]; exact ix 1 (by omega) (by omega), v, G, J, by rw [y1]; exact k1, by rw [k3]; exact ix 1 (by omega) (by omega), v2, G2, J2, by rw [k2, y1]; exact k4, ⟨fun _ => ⟨fun _ => go _ _ k7, fun q => ⟨fun _ => go _ _ k7, fun q2 => absurd (k6 (Classical.byContradiction q)) q2⟩⟩, fun q => absurd k5 q⟩⟩
theorem lc_461 (hd : 300 ≤ d) (hi : i + 7 ≤ Ls) (hL : Ls ≤ 3584) (V : qInv xs Ls t g I) (go : ∀ g2 I2, qInv xs Ls (t + 1) g2 I2 → qwq d 348 3171 [(0, .ref 1), (1, .ref 64), (2, .ref 245), (3, .ref 694), (4, .int (qj (i : Int)))] [] (qw g2 I2) Q) : qwq d 348 461 [(0, .ref 1), (1, .ref 64), (2, .ref 245), (3, .ref 694), (4, .int (qj (i : Int)))] [] (qw g I) Q := by
  obtain ⟨⟨F, L, B, S, S0, Im, C, T, P, O⟩, V1, V2, V3, V4⟩ := V
  have ix : ∀ z : Int, 1 ≤ z → z ≤ 6 → qIx (qj (i : Int) + qj z) Ls := fun z h1 h2 => ixa hi hL h1 h2
  obtain ⟨z1, y1, b1⟩ := qj_ex (I 1 (qj (i : Int) + qj 1).toNatClampNeg)
  have hA : ∀ e, (rBok F L B S S0 Im C T z1) = .inr e → (e = 1) ∧ e < 2 := by
    intro e h
    unfold rBok at h
    repeat' first | exact inl_inr h | split at h
    all_goals (cases h; decide)
  have hb : qBo (d - 1 - 1) (d - 1) 88 213 1 (fun e => e = 1) (fun _ => True) [.int (qj z1)] g I := qBo_T (dc := d - 1 - 1) (dm := d - 1) (kc := 88) (km := 213) (A := fun e => e = 1) (V := (fun _ => True)) (zs := [.int (qj z1)]) O hA (fun _ => trivial) (xBok O) (f88 (by omega) O.1 O.2.1 b1) (fun g2 I1 K => r213 (by omega) O.1 K b1)
  obtain ⟨v, G, J, k1, k2, k3, v2, G2, J2, k4, k5, k6, k7⟩ := lcW (wk := 309) (by omega) ⟨V1, V2, V3, V4⟩ hb (fun v g1 I1 h => w309_n (by omega) h) (fun e g1 I1 he h => by subst he; exact w309_t1 (by omega) h)
  exact b348_461 (by omega) ⟨by rw [V1]; exact ix 1 (by omega) (by omega), v, G, J, by rw [y1]; exact k1, by rw [k3]; exact ix 1 (by omega) (by omega), v2, G2, J2, by rw [k2, y1]; exact k4, ⟨fun _ => ⟨fun _ => go _ _ k7, fun q => ⟨fun _ => go _ _ k7, fun q2 => absurd (k6 (Classical.byContradiction q)) q2⟩⟩, fun q => absurd k5 q⟩⟩
theorem lc_517 (hd : 300 ≤ d) (hi : i + 7 ≤ Ls) (hL : Ls ≤ 3584) (V : qInv xs Ls t g I) (go : ∀ g2 I2, qInv xs Ls (t + 1) g2 I2 → qwq d 348 3171 [(0, .ref 1), (1, .ref 64), (2, .ref 245), (3, .ref 694), (4, .int (qj (i : Int)))] [] (qw g2 I2) Q) : qwq d 348 517 [(0, .ref 1), (1, .ref 64), (2, .ref 245), (3, .ref 694), (4, .int (qj (i : Int)))] [] (qw g I) Q := by
  obtain ⟨⟨F, L, B, S, S0, Im, C, T, P, O⟩, V1, V2, V3, V4⟩ := V
  have ix : ∀ z : Int, 1 ≤ z → z ≤ 6 → qIx (qj (i : Int) + qj z) Ls := fun z h1 h2 => ixa hi hL h1 h2
  have hb : qBo (d - 1) (d - 1) 89 214 1 (fun e => False) (fun _ => True) [] g I := qBo_Q (dc := d - 1) (dm := d - 1) (kc := 89) (km := 214) (c := 1) (A := fun e => False) (V := (fun _ => True)) (zs := []) O (fun e h => inl_inr h) (fun _ _ => trivial) (f89 (by omega) O.1 O.2.1) (fun g2 I1 K => r214 (by omega) O.1 K)
  obtain ⟨v, G, J, k1, k2, k3, J2, k4, k7⟩ := lcD ⟨V1, V2, V3, V4⟩ hb
  exact b348_517 (by omega) ⟨v, G, J, k1, v, G, J2, k4, ⟨fun _ => go _ _ k7, fun q => absurd rfl q⟩⟩
theorem lc_530 (hd : 300 ≤ d) (hi : i + 7 ≤ Ls) (hL : Ls ≤ 3584) (V : qInv xs Ls t g I) (go : ∀ g2 I2, qInv xs Ls (t + 1) g2 I2 → qwq d 348 3171 [(0, .ref 1), (1, .ref 64), (2, .ref 245), (3, .ref 694), (4, .int (qj (i : Int)))] [] (qw g2 I2) Q) : qwq d 348 530 [(0, .ref 1), (1, .ref 64), (2, .ref 245), (3, .ref 694), (4, .int (qj (i : Int)))] [] (qw g I) Q := by
  obtain ⟨⟨F, L, B, S, S0, Im, C, T, P, O⟩, V1, V2, V3, V4⟩ := V
  have ix : ∀ z : Int, 1 ≤ z → z ≤ 6 → qIx (qj (i : Int) + qj z) Ls := fun z h1 h2 => ixa hi hL h1 h2
  obtain ⟨z1, y1, b1⟩ := qj_ex (I 1 (qj (i : Int) + qj 1).toNatClampNeg)
  have hA : ∀ e, (rTold F B S z1) = .inr e → (e = 1) ∧ e < 2 := by
    intro e h
    unfold rTold at h
    repeat' first | exact inl_inr h | split at h
    all_goals (cases h; decide)
  have hb : qBo (d - 1 - 1) (d - 1) 90 221 1 (fun e => e = 1) (fun _ => True) [.int (qj z1)] g I := qBo_Q (dc := d - 1 - 1) (dm := d - 1) (kc := 90) (km := 221) (c := 1) (A := fun e => e = 1) (V := (fun _ => True)) (zs := [.int (qj z1)]) O hA (fun _ _ => trivial) (f90 (by omega) O.1 O.2.1 b1) (fun g2 I1 K => r221 (by omega) O.1 K b1)
  obtain ⟨v, G, J, k1, k2, k3, v2, G2, J2, k4, k5, k6, k7⟩ := lcW (wk := 310) (by omega) ⟨V1, V2, V3, V4⟩ hb (fun v g1 I1 h => w310_n (by omega) h) (fun e g1 I1 he h => by subst he; exact w310_t1 (by omega) h)
  exact b348_530 (by omega) ⟨by rw [V1]; exact ix 1 (by omega) (by omega), v, G, J, by rw [y1]; exact k1, by rw [k3]; exact ix 1 (by omega) (by omega), v2, G2, J2, by rw [k2, y1]; exact k4, ⟨fun _ => ⟨fun _ => go _ _ k7, fun q => ⟨fun _ => go _ _ k7, fun q2 => absurd (k6 (Classical.byContradiction q)) q2⟩⟩, fun q => absurd k5 q⟩⟩
theorem lc_586 (hd : 300 ≤ d) (hi : i + 7 ≤ Ls) (hL : Ls ≤ 3584) (V : qInv xs Ls t g I) (go : ∀ g2 I2, qInv xs Ls (t + 1) g2 I2 → qwq d 348 3171 [(0, .ref 1), (1, .ref 64), (2, .ref 245), (3, .ref 694), (4, .int (qj (i : Int)))] [] (qw g2 I2) Q) : qwq d 348 586 [(0, .ref 1), (1, .ref 64), (2, .ref 245), (3, .ref 694), (4, .int (qj (i : Int)))] [] (qw g I) Q := by
  obtain ⟨⟨F, L, B, S, S0, Im, C, T, P, O⟩, V1, V2, V3, V4⟩ := V
  have ix : ∀ z : Int, 1 ≤ z → z ≤ 6 → qIx (qj (i : Int) + qj z) Ls := fun z h1 h2 => ixa hi hL h1 h2
  obtain ⟨z1, y1, b1⟩ := qj_ex (I 1 (qj (i : Int) + qj 1).toNatClampNeg)
  obtain ⟨z2, y2, b2⟩ := qj_ex (I 1 (qj (i : Int) + qj 2).toNatClampNeg)
  have hA : ∀ e, (rHand F S z1 z2) = .inr e → (e = 0 ∨ e = 1) ∧ e < 2 := by
    intro e h
    unfold rHand at h
    repeat' first | exact inl_inr h | split at h
    all_goals (cases h; decide)
  have hb : qBo (d - 1 - 1) (d - 1) 91 223 2 (fun e => e = 0 ∨ e = 1) (fun _ => True) [.int (qj z1), .int (qj z2)] g I := qBo_Q (dc := d - 1 - 1) (dm := d - 1) (kc := 91) (km := 223) (c := 2) (A := fun e => e = 0 ∨ e = 1) (V := (fun _ => True)) (zs := [.int (qj z1), .int (qj z2)]) O hA (fun _ _ => trivial) (f91 (by omega) O.1 O.2.1 b1 b2) (fun g2 I1 K => r223 (by omega) O.1 K b1 b2)
  obtain ⟨v, G, J, k1, k2, k3, v2, G2, J2, k4, k5, k6, k7⟩ := lcW (wk := 311) (by omega) ⟨V1, V2, V3, V4⟩ hb (fun v g1 I1 h => w311_n (by omega) h) (fun e g1 I1 he h => by rcases he with rfl | rfl; exact w311_t0 (by omega) h; exact w311_t1 (by omega) h)
  exact b348_586 (by omega) ⟨by rw [V1]; exact ix 1 (by omega) (by omega), by rw [V1]; exact ix 2 (by omega) (by omega), v, G, J, by rw [y1, y2]; exact k1, by rw [k3]; exact ix 1 (by omega) (by omega), by rw [k3]; exact ix 2 (by omega) (by omega), v2, G2, J2, by rw [k2, y1, y2]; exact k4, ⟨fun _ => ⟨fun _ => go _ _ k7, fun q => ⟨fun _ => go _ _ k7, fun q2 => absurd (k6 (Classical.byContradiction q)) q2⟩⟩, fun q => absurd k5 q⟩⟩
theorem lc_654 (hd : 300 ≤ d) (hi : i + 7 ≤ Ls) (hL : Ls ≤ 3584) (V : qInv xs Ls t g I) (go : ∀ g2 I2, qInv xs Ls (t + 1) g2 I2 → qwq d 348 3171 [(0, .ref 1), (1, .ref 64), (2, .ref 245), (3, .ref 694), (4, .int (qj (i : Int)))] [] (qw g2 I2) Q) : qwq d 348 654 [(0, .ref 1), (1, .ref 64), (2, .ref 245), (3, .ref 694), (4, .int (qj (i : Int)))] [] (qw g I) Q := by
  obtain ⟨⟨F, L, B, S, S0, Im, C, T, P, O⟩, V1, V2, V3, V4⟩ := V
  have ix : ∀ z : Int, 1 ≤ z → z ≤ 6 → qIx (qj (i : Int) + qj z) Ls := fun z h1 h2 => ixa hi hL h1 h2
  obtain ⟨z1, y1, b1⟩ := qj_ex (I 1 (qj (i : Int) + qj 1).toNatClampNeg)
  obtain ⟨z2, y2, b2⟩ := qj_ex (I 1 (qj (i : Int) + qj 2).toNatClampNeg)
  have hA : ∀ e, (rPup F S z1 z2) = .inr e → (e = 0 ∨ e = 1) ∧ e < 2 := by
    intro e h
    unfold rPup at h
    repeat' first | exact inl_inr h | split at h
    all_goals (cases h; decide)
  have hb : qBo (d - 1 - 1) (d - 1) 92 225 2 (fun e => e = 0 ∨ e = 1) (fun _ => True) [.int (qj z1), .int (qj z2)] g I := qBo_Q (dc := d - 1 - 1) (dm := d - 1) (kc := 92) (km := 225) (c := 2) (A := fun e => e = 0 ∨ e = 1) (V := (fun _ => True)) (zs := [.int (qj z1), .int (qj z2)]) O hA (fun _ _ => trivial) (f92 (by omega) O.1 O.2.1 b1 b2) (fun g2 I1 K => r225 (by omega) O.1 K b1 b2)
  obtain ⟨v, G, J, k1, k2, k3, v2, G2, J2, k4, k5, k6, k7⟩ := lcW (wk := 312) (by omega) ⟨V1, V2, V3, V4⟩ hb (fun v g1 I1 h => w312_n (by omega) h) (fun e g1 I1 he h => by rcases he with rfl | rfl; exact w312_t0 (by omega) h; exact w312_t1 (by omega) h)
  exact b348_654 (by omega) ⟨by rw [V1]; exact ix 1 (by omega) (by omega), by rw [V1]; exact ix 2 (by omega) (by omega), v, G, J, by rw [y1, y2]; exact k1, by rw [k3]; exact ix 1 (by omega) (by omega), by rw [k3]; exact ix 2 (by omega) (by omega), v2, G2, J2, by rw [k2, y1, y2]; exact k4, ⟨fun _ => ⟨fun _ => go _ _ k7, fun q => ⟨fun _ => go _ _ k7, fun q2 => absurd (k6 (Classical.byContradiction q)) q2⟩⟩, fun q => absurd k5 q⟩⟩
theorem lc_722 (hd : 300 ≤ d) (hi : i + 7 ≤ Ls) (hL : Ls ≤ 3584) (V : qInv xs Ls t g I) (go : ∀ g2 I2, qInv xs Ls (t + 1) g2 I2 → qwq d 348 3171 [(0, .ref 1), (1, .ref 64), (2, .ref 245), (3, .ref 694), (4, .int (qj (i : Int)))] [] (qw g2 I2) Q) : qwq d 348 722 [(0, .ref 1), (1, .ref 64), (2, .ref 245), (3, .ref 694), (4, .int (qj (i : Int)))] [] (qw g I) Q := by
  obtain ⟨⟨F, L, B, S, S0, Im, C, T, P, O⟩, V1, V2, V3, V4⟩ := V
  have ix : ∀ z : Int, 1 ≤ z → z ≤ 6 → qIx (qj (i : Int) + qj z) Ls := fun z h1 h2 => ixa hi hL h1 h2
  obtain ⟨z1, y1, b1⟩ := qj_ex (I 1 (qj (i : Int) + qj 1).toNatClampNeg)
  obtain ⟨z2, y2, b2⟩ := qj_ex (I 1 (qj (i : Int) + qj 2).toNatClampNeg)
  have hA : ∀ e, (rAct F z1 z2) = .inr e → (e = 0 ∨ e = 1) ∧ e < 2 := by
    intro e h
    unfold rAct at h
    repeat' first | exact inl_inr h | split at h
    all_goals (cases h; decide)
  have hb : qBo (d - 1 - 1) (d - 1) 93 226 2 (fun e => e = 0 ∨ e = 1) (fun _ => True) [.int (qj z1), .int (qj z2)] g I := qBo_Q (dc := d - 1 - 1) (dm := d - 1) (kc := 93) (km := 226) (c := 2) (A := fun e => e = 0 ∨ e = 1) (V := (fun _ => True)) (zs := [.int (qj z1), .int (qj z2)]) O hA (fun _ _ => trivial) (f93 (by omega) O.1 O.2.1 b1 b2) (fun g2 I1 K => r226 (by omega) O.1 K b1 b2)
  obtain ⟨v, G, J, k1, k2, k3, v2, G2, J2, k4, k5, k6, k7⟩ := lcW (wk := 313) (by omega) ⟨V1, V2, V3, V4⟩ hb (fun v g1 I1 h => w313_n (by omega) h) (fun e g1 I1 he h => by rcases he with rfl | rfl; exact w313_t0 (by omega) h; exact w313_t1 (by omega) h)
  exact b348_722 (by omega) ⟨by rw [V1]; exact ix 1 (by omega) (by omega), by rw [V1]; exact ix 2 (by omega) (by omega), v, G, J, by rw [y1, y2]; exact k1, by rw [k3]; exact ix 1 (by omega) (by omega), by rw [k3]; exact ix 2 (by omega) (by omega), v2, G2, J2, by rw [k2, y1, y2]; exact k4, ⟨fun _ => ⟨fun _ => go _ _ k7, fun q => ⟨fun _ => go _ _ k7, fun q2 => absurd (k6 (Classical.byContradiction q)) q2⟩⟩, fun q => absurd k5 q⟩⟩
theorem lc_790 (hd : 300 ≤ d) (hi : i + 7 ≤ Ls) (hL : Ls ≤ 3584) (V : qInv xs Ls t g I) (go : ∀ g2 I2, qInv xs Ls (t + 1) g2 I2 → qwq d 348 3171 [(0, .ref 1), (1, .ref 64), (2, .ref 245), (3, .ref 694), (4, .int (qj (i : Int)))] [] (qw g2 I2) Q) : qwq d 348 790 [(0, .ref 1), (1, .ref 64), (2, .ref 245), (3, .ref 694), (4, .int (qj (i : Int)))] [] (qw g I) Q := by
  obtain ⟨⟨F, L, B, S, S0, Im, C, T, P, O⟩, V1, V2, V3, V4⟩ := V
  have ix : ∀ z : Int, 1 ≤ z → z ≤ 6 → qIx (qj (i : Int) + qj z) Ls := fun z h1 h2 => ixa hi hL h1 h2
  obtain ⟨z1, y1, b1⟩ := qj_ex (I 1 (qj (i : Int) + qj 1).toNatClampNeg)
  obtain ⟨z2, y2, b2⟩ := qj_ex (I 1 (qj (i : Int) + qj 2).toNatClampNeg)
  have hA : ∀ e, (rScore F L S z1 z2) = .inr e → (e = 0) ∧ e < 2 := by
    intro e h
    unfold rScore at h
    repeat' first | exact inl_inr h | split at h
    all_goals (cases h; decide)
  have hb : qBo (d - 1 - 1) (d - 1) 94 230 1 (fun e => e = 0) (fun _ => True) [.int (qj z1), .int (qj z2)] g I := qBo_Q (dc := d - 1 - 1) (dm := d - 1) (kc := 94) (km := 230) (c := 1) (A := fun e => e = 0) (V := (fun _ => True)) (zs := [.int (qj z1), .int (qj z2)]) O hA (fun _ _ => trivial) (f94 (by omega) O.1 O.2.1 b1 b2) (fun g2 I1 K => r230 (by omega) O.1 K b1 b2)
  obtain ⟨v, G, J, k1, k2, k3, v2, G2, J2, k4, k5, k6, k7⟩ := lcW (wk := 314) (by omega) ⟨V1, V2, V3, V4⟩ hb (fun v g1 I1 h => w314_n (by omega) h) (fun e g1 I1 he h => by subst he; exact w314_t0 (by omega) h)
  exact b348_790 (by omega) ⟨by rw [V1]; exact ix 1 (by omega) (by omega), by rw [V1]; exact ix 2 (by omega) (by omega), v, G, J, by rw [y1, y2]; exact k1, by rw [k3]; exact ix 1 (by omega) (by omega), by rw [k3]; exact ix 2 (by omega) (by omega), v2, G2, J2, by rw [k2, y1, y2]; exact k4, ⟨fun _ => ⟨fun _ => go _ _ k7, fun q => ⟨fun _ => go _ _ k7, fun q2 => absurd (k6 (Classical.byContradiction q)) q2⟩⟩, fun q => absurd k5 q⟩⟩
theorem lc_858 (hd : 300 ≤ d) (hi : i + 7 ≤ Ls) (hL : Ls ≤ 3584) (V : qInv xs Ls t g I) (go : ∀ g2 I2, qInv xs Ls (t + 1) g2 I2 → qwq d 348 3171 [(0, .ref 1), (1, .ref 64), (2, .ref 245), (3, .ref 694), (4, .int (qj (i : Int)))] [] (qw g2 I2) Q) : qwq d 348 858 [(0, .ref 1), (1, .ref 64), (2, .ref 245), (3, .ref 694), (4, .int (qj (i : Int)))] [] (qw g I) Q := by
  obtain ⟨⟨F, L, B, S, S0, Im, C, T, P, O⟩, V1, V2, V3, V4⟩ := V
  have ix : ∀ z : Int, 1 ≤ z → z ≤ 6 → qIx (qj (i : Int) + qj z) Ls := fun z h1 h2 => ixa hi hL h1 h2
  obtain ⟨z1, y1, b1⟩ := qj_ex (I 1 (qj (i : Int) + qj 1).toNatClampNeg)
  have hA : ∀ e, (rChs F L S z1) = .inr e → (e = 0) ∧ e < 2 := by
    intro e h
    unfold rChs at h
    repeat' first | exact inl_inr h | split at h
    all_goals (cases h; decide)
  have hb : qBo (d - 1 - 1) (d - 1) 95 233 1 (fun e => e = 0) (fun _ => True) [.int (qj z1)] g I := qBo_Q (dc := d - 1 - 1) (dm := d - 1) (kc := 95) (km := 233) (c := 1) (A := fun e => e = 0) (V := (fun _ => True)) (zs := [.int (qj z1)]) O hA (fun _ _ => trivial) (f95 (by omega) O.1 O.2.1 b1) (fun g2 I1 K => r233 (by omega) O.1 K b1)
  obtain ⟨v, G, J, k1, k2, k3, v2, G2, J2, k4, k5, k6, k7⟩ := lcW (wk := 315) (by omega) ⟨V1, V2, V3, V4⟩ hb (fun v g1 I1 h => w315_n (by omega) h) (fun e g1 I1 he h => by subst he; exact w315_t0 (by omega) h)
  exact b348_858 (by omega) ⟨by rw [V1]; exact ix 1 (by omega) (by omega), v, G, J, by rw [y1]; exact k1, by rw [k3]; exact ix 1 (by omega) (by omega), v2, G2, J2, by rw [k2, y1]; exact k4, ⟨fun _ => ⟨fun _ => go _ _ k7, fun q => ⟨fun _ => go _ _ k7, fun q2 => absurd (k6 (Classical.byContradiction q)) q2⟩⟩, fun q => absurd k5 q⟩⟩
theorem lc_914 (hd : 300 ≤ d) (hi : i + 7 ≤ Ls) (hL : Ls ≤ 3584) (V : qInv xs Ls t g I) (go : ∀ g2 I2, qInv xs Ls (t + 1) g2 I2 → qwq d 348 3171 [(0, .ref 1), (1, .ref 64), (2, .ref 245), (3, .ref 694), (4, .int (qj (i : Int)))] [] (qw g2 I2) Q) : qwq d 348 914 [(0, .ref 1), (1, .ref 64), (2, .ref 245), (3, .ref 694), (4, .int (qj (i : Int)))] [] (qw g I) Q := by
  obtain ⟨⟨F, L, B, S, S0, Im, C, T, P, O⟩, V1, V2, V3, V4⟩ := V
  have ix : ∀ z : Int, 1 ≤ z → z ≤ 6 → qIx (qj (i : Int) + qj z) Ls := fun z h1 h2 => ixa hi hL h1 h2
  obtain ⟨z1, y1, b1⟩ := qj_ex (I 1 (qj (i : Int) + qj 1).toNatClampNeg)
  have hA : ∀ e, (rYrs F L S S0 Im C z1) = .inr e → (e = 1) ∧ e < 2 := by
    intro e h
    unfold rYrs at h
    repeat' first | exact inl_inr h | split at h
    all_goals (cases h; decide)
  have hb : qBo (d - 1 - 1) (d - 1) 96 239 1 (fun e => e = 1) (fun _ => True) [.int (qj z1)] g I := qBo_W (dc := d - 1 - 1) (dm := d - 1) (kc := 96) (km := 239) (c := 1) (A := fun e => e = 1) (V := (fun _ => True)) (zs := [.int (qj z1)]) O hA (fun _ => trivial) (xYrs O) (f96 (by omega) O.1 O.2.1 b1) (fun g2 I1 K => r239 (by omega) O.1 K b1)
  obtain ⟨v, G, J, k1, k2, k3, v2, G2, J2, k4, k5, k6, k7⟩ := lcW (wk := 316) (by omega) ⟨V1, V2, V3, V4⟩ hb (fun v g1 I1 h => w316_n (by omega) h) (fun e g1 I1 he h => by subst he; exact w316_t1 (by omega) h)
  exact b348_914 (by omega) ⟨by rw [V1]; exact ix 1 (by omega) (by omega), v, G, J, by rw [y1]; exact k1, by rw [k3]; exact ix 1 (by omega) (by omega), v2, G2, J2, by rw [k2, y1]; exact k4, ⟨fun _ => ⟨fun _ => go _ _ k7, fun q => ⟨fun _ => go _ _ k7, fun q2 => absurd (k6 (Classical.byContradiction q)) q2⟩⟩, fun q => absurd k5 q⟩⟩
theorem lc_970 (hd : 300 ≤ d) (hi : i + 7 ≤ Ls) (hL : Ls ≤ 3584) (V : qInv xs Ls t g I) (go : ∀ g2 I2, qInv xs Ls (t + 1) g2 I2 → qwq d 348 3171 [(0, .ref 1), (1, .ref 64), (2, .ref 245), (3, .ref 694), (4, .int (qj (i : Int)))] [] (qw g2 I2) Q) : qwq d 348 970 [(0, .ref 1), (1, .ref 64), (2, .ref 245), (3, .ref 694), (4, .int (qj (i : Int)))] [] (qw g I) Q := by
  obtain ⟨⟨F, L, B, S, S0, Im, C, T, P, O⟩, V1, V2, V3, V4⟩ := V
  have ix : ∀ z : Int, 1 ≤ z → z ≤ 6 → qIx (qj (i : Int) + qj z) Ls := fun z h1 h2 => ixa hi hL h1 h2
  obtain ⟨z1, y1, b1⟩ := qj_ex (I 1 (qj (i : Int) + qj 1).toNatClampNeg)
  have hA : ∀ e, (rUnd F L S S0 Im C z1) = .inr e → (e = 1) ∧ e < 2 := by
    intro e h
    unfold rUnd at h
    repeat' first | exact inl_inr h | split at h
    all_goals (cases h; decide)
  have hb : qBo (d - 1 - 1) (d - 1) 97 240 1 (fun e => e = 1) (fun _ => True) [.int (qj z1)] g I := qBo_W (dc := d - 1 - 1) (dm := d - 1) (kc := 97) (km := 240) (c := 1) (A := fun e => e = 1) (V := (fun _ => True)) (zs := [.int (qj z1)]) O hA (fun _ => trivial) (xUnd O) (f97 (by omega) O.1 O.2.1 b1) (fun g2 I1 K => r240 (by omega) O.1 K b1)
  obtain ⟨v, G, J, k1, k2, k3, v2, G2, J2, k4, k5, k6, k7⟩ := lcW (wk := 317) (by omega) ⟨V1, V2, V3, V4⟩ hb (fun v g1 I1 h => w317_n (by omega) h) (fun e g1 I1 he h => by subst he; exact w317_t1 (by omega) h)
  exact b348_970 (by omega) ⟨by rw [V1]; exact ix 1 (by omega) (by omega), v, G, J, by rw [y1]; exact k1, by rw [k3]; exact ix 1 (by omega) (by omega), v2, G2, J2, by rw [k2, y1]; exact k4, ⟨fun _ => ⟨fun _ => go _ _ k7, fun q => ⟨fun _ => go _ _ k7, fun q2 => absurd (k6 (Classical.byContradiction q)) q2⟩⟩, fun q => absurd k5 q⟩⟩
theorem lc_1026 (hd : 300 ≤ d) (hi : i + 7 ≤ Ls) (hL : Ls ≤ 3584) (V : qInv xs Ls t g I) (go : ∀ g2 I2, qInv xs Ls (t + 1) g2 I2 → qwq d 348 3171 [(0, .ref 1), (1, .ref 64), (2, .ref 245), (3, .ref 694), (4, .int (qj (i : Int)))] [] (qw g2 I2) Q) : qwq d 348 1026 [(0, .ref 1), (1, .ref 64), (2, .ref 245), (3, .ref 694), (4, .int (qj (i : Int)))] [] (qw g I) Q := by
  obtain ⟨⟨F, L, B, S, S0, Im, C, T, P, O⟩, V1, V2, V3, V4⟩ := V
  have ix : ∀ z : Int, 1 ≤ z → z ≤ 6 → qIx (qj (i : Int) + qj z) Ls := fun z h1 h2 => ixa hi hL h1 h2
  obtain ⟨z1, y1, b1⟩ := qj_ex (I 1 (qj (i : Int) + qj 1).toNatClampNeg)
  obtain ⟨z2, y2, b2⟩ := qj_ex (I 1 (qj (i : Int) + qj 2).toNatClampNeg)
  have hA : ∀ e, (rSnc F S z1 z2) = .inr e → (e = 0) ∧ e < 2 := by
    intro e h
    unfold rSnc at h
    repeat' first | exact inl_inr h | split at h
    all_goals (cases h; decide)
  have hb : qBo (d - 1 - 1) (d - 1) 98 241 1 (fun e => e = 0) (fun _ => True) [.int (qj z1), .int (qj z2)] g I := qBo_Q (dc := d - 1 - 1) (dm := d - 1) (kc := 98) (km := 241) (c := 1) (A := fun e => e = 0) (V := (fun _ => True)) (zs := [.int (qj z1), .int (qj z2)]) O hA (fun _ _ => trivial) (f98 (by omega) O.1 O.2.1 b1 b2) (fun g2 I1 K => r241 (by omega) O.1 K b1 b2)
  obtain ⟨v, G, J, k1, k2, k3, v2, G2, J2, k4, k5, k6, k7⟩ := lcW (wk := 318) (by omega) ⟨V1, V2, V3, V4⟩ hb (fun v g1 I1 h => w318_n (by omega) h) (fun e g1 I1 he h => by subst he; exact w318_t0 (by omega) h)
  exact b348_1026 (by omega) ⟨by rw [V1]; exact ix 1 (by omega) (by omega), by rw [V1]; exact ix 2 (by omega) (by omega), v, G, J, by rw [y1, y2]; exact k1, by rw [k3]; exact ix 1 (by omega) (by omega), by rw [k3]; exact ix 2 (by omega) (by omega), v2, G2, J2, by rw [k2, y1, y2]; exact k4, ⟨fun _ => ⟨fun _ => go _ _ k7, fun q => ⟨fun _ => go _ _ k7, fun q2 => absurd (k6 (Classical.byContradiction q)) q2⟩⟩, fun q => absurd k5 q⟩⟩
theorem lc_1094 (hd : 300 ≤ d) (hi : i + 7 ≤ Ls) (hL : Ls ≤ 3584) (V : qInv xs Ls t g I) (go : ∀ g2 I2, qInv xs Ls (t + 1) g2 I2 → qwq d 348 3171 [(0, .ref 1), (1, .ref 64), (2, .ref 245), (3, .ref 694), (4, .int (qj (i : Int)))] [] (qw g2 I2) Q) : qwq d 348 1094 [(0, .ref 1), (1, .ref 64), (2, .ref 245), (3, .ref 694), (4, .int (qj (i : Int)))] [] (qw g I) Q := by
  obtain ⟨⟨F, L, B, S, S0, Im, C, T, P, O⟩, V1, V2, V3, V4⟩ := V
  have ix : ∀ z : Int, 1 ≤ z → z ≤ 6 → qIx (qj (i : Int) + qj z) Ls := fun z h1 h2 => ixa hi hL h1 h2
  obtain ⟨z1, y1, b1⟩ := qj_ex (I 1 (qj (i : Int) + qj 1).toNatClampNeg)
  have hA : ∀ e, (rCho F S z1) = .inr e → (e = 0) ∧ e < 2 := by
    intro e h
    unfold rCho at h
    repeat' first | exact inl_inr h | split at h
    all_goals (cases h; decide)
  have hb : qBo (d - 1 - 1) (d - 1) 99 242 1 (fun e => e = 0) (fun _ => True) [.int (qj z1)] g I := qBo_Q (dc := d - 1 - 1) (dm := d - 1) (kc := 99) (km := 242) (c := 1) (A := fun e => e = 0) (V := (fun _ => True)) (zs := [.int (qj z1)]) O hA (fun _ _ => trivial) (f99 (by omega) O.1 O.2.1 b1) (fun g2 I1 K => r242 (by omega) O.1 K b1)
  obtain ⟨v, G, J, k1, k2, k3, v2, G2, J2, k4, k5, k6, k7⟩ := lcW (wk := 319) (by omega) ⟨V1, V2, V3, V4⟩ hb (fun v g1 I1 h => w319_n (by omega) h) (fun e g1 I1 he h => by subst he; exact w319_t0 (by omega) h)
  exact b348_1094 (by omega) ⟨by rw [V1]; exact ix 1 (by omega) (by omega), v, G, J, by rw [y1]; exact k1, by rw [k3]; exact ix 1 (by omega) (by omega), v2, G2, J2, by rw [k2, y1]; exact k4, ⟨fun _ => ⟨fun _ => go _ _ k7, fun q => ⟨fun _ => go _ _ k7, fun q2 => absurd (k6 (Classical.byContradiction q)) q2⟩⟩, fun q => absurd k5 q⟩⟩
theorem lc_1150 (hd : 300 ≤ d) (hi : i + 7 ≤ Ls) (hL : Ls ≤ 3584) (V : qInv xs Ls t g I) (go : ∀ g2 I2, qInv xs Ls (t + 1) g2 I2 → qwq d 348 3171 [(0, .ref 1), (1, .ref 64), (2, .ref 245), (3, .ref 694), (4, .int (qj (i : Int)))] [] (qw g2 I2) Q) : qwq d 348 1150 [(0, .ref 1), (1, .ref 64), (2, .ref 245), (3, .ref 694), (4, .int (qj (i : Int)))] [] (qw g I) Q := by
  obtain ⟨⟨F, L, B, S, S0, Im, C, T, P, O⟩, V1, V2, V3, V4⟩ := V
  have ix : ∀ z : Int, 1 ≤ z → z ≤ 6 → qIx (qj (i : Int) + qj z) Ls := fun z h1 h2 => ixa hi hL h1 h2
  obtain ⟨z1, y1, b1⟩ := qj_ex (I 1 (qj (i : Int) + qj 1).toNatClampNeg)
  obtain ⟨z2, y2, b2⟩ := qj_ex (I 1 (qj (i : Int) + qj 2).toNatClampNeg)
  have hA : ∀ e, (rAhd F L S z1 z2) = .inr e → (e = 0 ∨ e = 1) ∧ e < 2 := by
    intro e h
    unfold rAhd at h
    repeat' first | exact inl_inr h | split at h
    all_goals (cases h; decide)
  have hb : qBo (d - 1 - 1) (d - 1) 100 243 2 (fun e => e = 0 ∨ e = 1) (fun _ => True) [.int (qj z1), .int (qj z2)] g I := qBo_Q (dc := d - 1 - 1) (dm := d - 1) (kc := 100) (km := 243) (c := 2) (A := fun e => e = 0 ∨ e = 1) (V := (fun _ => True)) (zs := [.int (qj z1), .int (qj z2)]) O hA (fun _ _ => trivial) (f100 (by omega) O.1 O.2.1 b1 b2) (fun g2 I1 K => r243 (by omega) O.1 K b1 b2)
  obtain ⟨v, G, J, k1, k2, k3, v2, G2, J2, k4, k5, k6, k7⟩ := lcW (wk := 320) (by omega) ⟨V1, V2, V3, V4⟩ hb (fun v g1 I1 h => w320_n (by omega) h) (fun e g1 I1 he h => by rcases he with rfl | rfl; exact w320_t0 (by omega) h; exact w320_t1 (by omega) h)
  exact b348_1150 (by omega) ⟨by rw [V1]; exact ix 1 (by omega) (by omega), by rw [V1]; exact ix 2 (by omega) (by omega), v, G, J, by rw [y1, y2]; exact k1, by rw [k3]; exact ix 1 (by omega) (by omega), by rw [k3]; exact ix 2 (by omega) (by omega), v2, G2, J2, by rw [k2, y1, y2]; exact k4, ⟨fun _ => ⟨fun _ => go _ _ k7, fun q => ⟨fun _ => go _ _ k7, fun q2 => absurd (k6 (Classical.byContradiction q)) q2⟩⟩, fun q => absurd k5 q⟩⟩
theorem lc_1218 (hd : 300 ≤ d) (hi : i + 7 ≤ Ls) (hL : Ls ≤ 3584) (V : qInv xs Ls t g I) (go : ∀ g2 I2, qInv xs Ls (t + 1) g2 I2 → qwq d 348 3171 [(0, .ref 1), (1, .ref 64), (2, .ref 245), (3, .ref 694), (4, .int (qj (i : Int)))] [] (qw g2 I2) Q) : qwq d 348 1218 [(0, .ref 1), (1, .ref 64), (2, .ref 245), (3, .ref 694), (4, .int (qj (i : Int)))] [] (qw g I) Q := by
  obtain ⟨⟨F, L, B, S, S0, Im, C, T, P, O⟩, V1, V2, V3, V4⟩ := V
  have ix : ∀ z : Int, 1 ≤ z → z ≤ 6 → qIx (qj (i : Int) + qj z) Ls := fun z h1 h2 => ixa hi hL h1 h2
  obtain ⟨z1, y1, b1⟩ := qj_ex (I 1 (qj (i : Int) + qj 1).toNatClampNeg)
  obtain ⟨z2, y2, b2⟩ := qj_ex (I 1 (qj (i : Int) + qj 2).toNatClampNeg)
  have hA : ∀ e, (rWhn F L S z1 z2) = .inr e → (e = 0) ∧ e < 2 := by
    intro e h
    unfold rWhn at h
    repeat' first | exact inl_inr h | split at h
    all_goals (cases h; decide)
  have hb : qBo (d - 1 - 1) (d - 1) 101 244 1 (fun e => e = 0) (fun _ => True) [.int (qj z1), .int (qj z2)] g I := qBo_Q (dc := d - 1 - 1) (dm := d - 1) (kc := 101) (km := 244) (c := 1) (A := fun e => e = 0) (V := (fun _ => True)) (zs := [.int (qj z1), .int (qj z2)]) O hA (fun _ _ => trivial) (f101 (by omega) O.1 O.2.1 b1 b2) (fun g2 I1 K => r244 (by omega) O.1 K b1 b2)
  obtain ⟨v, G, J, k1, k2, k3, v2, G2, J2, k4, k5, k6, k7⟩ := lcW (wk := 321) (by omega) ⟨V1, V2, V3, V4⟩ hb (fun v g1 I1 h => w321_n (by omega) h) (fun e g1 I1 he h => by subst he; exact w321_t0 (by omega) h)
  exact b348_1218 (by omega) ⟨by rw [V1]; exact ix 1 (by omega) (by omega), by rw [V1]; exact ix 2 (by omega) (by omega), v, G, J, by rw [y1, y2]; exact k1, by rw [k3]; exact ix 1 (by omega) (by omega), by rw [k3]; exact ix 2 (by omega) (by omega), v2, G2, J2, by rw [k2, y1, y2]; exact k4, ⟨fun _ => ⟨fun _ => go _ _ k7, fun q => ⟨fun _ => go _ _ k7, fun q2 => absurd (k6 (Classical.byContradiction q)) q2⟩⟩, fun q => absurd k5 q⟩⟩
theorem lc_1286 (hd : 300 ≤ d) (hi : i + 7 ≤ Ls) (hL : Ls ≤ 3584) (V : qInv xs Ls t g I) (go : ∀ g2 I2, qInv xs Ls (t + 1) g2 I2 → qwq d 348 3171 [(0, .ref 1), (1, .ref 64), (2, .ref 245), (3, .ref 694), (4, .int (qj (i : Int)))] [] (qw g2 I2) Q) : qwq d 348 1286 [(0, .ref 1), (1, .ref 64), (2, .ref 245), (3, .ref 694), (4, .int (qj (i : Int)))] [] (qw g I) Q := by
  obtain ⟨⟨F, L, B, S, S0, Im, C, T, P, O⟩, V1, V2, V3, V4⟩ := V
  have ix : ∀ z : Int, 1 ≤ z → z ≤ 6 → qIx (qj (i : Int) + qj z) Ls := fun z h1 h2 => ixa hi hL h1 h2
  obtain ⟨z1, y1, b1⟩ := qj_ex (I 1 (qj (i : Int) + qj 1).toNatClampNeg)
  have hA : ∀ e, (rLst F L S z1) = .inr e → (e = 0) ∧ e < 2 := by
    intro e h
    unfold rLst at h
    repeat' first | exact inl_inr h | split at h
    all_goals (cases h; decide)
  have hb : qBo (d - 1 - 1) (d - 1) 102 245 1 (fun e => e = 0) (fun _ => True) [.int (qj z1)] g I := qBo_Q (dc := d - 1 - 1) (dm := d - 1) (kc := 102) (km := 245) (c := 1) (A := fun e => e = 0) (V := (fun _ => True)) (zs := [.int (qj z1)]) O hA (fun _ _ => trivial) (f102 (by omega) O.1 O.2.1 b1) (fun g2 I1 K => r245 (by omega) O.1 K b1)
  obtain ⟨v, G, J, k1, k2, k3, v2, G2, J2, k4, k5, k6, k7⟩ := lcW (wk := 322) (by omega) ⟨V1, V2, V3, V4⟩ hb (fun v g1 I1 h => w322_n (by omega) h) (fun e g1 I1 he h => by subst he; exact w322_t0 (by omega) h)
  exact b348_1286 (by omega) ⟨by rw [V1]; exact ix 1 (by omega) (by omega), v, G, J, by rw [y1]; exact k1, by rw [k3]; exact ix 1 (by omega) (by omega), v2, G2, J2, by rw [k2, y1]; exact k4, ⟨fun _ => ⟨fun _ => go _ _ k7, fun q => ⟨fun _ => go _ _ k7, fun q2 => absurd (k6 (Classical.byContradiction q)) q2⟩⟩, fun q => absurd k5 q⟩⟩
theorem lc_1342 (hd : 300 ≤ d) (hi : i + 7 ≤ Ls) (hL : Ls ≤ 3584) (V : qInv xs Ls t g I) (go : ∀ g2 I2, qInv xs Ls (t + 1) g2 I2 → qwq d 348 3171 [(0, .ref 1), (1, .ref 64), (2, .ref 245), (3, .ref 694), (4, .int (qj (i : Int)))] [] (qw g2 I2) Q) : qwq d 348 1342 [(0, .ref 1), (1, .ref 64), (2, .ref 245), (3, .ref 694), (4, .int (qj (i : Int)))] [] (qw g I) Q := by
  obtain ⟨⟨F, L, B, S, S0, Im, C, T, P, O⟩, V1, V2, V3, V4⟩ := V
  have ix : ∀ z : Int, 1 ≤ z → z ≤ 6 → qIx (qj (i : Int) + qj z) Ls := fun z h1 h2 => ixa hi hL h1 h2
  obtain ⟨z1, y1, b1⟩ := qj_ex (I 1 (qj (i : Int) + qj 1).toNatClampNeg)
  have hA : ∀ e, (rDie F S S0 Im C z1) = .inr e → (e = 0) ∧ e < 2 := by
    intro e h
    unfold rDie at h
    repeat' first | exact inl_inr h | split at h
    all_goals (cases h; decide)
  have hb : qBo (d - 1 - 1) (d - 1) 103 247 1 (fun e => e = 0) (fun _ => True) [.int (qj z1)] g I := qBo_W (dc := d - 1 - 1) (dm := d - 1) (kc := 103) (km := 247) (c := 1) (A := fun e => e = 0) (V := (fun _ => True)) (zs := [.int (qj z1)]) O hA (fun _ => trivial) (xDie O) (f103 (by omega) O.1 O.2.1 b1) (fun g2 I1 K => r247 (by omega) O.1 K b1)
  obtain ⟨v, G, J, k1, k2, k3, v2, G2, J2, k4, k5, k6, k7⟩ := lcW (wk := 323) (by omega) ⟨V1, V2, V3, V4⟩ hb (fun v g1 I1 h => w323_n (by omega) h) (fun e g1 I1 he h => by subst he; exact w323_t0 (by omega) h)
  exact b348_1342 (by omega) ⟨by rw [V1]; exact ix 1 (by omega) (by omega), v, G, J, by rw [y1]; exact k1, by rw [k3]; exact ix 1 (by omega) (by omega), v2, G2, J2, by rw [k2, y1]; exact k4, ⟨fun _ => ⟨fun _ => go _ _ k7, fun q => ⟨fun _ => go _ _ k7, fun q2 => absurd (k6 (Classical.byContradiction q)) q2⟩⟩, fun q => absurd k5 q⟩⟩
theorem lc_1398 (hd : 300 ≤ d) (hi : i + 7 ≤ Ls) (hL : Ls ≤ 3584) (V : qInv xs Ls t g I) (go : ∀ g2 I2, qInv xs Ls (t + 1) g2 I2 → qwq d 348 3171 [(0, .ref 1), (1, .ref 64), (2, .ref 245), (3, .ref 694), (4, .int (qj (i : Int)))] [] (qw g2 I2) Q) : qwq d 348 1398 [(0, .ref 1), (1, .ref 64), (2, .ref 245), (3, .ref 694), (4, .int (qj (i : Int)))] [] (qw g I) Q := by
  obtain ⟨⟨F, L, B, S, S0, Im, C, T, P, O⟩, V1, V2, V3, V4⟩ := V
  have ix : ∀ z : Int, 1 ≤ z → z ≤ 6 → qIx (qj (i : Int) + qj z) Ls := fun z h1 h2 => ixa hi hL h1 h2
  obtain ⟨z1, y1, b1⟩ := qj_ex (I 1 (qj (i : Int) + qj 1).toNatClampNeg)
  obtain ⟨z2, y2, b2⟩ := qj_ex (I 1 (qj (i : Int) + qj 2).toNatClampNeg)
  have hA : ∀ e, (rStr F S Im C z1 z2) = .inr e → (e = 0 ∨ e = 1) ∧ e < 2 := by
    intro e h
    unfold rStr at h
    repeat' first | exact inl_inr h | split at h
    all_goals (cases h; decide)
  have hb : qBo (d - 1 - 1) (d - 1) 104 248 2 (fun e => e = 0 ∨ e = 1) (fun _ => True) [.int (qj z1), .int (qj z2)] g I := qBo_W (dc := d - 1 - 1) (dm := d - 1) (kc := 104) (km := 248) (c := 2) (A := fun e => e = 0 ∨ e = 1) (V := (fun _ => True)) (zs := [.int (qj z1), .int (qj z2)]) O hA (fun _ => trivial) (xStr O) (f104 (by omega) O.1 O.2.1 b1 b2) (fun g2 I1 K => r248 (by omega) O.1 K b1 b2)
  obtain ⟨v, G, J, k1, k2, k3, v2, G2, J2, k4, k5, k6, k7⟩ := lcW (wk := 324) (by omega) ⟨V1, V2, V3, V4⟩ hb (fun v g1 I1 h => w324_n (by omega) h) (fun e g1 I1 he h => by rcases he with rfl | rfl; exact w324_t0 (by omega) h; exact w324_t1 (by omega) h)
  exact b348_1398 (by omega) ⟨by rw [V1]; exact ix 1 (by omega) (by omega), by rw [V1]; exact ix 2 (by omega) (by omega), v, G, J, by rw [y1, y2]; exact k1, by rw [k3]; exact ix 1 (by omega) (by omega), by rw [k3]; exact ix 2 (by omega) (by omega), v2, G2, J2, by rw [k2, y1, y2]; exact k4, ⟨fun _ => ⟨fun _ => go _ _ k7, fun q => ⟨fun _ => go _ _ k7, fun q2 => absurd (k6 (Classical.byContradiction q)) q2⟩⟩, fun q => absurd k5 q⟩⟩
theorem lc_1466 (hd : 300 ≤ d) (hi : i + 7 ≤ Ls) (hL : Ls ≤ 3584) (V : qInv xs Ls t g I) (go : ∀ g2 I2, qInv xs Ls (t + 1) g2 I2 → qwq d 348 3171 [(0, .ref 1), (1, .ref 64), (2, .ref 245), (3, .ref 694), (4, .int (qj (i : Int)))] [] (qw g2 I2) Q) : qwq d 348 1466 [(0, .ref 1), (1, .ref 64), (2, .ref 245), (3, .ref 694), (4, .int (qj (i : Int)))] [] (qw g I) Q := by
  obtain ⟨⟨F, L, B, S, S0, Im, C, T, P, O⟩, V1, V2, V3, V4⟩ := V
  have ix : ∀ z : Int, 1 ≤ z → z ≤ 6 → qIx (qj (i : Int) + qj z) Ls := fun z h1 h2 => ixa hi hL h1 h2
  obtain ⟨z1, y1, b1⟩ := qj_ex (I 1 (qj (i : Int) + qj 1).toNatClampNeg)
  obtain ⟨z2, y2, b2⟩ := qj_ex (I 1 (qj (i : Int) + qj 2).toNatClampNeg)
  obtain ⟨z3, y3, b3⟩ := qj_ex (I 1 (qj (i : Int) + qj 3).toNatClampNeg)
  have hA : ∀ e, (rGiv F S S0 Im C z1 z2 z3) = .inr e → (e = 0) ∧ e < 2 := by
    intro e h
    unfold rGiv at h
    repeat' first | exact inl_inr h | split at h
    all_goals (cases h; decide)
  have hb : qBo (d - 1 - 1) (d - 1) 105 249 1 (fun e => e = 0) (fun _ => True) [.int (qj z1), .int (qj z2), .int (qj z3)] g I := qBo_W (dc := d - 1 - 1) (dm := d - 1) (kc := 105) (km := 249) (c := 1) (A := fun e => e = 0) (V := (fun _ => True)) (zs := [.int (qj z1), .int (qj z2), .int (qj z3)]) O hA (fun _ => trivial) (xGiv O) (f105 (by omega) O.1 O.2.1 b1 b2 b3) (fun g2 I1 K => r249 (by omega) O.1 K b1 b2 b3)
  obtain ⟨v, G, J, k1, k2, k3, v2, G2, J2, k4, k5, k6, k7⟩ := lcW (wk := 325) (by omega) ⟨V1, V2, V3, V4⟩ hb (fun v g1 I1 h => w325_n (by omega) h) (fun e g1 I1 he h => by subst he; exact w325_t0 (by omega) h)
  exact b348_1466 (by omega) ⟨by rw [V1]; exact ix 1 (by omega) (by omega), by rw [V1]; exact ix 2 (by omega) (by omega), by rw [V1]; exact ix 3 (by omega) (by omega), v, G, J, by rw [y1, y2, y3]; exact k1, by rw [k3]; exact ix 1 (by omega) (by omega), by rw [k3]; exact ix 2 (by omega) (by omega), by rw [k3]; exact ix 3 (by omega) (by omega), v2, G2, J2, by rw [k2, y1, y2, y3]; exact k4, ⟨fun _ => ⟨fun _ => go _ _ k7, fun q => ⟨fun _ => go _ _ k7, fun q2 => absurd (k6 (Classical.byContradiction q)) q2⟩⟩, fun q => absurd k5 q⟩⟩
theorem lc_1546 (hd : 300 ≤ d) (hi : i + 7 ≤ Ls) (hL : Ls ≤ 3584) (V : qInv xs Ls t g I) (go : ∀ g2 I2, qInv xs Ls (t + 1) g2 I2 → qwq d 348 3171 [(0, .ref 1), (1, .ref 64), (2, .ref 245), (3, .ref 694), (4, .int (qj (i : Int)))] [] (qw g2 I2) Q) : qwq d 348 1546 [(0, .ref 1), (1, .ref 64), (2, .ref 245), (3, .ref 694), (4, .int (qj (i : Int)))] [] (qw g I) Q := by
  obtain ⟨⟨F, L, B, S, S0, Im, C, T, P, O⟩, V1, V2, V3, V4⟩ := V
  have ix : ∀ z : Int, 1 ≤ z → z ≤ 6 → qIx (qj (i : Int) + qj z) Ls := fun z h1 h2 => ixa hi hL h1 h2
  obtain ⟨z1, y1, b1⟩ := qj_ex (I 1 (qj (i : Int) + qj 1).toNatClampNeg)
  have hA : ∀ e, (rCsts F S z1) = .inr e → (e = 0) ∧ e < 2 := by
    intro e h
    unfold rCsts at h
    repeat' first | exact inl_inr h | split at h
    all_goals (cases h; decide)
  have hb : qBo (d - 1 - 1) (d - 1) 106 257 1 (fun e => e = 0) (fun _ => True) [.int (qj z1)] g I := qBo_Q (dc := d - 1 - 1) (dm := d - 1) (kc := 106) (km := 257) (c := 1) (A := fun e => e = 0) (V := (fun _ => True)) (zs := [.int (qj z1)]) O hA (fun _ _ => trivial) (f106 (by omega) O.1 O.2.1 b1) (fun g2 I1 K => r257 (by omega) O.1 K b1)
  obtain ⟨v, G, J, k1, k2, k3, v2, G2, J2, k4, k5, k6, k7⟩ := lcW (wk := 326) (by omega) ⟨V1, V2, V3, V4⟩ hb (fun v g1 I1 h => w326_n (by omega) h) (fun e g1 I1 he h => by subst he; exact w326_t0 (by omega) h)
  exact b348_1546 (by omega) ⟨by rw [V1]; exact ix 1 (by omega) (by omega), v, G, J, by rw [y1]; exact k1, by rw [k3]; exact ix 1 (by omega) (by omega), v2, G2, J2, by rw [k2, y1]; exact k4, ⟨fun _ => ⟨fun _ => go _ _ k7, fun q => ⟨fun _ => go _ _ k7, fun q2 => absurd (k6 (Classical.byContradiction q)) q2⟩⟩, fun q => absurd k5 q⟩⟩
theorem lc_1602 (hd : 300 ≤ d) (hi : i + 7 ≤ Ls) (hL : Ls ≤ 3584) (V : qInv xs Ls t g I) (go : ∀ g2 I2, qInv xs Ls (t + 1) g2 I2 → qwq d 348 3171 [(0, .ref 1), (1, .ref 64), (2, .ref 245), (3, .ref 694), (4, .int (qj (i : Int)))] [] (qw g2 I2) Q) : qwq d 348 1602 [(0, .ref 1), (1, .ref 64), (2, .ref 245), (3, .ref 694), (4, .int (qj (i : Int)))] [] (qw g I) Q := by
  obtain ⟨⟨F, L, B, S, S0, Im, C, T, P, O⟩, V1, V2, V3, V4⟩ := V
  have ix : ∀ z : Int, 1 ≤ z → z ≤ 6 → qIx (qj (i : Int) + qj z) Ls := fun z h1 h2 => ixa hi hL h1 h2
  obtain ⟨z1, y1, b1⟩ := qj_ex (I 1 (qj (i : Int) + qj 1).toNatClampNeg)
  obtain ⟨z2, y2, b2⟩ := qj_ex (I 1 (qj (i : Int) + qj 2).toNatClampNeg)
  have hA : ∀ e, (rCst F S z1 z2) = .inr e → (e = 0) ∧ e < 2 := by
    intro e h
    unfold rCst at h
    repeat' first | exact inl_inr h | split at h
    all_goals (cases h; decide)
  have hb : qBo (d - 1 - 1) (d - 1) 107 258 1 (fun e => e = 0) (fun _ => True) [.int (qj z1), .int (qj z2)] g I := qBo_Q (dc := d - 1 - 1) (dm := d - 1) (kc := 107) (km := 258) (c := 1) (A := fun e => e = 0) (V := (fun _ => True)) (zs := [.int (qj z1), .int (qj z2)]) O hA (fun _ _ => trivial) (f107 (by omega) O.1 O.2.1 b1 b2) (fun g2 I1 K => r258 (by omega) O.1 K b1 b2)
  obtain ⟨v, G, J, k1, k2, k3, v2, G2, J2, k4, k5, k6, k7⟩ := lcW (wk := 327) (by omega) ⟨V1, V2, V3, V4⟩ hb (fun v g1 I1 h => w327_n (by omega) h) (fun e g1 I1 he h => by subst he; exact w327_t0 (by omega) h)
  exact b348_1602 (by omega) ⟨by rw [V1]; exact ix 1 (by omega) (by omega), by rw [V1]; exact ix 2 (by omega) (by omega), v, G, J, by rw [y1, y2]; exact k1, by rw [k3]; exact ix 1 (by omega) (by omega), by rw [k3]; exact ix 2 (by omega) (by omega), v2, G2, J2, by rw [k2, y1, y2]; exact k4, ⟨fun _ => ⟨fun _ => go _ _ k7, fun q => ⟨fun _ => go _ _ k7, fun q2 => absurd (k6 (Classical.byContradiction q)) q2⟩⟩, fun q => absurd k5 q⟩⟩
theorem lc_1670 (hd : 300 ≤ d) (hi : i + 7 ≤ Ls) (hL : Ls ≤ 3584) (V : qInv xs Ls t g I) (go : ∀ g2 I2, qInv xs Ls (t + 1) g2 I2 → qwq d 348 3171 [(0, .ref 1), (1, .ref 64), (2, .ref 245), (3, .ref 694), (4, .int (qj (i : Int)))] [] (qw g2 I2) Q) : qwq d 348 1670 [(0, .ref 1), (1, .ref 64), (2, .ref 245), (3, .ref 694), (4, .int (qj (i : Int)))] [] (qw g I) Q := by
  obtain ⟨⟨F, L, B, S, S0, Im, C, T, P, O⟩, V1, V2, V3, V4⟩ := V
  have ix : ∀ z : Int, 1 ≤ z → z ≤ 6 → qIx (qj (i : Int) + qj z) Ls := fun z h1 h2 => ixa hi hL h1 h2
  obtain ⟨z1, y1, b1⟩ := qj_ex (I 1 (qj (i : Int) + qj 1).toNatClampNeg)
  have hA : ∀ e, (rLck F S z1) = .inr e → (e = 0) ∧ e < 2 := by
    intro e h
    unfold rLck at h
    repeat' first | exact inl_inr h | split at h
    all_goals (cases h; decide)
  have hb : qBo (d - 1 - 1) (d - 1) 108 262 1 (fun e => e = 0) (fun _ => True) [.int (qj z1)] g I := qBo_Q (dc := d - 1 - 1) (dm := d - 1) (kc := 108) (km := 262) (c := 1) (A := fun e => e = 0) (V := (fun _ => True)) (zs := [.int (qj z1)]) O hA (fun _ _ => trivial) (f108 (by omega) O.1 O.2.1 b1) (fun g2 I1 K => r262 (by omega) O.1 K b1)
  obtain ⟨v, G, J, k1, k2, k3, v2, G2, J2, k4, k5, k6, k7⟩ := lcW (wk := 328) (by omega) ⟨V1, V2, V3, V4⟩ hb (fun v g1 I1 h => w328_n (by omega) h) (fun e g1 I1 he h => by subst he; exact w328_t0 (by omega) h)
  exact b348_1670 (by omega) ⟨by rw [V1]; exact ix 1 (by omega) (by omega), v, G, J, by rw [y1]; exact k1, by rw [k3]; exact ix 1 (by omega) (by omega), v2, G2, J2, by rw [k2, y1]; exact k4, ⟨fun _ => ⟨fun _ => go _ _ k7, fun q => ⟨fun _ => go _ _ k7, fun q2 => absurd (k6 (Classical.byContradiction q)) q2⟩⟩, fun q => absurd k5 q⟩⟩
theorem lc_1726 (hd : 300 ≤ d) (hi : i + 7 ≤ Ls) (hL : Ls ≤ 3584) (V : qInv xs Ls t g I) (go : ∀ g2 I2, qInv xs Ls (t + 1) g2 I2 → qwq d 348 3171 [(0, .ref 1), (1, .ref 64), (2, .ref 245), (3, .ref 694), (4, .int (qj (i : Int)))] [] (qw g2 I2) Q) : qwq d 348 1726 [(0, .ref 1), (1, .ref 64), (2, .ref 245), (3, .ref 694), (4, .int (qj (i : Int)))] [] (qw g I) Q := by
  obtain ⟨⟨F, L, B, S, S0, Im, C, T, P, O⟩, V1, V2, V3, V4⟩ := V
  have ix : ∀ z : Int, 1 ≤ z → z ≤ 6 → qIx (qj (i : Int) + qj z) Ls := fun z h1 h2 => ixa hi hL h1 h2
  have hb : qBo (d - 1) (d - 1) 109 263 1 (fun e => False) (fun _ => True) [] g I := qBo_Q (dc := d - 1) (dm := d - 1) (kc := 109) (km := 263) (c := 1) (A := fun e => False) (V := (fun _ => True)) (zs := []) O (fun e h => inl_inr h) (fun _ _ => trivial) (f109 (by omega) O.1 O.2.1) (fun g2 I1 K => r263 (by omega) O.1 K)
  obtain ⟨v, G, J, k1, k2, k3, J2, k4, k7⟩ := lcD ⟨V1, V2, V3, V4⟩ hb
  exact b348_1726 (by omega) ⟨v, G, J, k1, v, G, J2, k4, ⟨fun _ => go _ _ k7, fun q => absurd rfl q⟩⟩
theorem lc_1739 (hd : 300 ≤ d) (hi : i + 7 ≤ Ls) (hL : Ls ≤ 3584) (V : qInv xs Ls t g I) (go : ∀ g2 I2, qInv xs Ls (t + 1) g2 I2 → qwq d 348 3171 [(0, .ref 1), (1, .ref 64), (2, .ref 245), (3, .ref 694), (4, .int (qj (i : Int)))] [] (qw g2 I2) Q) : qwq d 348 1739 [(0, .ref 1), (1, .ref 64), (2, .ref 245), (3, .ref 694), (4, .int (qj (i : Int)))] [] (qw g I) Q := by
  obtain ⟨⟨F, L, B, S, S0, Im, C, T, P, O⟩, V1, V2, V3, V4⟩ := V
  have ix : ∀ z : Int, 1 ≤ z → z ≤ 6 → qIx (qj (i : Int) + qj z) Ls := fun z h1 h2 => ixa hi hL h1 h2
  obtain ⟨z1, y1, b1⟩ := qj_ex (I 1 (qj (i : Int) + qj 1).toNatClampNeg)
  have hA : ∀ e, (rCost F S z1) = .inr e → (e = 0) ∧ e < 2 := by
    intro e h
    unfold rCost at h
    repeat' first | exact inl_inr h | split at h
    all_goals (cases h; decide)
  have hb : qBo (d - 1 - 1) (d - 1) 110 265 1 (fun e => e = 0) (fun _ => True) [.int (qj z1)] g I := qBo_Q (dc := d - 1 - 1) (dm := d - 1) (kc := 110) (km := 265) (c := 1) (A := fun e => e = 0) (V := (fun _ => True)) (zs := [.int (qj z1)]) O hA (fun _ _ => trivial) (f110 (by omega) O.1 O.2.1 b1) (fun g2 I1 K => r265 (by omega) O.1 K b1)
  obtain ⟨v, G, J, k1, k2, k3, v2, G2, J2, k4, k5, k6, k7⟩ := lcW (wk := 329) (by omega) ⟨V1, V2, V3, V4⟩ hb (fun v g1 I1 h => w329_n (by omega) h) (fun e g1 I1 he h => by subst he; exact w329_t0 (by omega) h)
  exact b348_1739 (by omega) ⟨by rw [V1]; exact ix 1 (by omega) (by omega), v, G, J, by rw [y1]; exact k1, by rw [k3]; exact ix 1 (by omega) (by omega), v2, G2, J2, by rw [k2, y1]; exact k4, ⟨fun _ => ⟨fun _ => go _ _ k7, fun q => ⟨fun _ => go _ _ k7, fun q2 => absurd (k6 (Classical.byContradiction q)) q2⟩⟩, fun q => absurd k5 q⟩⟩
theorem lc_1795 (hd : 300 ≤ d) (hi : i + 7 ≤ Ls) (hL : Ls ≤ 3584) (V : qInv xs Ls t g I) (go : ∀ g2 I2, qInv xs Ls (t + 1) g2 I2 → qwq d 348 3171 [(0, .ref 1), (1, .ref 64), (2, .ref 245), (3, .ref 694), (4, .int (qj (i : Int)))] [] (qw g2 I2) Q) : qwq d 348 1795 [(0, .ref 1), (1, .ref 64), (2, .ref 245), (3, .ref 694), (4, .int (qj (i : Int)))] [] (qw g I) Q := by
  obtain ⟨⟨F, L, B, S, S0, Im, C, T, P, O⟩, V1, V2, V3, V4⟩ := V
  have ix : ∀ z : Int, 1 ≤ z → z ≤ 6 → qIx (qj (i : Int) + qj z) Ls := fun z h1 h2 => ixa hi hL h1 h2
  have hb : qBo (d - 1) (d - 1) 111 266 1 (fun e => False) (fun _ => True) [] g I := qBo_Q (dc := d - 1) (dm := d - 1) (kc := 111) (km := 266) (c := 1) (A := fun e => False) (V := (fun _ => True)) (zs := []) O (fun e h => inl_inr h) (fun _ _ => trivial) (f111 (by omega) O.1 O.2.1) (fun g2 I1 K => r266 (by omega) O.1 K)
  obtain ⟨v, G, J, k1, k2, k3, J2, k4, k7⟩ := lcD ⟨V1, V2, V3, V4⟩ hb
  exact b348_1795 (by omega) ⟨v, G, J, k1, v, G, J2, k4, ⟨fun _ => go _ _ k7, fun q => absurd rfl q⟩⟩
theorem lc_1808 (hd : 300 ≤ d) (hi : i + 7 ≤ Ls) (hL : Ls ≤ 3584) (V : qInv xs Ls t g I) (go : ∀ g2 I2, qInv xs Ls (t + 1) g2 I2 → qwq d 348 3171 [(0, .ref 1), (1, .ref 64), (2, .ref 245), (3, .ref 694), (4, .int (qj (i : Int)))] [] (qw g2 I2) Q) : qwq d 348 1808 [(0, .ref 1), (1, .ref 64), (2, .ref 245), (3, .ref 694), (4, .int (qj (i : Int)))] [] (qw g I) Q := by
  obtain ⟨⟨F, L, B, S, S0, Im, C, T, P, O⟩, V1, V2, V3, V4⟩ := V
  have ix : ∀ z : Int, 1 ≤ z → z ≤ 6 → qIx (qj (i : Int) + qj z) Ls := fun z h1 h2 => ixa hi hL h1 h2
  obtain ⟨z1, y1, b1⟩ := qj_ex (I 1 (qj (i : Int) + qj 1).toNatClampNeg)
  obtain ⟨z2, y2, b2⟩ := qj_ex (I 1 (qj (i : Int) + qj 2).toNatClampNeg)
  have hA : ∀ e, (rLie F S z1 z2) = .inr e → (e = 0) ∧ e < 2 := by
    intro e h
    unfold rLie at h
    repeat' first | exact inl_inr h | split at h
    all_goals (cases h; decide)
  have hb : qBo (d - 1 - 1) (d - 1) 115 268 1 (fun e => e = 0) (fun _ => True) [.int (qj z1), .int (qj z2)] g I := qBo_Q (dc := d - 1 - 1) (dm := d - 1) (kc := 115) (km := 268) (c := 1) (A := fun e => e = 0) (V := (fun _ => True)) (zs := [.int (qj z1), .int (qj z2)]) O hA (fun _ _ => trivial) (f115 (by omega) O.1 O.2.1 b1 b2) (fun g2 I1 K => r268 (by omega) O.1 K b1 b2)
  obtain ⟨v, G, J, k1, k2, k3, v2, G2, J2, k4, k5, k6, k7⟩ := lcW (wk := 330) (by omega) ⟨V1, V2, V3, V4⟩ hb (fun v g1 I1 h => w330_n (by omega) h) (fun e g1 I1 he h => by subst he; exact w330_t0 (by omega) h)
  exact b348_1808 (by omega) ⟨by rw [V1]; exact ix 1 (by omega) (by omega), by rw [V1]; exact ix 2 (by omega) (by omega), v, G, J, by rw [y1, y2]; exact k1, by rw [k3]; exact ix 1 (by omega) (by omega), by rw [k3]; exact ix 2 (by omega) (by omega), v2, G2, J2, by rw [k2, y1, y2]; exact k4, ⟨fun _ => ⟨fun _ => go _ _ k7, fun q => ⟨fun _ => go _ _ k7, fun q2 => absurd (k6 (Classical.byContradiction q)) q2⟩⟩, fun q => absurd k5 q⟩⟩
theorem lc_1876 (hd : 300 ≤ d) (hi : i + 7 ≤ Ls) (hL : Ls ≤ 3584) (V : qInv xs Ls t g I) (go : ∀ g2 I2, qInv xs Ls (t + 1) g2 I2 → qwq d 348 3171 [(0, .ref 1), (1, .ref 64), (2, .ref 245), (3, .ref 694), (4, .int (qj (i : Int)))] [] (qw g2 I2) Q) : qwq d 348 1876 [(0, .ref 1), (1, .ref 64), (2, .ref 245), (3, .ref 694), (4, .int (qj (i : Int)))] [] (qw g I) Q := by
  obtain ⟨⟨F, L, B, S, S0, Im, C, T, P, O⟩, V1, V2, V3, V4⟩ := V
  have ix : ∀ z : Int, 1 ≤ z → z ≤ 6 → qIx (qj (i : Int) + qj z) Ls := fun z h1 h2 => ixa hi hL h1 h2
  obtain ⟨z1, y1, b1⟩ := qj_ex (I 1 (qj (i : Int) + qj 1).toNatClampNeg)
  obtain ⟨z2, y2, b2⟩ := qj_ex (I 1 (qj (i : Int) + qj 2).toNatClampNeg)
  have hA : ∀ e, (rDrp F S z1 z2) = .inr e → (e = 0 ∨ e = 1) ∧ e < 2 := by
    intro e h
    unfold rDrp at h
    repeat' first | exact inl_inr h | split at h
    all_goals (cases h; decide)
  have hb : qBo (d - 1 - 1) (d - 1) 116 269 2 (fun e => e = 0 ∨ e = 1) (fun _ => True) [.int (qj z1), .int (qj z2)] g I := qBo_Q (dc := d - 1 - 1) (dm := d - 1) (kc := 116) (km := 269) (c := 2) (A := fun e => e = 0 ∨ e = 1) (V := (fun _ => True)) (zs := [.int (qj z1), .int (qj z2)]) O hA (fun _ _ => trivial) (f116 (by omega) O.1 O.2.1 b1 b2) (fun g2 I1 K => r269 (by omega) O.1 K b1 b2)
  obtain ⟨v, G, J, k1, k2, k3, v2, G2, J2, k4, k5, k6, k7⟩ := lcW (wk := 331) (by omega) ⟨V1, V2, V3, V4⟩ hb (fun v g1 I1 h => w331_n (by omega) h) (fun e g1 I1 he h => by rcases he with rfl | rfl; exact w331_t0 (by omega) h; exact w331_t1 (by omega) h)
  exact b348_1876 (by omega) ⟨by rw [V1]; exact ix 1 (by omega) (by omega), by rw [V1]; exact ix 2 (by omega) (by omega), v, G, J, by rw [y1, y2]; exact k1, by rw [k3]; exact ix 1 (by omega) (by omega), by rw [k3]; exact ix 2 (by omega) (by omega), v2, G2, J2, by rw [k2, y1, y2]; exact k4, ⟨fun _ => ⟨fun _ => go _ _ k7, fun q => ⟨fun _ => go _ _ k7, fun q2 => absurd (k6 (Classical.byContradiction q)) q2⟩⟩, fun q => absurd k5 q⟩⟩
theorem lc_1944 (hd : 300 ≤ d) (hi : i + 7 ≤ Ls) (hL : Ls ≤ 3584) (V : qInv xs Ls t g I) (go : ∀ g2 I2, qInv xs Ls (t + 1) g2 I2 → qwq d 348 3171 [(0, .ref 1), (1, .ref 64), (2, .ref 245), (3, .ref 694), (4, .int (qj (i : Int)))] [] (qw g2 I2) Q) : qwq d 348 1944 [(0, .ref 1), (1, .ref 64), (2, .ref 245), (3, .ref 694), (4, .int (qj (i : Int)))] [] (qw g I) Q := by
  obtain ⟨⟨F, L, B, S, S0, Im, C, T, P, O⟩, V1, V2, V3, V4⟩ := V
  have ix : ∀ z : Int, 1 ≤ z → z ≤ 6 → qIx (qj (i : Int) + qj z) Ls := fun z h1 h2 => ixa hi hL h1 h2
  have hb : qBo (d - 1) (d - 1) 117 271 1 (fun e => False) (fun _ => True) [] g I := qBo_Q (dc := d - 1) (dm := d - 1) (kc := 117) (km := 271) (c := 1) (A := fun e => False) (V := (fun _ => True)) (zs := []) O (fun e h => inl_inr h) (fun _ _ => trivial) (f117 (by omega) O.1 O.2.1) (fun g2 I1 K => r271 (by omega) O.1 K)
  obtain ⟨v, G, J, k1, k2, k3, J2, k4, k7⟩ := lcD ⟨V1, V2, V3, V4⟩ hb
  exact b348_1944 (by omega) ⟨v, G, J, k1, v, G, J2, k4, ⟨fun _ => go _ _ k7, fun q => absurd rfl q⟩⟩
theorem lc_1957 (hd : 300 ≤ d) (hi : i + 7 ≤ Ls) (hL : Ls ≤ 3584) (V : qInv xs Ls t g I) (go : ∀ g2 I2, qInv xs Ls (t + 1) g2 I2 → qwq d 348 3171 [(0, .ref 1), (1, .ref 64), (2, .ref 245), (3, .ref 694), (4, .int (qj (i : Int)))] [] (qw g2 I2) Q) : qwq d 348 1957 [(0, .ref 1), (1, .ref 64), (2, .ref 245), (3, .ref 694), (4, .int (qj (i : Int)))] [] (qw g I) Q := by
  obtain ⟨⟨F, L, B, S, S0, Im, C, T, P, O⟩, V1, V2, V3, V4⟩ := V
  have ix : ∀ z : Int, 1 ≤ z → z ≤ 6 → qIx (qj (i : Int) + qj z) Ls := fun z h1 h2 => ixa hi hL h1 h2
  obtain ⟨z1, y1, b1⟩ := qj_ex (I 1 (qj (i : Int) + qj 1).toNatClampNeg)
  have hA : ∀ e, (rLms F L B z1) = .inr e → (e = 0) ∧ e < 2 := by
    intro e h
    unfold rLms at h
    repeat' first | exact inl_inr h | split at h
    all_goals (cases h; decide)
  have hb : qBo (d - 1 - 1) (d - 1) 118 272 1 (fun e => e = 0) (fun _ => True) [.int (qj z1)] g I := qBo_Q (dc := d - 1 - 1) (dm := d - 1) (kc := 118) (km := 272) (c := 1) (A := fun e => e = 0) (V := (fun _ => True)) (zs := [.int (qj z1)]) O hA (fun _ _ => trivial) (f118 (by omega) O.1 O.2.1 b1) (fun g2 I1 K => r272 (by omega) O.1 K b1)
  obtain ⟨v, G, J, k1, k2, k3, v2, G2, J2, k4, k5, k6, k7⟩ := lcW (wk := 332) (by omega) ⟨V1, V2, V3, V4⟩ hb (fun v g1 I1 h => w332_n (by omega) h) (fun e g1 I1 he h => by subst he; exact w332_t0 (by omega) h)
  exact b348_1957 (by omega) ⟨by rw [V1]; exact ix 1 (by omega) (by omega), v, G, J, by rw [y1]; exact k1, by rw [k3]; exact ix 1 (by omega) (by omega), v2, G2, J2, by rw [k2, y1]; exact k4, ⟨fun _ => ⟨fun _ => go _ _ k7, fun q => ⟨fun _ => go _ _ k7, fun q2 => absurd (k6 (Classical.byContradiction q)) q2⟩⟩, fun q => absurd k5 q⟩⟩
theorem lc_2013 (hd : 300 ≤ d) (hi : i + 7 ≤ Ls) (hL : Ls ≤ 3584) (V : qInv xs Ls t g I) (go : ∀ g2 I2, qInv xs Ls (t + 1) g2 I2 → qwq d 348 3171 [(0, .ref 1), (1, .ref 64), (2, .ref 245), (3, .ref 694), (4, .int (qj (i : Int)))] [] (qw g2 I2) Q) : qwq d 348 2013 [(0, .ref 1), (1, .ref 64), (2, .ref 245), (3, .ref 694), (4, .int (qj (i : Int)))] [] (qw g I) Q := by
  obtain ⟨⟨F, L, B, S, S0, Im, C, T, P, O⟩, V1, V2, V3, V4⟩ := V
  have ix : ∀ z : Int, 1 ≤ z → z ≤ 6 → qIx (qj (i : Int) + qj z) Ls := fun z h1 h2 => ixa hi hL h1 h2
  have hb : qBo (d - 1) (d - 1) 119 275 1 (fun e => False) (fun _ => True) [] g I := qBo_Q (dc := d - 1) (dm := d - 1) (kc := 119) (km := 275) (c := 1) (A := fun e => False) (V := (fun _ => True)) (zs := []) O (fun e h => inl_inr h) (fun _ _ => trivial) (f119 (by omega) O.1 O.2.1) (fun g2 I1 K => r275 (by omega) O.1 K)
  obtain ⟨v, G, J, k1, k2, k3, J2, k4, k7⟩ := lcD ⟨V1, V2, V3, V4⟩ hb
  exact b348_2013 (by omega) ⟨v, G, J, k1, v, G, J2, k4, ⟨fun _ => go _ _ k7, fun q => absurd rfl q⟩⟩
theorem lc_2026 (hd : 300 ≤ d) (hi : i + 7 ≤ Ls) (hL : Ls ≤ 3584) (V : qInv xs Ls t g I) (go : ∀ g2 I2, qInv xs Ls (t + 1) g2 I2 → qwq d 348 3171 [(0, .ref 1), (1, .ref 64), (2, .ref 245), (3, .ref 694), (4, .int (qj (i : Int)))] [] (qw g2 I2) Q) : qwq d 348 2026 [(0, .ref 1), (1, .ref 64), (2, .ref 245), (3, .ref 694), (4, .int (qj (i : Int)))] [] (qw g I) Q := by
  obtain ⟨⟨F, L, B, S, S0, Im, C, T, P, O⟩, V1, V2, V3, V4⟩ := V
  have ix : ∀ z : Int, 1 ≤ z → z ≤ 6 → qIx (qj (i : Int) + qj z) Ls := fun z h1 h2 => ixa hi hL h1 h2
  obtain ⟨z1, y1, b1⟩ := qj_ex (I 1 (qj (i : Int) + qj 1).toNatClampNeg)
  have hA : ∀ e, (rNgt F S z1) = .inr e → (e = 0) ∧ e < 2 := by
    intro e h
    unfold rNgt at h
    repeat' first | exact inl_inr h | split at h
    all_goals (cases h; decide)
  have hb : qBo (d - 1 - 1) (d - 1) 120 276 1 (fun e => e = 0) (fun _ => True) [.int (qj z1)] g I := qBo_Q (dc := d - 1 - 1) (dm := d - 1) (kc := 120) (km := 276) (c := 1) (A := fun e => e = 0) (V := (fun _ => True)) (zs := [.int (qj z1)]) O hA (fun _ _ => trivial) (f120 (by omega) O.1 O.2.1 b1) (fun g2 I1 K => r276 (by omega) O.1 K b1)
  obtain ⟨v, G, J, k1, k2, k3, v2, G2, J2, k4, k5, k6, k7⟩ := lcW (wk := 333) (by omega) ⟨V1, V2, V3, V4⟩ hb (fun v g1 I1 h => w333_n (by omega) h) (fun e g1 I1 he h => by subst he; exact w333_t0 (by omega) h)
  exact b348_2026 (by omega) ⟨by rw [V1]; exact ix 1 (by omega) (by omega), v, G, J, by rw [y1]; exact k1, by rw [k3]; exact ix 1 (by omega) (by omega), v2, G2, J2, by rw [k2, y1]; exact k4, ⟨fun _ => ⟨fun _ => go _ _ k7, fun q => ⟨fun _ => go _ _ k7, fun q2 => absurd (k6 (Classical.byContradiction q)) q2⟩⟩, fun q => absurd k5 q⟩⟩
theorem lc_2082 (hd : 300 ≤ d) (hi : i + 7 ≤ Ls) (hL : Ls ≤ 3584) (V : qInv xs Ls t g I) (go : ∀ g2 I2, qInv xs Ls (t + 1) g2 I2 → qwq d 348 3171 [(0, .ref 1), (1, .ref 64), (2, .ref 245), (3, .ref 694), (4, .int (qj (i : Int)))] [] (qw g2 I2) Q) : qwq d 348 2082 [(0, .ref 1), (1, .ref 64), (2, .ref 245), (3, .ref 694), (4, .int (qj (i : Int)))] [] (qw g I) Q := by
  obtain ⟨⟨F, L, B, S, S0, Im, C, T, P, O⟩, V1, V2, V3, V4⟩ := V
  have ix : ∀ z : Int, 1 ≤ z → z ≤ 6 → qIx (qj (i : Int) + qj z) Ls := fun z h1 h2 => ixa hi hL h1 h2
  obtain ⟨z1, y1, b1⟩ := qj_ex (I 1 (qj (i : Int) + qj 1).toNatClampNeg)
  have hA : ∀ e, (rFai F S z1) = .inr e → (e = 1) ∧ e < 2 := by
    intro e h
    unfold rFai at h
    repeat' first | exact inl_inr h | split at h
    all_goals (cases h; decide)
  have hb : qBo (d - 1 - 1) (d - 1) 121 278 1 (fun e => e = 1) (fun _ => True) [.int (qj z1)] g I := qBo_Q (dc := d - 1 - 1) (dm := d - 1) (kc := 121) (km := 278) (c := 1) (A := fun e => e = 1) (V := (fun _ => True)) (zs := [.int (qj z1)]) O hA (fun _ _ => trivial) (f121 (by omega) O.1 O.2.1 b1) (fun g2 I1 K => r278 (by omega) O.1 K b1)
  obtain ⟨v, G, J, k1, k2, k3, v2, G2, J2, k4, k5, k6, k7⟩ := lcW (wk := 334) (by omega) ⟨V1, V2, V3, V4⟩ hb (fun v g1 I1 h => w334_n (by omega) h) (fun e g1 I1 he h => by subst he; exact w334_t1 (by omega) h)
  exact b348_2082 (by omega) ⟨by rw [V1]; exact ix 1 (by omega) (by omega), v, G, J, by rw [y1]; exact k1, by rw [k3]; exact ix 1 (by omega) (by omega), v2, G2, J2, by rw [k2, y1]; exact k4, ⟨fun _ => ⟨fun _ => go _ _ k7, fun q => ⟨fun _ => go _ _ k7, fun q2 => absurd (k6 (Classical.byContradiction q)) q2⟩⟩, fun q => absurd k5 q⟩⟩
theorem lc_2138 (hd : 300 ≤ d) (hi : i + 7 ≤ Ls) (hL : Ls ≤ 3584) (V : qInv xs Ls t g I) (go : ∀ g2 I2, qInv xs Ls (t + 1) g2 I2 → qwq d 348 3171 [(0, .ref 1), (1, .ref 64), (2, .ref 245), (3, .ref 694), (4, .int (qj (i : Int)))] [] (qw g2 I2) Q) : qwq d 348 2138 [(0, .ref 1), (1, .ref 64), (2, .ref 245), (3, .ref 694), (4, .int (qj (i : Int)))] [] (qw g I) Q := by
  obtain ⟨⟨F, L, B, S, S0, Im, C, T, P, O⟩, V1, V2, V3, V4⟩ := V
  have ix : ∀ z : Int, 1 ≤ z → z ≤ 6 → qIx (qj (i : Int) + qj z) Ls := fun z h1 h2 => ixa hi hL h1 h2
  obtain ⟨z1, y1, b1⟩ := qj_ex (I 1 (qj (i : Int) + qj 1).toNatClampNeg)
  obtain ⟨z2, y2, b2⟩ := qj_ex (I 1 (qj (i : Int) + qj 2).toNatClampNeg)
  obtain ⟨z3, y3, b3⟩ := qj_ex (I 1 (qj (i : Int) + qj 3).toNatClampNeg)
  have hA : ∀ e, (rGet F S z1 z2 z3) = .inr e → (e = 0 ∨ e = 1) ∧ e < 2 := by
    intro e h
    unfold rGet at h
    repeat' first | exact inl_inr h | split at h
    all_goals (cases h; decide)
  have hb : qBo (d - 1 - 1) (d - 1) 122 281 2 (fun e => e = 0 ∨ e = 1) (fun _ => True) [.int (qj z1), .int (qj z2), .int (qj z3)] g I := qBo_Q (dc := d - 1 - 1) (dm := d - 1) (kc := 122) (km := 281) (c := 2) (A := fun e => e = 0 ∨ e = 1) (V := (fun _ => True)) (zs := [.int (qj z1), .int (qj z2), .int (qj z3)]) O hA (fun _ _ => trivial) (f122 (by omega) O.1 O.2.1 b1 b2 b3) (fun g2 I1 K => r281 (by omega) O.1 K b1 b2 b3)
  obtain ⟨v, G, J, k1, k2, k3, v2, G2, J2, k4, k5, k6, k7⟩ := lcW (wk := 335) (by omega) ⟨V1, V2, V3, V4⟩ hb (fun v g1 I1 h => w335_n (by omega) h) (fun e g1 I1 he h => by rcases he with rfl | rfl; exact w335_t0 (by omega) h; exact w335_t1 (by omega) h)
  exact b348_2138 (by omega) ⟨by rw [V1]; exact ix 1 (by omega) (by omega), by rw [V1]; exact ix 2 (by omega) (by omega), by rw [V1]; exact ix 3 (by omega) (by omega), v, G, J, by rw [y1, y2, y3]; exact k1, by rw [k3]; exact ix 1 (by omega) (by omega), by rw [k3]; exact ix 2 (by omega) (by omega), by rw [k3]; exact ix 3 (by omega) (by omega), v2, G2, J2, by rw [k2, y1, y2, y3]; exact k4, ⟨fun _ => ⟨fun _ => go _ _ k7, fun q => ⟨fun _ => go _ _ k7, fun q2 => absurd (k6 (Classical.byContradiction q)) q2⟩⟩, fun q => absurd k5 q⟩⟩
theorem lc_2218 (hd : 300 ≤ d) (hi : i + 7 ≤ Ls) (hL : Ls ≤ 3584) (V : qInv xs Ls t g I) (go : ∀ g2 I2, qInv xs Ls (t + 1) g2 I2 → qwq d 348 3171 [(0, .ref 1), (1, .ref 64), (2, .ref 245), (3, .ref 694), (4, .int (qj (i : Int)))] [] (qw g2 I2) Q) : qwq d 348 2218 [(0, .ref 1), (1, .ref 64), (2, .ref 245), (3, .ref 694), (4, .int (qj (i : Int)))] [] (qw g I) Q := by
  obtain ⟨⟨F, L, B, S, S0, Im, C, T, P, O⟩, V1, V2, V3, V4⟩ := V
  have ix : ∀ z : Int, 1 ≤ z → z ≤ 6 → qIx (qj (i : Int) + qj z) Ls := fun z h1 h2 => ixa hi hL h1 h2
  obtain ⟨z1, y1, b1⟩ := qj_ex (I 1 (qj (i : Int) + qj 1).toNatClampNeg)
  obtain ⟨z2, y2, b2⟩ := qj_ex (I 1 (qj (i : Int) + qj 2).toNatClampNeg)
  have hA : ∀ e, (rOws F z1 z2) = .inr e → (e = 0) ∧ e < 2 := by
    intro e h
    unfold rOws at h
    repeat' first | exact inl_inr h | split at h
    all_goals (cases h; decide)
  have hb : qBo (d - 1 - 1) (d - 1) 123 282 1 (fun e => e = 0) (fun _ => True) [.int (qj z1), .int (qj z2)] g I := qBo_Q (dc := d - 1 - 1) (dm := d - 1) (kc := 123) (km := 282) (c := 1) (A := fun e => e = 0) (V := (fun _ => True)) (zs := [.int (qj z1), .int (qj z2)]) O hA (fun _ _ => trivial) (f123 (by omega) O.1 O.2.1 b1 b2) (fun g2 I1 K => r282 (by omega) O.1 K b1 b2)
  obtain ⟨v, G, J, k1, k2, k3, v2, G2, J2, k4, k5, k6, k7⟩ := lcW (wk := 336) (by omega) ⟨V1, V2, V3, V4⟩ hb (fun v g1 I1 h => w336_n (by omega) h) (fun e g1 I1 he h => by subst he; exact w336_t0 (by omega) h)
  exact b348_2218 (by omega) ⟨by rw [V1]; exact ix 1 (by omega) (by omega), by rw [V1]; exact ix 2 (by omega) (by omega), v, G, J, by rw [y1, y2]; exact k1, by rw [k3]; exact ix 1 (by omega) (by omega), by rw [k3]; exact ix 2 (by omega) (by omega), v2, G2, J2, by rw [k2, y1, y2]; exact k4, ⟨fun _ => ⟨fun _ => go _ _ k7, fun q => ⟨fun _ => go _ _ k7, fun q2 => absurd (k6 (Classical.byContradiction q)) q2⟩⟩, fun q => absurd k5 q⟩⟩
theorem lc_2286 (hd : 300 ≤ d) (hi : i + 7 ≤ Ls) (hL : Ls ≤ 3584) (V : qInv xs Ls t g I) (go : ∀ g2 I2, qInv xs Ls (t + 1) g2 I2 → qwq d 348 3171 [(0, .ref 1), (1, .ref 64), (2, .ref 245), (3, .ref 694), (4, .int (qj (i : Int)))] [] (qw g2 I2) Q) : qwq d 348 2286 [(0, .ref 1), (1, .ref 64), (2, .ref 245), (3, .ref 694), (4, .int (qj (i : Int)))] [] (qw g I) Q := by
  obtain ⟨⟨F, L, B, S, S0, Im, C, T, P, O⟩, V1, V2, V3, V4⟩ := V
  have ix : ∀ z : Int, 1 ≤ z → z ≤ 6 → qIx (qj (i : Int) + qj z) Ls := fun z h1 h2 => ixa hi hL h1 h2
  obtain ⟨z1, y1, b1⟩ := qj_ex (I 1 (qj (i : Int) + qj 1).toNatClampNeg)
  have hA : ∀ e, (rNet F z1) = .inr e → (e = 0) ∧ e < 2 := by
    intro e h
    unfold rNet at h
    repeat' first | exact inl_inr h | split at h
    all_goals (cases h; decide)
  have hb : qBo (d - 1 - 1) (d - 1) 124 284 1 (fun e => e = 0) (fun _ => True) [.int (qj z1)] g I := qBo_Q (dc := d - 1 - 1) (dm := d - 1) (kc := 124) (km := 284) (c := 1) (A := fun e => e = 0) (V := (fun _ => True)) (zs := [.int (qj z1)]) O hA (fun _ _ => trivial) (f124 (by omega) O.1 O.2.1 b1) (fun g2 I1 K => r284 (by omega) O.1 K b1)
  obtain ⟨v, G, J, k1, k2, k3, v2, G2, J2, k4, k5, k6, k7⟩ := lcW (wk := 337) (by omega) ⟨V1, V2, V3, V4⟩ hb (fun v g1 I1 h => w337_n (by omega) h) (fun e g1 I1 he h => by subst he; exact w337_t0 (by omega) h)
  exact b348_2286 (by omega) ⟨by rw [V1]; exact ix 1 (by omega) (by omega), v, G, J, by rw [y1]; exact k1, by rw [k3]; exact ix 1 (by omega) (by omega), v2, G2, J2, by rw [k2, y1]; exact k4, ⟨fun _ => ⟨fun _ => go _ _ k7, fun q => ⟨fun _ => go _ _ k7, fun q2 => absurd (k6 (Classical.byContradiction q)) q2⟩⟩, fun q => absurd k5 q⟩⟩
theorem lc_2342 (hd : 300 ≤ d) (hi : i + 7 ≤ Ls) (hL : Ls ≤ 3584) (V : qInv xs Ls t g I) (go : ∀ g2 I2, qInv xs Ls (t + 1) g2 I2 → qwq d 348 3171 [(0, .ref 1), (1, .ref 64), (2, .ref 245), (3, .ref 694), (4, .int (qj (i : Int)))] [] (qw g2 I2) Q) : qwq d 348 2342 [(0, .ref 1), (1, .ref 64), (2, .ref 245), (3, .ref 694), (4, .int (qj (i : Int)))] [] (qw g I) Q := by
  obtain ⟨⟨F, L, B, S, S0, Im, C, T, P, O⟩, V1, V2, V3, V4⟩ := V
  have ix : ∀ z : Int, 1 ≤ z → z ≤ 6 → qIx (qj (i : Int) + qj z) Ls := fun z h1 h2 => ixa hi hL h1 h2
  obtain ⟨z1, y1, b1⟩ := qj_ex (I 1 (qj (i : Int) + qj 1).toNatClampNeg)
  obtain ⟨z2, y2, b2⟩ := qj_ex (I 1 (qj (i : Int) + qj 2).toNatClampNeg)
  have hA : ∀ e, (rHei F L S z1 z2) = .inr e → (e = 0) ∧ e < 2 := by
    intro e h
    unfold rHei at h
    repeat' first | exact inl_inr h | split at h
    all_goals (cases h; decide)
  have hb : qBo (d - 1 - 1) (d - 1) 125 250 1 (fun e => e = 0) (fun _ => True) [.int (qj z1), .int (qj z2)] g I := qBo_Q (dc := d - 1 - 1) (dm := d - 1) (kc := 125) (km := 250) (c := 1) (A := fun e => e = 0) (V := (fun _ => True)) (zs := [.int (qj z1), .int (qj z2)]) O hA (fun _ _ => trivial) (f125 (by omega) O.1 O.2.1 b1 b2) (fun g2 I1 K => r250 (by omega) O.1 K b1 b2)
  obtain ⟨v, G, J, k1, k2, k3, v2, G2, J2, k4, k5, k6, k7⟩ := lcW (wk := 338) (by omega) ⟨V1, V2, V3, V4⟩ hb (fun v g1 I1 h => w338_n (by omega) h) (fun e g1 I1 he h => by subst he; exact w338_t0 (by omega) h)
  exact b348_2342 (by omega) ⟨by rw [V1]; exact ix 1 (by omega) (by omega), by rw [V1]; exact ix 2 (by omega) (by omega), v, G, J, by rw [y1, y2]; exact k1, by rw [k3]; exact ix 1 (by omega) (by omega), by rw [k3]; exact ix 2 (by omega) (by omega), v2, G2, J2, by rw [k2, y1, y2]; exact k4, ⟨fun _ => ⟨fun _ => go _ _ k7, fun q => ⟨fun _ => go _ _ k7, fun q2 => absurd (k6 (Classical.byContradiction q)) q2⟩⟩, fun q => absurd k5 q⟩⟩
theorem lc_2410 (hd : 300 ≤ d) (hi : i + 7 ≤ Ls) (hL : Ls ≤ 3584) (V : qInv xs Ls t g I) (go : ∀ g2 I2, qInv xs Ls (t + 1) g2 I2 → qwq d 348 3171 [(0, .ref 1), (1, .ref 64), (2, .ref 245), (3, .ref 694), (4, .int (qj (i : Int)))] [] (qw g2 I2) Q) : qwq d 348 2410 [(0, .ref 1), (1, .ref 64), (2, .ref 245), (3, .ref 694), (4, .int (qj (i : Int)))] [] (qw g I) Q := by
  obtain ⟨⟨F, L, B, S, S0, Im, C, T, P, O⟩, V1, V2, V3, V4⟩ := V
  have ix : ∀ z : Int, 1 ≤ z → z ≤ 6 → qIx (qj (i : Int) + qj z) Ls := fun z h1 h2 => ixa hi hL h1 h2
  have hb : qBo (d - 1) (d - 1) 126 286 1 (fun e => False) (fun _ => True) [] g I := qBo_Q (dc := d - 1) (dm := d - 1) (kc := 126) (km := 286) (c := 1) (A := fun e => False) (V := (fun _ => True)) (zs := []) O (fun e h => inl_inr h) (fun _ _ => trivial) (f126 (by omega) O.1 O.2.1) (fun g2 I1 K => r286 (by omega) O.1 K)
  obtain ⟨v, G, J, k1, k2, k3, J2, k4, k7⟩ := lcD ⟨V1, V2, V3, V4⟩ hb
  exact b348_2410 (by omega) ⟨v, G, J, k1, v, G, J2, k4, ⟨fun _ => go _ _ k7, fun q => absurd rfl q⟩⟩
theorem lc_2423 (hd : 300 ≤ d) (hi : i + 7 ≤ Ls) (hL : Ls ≤ 3584) (V : qInv xs Ls t g I) (go : ∀ g2 I2, qInv xs Ls (t + 1) g2 I2 → qwq d 348 3171 [(0, .ref 1), (1, .ref 64), (2, .ref 245), (3, .ref 694), (4, .int (qj (i : Int)))] [] (qw g2 I2) Q) : qwq d 348 2423 [(0, .ref 1), (1, .ref 64), (2, .ref 245), (3, .ref 694), (4, .int (qj (i : Int)))] [] (qw g I) Q := by
  obtain ⟨⟨F, L, B, S, S0, Im, C, T, P, O⟩, V1, V2, V3, V4⟩ := V
  have ix : ∀ z : Int, 1 ≤ z → z ≤ 6 → qIx (qj (i : Int) + qj z) Ls := fun z h1 h2 => ixa hi hL h1 h2
  have hb : qBo (d - 1) (d - 1) 127 287 1 (fun e => False) (fun _ => True) [] g I := qBo_Q (dc := d - 1) (dm := d - 1) (kc := 127) (km := 287) (c := 1) (A := fun e => False) (V := (fun _ => True)) (zs := []) O (fun e h => inl_inr h) (fun _ _ => trivial) (f127 (by omega) O.1 O.2.1) (fun g2 I1 K => r287 (by omega) O.1 K)
  obtain ⟨v, G, J, k1, k2, k3, J2, k4, k7⟩ := lcD ⟨V1, V2, V3, V4⟩ hb
  exact b348_2423 (by omega) ⟨v, G, J, k1, v, G, J2, k4, ⟨fun _ => go _ _ k7, fun q => absurd rfl q⟩⟩
theorem lc_2436 (hd : 300 ≤ d) (hi : i + 7 ≤ Ls) (hL : Ls ≤ 3584) (V : qInv xs Ls t g I) (go : ∀ g2 I2, qInv xs Ls (t + 1) g2 I2 → qwq d 348 3171 [(0, .ref 1), (1, .ref 64), (2, .ref 245), (3, .ref 694), (4, .int (qj (i : Int)))] [] (qw g2 I2) Q) : qwq d 348 2436 [(0, .ref 1), (1, .ref 64), (2, .ref 245), (3, .ref 694), (4, .int (qj (i : Int)))] [] (qw g I) Q := by
  obtain ⟨⟨F, L, B, S, S0, Im, C, T, P, O⟩, V1, V2, V3, V4⟩ := V
  have ix : ∀ z : Int, 1 ≤ z → z ≤ 6 → qIx (qj (i : Int) + qj z) Ls := fun z h1 h2 => ixa hi hL h1 h2
  obtain ⟨z1, y1, b1⟩ := qj_ex (I 1 (qj (i : Int) + qj 1).toNatClampNeg)
  obtain ⟨z2, y2, b2⟩ := qj_ex (I 1 (qj (i : Int) + qj 2).toNatClampNeg)
  have hA : ∀ e, (rPrc F L S z1 z2) = .inr e → (e = 0) ∧ e < 2 := by
    intro e h
    unfold rPrc at h
    repeat' first | exact inl_inr h | split at h
    all_goals (cases h; decide)
  have hb : qBo (d - 1 - 1) (d - 1) 128 234 1 (fun e => e = 0) (fun _ => True) [.int (qj z1), .int (qj z2)] g I := qBo_Q (dc := d - 1 - 1) (dm := d - 1) (kc := 128) (km := 234) (c := 1) (A := fun e => e = 0) (V := (fun _ => True)) (zs := [.int (qj z1), .int (qj z2)]) O hA (fun _ _ => trivial) (f128 (by omega) O.1 O.2.1 b1 b2) (fun g2 I1 K => r234 (by omega) O.1 K b1 b2)
  obtain ⟨v, G, J, k1, k2, k3, v2, G2, J2, k4, k5, k6, k7⟩ := lcW (wk := 339) (by omega) ⟨V1, V2, V3, V4⟩ hb (fun v g1 I1 h => w339_n (by omega) h) (fun e g1 I1 he h => by subst he; exact w339_t0 (by omega) h)
  exact b348_2436 (by omega) ⟨by rw [V1]; exact ix 1 (by omega) (by omega), by rw [V1]; exact ix 2 (by omega) (by omega), v, G, J, by rw [y1, y2]; exact k1, by rw [k3]; exact ix 1 (by omega) (by omega), by rw [k3]; exact ix 2 (by omega) (by omega), v2, G2, J2, by rw [k2, y1, y2]; exact k4, ⟨fun _ => ⟨fun _ => go _ _ k7, fun q => ⟨fun _ => go _ _ k7, fun q2 => absurd (k6 (Classical.byContradiction q)) q2⟩⟩, fun q => absurd k5 q⟩⟩
theorem lc_2504 (hd : 300 ≤ d) (hi : i + 7 ≤ Ls) (hL : Ls ≤ 3584) (V : qInv xs Ls t g I) (go : ∀ g2 I2, qInv xs Ls (t + 1) g2 I2 → qwq d 348 3171 [(0, .ref 1), (1, .ref 64), (2, .ref 245), (3, .ref 694), (4, .int (qj (i : Int)))] [] (qw g2 I2) Q) : qwq d 348 2504 [(0, .ref 1), (1, .ref 64), (2, .ref 245), (3, .ref 694), (4, .int (qj (i : Int)))] [] (qw g I) Q := by
  obtain ⟨⟨F, L, B, S, S0, Im, C, T, P, O⟩, V1, V2, V3, V4⟩ := V
  have ix : ∀ z : Int, 1 ≤ z → z ≤ 6 → qIx (qj (i : Int) + qj z) Ls := fun z h1 h2 => ixa hi hL h1 h2
  have hb : qBo (d - 1) (d - 1) 129 288 1 (fun e => False) (fun _ => True) [] g I := qBo_Q (dc := d - 1) (dm := d - 1) (kc := 129) (km := 288) (c := 1) (A := fun e => False) (V := (fun _ => True)) (zs := []) O (fun e h => inl_inr h) (fun _ _ => trivial) (f129 (by omega) O.1 O.2.1) (fun g2 I1 K => r288 (by omega) O.1 K)
  obtain ⟨v, G, J, k1, k2, k3, J2, k4, k7⟩ := lcD ⟨V1, V2, V3, V4⟩ hb
  exact b348_2504 (by omega) ⟨v, G, J, k1, v, G, J2, k4, ⟨fun _ => go _ _ k7, fun q => absurd rfl q⟩⟩
theorem lc_2517 (hd : 300 ≤ d) (hi : i + 7 ≤ Ls) (hL : Ls ≤ 3584) (V : qInv xs Ls t g I) (go : ∀ g2 I2, qInv xs Ls (t + 1) g2 I2 → qwq d 348 3171 [(0, .ref 1), (1, .ref 64), (2, .ref 245), (3, .ref 694), (4, .int (qj (i : Int)))] [] (qw g2 I2) Q) : qwq d 348 2517 [(0, .ref 1), (1, .ref 64), (2, .ref 245), (3, .ref 694), (4, .int (qj (i : Int)))] [] (qw g I) Q := by
  obtain ⟨⟨F, L, B, S, S0, Im, C, T, P, O⟩, V1, V2, V3, V4⟩ := V
  have ix : ∀ z : Int, 1 ≤ z → z ≤ 6 → qIx (qj (i : Int) + qj z) Ls := fun z h1 h2 => ixa hi hL h1 h2
  obtain ⟨z1, y1, b1⟩ := qj_ex (I 1 (qj (i : Int) + qj 1).toNatClampNeg)
  have hA : ∀ e, (rSlk F S z1) = .inr e → (e = 1) ∧ e < 2 := by
    intro e h
    unfold rSlk at h
    repeat' first | exact inl_inr h | split at h
    all_goals (cases h; decide)
  have hb : qBo (d - 1 - 1) (d - 1) 130 289 1 (fun e => e = 1) (fun _ => True) [.int (qj z1)] g I := qBo_Q (dc := d - 1 - 1) (dm := d - 1) (kc := 130) (km := 289) (c := 1) (A := fun e => e = 1) (V := (fun _ => True)) (zs := [.int (qj z1)]) O hA (fun _ _ => trivial) (f130 (by omega) O.1 O.2.1 b1) (fun g2 I1 K => r289 (by omega) O.1 K b1)
  obtain ⟨v, G, J, k1, k2, k3, v2, G2, J2, k4, k5, k6, k7⟩ := lcW (wk := 340) (by omega) ⟨V1, V2, V3, V4⟩ hb (fun v g1 I1 h => w340_n (by omega) h) (fun e g1 I1 he h => by subst he; exact w340_t1 (by omega) h)
  exact b348_2517 (by omega) ⟨by rw [V1]; exact ix 1 (by omega) (by omega), v, G, J, by rw [y1]; exact k1, by rw [k3]; exact ix 1 (by omega) (by omega), v2, G2, J2, by rw [k2, y1]; exact k4, ⟨fun _ => ⟨fun _ => go _ _ k7, fun q => ⟨fun _ => go _ _ k7, fun q2 => absurd (k6 (Classical.byContradiction q)) q2⟩⟩, fun q => absurd k5 q⟩⟩
theorem lc_2573 (hd : 300 ≤ d) (hi : i + 7 ≤ Ls) (hL : Ls ≤ 3584) (V : qInv xs Ls t g I) (go : ∀ g2 I2, qInv xs Ls (t + 1) g2 I2 → qwq d 348 3171 [(0, .ref 1), (1, .ref 64), (2, .ref 245), (3, .ref 694), (4, .int (qj (i : Int)))] [] (qw g2 I2) Q) : qwq d 348 2573 [(0, .ref 1), (1, .ref 64), (2, .ref 245), (3, .ref 694), (4, .int (qj (i : Int)))] [] (qw g I) Q := by
  obtain ⟨⟨F, L, B, S, S0, Im, C, T, P, O⟩, V1, V2, V3, V4⟩ := V
  have ix : ∀ z : Int, 1 ≤ z → z ≤ 6 → qIx (qj (i : Int) + qj z) Ls := fun z h1 h2 => ixa hi hL h1 h2
  obtain ⟨z1, y1, b1⟩ := qj_ex (I 1 (qj (i : Int) + qj 1).toNatClampNeg)
  have hA : ∀ e, (rFad F L S z1) = .inr e → (e = 0) ∧ e < 2 := by
    intro e h
    unfold rFad at h
    repeat' first | exact inl_inr h | split at h
    all_goals (cases h; decide)
  have hb : qBo (d - 1 - 1) (d - 1) 131 246 1 (fun e => e = 0) (fun _ => True) [.int (qj z1)] g I := qBo_Q (dc := d - 1 - 1) (dm := d - 1) (kc := 131) (km := 246) (c := 1) (A := fun e => e = 0) (V := (fun _ => True)) (zs := [.int (qj z1)]) O hA (fun _ _ => trivial) (f131 (by omega) O.1 O.2.1 b1) (fun g2 I1 K => r246 (by omega) O.1 K b1)
  obtain ⟨v, G, J, k1, k2, k3, v2, G2, J2, k4, k5, k6, k7⟩ := lcW (wk := 341) (by omega) ⟨V1, V2, V3, V4⟩ hb (fun v g1 I1 h => w341_n (by omega) h) (fun e g1 I1 he h => by subst he; exact w341_t0 (by omega) h)
  exact b348_2573 (by omega) ⟨by rw [V1]; exact ix 1 (by omega) (by omega), v, G, J, by rw [y1]; exact k1, by rw [k3]; exact ix 1 (by omega) (by omega), v2, G2, J2, by rw [k2, y1]; exact k4, ⟨fun _ => ⟨fun _ => go _ _ k7, fun q => ⟨fun _ => go _ _ k7, fun q2 => absurd (k6 (Classical.byContradiction q)) q2⟩⟩, fun q => absurd k5 q⟩⟩
theorem lc_2629 (hd : 300 ≤ d) (hi : i + 7 ≤ Ls) (hL : Ls ≤ 3584) (V : qInv xs Ls t g I) (go : ∀ g2 I2, qInv xs Ls (t + 1) g2 I2 → qwq d 348 3171 [(0, .ref 1), (1, .ref 64), (2, .ref 245), (3, .ref 694), (4, .int (qj (i : Int)))] [] (qw g2 I2) Q) : qwq d 348 2629 [(0, .ref 1), (1, .ref 64), (2, .ref 245), (3, .ref 694), (4, .int (qj (i : Int)))] [] (qw g I) Q := by
  obtain ⟨⟨F, L, B, S, S0, Im, C, T, P, O⟩, V1, V2, V3, V4⟩ := V
  have ix : ∀ z : Int, 1 ≤ z → z ≤ 6 → qIx (qj (i : Int) + qj z) Ls := fun z h1 h2 => ixa hi hL h1 h2
  obtain ⟨z1, y1, b1⟩ := qj_ex (I 1 (qj (i : Int) + qj 1).toNatClampNeg)
  obtain ⟨z2, y2, b2⟩ := qj_ex (I 1 (qj (i : Int) + qj 2).toNatClampNeg)
  have hA : ∀ e, (rBth F S z1 z2) = .inr e → (e = 0 ∨ e = 1) ∧ e < 2 := by
    intro e h
    unfold rBth at h
    repeat' first | exact inl_inr h | split at h
    all_goals (cases h; decide)
  have hV : ∀ v, (rBth F S z1 z2) = .inl v → ∃ b : Bool, v = qb b := by
    intro v h
    unfold rBth at h
    repeat' first | (cases h; done) | split at h
    all_goals (cases h; exact ⟨_, rfl⟩)
  have hb : qBo (d - 1 - 1) (d - 1) 112 261 2 (fun e => e = 0 ∨ e = 1) (fun v => ∃ b : Bool, v = qb b) [.int (qj z1), .int (qj z2)] g I := qBo_Q (dc := d - 1 - 1) (dm := d - 1) (kc := 112) (km := 261) (c := 2) (A := fun e => e = 0 ∨ e = 1) (V := (fun v => ∃ b : Bool, v = qb b)) (zs := [.int (qj z1), .int (qj z2)]) O hA hV (f112 (by omega) O.1 O.2.1 b1 b2) (fun g2 I1 K => r261 (by omega) O.1 K b1 b2)
  obtain ⟨v, G, J, k1, k2, k3, b, G2, J2, k4, k5, k6, k7⟩ := lcB (wk := 342) (by omega) ⟨V1, V2, V3, V4⟩ hb (fun v g1 I1 h => w342_n (by omega) h) (fun e g1 I1 he h => by rcases he with rfl | rfl; exact w342_t0 (by omega) h; exact w342_t1 (by omega) h)
  exact b348_2629 (by omega) ⟨by rw [V1]; exact ix 1 (by omega) (by omega), by rw [V1]; exact ix 2 (by omega) (by omega), v, G, J, by rw [y1, y2]; exact k1, by rw [k3]; exact ix 1 (by omega) (by omega), by rw [k3]; exact ix 2 (by omega) (by omega), b, G2, J2, by rw [k2, y1, y2]; exact k4, ⟨fun _ => ⟨fun _ => go _ _ k7, fun q => ⟨fun hb => ⟨fun _ => go _ _ k7, fun q2 => absurd (by rw [hb] at k6; exact k6 (Classical.byContradiction q)) q2⟩, fun hb => ⟨fun _ => go _ _ k7, fun q2 => absurd (by rw [hb] at k6; exact k6 (Classical.byContradiction q)) q2⟩⟩⟩, fun q => absurd k5 q⟩⟩
theorem lc_2704 (hd : 300 ≤ d) (hi : i + 7 ≤ Ls) (hL : Ls ≤ 3584) (V : qInv xs Ls t g I) (go : ∀ g2 I2, qInv xs Ls (t + 1) g2 I2 → qwq d 348 3171 [(0, .ref 1), (1, .ref 64), (2, .ref 245), (3, .ref 694), (4, .int (qj (i : Int)))] [] (qw g2 I2) Q) : qwq d 348 2704 [(0, .ref 1), (1, .ref 64), (2, .ref 245), (3, .ref 694), (4, .int (qj (i : Int)))] [] (qw g I) Q := by
  obtain ⟨⟨F, L, B, S, S0, Im, C, T, P, O⟩, V1, V2, V3, V4⟩ := V
  have ix : ∀ z : Int, 1 ≤ z → z ≤ 6 → qIx (qj (i : Int) + qj z) Ls := fun z h1 h2 => ixa hi hL h1 h2
  obtain ⟨z1, y1, b1⟩ := qj_ex (I 1 (qj (i : Int) + qj 1).toNatClampNeg)
  have hA : ∀ e, (rThm F S z1) = .inr e → (e = 0) ∧ e < 2 := by
    intro e h
    unfold rThm at h
    repeat' first | exact inl_inr h | split at h
    all_goals (cases h; decide)
  have hb : qBo (d - 1 - 1) (d - 1) 113 259 1 (fun e => e = 0) (fun _ => True) [.int (qj z1)] g I := qBo_Q (dc := d - 1 - 1) (dm := d - 1) (kc := 113) (km := 259) (c := 1) (A := fun e => e = 0) (V := (fun _ => True)) (zs := [.int (qj z1)]) O hA (fun _ _ => trivial) (f113 (by omega) O.1 O.2.1 b1) (fun g2 I1 K => r259 (by omega) O.1 K b1)
  obtain ⟨v, G, J, k1, k2, k3, v2, G2, J2, k4, k5, k6, k7⟩ := lcW (wk := 343) (by omega) ⟨V1, V2, V3, V4⟩ hb (fun v g1 I1 h => w343_n (by omega) h) (fun e g1 I1 he h => by subst he; exact w343_t0 (by omega) h)
  exact b348_2704 (by omega) ⟨by rw [V1]; exact ix 1 (by omega) (by omega), v, G, J, by rw [y1]; exact k1, by rw [k3]; exact ix 1 (by omega) (by omega), v2, G2, J2, by rw [k2, y1]; exact k4, ⟨fun _ => ⟨fun _ => go _ _ k7, fun q => ⟨fun _ => go _ _ k7, fun q2 => absurd (k6 (Classical.byContradiction q)) q2⟩⟩, fun q => absurd k5 q⟩⟩
theorem lc_2760 (hd : 300 ≤ d) (hi : i + 7 ≤ Ls) (hL : Ls ≤ 3584) (V : qInv xs Ls t g I) (go : ∀ g2 I2, qInv xs Ls (t + 1) g2 I2 → qwq d 348 3171 [(0, .ref 1), (1, .ref 64), (2, .ref 245), (3, .ref 694), (4, .int (qj (i : Int)))] [] (qw g2 I2) Q) : qwq d 348 2760 [(0, .ref 1), (1, .ref 64), (2, .ref 245), (3, .ref 694), (4, .int (qj (i : Int)))] [] (qw g I) Q := by
  obtain ⟨⟨F, L, B, S, S0, Im, C, T, P, O⟩, V1, V2, V3, V4⟩ := V
  have ix : ∀ z : Int, 1 ≤ z → z ≤ 6 → qIx (qj (i : Int) + qj z) Ls := fun z h1 h2 => ixa hi hL h1 h2
  obtain ⟨z1, y1, b1⟩ := qj_ex (I 1 (qj (i : Int) + qj 1).toNatClampNeg)
  have hA : ∀ e, (rFst F S z1) = .inr e → (e = 1) ∧ e < 2 := by
    intro e h
    unfold rFst at h
    repeat' first | exact inl_inr h | split at h
    all_goals (cases h; decide)
  have hb : qBo (d - 1 - 1) (d - 1) 132 285 1 (fun e => e = 1) (fun _ => True) [.int (qj z1)] g I := qBo_Q (dc := d - 1 - 1) (dm := d - 1) (kc := 132) (km := 285) (c := 1) (A := fun e => e = 1) (V := (fun _ => True)) (zs := [.int (qj z1)]) O hA (fun _ _ => trivial) (f132 (by omega) O.1 O.2.1 b1) (fun g2 I1 K => r285 (by omega) O.1 K b1)
  obtain ⟨v, G, J, k1, k2, k3, v2, G2, J2, k4, k5, k6, k7⟩ := lcW (wk := 344) (by omega) ⟨V1, V2, V3, V4⟩ hb (fun v g1 I1 h => w344_n (by omega) h) (fun e g1 I1 he h => by subst he; exact w344_t1 (by omega) h)
  exact b348_2760 (by omega) ⟨by rw [V1]; exact ix 1 (by omega) (by omega), v, G, J, by rw [y1]; exact k1, by rw [k3]; exact ix 1 (by omega) (by omega), v2, G2, J2, by rw [k2, y1]; exact k4, ⟨fun _ => ⟨fun _ => go _ _ k7, fun q => ⟨fun _ => go _ _ k7, fun q2 => absurd (k6 (Classical.byContradiction q)) q2⟩⟩, fun q => absurd k5 q⟩⟩
theorem lc_2816 (hd : 300 ≤ d) (hi : i + 7 ≤ Ls) (hL : Ls ≤ 3584) (V : qInv xs Ls t g I) (go : ∀ g2 I2, qInv xs Ls (t + 1) g2 I2 → qwq d 348 3171 [(0, .ref 1), (1, .ref 64), (2, .ref 245), (3, .ref 694), (4, .int (qj (i : Int)))] [] (qw g2 I2) Q) : qwq d 348 2816 [(0, .ref 1), (1, .ref 64), (2, .ref 245), (3, .ref 694), (4, .int (qj (i : Int)))] [] (qw g I) Q := by
  obtain ⟨⟨F, L, B, S, S0, Im, C, T, P, O⟩, V1, V2, V3, V4⟩ := V
  have ix : ∀ z : Int, 1 ≤ z → z ≤ 6 → qIx (qj (i : Int) + qj z) Ls := fun z h1 h2 => ixa hi hL h1 h2
  obtain ⟨z1, y1, b1⟩ := qj_ex (I 1 (qj (i : Int) + qj 1).toNatClampNeg)
  have hA : ∀ e, (rRea F S z1) = .inr e → (e = 0) ∧ e < 2 := by
    intro e h
    unfold rRea at h
    repeat' first | exact inl_inr h | split at h
    all_goals (cases h; decide)
  have hb : qBo (d - 1 - 1) (d - 1) 114 260 1 (fun e => e = 0) (fun _ => True) [.int (qj z1)] g I := qBo_Q (dc := d - 1 - 1) (dm := d - 1) (kc := 114) (km := 260) (c := 1) (A := fun e => e = 0) (V := (fun _ => True)) (zs := [.int (qj z1)]) O hA (fun _ _ => trivial) (f114 (by omega) O.1 O.2.1 b1) (fun g2 I1 K => r260 (by omega) O.1 K b1)
  obtain ⟨v, G, J, k1, k2, k3, v2, G2, J2, k4, k5, k6, k7⟩ := lcW (wk := 345) (by omega) ⟨V1, V2, V3, V4⟩ hb (fun v g1 I1 h => w345_n (by omega) h) (fun e g1 I1 he h => by subst he; exact w345_t0 (by omega) h)
  exact b348_2816 (by omega) ⟨by rw [V1]; exact ix 1 (by omega) (by omega), v, G, J, by rw [y1]; exact k1, by rw [k3]; exact ix 1 (by omega) (by omega), v2, G2, J2, by rw [k2, y1]; exact k4, ⟨fun _ => ⟨fun _ => go _ _ k7, fun q => ⟨fun _ => go _ _ k7, fun q2 => absurd (k6 (Classical.byContradiction q)) q2⟩⟩, fun q => absurd k5 q⟩⟩
theorem lc_2872 (hd : 300 ≤ d) (hi : i + 7 ≤ Ls) (hL : Ls ≤ 3584) (V : qInv xs Ls t g I) (go : ∀ g2 I2, qInv xs Ls (t + 1) g2 I2 → qwq d 348 3171 [(0, .ref 1), (1, .ref 64), (2, .ref 245), (3, .ref 694), (4, .int (qj (i : Int)))] [] (qw g2 I2) Q) : qwq d 348 2872 [(0, .ref 1), (1, .ref 64), (2, .ref 245), (3, .ref 694), (4, .int (qj (i : Int)))] [] (qw g I) Q := by
  obtain ⟨⟨F, L, B, S, S0, Im, C, T, P, O⟩, V1, V2, V3, V4⟩ := V
  have ix : ∀ z : Int, 1 ≤ z → z ≤ 6 → qIx (qj (i : Int) + qj z) Ls := fun z h1 h2 => ixa hi hL h1 h2
  have hb : qBo (d - 1) (d - 1) 133 277 1 (fun e => False) (fun _ => True) [] g I := qBo_Q (dc := d - 1) (dm := d - 1) (kc := 133) (km := 277) (c := 1) (A := fun e => False) (V := (fun _ => True)) (zs := []) O (fun e h => inl_inr h) (fun _ _ => trivial) (f133 (by omega) O.1 O.2.1) (fun g2 I1 K => r277 (by omega) O.1 K)
  obtain ⟨v, G, J, k1, k2, k3, J2, k4, k7⟩ := lcD ⟨V1, V2, V3, V4⟩ hb
  exact b348_2872 (by omega) ⟨v, G, J, k1, v, G, J2, k4, ⟨fun _ => go _ _ k7, fun q => absurd rfl q⟩⟩
theorem lc_2885 (hd : 300 ≤ d) (hi : i + 7 ≤ Ls) (hL : Ls ≤ 3584) (V : qInv xs Ls t g I) (go : ∀ g2 I2, qInv xs Ls (t + 1) g2 I2 → qwq d 348 3171 [(0, .ref 1), (1, .ref 64), (2, .ref 245), (3, .ref 694), (4, .int (qj (i : Int)))] [] (qw g2 I2) Q) : qwq d 348 2885 [(0, .ref 1), (1, .ref 64), (2, .ref 245), (3, .ref 694), (4, .int (qj (i : Int)))] [] (qw g I) Q := by
  obtain ⟨⟨F, L, B, S, S0, Im, C, T, P, O⟩, V1, V2, V3, V4⟩ := V
  have ix : ∀ z : Int, 1 ≤ z → z ≤ 6 → qIx (qj (i : Int) + qj z) Ls := fun z h1 h2 => ixa hi hL h1 h2
  obtain ⟨z2, y2, b2⟩ := qj_ex (I 1 (qj (i : Int) + qj 2).toNatClampNeg)
  obtain ⟨z3, y3, b3⟩ := qj_ex (I 1 (qj (i : Int) + qj 3).toNatClampNeg)
  obtain ⟨z4, y4, b4⟩ := qj_ex (I 1 (qj (i : Int) + qj 4).toNatClampNeg)
  have hA : ∀ e, (rFat F L S (I 1 (qj (i : Int) + qj 1).toNatClampNeg) z2 z3 z4) = .inr e → (e = 1) ∧ e < 2 := by
    intro e h
    unfold rFat at h
    repeat' first | exact inl_inr h | split at h
    all_goals (cases h; decide)
  have hb : qBo (d - 1 - 1) (d - 1) 134 291 1 (fun e => e = 1) (fun _ => True) [.int (I 1 (qj (i : Int) + qj 1).toNatClampNeg), .int (qj z2), .int (qj z3), .int (qj z4)] g I := qBo_Q (dc := d - 1 - 1) (dm := d - 1) (kc := 134) (km := 291) (c := 1) (A := fun e => e = 1) (V := (fun _ => True)) (zs := [.int (I 1 (qj (i : Int) + qj 1).toNatClampNeg), .int (qj z2), .int (qj z3), .int (qj z4)]) O hA (fun _ _ => trivial) (f134 (by omega) O.1 O.2.1 b2 b3 b4) (fun g2 I1 K => r291 (by omega) O.1 K b2 b3 b4)
  obtain ⟨v, G, J, k1, k2, k3, v2, G2, J2, k4, k5, k6, k7⟩ := lcW (wk := 346) (by omega) ⟨V1, V2, V3, V4⟩ hb (fun v g1 I1 h => w346_n (by omega) h) (fun e g1 I1 he h => by subst he; exact w346_t1 (by omega) h)
  exact b348_2885 (by omega) ⟨by rw [V1]; exact ix 1 (by omega) (by omega), by rw [V1]; exact ix 2 (by omega) (by omega), by rw [V1]; exact ix 3 (by omega) (by omega), by rw [V1]; exact ix 4 (by omega) (by omega), v, G, J, by rw [y2, y3, y4]; exact k1, by rw [k3]; exact ix 1 (by omega) (by omega), by rw [k3]; exact ix 2 (by omega) (by omega), by rw [k3]; exact ix 3 (by omega) (by omega), by rw [k3]; exact ix 4 (by omega) (by omega), v2, G2, J2, by rw [k2, y2, y3, y4]; exact k4, ⟨fun _ => ⟨fun _ => go _ _ k7, fun q => ⟨fun _ => go _ _ k7, fun q2 => absurd (k6 (Classical.byContradiction q)) q2⟩⟩, fun q => absurd k5 q⟩⟩
theorem lc_2977 (hd : 300 ≤ d) (hi : i + 7 ≤ Ls) (hL : Ls ≤ 3584) (V : qInv xs Ls t g I) (go : ∀ g2 I2, qInv xs Ls (t + 1) g2 I2 → qwq d 348 3171 [(0, .ref 1), (1, .ref 64), (2, .ref 245), (3, .ref 694), (4, .int (qj (i : Int)))] [] (qw g2 I2) Q) : qwq d 348 2977 [(0, .ref 1), (1, .ref 64), (2, .ref 245), (3, .ref 694), (4, .int (qj (i : Int)))] [] (qw g I) Q := by
  obtain ⟨⟨F, L, B, S, S0, Im, C, T, P, O⟩, V1, V2, V3, V4⟩ := V
  have ix : ∀ z : Int, 1 ≤ z → z ≤ 6 → qIx (qj (i : Int) + qj z) Ls := fun z h1 h2 => ixa hi hL h1 h2
  obtain ⟨z2, y2, b2⟩ := qj_ex (I 1 (qj (i : Int) + qj 2).toNatClampNeg)
  obtain ⟨z3, y3, b3⟩ := qj_ex (I 1 (qj (i : Int) + qj 3).toNatClampNeg)
  obtain ⟨z4, y4, b4⟩ := qj_ex (I 1 (qj (i : Int) + qj 4).toNatClampNeg)
  obtain ⟨z5, y5, b5⟩ := qj_ex (I 1 (qj (i : Int) + qj 5).toNatClampNeg)
  obtain ⟨z6, y6, b6⟩ := qj_ex (I 1 (qj (i : Int) + qj 6).toNatClampNeg)
  have hA : ∀ e, (rSpn F L S (I 1 (qj (i : Int) + qj 1).toNatClampNeg) z2 z3 z4 z5 z6) = .inr e → (e = 1) ∧ e < 2 := by
    intro e h
    unfold rSpn at h
    repeat' first | exact inl_inr h | split at h
    all_goals (cases h; decide)
  have hb : qBo (d - 1 - 1) (d - 1) 135 292 1 (fun e => e = 1) (fun _ => True) [.int (I 1 (qj (i : Int) + qj 1).toNatClampNeg), .int (qj z2), .int (qj z3), .int (qj z4), .int (qj z5), .int (qj z6)] g I := qBo_Q (dc := d - 1 - 1) (dm := d - 1) (kc := 135) (km := 292) (c := 1) (A := fun e => e = 1) (V := (fun _ => True)) (zs := [.int (I 1 (qj (i : Int) + qj 1).toNatClampNeg), .int (qj z2), .int (qj z3), .int (qj z4), .int (qj z5), .int (qj z6)]) O hA (fun _ _ => trivial) (f135 (by omega) O.1 O.2.1 b2 b3 b4 b5 b6) (fun g2 I1 K => r292 (by omega) O.1 K b2 b3 b4 b5 b6)
  obtain ⟨v, G, J, k1, k2, k3, v2, G2, J2, k4, k5, k6, k7⟩ := lcW (wk := 347) (by omega) ⟨V1, V2, V3, V4⟩ hb (fun v g1 I1 h => w347_n (by omega) h) (fun e g1 I1 he h => by subst he; exact w347_t1 (by omega) h)
  exact b348_2977 (by omega) ⟨by rw [V1]; exact ix 1 (by omega) (by omega), by rw [V1]; exact ix 2 (by omega) (by omega), by rw [V1]; exact ix 3 (by omega) (by omega), by rw [V1]; exact ix 4 (by omega) (by omega), by rw [V1]; exact ix 5 (by omega) (by omega), by rw [V1]; exact ix 6 (by omega) (by omega), v, G, J, by rw [y2, y3, y4, y5, y6]; exact k1, by rw [k3]; exact ix 1 (by omega) (by omega), by rw [k3]; exact ix 2 (by omega) (by omega), by rw [k3]; exact ix 3 (by omega) (by omega), by rw [k3]; exact ix 4 (by omega) (by omega), by rw [k3]; exact ix 5 (by omega) (by omega), by rw [k3]; exact ix 6 (by omega) (by omega), v2, G2, J2, by rw [k2, y2, y3, y4, y5, y6]; exact k4, ⟨fun _ => ⟨fun _ => go _ _ k7, fun q => ⟨fun _ => go _ _ k7, fun q2 => absurd (k6 (Classical.byContradiction q)) q2⟩⟩, fun q => absurd k5 q⟩⟩
theorem lc_3095 (hd : 300 ≤ d) (hi : i + 7 ≤ Ls) (hL : Ls ≤ 3584) (V : qInv xs Ls t g I) (go : ∀ g2 I2, qInv xs Ls (t + 1) g2 I2 → qwq d 348 3171 [(0, .ref 1), (1, .ref 64), (2, .ref 245), (3, .ref 694), (4, .int (qj (i : Int)))] [] (qw g2 I2) Q) : qwq d 348 3095 [(0, .ref 1), (1, .ref 64), (2, .ref 245), (3, .ref 694), (4, .int (qj (i : Int)))] [] (qw g I) Q := by
  obtain ⟨⟨F, L, B, S, S0, Im, C, T, P, O⟩, V1, V2, V3, V4⟩ := V
  have ix : ∀ z : Int, 1 ≤ z → z ≤ 6 → qIx (qj (i : Int) + qj z) Ls := fun z h1 h2 => ixa hi hL h1 h2
  have hA : ∀ e, (rImg S S0 Im C) = .inr e → (False) ∧ e < 2 := by
    intro e h
    unfold rImg at h
    repeat' first | exact inl_inr h | split at h
    all_goals (cases h; decide)
  have hb : qBo (d - 1) (d - 1) 136 293 1 (fun e => False) (fun _ => True) [] g I := qBo_W (dc := d - 1) (dm := d - 1) (kc := 136) (km := 293) (c := 1) (A := fun e => False) (V := (fun _ => True)) (zs := []) O hA (fun _ => trivial) (xImg O) (f136 (by omega) O.1 O.2.1) (fun g2 I1 K => r293 (by omega) O.1 K)
  obtain ⟨v, G, J, k1, k2, k3, J2, k4, k7⟩ := lcD ⟨V1, V2, V3, V4⟩ hb
  exact b348_3095 (by omega) ⟨v, G, J, k1, v, G, J2, k4, ⟨fun _ => go _ _ k7, fun q => absurd rfl q⟩⟩
theorem lc_3108 (hd : 300 ≤ d) (hi : i + 7 ≤ Ls) (hL : Ls ≤ 3584) (V : qInv xs Ls t g I) (go : ∀ g2 I2, qInv xs Ls (t + 1) g2 I2 → qwq d 348 3171 [(0, .ref 1), (1, .ref 64), (2, .ref 245), (3, .ref 694), (4, .int (qj (i : Int)))] [] (qw g2 I2) Q) : qwq d 348 3108 [(0, .ref 1), (1, .ref 64), (2, .ref 245), (3, .ref 694), (4, .int (qj (i : Int)))] [] (qw g I) Q := by
  obtain ⟨⟨F, L, B, S, S0, Im, C, T, P, O⟩, V1, V2, V3, V4⟩ := V
  have ix : ∀ z : Int, 1 ≤ z → z ≤ 6 → qIx (qj (i : Int) + qj z) Ls := fun z h1 h2 => ixa hi hL h1 h2
  have hA : ∀ e, (rRes S S0 Im C) = .inr e → (False) ∧ e < 2 := by
    intro e h
    unfold rRes at h
    repeat' first | exact inl_inr h | split at h
    all_goals (cases h; decide)
  have hb : qBo (d - 1) (d - 1) 137 294 1 (fun e => False) (fun _ => True) [] g I := qBo_W (dc := d - 1) (dm := d - 1) (kc := 137) (km := 294) (c := 1) (A := fun e => False) (V := (fun _ => True)) (zs := []) O hA (fun _ => trivial) (xRes O) (f137 (by omega) O.1 O.2.1) (fun g2 I1 K => r294 (by omega) O.1 K)
  obtain ⟨v, G, J, k1, k2, k3, J2, k4, k7⟩ := lcD ⟨V1, V2, V3, V4⟩ hb
  exact b348_3108 (by omega) ⟨v, G, J, k1, v, G, J2, k4, ⟨fun _ => go _ _ k7, fun q => absurd rfl q⟩⟩
theorem lc_3121 (hd : 300 ≤ d) (hi : i + 7 ≤ Ls) (hL : Ls ≤ 3584) (V : qInv xs Ls t g I) (go : ∀ g2 I2, qInv xs Ls (t + 1) g2 I2 → qwq d 348 3171 [(0, .ref 1), (1, .ref 64), (2, .ref 245), (3, .ref 694), (4, .int (qj (i : Int)))] [] (qw g2 I2) Q) : qwq d 348 3121 [(0, .ref 1), (1, .ref 64), (2, .ref 245), (3, .ref 694), (4, .int (qj (i : Int)))] [] (qw g I) Q := by
  obtain ⟨⟨F, L, B, S, S0, Im, C, T, P, O⟩, V1, V2, V3, V4⟩ := V
  have ix : ∀ z : Int, 1 ≤ z → z ≤ 6 → qIx (qj (i : Int) + qj z) Ls := fun z h1 h2 => ixa hi hL h1 h2
  obtain ⟨z1, y1, b1⟩ := qj_ex (I 1 (qj (i : Int) + qj 1).toNatClampNeg)
  have hb : qBo (d - 1) (d - 1) 138 295 1 (fun e => False) (fun _ => True) [.int (qj z1)] g I := qBo_Q (dc := d - 1) (dm := d - 1) (kc := 138) (km := 295) (c := 1) (A := fun e => False) (V := (fun _ => True)) (zs := [.int (qj z1)]) O (fun e h => inl_inr h) (fun _ _ => trivial) (f138 (by omega) O.1 O.2.1 b1) (fun g2 I1 K => r295 (by omega) O.1 K b1)
  obtain ⟨v, G, J, k1, k2, k3, J2, k4, k7⟩ := lcD ⟨V1, V2, V3, V4⟩ hb
  exact b348_3121 (by omega) ⟨by rw [V1]; exact ix 1 (by omega) (by omega), v, G, J, by rw [y1]; exact k1, by rw [k3]; exact ix 1 (by omega) (by omega), v, G, J2, by rw [k2, y1]; exact k4, ⟨fun _ => go _ _ k7, fun q => absurd rfl q⟩⟩
theorem lc_3146 (hd : 300 ≤ d) (hi : i + 7 ≤ Ls) (hL : Ls ≤ 3584) (V : qInv xs Ls t g I) (go : ∀ g2 I2, qInv xs Ls (t + 1) g2 I2 → qwq d 348 3171 [(0, .ref 1), (1, .ref 64), (2, .ref 245), (3, .ref 694), (4, .int (qj (i : Int)))] [] (qw g2 I2) Q) : qwq d 348 3146 [(0, .ref 1), (1, .ref 64), (2, .ref 245), (3, .ref 694), (4, .int (qj (i : Int)))] [] (qw g I) Q := by
  obtain ⟨⟨F, L, B, S, S0, Im, C, T, P, O⟩, V1, V2, V3, V4⟩ := V
  have ix : ∀ z : Int, 1 ≤ z → z ≤ 6 → qIx (qj (i : Int) + qj z) Ls := fun z h1 h2 => ixa hi hL h1 h2
  obtain ⟨z1, y1, b1⟩ := qj_ex (I 1 (qj (i : Int) + qj 1).toNatClampNeg)
  have hb : qBo (d - 1) (d - 1) 139 296 1 (fun e => False) (fun _ => True) [.int (qj z1)] g I := qBo_Q (dc := d - 1) (dm := d - 1) (kc := 139) (km := 296) (c := 1) (A := fun e => False) (V := (fun _ => True)) (zs := [.int (qj z1)]) O (fun e h => inl_inr h) (fun _ _ => trivial) (f139 (by omega) O.1 O.2.1 b1) (fun g2 I1 K => r296 (by omega) O.1 K b1)
  obtain ⟨v, G, J, k1, k2, k3, J2, k4, k7⟩ := lcD ⟨V1, V2, V3, V4⟩ hb
  exact b348_3146 (by omega) ⟨by rw [V1]; exact ix 1 (by omega) (by omega), v, G, J, by rw [y1]; exact k1, by rw [k3]; exact ix 1 (by omega) (by omega), v, G, J2, by rw [k2, y1]; exact k4, ⟨fun _ => go _ _ k7, fun q => absurd rfl q⟩⟩
end CASES
