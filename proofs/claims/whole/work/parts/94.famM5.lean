/-! ===== the text of the family, the reference, 5: silent, owes, the clause ===== -/
section FAMM5
variable {d : Nat} {g : qG1} {I : Nat → Nat → Int32} {T : Nat → Nat} {n i c : Nat} {F : qFam}
theorem qNF_sil (R : qNF F I) (W : qWF F) {h k : Nat} (hh : h < 9) (hk : k < 9) (ne : ¬ h = k) : qNF (sil F h k) (qup (qup I 254 h (qj (bm 9 (fun q => if q = k then true else F.2 2 h q) : Nat))) 254 k (qj (bm 9 (fun q => if q = h then true else F.2 2 k q) : Nat))) := by
  obtain ⟨r1, r2, r3, r4, r5, r6, r7, r8, r9, r10, r11, r12, r13, r14, r15, r16, r17⟩ := R
  have w1 := W.1
  have w2 := W.2.1
  have w3 := W.2.2.1
  have e : ∀ b, ¬ b = 254 → qup (qup I 254 h (qj (bm 9 (fun q => if q = k then true else F.2 2 h q) : Nat))) 254 k (qj (bm 9 (fun q => if q = h then true else F.2 2 k q) : Nat)) b = I b := fun b p => by rw [qup_ne p, qup_ne p]
  refine ⟨?_, ?_, ?_, ?_, ?_, ?_, ?_, ?_, ?_, ?_, ?_, ?_, ?_, ?_, ?_, ?_, fun a ha => ?_⟩
  · rw [e _ (by omega)]; exact r1
  · rw [e _ (by omega)]; exact r2
  · rw [e _ (by omega)]; exact r3
  · rw [e _ (by omega)]; exact r4
  · intro h hh; have hh : h < F.1 0 0 := hh; rw [e _ (by omega)]; exact r5 h hh
  · intro h hh; have hh : h < F.1 0 0 := hh; rw [e _ (by omega)]; exact r6 h hh
  · intro h hh; have hh : h < F.1 0 0 := hh; rw [e _ (by omega)]; exact r7 h hh
  · intro h hh; have hh : h < F.1 0 1 := hh; rw [e _ (by omega)]; exact r8 h hh
  · intro h hh; have hh : h < F.1 0 1 := hh; rw [e _ (by omega)]; exact r9 h hh
  · intro h hh; have hh : h < F.1 0 1 := hh; rw [e _ (by omega)]; exact r10 h hh
  · intro h hh; have hh : h < F.1 0 2 := hh; rw [e _ (by omega)]; exact r11 h hh
  · intro h hh; have hh : h < F.1 0 2 := hh; rw [e _ (by omega)]; exact r12 h hh
  · intro a b ha hb; have ha : a < F.1 0 2 := ha; rw [e _ (by omega)]; exact r13 a b ha hb
  · intro h k hh hk; rw [e _ (by omega)]; exact r14 h k hh hk
  · rw [e _ (by omega)]; exact r15
  · rw [e _ (by omega)]; exact r16
  · rw [qup_at]
    by_cases c : a = k
    · rw [if_pos c, c]; congr 2; refine bm_ext (fun q _ => ?_)
      show _ = (if (k = h ∧ q = k) ∨ (k = k ∧ q = h) then true else F.2 2 k q)
      by_cases eq : q = h
      · rw [if_pos eq, if_pos (Or.inr ⟨rfl, eq⟩)]
      · rw [if_neg eq, if_neg (by omega)]
    · rw [if_neg c, qup_at]
      by_cases c2 : a = h
      · rw [if_pos c2, c2]; congr 2; refine bm_ext (fun q _ => ?_)
        show _ = (if (h = h ∧ q = k) ∨ (h = k ∧ q = h) then true else F.2 2 h q)
        by_cases eq : q = k
        · rw [if_pos eq, if_pos (Or.inl ⟨rfl, eq⟩)]
        · rw [if_neg eq, if_neg (by omega)]
      · rw [if_neg c2, r17 a ha]; congr 2; refine bm_ext (fun q _ => ?_)
        show _ = (if (a = h ∧ q = k) ∨ (a = k ∧ q = h) then true else F.2 2 a q)
        rw [if_neg (by omega)]
theorem qNF_ows (R : qNF F I) (W : qWF F) {h k v : Nat} (hh : h < 9) (hk : k < 9) : qNF (ows F h k v) (qup I (308 + 1 + h) k (qj ((min 999 (F.1 (20 + h) k + v) : Nat) : Int))) := by
  obtain ⟨r1, r2, r3, r4, r5, r6, r7, r8, r9, r10, r11, r12, r13, r14, r15, r16, r17⟩ := R
  have w1 := W.1
  have w2 := W.2.1
  have w3 := W.2.2.1
  have r : ∀ r, r < 20 → (ows F h k v).1 r = F.1 r := fun r hr => ows_r (by omega)
  have e : ∀ b, ¬ b = 308 + 1 + h → qup I (308 + 1 + h) k (qj ((min 999 (F.1 (20 + h) k + v) : Nat) : Int)) b = I b := fun b p => by rw [qup_ne p]
  refine ⟨?_, ?_, ?_, ?_, ?_, ?_, ?_, ?_, ?_, ?_, ?_, ?_, ?_, fun a b ha hb => ?_, ?_, ?_, ?_⟩
  · rw [e _ (by omega), r _ (by omega)]; exact r1
  · rw [e _ (by omega), r _ (by omega)]; exact r2
  · rw [e _ (by omega), r _ (by omega)]; exact r3
  · rw [e _ (by omega), r _ (by omega)]; exact r4
  · rw [r _ (by omega), r _ (by omega)]; intro h hh; rw [e _ (by omega)]; exact r5 h hh
  · rw [r _ (by omega), r _ (by omega)]; intro h hh; rw [e _ (by omega)]; exact r6 h hh
  · rw [r _ (by omega), r _ (by omega)]; intro h hh; rw [e _ (by omega)]; exact r7 h hh
  · rw [r _ (by omega), r _ (by omega)]; intro h hh; rw [e _ (by omega)]; exact r8 h hh
  · rw [r _ (by omega), r _ (by omega)]; intro h hh; rw [e _ (by omega)]; exact r9 h hh
  · rw [r _ (by omega), r _ (by omega)]; intro h hh; rw [e _ (by omega)]; exact r10 h hh
  · rw [r _ (by omega), r _ (by omega)]; intro h hh; rw [e _ (by omega)]; exact r11 h hh
  · rw [r _ (by omega), r _ (by omega)]; intro h hh; rw [e _ (by omega)]; exact r12 h hh
  · intro a b ha hb; rw [r 0 (by omega)] at ha; rw [r 8 (by omega)] at hb; rw [e _ (by omega), r (10 + a) (by omega)]; exact r13 a b ha hb
  · by_cases c : a = h
    · rw [c, ows_o, qup_at]
      by_cases c2 : b = k
      · rw [if_pos c2, if_pos c2]
      · rw [if_neg c2, if_neg c2]; exact r14 h b hh hb
    · rw [e _ (by omega), ows_r (by omega)]; exact r14 a b ha hb
  · rw [e _ (by omega)]; exact r15
  · rw [e _ (by omega)]; exact r16
  · rw [e _ (by omega)]; exact r17
theorem kR_b {k : Nat} (hk : k ≤ 7) : kR k ≤ 7 ∧ (¬ k = 0 → ¬ k = 1 → ¬ k = 5 → 3 ≤ kR k) := by
  have hv : k = 0 ∨ k = 1 ∨ k = 2 ∨ k = 3 ∨ k = 4 ∨ k = 5 ∨ k = 6 ∨ k = 7 := by omega
  rcases hv with rfl | rfl | rfl | rfl | rfl | rfl | rfl | rfl <;> decide
theorem aInc_X {x : Nat} {J : Nat → Nat → Int32} (h : rX T n J i) : rX T n (aInc x J) i := by
  unfold aInc
  split
  · exact rX_w h (by omega) (by omega)
  · exact h
theorem aInc_5 {x : Nat} {J : Nat → Nat → Int32} (j : Nat) : aInc x J 245 j = J 245 j := by
  unfold aInc
  split
  · rw [qup_ne (by omega)]
  · rfl
theorem aInc_N {x : Nat} {J : Nat → Nat → Int32} : rN J (aInc x J) := by
  unfold aInc
  split
  · exact rN_w (by unfold rNa; omega)
  · exact rN_rf
theorem m195e (hd : 5 ≤ d) (h5 : ¬ I 245 5 = qj 0) (v : Int32) : qRun d 195 [.ref 245, .int v] (qw g I) (.inl (some (.int (qj 0)), qw g I)) :=
  qRun_of fun Q hQ => b195_0 (by omega) ⟨fun q => absurd q h5, fun _ => hQ⟩
theorem rB4 (hd : 6 ≤ d) (X : rX T n I i) (z : I 245 5 = qj 0) (R : qNF F I) (W : qWF F) (e7 : I 245 7 = qj (c : Int)) : rBP d g I T n 5 c (aSil T n F (tLt T n i)) := by
  have h9 := W.1
  obtain ⟨J1, K, a1, eK, x1, z1, R1, rn1, y7, s0, s1, s2⟩ := rPre (d := d) (g := g) hd X z R W e7
  have go : ∀ (J15 J17 : Nat → Nat → Int32) (v16 v18 : Int32) (Q : qR → Prop), qRun (d - 1 - 1) 179 [.ref 245, .int (qj 0), .int (qj ((F.1 0 0 : Int) - 1))] (qw g K) (.inl (some (.int v16), qw g J15)) → qRun (d - 1) 195 [.ref 245, .int v16] (qw g J15) (.inl (some (.int v18), qw g J17)) →
      ((J17 245 5 = 0 → qIx v16 9 ∧ (qIx v18 9 ∧ (qwq d 193 374 [(0, .ref 245), (1, .int (qj ((5 : Nat) : Int)))] [] (qw g (qup (qup J17 254 v16.toNatClampNeg ((J17 254 v16.toNatClampNeg) ||| ((qj 1) <<< (v18 &&& 31)))) 254 v18.toNatClampNeg (((qup J17 254 v16.toNatClampNeg ((J17 254 v16.toNatClampNeg) ||| ((qj 1) <<< (v18 &&& 31)))) 254 v18.toNatClampNeg) ||| ((qj 1) <<< (v16 &&& 31))))) Q))) ∧ (¬ (J17 245 5 = 0) → qwq d 193 374 [(0, .ref 245), (1, .int (qj ((5 : Nat) : Int)))] [] (qw g J17) Q)) →
      qwq d 193 87 [(0, .ref 245), (1, .int (qj ((5 : Nat) : Int)))] [] (qw g I) Q := by
    intro J15 J17 v16 v18 Q k1 k2 h
    refine b193_87 (by omega) ⟨fun _ => ⟨J1, a1, ?_⟩, fun q => absurd z q⟩
    rw [← eK, s0]
    simp (disch := omega) only [qz0, qj_eq, qtk, qfk, qj_sub, true_and, and_true, true_implies, false_implies, not_true_eq_false, not_false_eq_true]
    exact ⟨_, _, k1, _, _, k2, h⟩
  have q1 := m179 (d := d - 1 - 1) (g := g) (lo := 0) (hi := (F.1 0 0 : Int) - 1) (by omega) x1 z1 (by omega) (by omega)
  unfold aSil aHan
  cases h1 : aNum T n (tLt T n i) 0 ((F.1 0 0 : Int) - 1) with
  | inl e =>
    rw [h1] at q1
    obtain ⟨J15, k1, a2, a3⟩ := q1
    have ne := rE_ne a2
    exact ⟨J15, ⟨a2, rN_tr rn1 (rN_f a3)⟩, fun Q h => go _ _ _ _ Q k1 (m195e (by omega) ne _) ⟨fun q => absurd q ne, fun _ => h⟩⟩
  | inr r1 =>
    rw [h1] at q1
    obtain ⟨J15, k1, a2, az, a3⟩ := q1
    have b1 := aNum_b h1 x1.2.1
    have R15 := qNF_f R1 W a3
    have hh : r1.1 < F.1 0 0 := by omega
    have q2 := m195 (d := d - 1) (g := g) (by omega) a2 az R15 W hh
    simp only []
    cases h2 : aNum T n r1.2 0 ((F.1 0 0 : Int) - 1) with
    | inl e =>
      rw [h2] at q2
      obtain ⟨J17, v, k2, c2, c3⟩ := q2
      have ne := rE_ne c2
      exact ⟨J17, ⟨c2, rN_tr rn1 (rN_tr (rN_f a3) (rN_f c3))⟩, fun Q h => go _ _ _ _ Q k1 k2 ⟨fun q => absurd q ne, fun _ => h⟩⟩
    | inr r2 =>
      rw [h2] at q2
      have b2 := aNum_b h2 b1.2.2.1
      have hk : r2.1 < F.1 0 0 := by omega
      simp only [] at q2 ⊢
      by_cases ce : r1.1 = r2.1
      · rw [if_pos ce] at q2
        rw [if_pos ce]
        obtain ⟨J17, v, k2, c2, c3⟩ := q2
        have ne := rE_ne c2
        exact ⟨J17, ⟨c2, rN_tr rn1 (rN_tr (rN_f a3) (rN_f c3))⟩, fun Q h => go _ _ _ _ Q k1 k2 ⟨fun q => absurd q ne, fun _ => h⟩⟩
      · rw [if_neg ce] at q2
        rw [if_neg ce]
        obtain ⟨J17, k2, c2, cz, c3⟩ := q2
        have R17 := qNF_f R15 W c3
        have y := R17.2.2.2.2.2.2.2.2.2.2.2.2.2.2.2.2
        have hra : rNa 254 := by unfold rNa; omega
        refine ⟨qup (qup J17 254 r1.1 (qj (bm 9 (fun q => if q = r2.1 then true else F.2 2 r1.1 q) : Nat))) 254 r2.1 (qj (bm 9 (fun q => if q = r1.1 then true else F.2 2 r2.1 q) : Nat)), ⟨rX_w (rX_w c2 (by omega) (by omega)) (by omega) (by omega), by rw [qup_ne (by omega), qup_ne (by omega)]; exact cz, by rw [aInc_n (by omega)]; exact qNF_sil R17 W (h := r1.1) (k := r2.1) (by omega) (by omega) ce, rN_tr rn1 (rN_tr (rN_f a3) (rN_tr (rN_f c3) (rN_tr (rN_w hra) (rN_w hra)))), by rw [qup_ne (by omega), qup_ne (by omega), rN_245 c3, rN_245 a3]; exact y7⟩, fun Q h => go _ _ _ _ Q k1 k2 ⟨fun _ => ⟨qIx_z (by omega) (by omega) (by omega), qIx_z (by omega) (by omega) (by omega), ?_⟩, fun q => absurd cz q⟩⟩
        rw [qj_nat (by omega), qj_nat (by omega), qup_at, if_neg (fun q => ce q.symm), y r1.1 (by omega), y r2.1 (by omega), bm_set (by omega) (by omega), bm_set (by omega) (by omega)]
        exact h
theorem rB6 (hd : 6 ≤ d) (X : rX T n I i) (z : I 245 5 = qj 0) (R : qNF F I) (W : qWF F) (e7 : I 245 7 = qj (c : Int)) : rBP d g I T n 6 c (aOws T n F (tLt T n i)) := by
  have h9 := W.1
  obtain ⟨J1, K, a1, eK, x1, z1, R1, rn1, y7, s0, s1, s2⟩ := rPre (d := d) (g := g) hd X z R W e7
  have go : ∀ (J22 J24 J26 : Nat → Nat → Int32) (v23 v25 v27 : Int32) (Q : qR → Prop), qRun (d - 1 - 1) 179 [.ref 245, .int (qj 0), .int (qj ((F.1 0 0 : Int) - 1))] (qw g K) (.inl (some (.int v23), qw g J22)) → qRun (d - 1) 195 [.ref 245, .int v23] (qw g J22) (.inl (some (.int v25), qw g J24)) → qRun (d - 1) 179 [.ref 245, .int (qj 1), .int (qj 99)] (qw g J24) (.inl (some (.int v27), qw g J26)) →
      ((¬ J26 245 5 = 0 → qwq d 193 374 [(0, .ref 245), (1, .int (qj ((6 : Nat) : Int)))] [] (qw g J26) Q) ∧ (¬ ¬ J26 245 5 = 0 → qIx v23 9 ∧ (qIx v25 9 ∧ (qwq d 193 374 [(0, .ref 245), (1, .int (qj ((6 : Nat) : Int)))] [] (qw g (qup J26 (q2 9 308 v23.toNatClampNeg) v25.toNatClampNeg (qmin (qj 999) ((J26 (q2 9 308 v23.toNatClampNeg) v25.toNatClampNeg) + v27)))) Q)))) →
      qwq d 193 87 [(0, .ref 245), (1, .int (qj ((6 : Nat) : Int)))] [] (qw g I) Q := by
    intro J22 J24 J26 v23 v25 v27 Q k1 k2 k3 h
    refine b193_87 (by omega) ⟨fun _ => ⟨J1, a1, ?_⟩, fun q => absurd z q⟩
    rw [← eK, s0]
    simp (disch := omega) only [qz0, qj_eq, qtk, qfk, qj_sub, true_and, and_true, true_implies, false_implies, not_true_eq_false, not_false_eq_true]
    exact ⟨_, _, k1, _, _, k2, _, _, k3, h⟩
  have q1 := m179 (d := d - 1 - 1) (g := g) (lo := 0) (hi := (F.1 0 0 : Int) - 1) (by omega) x1 z1 (by omega) (by omega)
  unfold aOws aHan
  cases h1 : aNum T n (tLt T n i) 0 ((F.1 0 0 : Int) - 1) with
  | inl e =>
    rw [h1] at q1
    obtain ⟨J15, k1, a2, a3⟩ := q1
    have ne := rE_ne a2
    exact ⟨J15, ⟨a2, rN_tr rn1 (rN_f a3)⟩, fun Q h => go _ _ _ _ _ _ Q k1 (m195e (by omega) ne _) (m179e (by omega) ne _ _) ⟨fun _ => h, fun q => absurd ne q⟩⟩
  | inr r1 =>
    rw [h1] at q1
    obtain ⟨J15, k1, a2, az, a3⟩ := q1
    have b1 := aNum_b h1 x1.2.1
    have R15 := qNF_f R1 W a3
    have hh : r1.1 < F.1 0 0 := by omega
    have q2 := m195 (d := d - 1) (g := g) (by omega) a2 az R15 W hh
    simp only []
    cases h2 : aNum T n r1.2 0 ((F.1 0 0 : Int) - 1) with
    | inl e =>
      rw [h2] at q2
      obtain ⟨J17, v, k2, c2, c3⟩ := q2
      have ne := rE_ne c2
      exact ⟨J17, ⟨c2, rN_tr rn1 (rN_tr (rN_f a3) (rN_f c3))⟩, fun Q h => go _ _ _ _ _ _ Q k1 k2 (m179e (by omega) ne _ _) ⟨fun _ => h, fun q => absurd ne q⟩⟩
    | inr r2 =>
      rw [h2] at q2
      have b2 := aNum_b h2 b1.2.2.1
      have hk : r2.1 < F.1 0 0 := by omega
      simp only [] at q2 ⊢
      by_cases ce : r1.1 = r2.1
      · rw [if_pos ce] at q2
        rw [if_pos ce]
        obtain ⟨J17, v, k2, c2, c3⟩ := q2
        have ne := rE_ne c2
        exact ⟨J17, ⟨c2, rN_tr rn1 (rN_tr (rN_f a3) (rN_f c3))⟩, fun Q h => go _ _ _ _ _ _ Q k1 k2 (m179e (by omega) ne _ _) ⟨fun _ => h, fun q => absurd ne q⟩⟩
      · rw [if_neg ce] at q2
        rw [if_neg ce]
        obtain ⟨J17, k2, c2, cz, c3⟩ := q2
        have q3 := m179 (d := d - 1) (g := g) (lo := 1) (hi := 99) (by omega) c2 cz (by omega) (by omega)
        cases h3 : aNum T n r2.2 1 99 with
        | inl e =>
          rw [h3] at q3
          obtain ⟨J26, k3, e2, e3⟩ := q3
          have ne := rE_ne e2
          exact ⟨J26, ⟨e2, rN_tr rn1 (rN_tr (rN_f a3) (rN_tr (rN_f c3) (rN_f e3)))⟩, fun Q h => go _ _ _ _ _ _ Q k1 k2 k3 ⟨fun _ => h, fun q => absurd ne q⟩⟩
        | inr r3 =>
          rw [h3] at q3
          obtain ⟨J26, k3, e2, ez, e3⟩ := q3
          have b3 := aNum_b h3 b2.2.2.1
          have R26 := qNF_f (qNF_f R15 W c3) W e3
          have y := R26.2.2.2.2.2.2.2.2.2.2.2.2.2.1 r1.1 r2.1 (by omega) (by omega)
          have w8 := W.2.2.2.2.2.2.2.1 r1.1 r2.1
          have hra : rNa (308 + 1 + r1.1) := by unfold rNa; omega
          refine ⟨qup J26 (308 + 1 + r1.1) r2.1 (qj ((min 999 (F.1 (20 + r1.1) r2.1 + r3.1) : Nat) : Int)), ⟨rX_w e2 (by omega) (by omega), by rw [qup_ne (by omega)]; exact ez, by rw [aInc_n (by omega)]; exact qNF_ows R26 W (h := r1.1) (k := r2.1) (v := r3.1) (by omega) (by omega), rN_tr rn1 (rN_tr (rN_f a3) (rN_tr (rN_f c3) (rN_tr (rN_f e3) (rN_w hra)))), by rw [qup_ne (by omega), rN_245 e3, rN_245 c3, rN_245 a3]; exact y7⟩, fun Q h => go _ _ _ _ _ _ Q k1 k2 k3 ⟨fun q => absurd ez q, fun _ => ⟨qIx_z (by omega) (by omega) (by omega), qIx_z (by omega) (by omega) (by omega), ?_⟩⟩⟩
          rw [qj_nat (by omega), qj_nat (by omega), q2_e (by omega), y, qj_add, qmin_z (by omega) (by omega) (by omega) (by omega)]
          have em : (min 999 ((F.1 (20 + r1.1) r2.1 : Int) + r3.1)) = ((min 999 (F.1 (20 + r1.1) r2.1 + r3.1) : Nat) : Int) := by omega
          rw [em]
          exact h
theorem rB (hd : 6 ≤ d) (X : rX T n I i) (z : I 245 5 = qj 0) (R : qNF F I) (W : qWF F) (e7 : I 245 7 = qj (c : Int)) {k : Nat} (hk : k ≤ 7) (hc : ¬ aFul F c k) : rBP d g I T n (kR k) c (aBdy T n F k (tLt T n i)) := by
  unfold aBdy
  have hv : k = 0 ∨ k = 1 ∨ k = 2 ∨ k = 3 ∨ k = 4 ∨ k = 5 ∨ k = 6 ∨ k = 7 := by omega
  rcases hv with rfl | rfl | rfl | rfl | rfl | rfl | rfl | rfl
  · exact rB0 hd X z R W e7 hc
  · exact rB1 hd X z R W e7 hc
  · exact rB2 hd X z R W e7
  · exact rB3 hd X z R W e7
  · exact rB4 hd X z R W e7
  · exact rB5 hd X z R W e7 hc
  · exact rB6 hd X z R W e7
  · exact rB7 hd X z R W e7
/-- behind the body -/
theorem rEnd_e (hd : 6 ≤ d) {e : Nat × Nat} (E : rE T n I e) {x : Nat} (hx : x ≤ 7) {Q : qR → Prop} (hQ : Q (.inl (none, qw g I))) : qwq d 193 374 [(0, .ref 245), (1, .int (qj (x : Int)))] [] (qw g I) Q := by
  have ne := rE_ne E
  refine b193_374 (by omega) ?_
  simp (disch := omega) only [qj_le]
  by_cases c : 3 ≤ x
  · exact ⟨fun _ => b193_400 (by omega) ⟨I, m186e (by omega) ne _, hQ⟩, fun q => absurd (by omega) q⟩
  · refine ⟨fun q => absurd q (by omega), fun _ => ⟨qIx_z (by omega) (by omega) (by omega), fun _ => ?_, fun q => absurd ne q⟩⟩
    rw [show ∀ v : Int32, v + qj 0 = v from fun v => Int32.add_zero v, qup_self]
    exact b193_400 (by omega) ⟨I, m186e (by omega) ne _, hQ⟩
theorem rEnd (hd : 6 ≤ d) (z : I 245 5 = qj 0) {x : Nat} (hx : x ≤ 7) {Q : qR → Prop} {J : Nat → Nat → Int32} (k : qRun (d - 1) 186 [.ref 245, .int (qj 59)] (qw g (aInc x I)) (.inl (none, qw g J))) (hQ : Q (.inl (none, qw g J))) : qwq d 193 374 [(0, .ref 245), (1, .int (qj (x : Int)))] [] (qw g I) Q := by
  refine b193_374 (by omega) ?_
  simp (disch := omega) only [qj_le]
  unfold aInc at k
  by_cases c : 3 ≤ x
  · rw [if_neg (by omega)] at k
    exact ⟨fun _ => b193_400 (by omega) ⟨J, k, hQ⟩, fun q => absurd (by omega) q⟩
  · rw [if_pos (by omega)] at k
    refine ⟨fun q => absurd q (by omega), fun _ => ⟨qIx_z (by omega) (by omega) (by omega), fun q => absurd z q, fun _ => ?_⟩⟩
    rw [qj_nat (by omega)]
    exact b193_400 (by omega) ⟨J, k, hQ⟩
theorem m193 (hd : 6 ≤ d) (X : rX T n I i) (z : I 245 5 = qj 0) (R : qNF F I) (W : qWP F) (hc : c ≤ 60) (e7 : I 245 7 = qj (c : Int)) : match aClu T n F c i with
    | .inl e => ∃ J, qRun d 193 [.ref 245] (qw g I) (.inl (none, qw g J)) ∧ rE T n J e ∧ rN I J
    | .inr r => ∃ J, qRun d 193 [.ref 245] (qw g I) (.inl (none, qw g J)) ∧ rX T n J r.2 ∧ J 245 5 = qj 0 ∧ qNF r.1 J ∧ rN I J ∧ J 245 7 = qj ((c + 1 : Nat) : Int) := by
  obtain ⟨J1, k1, x1, f1, z1⟩ := m190 (d := d - 1) (g := g) (by omega) X z
  have R1 := qNF_f R W.1 f1
  have y7 : J1 245 7 = qj (c : Int) := (rN_245 f1).trans e7
  have h9 := W.1.1
  have h8 := W.1.2.1
  have h6 := W.1.2.2.1
  have s0 := R1.1
  have s1 := R1.2.1
  have s2 := R1.2.2.1
  have e4 := x1.2.2.2.1
  have bad : ∀ (m : Nat), ¬ m = 0 → m ≤ 3 → ∃ J, qRun (d - 1) 176 [.ref 245, .int (qj (m : Int)), .int (J1 245 4)] (qw g J1) (.inl (none, qw g J)) ∧ rE T n J (m, tBl T n i) ∧ rN I J := by
    intro m hm hm3
    obtain ⟨J9, w1, w2, w5, w6, w3⟩ := m176 (d := d - 1) (g := g) (by omega) x1 z1 m (tBl T n i)
    exact ⟨J9, by rw [e4]; exact w1, ⟨hm, hm3, w5, w6, _, w2⟩, rN_f (rF_tr f1 w3)⟩
  have out : ∀ (J : Nat → Nat → Int32) (e : Nat × Nat) (v : Int32) (Q : qR → Prop), rE T n J e → Q (.inl (none, qw g J)) → qwq d 193 87 [(0, .ref 245), (1, .int v)] [] (qw g J) Q := fun J e v Q E hQ => b193_87 (by omega) ⟨fun q => absurd q (rE_ne E), fun _ => hQ⟩
  unfold aClu
  cases h1 : aWrd T n i with
  | inl e =>
    have hw : ¬ (tBl T n i < n ∧ ltr (T (tBl T n i)) = true) := by
      intro q; unfold aWrd at h1; rw [if_pos q] at h1; cases h1
    have he : e = (1, tBl T n i) := by unfold aWrd at h1; rw [if_neg hw] at h1; injection h1 with h1; exact h1.symm
    have hn : aKnd T (tBl T n i) (tLt T n (tBl T n i)) = none := by
      unfold aKnd
      rw [aIs_n (by omega) hw, aIs_n (by omega) hw, aIs_n (by omega) hw, aIs_n (by omega) hw, aIs_n (by omega) hw, aIs_n (by omega) hw, aIs_n (by omega) hw, aIs_n (by omega) hw]
      rfl
    rw [hn] at k1
    obtain ⟨J9, w1, w2, w3⟩ := bad 1 (by omega) (by omega)
    rw [he]
    exact ⟨J9, qRun_of fun Q hQ => b193_0 (by omega) ⟨_, J1, k1, fun q => absurd rfl q, fun _ => ⟨J9, w1, out _ _ _ Q w2 hQ⟩⟩, w2, w3⟩
  | inr w =>
    obtain ⟨bw1, bw2, bw3, bw4⟩ := aWrd_b h1 X.2.1
    simp only []
    rw [bw2, bw1]
    cases h2 : aKnd T (tBl T n i) (tLt T n (tBl T n i)) with
    | none =>
      rw [h2] at k1
      obtain ⟨J9, w1, w2, w3⟩ := bad 1 (by omega) (by omega)
      exact ⟨J9, qRun_of fun Q hQ => b193_0 (by omega) ⟨_, J1, k1, fun q => absurd rfl q, fun _ => ⟨J9, w1, out _ _ _ Q w2 hQ⟩⟩, w2, w3⟩
    | some k =>
      rw [h2] at k1
      have hk := aKnd_b h2
      have k1 : qRun (d - 1) 190 [.ref 245] (qw g I) (.inl (some (.int (qj ((kR k : Nat) : Int))), qw g J1)) := k1
      have hk7 : kR k ≤ 7 := (kR_b hk).1
      simp only []
      by_cases hful : aFul F c k
      · rw [if_pos hful]
        obtain ⟨J9, w1, w2, w3⟩ := bad 3 (by omega) (by omega)
        refine ⟨J9, qRun_of fun Q hQ => b193_0 (by omega) ⟨_, J1, k1, ?_⟩, w2, w3⟩
        have fin : ∃ J3, qRun (d - 1) 176 [.ref 245, .int (qj 3), .int (J1 245 4)] (qw g J1) (.inl (none, qw g J3)) ∧ qwq d 193 87 [(0, .ref 245), (1, .int (qj ((kR k : Nat) : Int)))] [] (qw g J3) Q := ⟨J9, w1, out _ _ _ Q w2 hQ⟩
        unfold aFul at hful
        rw [y7, s0, s1, s2]
        by_cases c60 : 60 ≤ c
        · simp (disch := omega) only [qz0, qj_eq, qtk, qfk]
          exact fin
        · by_cases k0 : k = 0
          · subst k0
            have : F.1 0 0 = 9 := by omega
            have e : kR 0 = 0 := rfl
            rw [e] at fin ⊢
            simp (disch := omega) only [qz0, qj_eq, qtk, qfk]
            exact fin
          · by_cases k1' : k = 1
            · subst k1'
              have : F.1 0 1 = 8 := by omega
              have e : kR 1 = 1 := rfl
              rw [e] at fin ⊢
              simp (disch := omega) only [qz0, qj_eq, qtk, qfk]
              exact fin
            · have k5 : k = 5 := by omega
              subst k5
              have : F.1 0 2 = 6 := by omega
              have e : kR 5 = 2 := rfl
              rw [e] at fin ⊢
              simp (disch := omega) only [qz0, qj_eq, qtk, qfk]
              exact fin
      · rw [if_neg hful]
        have hf' := hful
        unfold aFul at hf'
        have kB := rB (d := d) (g := g) hd x1 z1 R1 W.1 y7 hk hful
        have start : ∀ Q : qR → Prop, qwq d 193 87 [(0, .ref 245), (1, .int (qj ((kR k : Nat) : Int)))] [] (qw g J1) Q → qwp d 193 [.ref 245] (qw g I) Q := by
          intro Q h
          refine b193_0 (by omega) ⟨_, J1, k1, ?_⟩
          rw [y7, s0, s1, s2]
          have hv : k = 0 ∨ k = 1 ∨ k = 5 ∨ (¬ k = 0 ∧ ¬ k = 1 ∧ ¬ k = 5) := by omega
          rcases hv with q | q | q | q
          · subst q
            have e : kR 0 = 0 := rfl
            rw [e] at h ⊢
            simp (disch := omega) only [qz0, qj_eq, qtk, qfk]
            exact h
          · subst q
            have e : kR 1 = 1 := rfl
            rw [e] at h ⊢
            simp (disch := omega) only [qz0, qj_eq, qtk, qfk]
            exact h
          · subst q
            have e : kR 5 = 2 := rfl
            rw [e] at h ⊢
            simp (disch := omega) only [qz0, qj_eq, qtk, qfk]
            exact h
          · have e : 3 ≤ kR k := (kR_b hk).2 q.1 q.2.1 q.2.2
            simp (disch := omega) only [qz0, qj_eq, qtk, qfk]
            exact h
        cases h3 : aBdy T n F k (tLt T n (tBl T n i)) with
        | inl e =>
          rw [h3] at kB
          obtain ⟨J, ⟨E, rn⟩, p⟩ := kB
          exact ⟨J, qRun_of fun Q hQ => start Q (p Q (rEnd_e hd E hk7 hQ)), E, rN_tr (rN_f f1) rn⟩
        | inr r =>
          rw [h3] at kB
          obtain ⟨J, ⟨x2, z2, R2, rn, y2⟩, p⟩ := kB
          have xi := aInc_X (x := kR k) x2
          have zi : ∀ j, aInc (kR k) J 245 j = J 245 j := aInc_5
          have rni : rN J (aInc (kR k) J) := aInc_N
          have k186 := m186 (d := d - 1) (g := g) (s := 59) (by omega) xi ((zi 5).trans z2) (by omega)
          have W2 := (aBdy_ok h3 W (tLt_b x1.2.1).2 hful).1
          simp only []
          cases h4 : aSgn T n r.2 59 with
          | inl e =>
            rw [h4] at k186
            obtain ⟨J9, d1, d2, d3⟩ := k186
            exact ⟨J9, qRun_of fun Q hQ => start Q (p Q (rEnd hd z2 hk7 d1 hQ)), d2, rN_tr (rN_f f1) (rN_tr rn (rN_tr rni (rN_f d3)))⟩
          | inr i' =>
            rw [h4] at k186
            obtain ⟨J9, d1, d2, d3, d4⟩ := k186
            exact ⟨J9, qRun_of fun Q hQ => start Q (p Q (rEnd hd z2 hk7 d1 hQ)), d2, d3, qNF_f R2 W2.1 d4, rN_tr (rN_f f1) (rN_tr rn (rN_tr rni (rN_f d4))), by rw [rN_245 d4, zi 7]; exact y2⟩
end FAMM5
