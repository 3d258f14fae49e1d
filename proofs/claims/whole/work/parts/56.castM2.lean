/-! ===== the reference: casts of an act ===== -/
def qFk (I J : Nat → Nat → Int32) : Prop := (∀ a, ¬ a = 245 → (a < 687 ∨ 691 < a) → J a = I a) ∧ ∀ j, ¬ j = 51 → ¬ j = 52 → ¬ j = 53 → J 245 j = I 245 j
theorem qFk_rf {I : Nat → Nat → Int32} : qFk I I := ⟨fun _ _ _ => rfl, fun _ _ _ _ => rfl⟩
theorem qFk_tr {I J K : Nat → Nat → Int32} (h : qFk I J) (h2 : qFk J K) : qFk I K := ⟨fun a p q => (h2.1 a p q).trans (h.1 a p q), fun j p q r => (h2.2 j p q r).trans (h.2 j p q r)⟩
theorem qFg_k {I J : Nat → Nat → Int32} (h : qFg I J) : qFk I J := ⟨fun a p q => h.1 a p (by omega) (by omega) (by omega), fun j _ q r => h.2 j q r⟩
theorem qFk_F {I J : Nat → Nat → Int32} {F : qFam} (h : qFk I J) (W : qWF F) (MF : qMF F I) : qMF F J := qMF_cg MF (fun a h1 h2 => h.1 a (by intro e; omega) (by omega)) W
theorem qFk_S {r : Nat} {I J : Nat → Nat → Int32} {F : qFam} {S : qSt} (h : qFk I J) (hr : qisR r) (R : qMS F I r S) : qMS F J r S := qMS_cg R (h.1 r (by have := (qisR_b hr).1; omega) (by unfold qisR at hr; omega))
theorem qFk_l {I J : Nat → Nat → Int32} {F : qFam} {S : qSt} (h : qFk I J) (W : qWF F) (Ml : qMl F I S) : qMl F J S := qMl_cg Ml (fun a h1 h2 => h.1 a (by omega) (by omega)) W
theorem qFk_L {I J : Nat → Nat → Int32} {L : qLw} (h : qFk I J) (WL : qWL L) (ML : qML L I) : qML L J := qML_cg ML WL (h.2 27 (by omega) (by omega) (by omega)) (fun a h1 h2 => h.1 a (by omega) (by omega))
theorem bm_ones : ∀ n, bm n (fun _ => true) = 2 ^ n - 1
  | 0 => rfl
  | n + 1 => by
    have := Nat.two_pow_pos n
    rw [bm, bm_ones n, cond_true, Nat.pow_succ]; omega
section CM2
variable {d : Nat} {g : qG1} {I : Nat → Nat → Int32} {F : qFam} {S : qSt} {r : Nat} {al : Nat → Bool} {ps la : Nat → Nat}
theorem m254 (hd : 61 ≤ d) (hr : qisR r) (MF : qMF F I) (R : qMS F I r S) (W : qWF F) (WS : qWS F S) (hal : ∀ h, al h = true → h < F.1 0 0) {n : Nat} (hn : n ≤ 12) (hps : ∀ i, i < n → ps i < F.1 0 1) (hla : ∀ i, i < n → la i ≤ 9) (MC : qMC I ps la n) (o : Bool) :
    ∃ I', qRun d 254 [.ref 245, .ref r, .int (qj (bm 9 al : Nat)), .int (qb o)] (qw g I) (.inl (some (.int (qj (capV o (cE (F.2 2) (cK F ps) (cA F al ps) (fun i => decide (la i ≤ S.1 3 (ps i))) n 0 0)).length)), qw g I')) ∧ qFg I I' ∧ qCV I' n (F.1 0 0) (capV o (cE (F.2 2) (cK F ps) (cA F al ps) (fun i => decide (la i ≤ S.1 3 (ps i))) n 0 0)) := by
  have h9 := W.1
  have hb := qisR_b hr
  have hsh := qisR_sh (L := g.2.1) hr
  let E := cE (F.2 2) (cK F ps) (cA F al ps) (fun i => decide (la i ≤ S.1 3 (ps i))) n 0 0
  have hEl : E.length ≤ 362880 := by
    refine Nat.le_trans (cE_bnd _ _ _ _ _ _ _ (fun j h1 h2 => ?_) (by decide)) (fac_9 (Nat.sub_le _ _))
    have := W.2.2.2.2.2.1 _ (hps j (by omega))
    unfold cK; omega
  have hcl : (capV o E).length ≤ 362880 := by
    cases o
    · exact hEl
    · show (E.take 1).length ≤ _
      rw [List.length_take]; omega
  have key : ∀ k : Nat, k ≤ 12 → ∀ J : Nat → Nat → Int32, (∀ a, ¬ a = 691 → J a = (qup (qup I 245 52 (qj 0)) 245 53 (qj ((2 ^ F.1 0 0 - 1 : Nat) : Int))) a) → (∀ j, j < k → J 691 j = qj 0) →
      ∃ I', (qFg I I' ∧ qCV I' n (F.1 0 0) (capV o E)) ∧ ∀ Q : qR → Prop, Q (.inl (some (.int (qj (capV o E).length)), qw g I')) → qwq d 254 22 [(0, .ref 245), (1, .ref r), (2, .int (qj (bm 9 al : Nat))), (3, .int (qb o)), (4, .int (qj k))] [] (qw g J) Q := by
    refine upto _ (fun J h1 h2 => ?_) (fun k hk ih J h1 h2 => ?_)
    · have hJ : qFg I J := ⟨fun a p q q' q'' => by rw [h1 a q'', qup_ne p, qup_ne p], fun j p q => by rw [h1 245 (by omega), qup_at, if_neg q, qup_at, if_neg p]⟩
      have CV0 : qCV J n (F.1 0 0) (capV o []) := by
        have e0 : capV o [] = [] := by cases o <;> rfl
        rw [e0]
        refine ⟨by rw [h1 245 (by omega), qup_at, if_neg (by omega), qup_at, if_pos rfl]; rfl, ?_, fun h => absurd rfl h, fun k hk => ?_⟩
        · rw [h1 245 (by omega), qup_at, if_pos rfl, ← bm_ones, ← bm_up (F.1 0 0) (fun _ => true) 9 h9]
          rfl
        · rw [h2 k (by omega)]
          have : bm 9 (fun h => ([] : List (List Nat)).any (fun c => (c.getD k 0).testBit h)) = 0 := bm_zero.mpr (fun _ _ => rfl)
          rw [this]; rfl
      have hq0 : cQt (F.2 2) 0 = true := by
        unfold cQt
        have : anb 9 (fun h => (0 : Nat).testBit h && anb 9 (fun g => (0 : Nat).testBit g && F.2 2 h g)) = false := (anb_false _ _).mpr (fun k _ => by rw [Nat.zero_testBit]; rfl)
        rw [this]; rfl
      have hmap : ∀ l : List (List Nat), l.map (([] : List Nat) ++ ·) = l := fun l => by
        have : (fun c : List Nat => [] ++ c) = id := rfl
        rw [this, List.map_id]
      obtain ⟨I', w1, w2, -, w4⟩ := m253 (g := g) hr W WS hal hn hps hla o n 0 0 [] [] (d - 1) J (by omega) rfl rfl (by decide) hq0 (by omega) (qFg_F hJ W MF) (qMS_cg R (hJ.1 r (by omega) (by unfold qisR at hr; omega) (by unfold qisR at hr; omega) (by unfold qisR at hr; omega)))
        ⟨(hJ.2 51 (by omega) (by omega)).trans MC.1, fun k hk => by rw [hJ.1 687 (by omega) (by omega) (by omega) (by omega), hJ.1 688 (by omega) (by omega) (by omega) (by omega)]; exact MC.2 k hk⟩ (fun k hk => absurd hk (Nat.not_lt_zero _)) (fun k hk => absurd hk (Nat.not_lt_zero _)) CV0 (Nat.zero_le _) (by rw [hmap]; exact hEl)
      rw [hmap, List.nil_append] at w4
      refine ⟨I', ⟨qFg_tr hJ w2, w4⟩, fun Q hQ => b254_22 hsh (by omega) ?_⟩
      have e52 := w4.1
      simp (disch := omega) only [qj_le]
      refine ⟨fun _ => ⟨_, w1, ?_⟩, fun c => by omega⟩
      rw [e52]
      have hc2 : (capV o (cE (F.2 2) (cK F ps) (cA F al ps) (fun i => decide (la i ≤ S.1 3 (ps i))) n 0 0)).length ≤ 362880 := hcl
      rw [qmin_z (by omega) (by omega) (by omega) (by omega), Int.min_eq_left (by omega)]
      exact hQ
    · obtain ⟨I', k1, k2⟩ := ih (qup J 691 k (qj 0)) (fun a ha => by rw [qup_ne ha]; exact h1 a ha) (fun j hj => by
        rw [qup_at]
        split
        · rfl
        · exact h2 j (by omega))
      refine ⟨I', k1, fun Q hQ => b254_22 hsh (by omega) ?_⟩
      simp (disch := omega) only [qj_le, qIx_z, qj_nat, qj_add, qj_s1, true_and]
      exact ⟨fun c => by omega, fun _ => k2 Q hQ⟩
  obtain ⟨I', ⟨k1, k2⟩, k3⟩ := key 0 (Nat.zero_le _) _ (fun _ _ => rfl) (fun j hj => absurd hj (Nat.not_lt_zero _))
  refine ⟨I', qRun_of (fun Q hQ => b254_0 hsh (by omega) ?_), k1, k2⟩
  have hpp := Nat.two_pow_pos (F.1 0 0)
  rw [MF.1, qshl1 (by omega), qj_sub, show ((2 ^ F.1 0 0 : Nat) : Int) - 1 = ((2 ^ F.1 0 0 - 1 : Nat) : Int) by omega]
  exact k3 Q hQ
theorem m219' (hd : 3 ≤ d) (hr : qisR r) (MF : qMF F I) (W : qWF F) (R : qMS F I r S) (hy : S.1 0 0 ≤ 1000) : qRun d 219 [.ref 245, .ref r] (qw g I) (.inl (some (.int (qj (bm 9 (aAlv F S) : Nat))), qw g I)) := by
  have := m219 (g := g) hd hr MF W R hy
  rw [← bm_up (F.1 0 0) (aAl F S) 9 W.1] at this
  exact this
/-- one act is laid out -/
theorem m251' (hd : 1 ≤ d) (MF : qMF F I) (W : qWF F) {a : Nat} (ha : a < F.1 0 2) :
    ∃ I', qRun d 251 [.ref 245, .int (qj a), .int (qj 0)] (qw g I) (.inl (none, qw g I')) ∧ qMC I' (F.1 (10 + a)) (fun _ => F.1 7 a) (F.1 8 a) ∧ qFk I I' := by
  obtain ⟨I', k1, k2, k3, -, k4, k5⟩ := m251 (g := g) hd MF W ha (n := 0) (by omega)
  refine ⟨I', k1, ⟨by rw [k2, Nat.zero_add], fun i hi => ?_⟩, fun b p q => k4 b p (by omega) (by omega), fun j p _ _ => k5 j p⟩
  have := k3 i hi
  rw [Nat.zero_add] at this; exact this
theorem m255 (hd : 62 ≤ d) (MF : qMF F I) (R : qMS F I 682 S) (W : qWF F) (WS : qWS F S) (hy : S.1 0 0 ≤ 1000) {a : Nat} (ha : a < F.1 0 2) :
    ∃ I', qRun d 255 [.ref 245, .int (qj a)] (qw g I) (.inl (some (.int (qj (aAct F S (aAlv F S) a).length)), qw g I')) ∧ qFk I I' ∧ qMC I' (F.1 (10 + a)) (fun _ => F.1 7 a) (F.1 8 a) ∧ qCV I' (F.1 8 a) (F.1 0 0) (aAct F S (aAlv F S) a) := by
  have hr : qisR 682 := by unfold qisR; omega
  have hwa := W.2.2.2.2.2.2.1 a ha
  obtain ⟨J1, a1, a2, a3⟩ := m251' (d := d - 1) (g := g) (by omega) MF W ha
  have k219 := m219' (d := d - 1) (g := g) (by omega) hr (qFk_F a3 W MF) W (qFk_S a3 hr R) hy
  obtain ⟨J2, b1, b2, b3⟩ := m254 (d := d - 1) (g := g) (by omega) hr (qFk_F a3 W MF) (qFk_S a3 hr R) W WS (fun h e => aAlv_h e) (n := F.1 8 a) (by omega) (fun i hi => hwa.2.2.2.1 i hi) (fun i hi => hwa.1) a2 false
  refine ⟨J2, qRun_of fun Q hQ => b255_0 (by omega) ⟨_, a1, _, _, k219, _, _, b1, hQ⟩, qFk_tr a3 (qFg_k b2), ⟨(b2.2 51 (by omega) (by omega)).trans a2.1, fun i hi => ?_⟩, b3⟩
  rw [b2.1 687 (by omega) (by omega) (by omega) (by omega), b2.1 688 (by omega) (by omega) (by omega) (by omega)]
  exact a2.2 i hi
theorem m256 (hd : 62 ≤ d) (hr : qisR r) (MF : qMF F I) (R : qMS F I r S) (W : qWF F) (WS : qWS F S) (hy : S.1 0 0 ≤ 1000) {a : Nat} (ha : a < F.1 0 2) :
    ∃ I', qRun d 256 [.ref 245, .ref r, .int (qj a)] (qw g I) (.inl (some (.int (qb (aPld F S (aAlv F S) a))), qw g I')) ∧ qFk I I' := by
  have hwa := W.2.2.2.2.2.2.1 a ha
  obtain ⟨J1, a1, a2, a3⟩ := m251' (d := d - 1) (g := g) (by omega) MF W ha
  have k219 := m219' (d := d - 1) (g := g) (by omega) hr (qFk_F a3 W MF) W (qFk_S a3 hr R) hy
  obtain ⟨J2, b1, b2, b3⟩ := m254 (d := d - 1) (g := g) (by omega) hr (qFk_F a3 W MF) (qFk_S a3 hr R) W WS (fun h e => aAlv_h e) (n := F.1 8 a) (by omega) (fun i hi => hwa.2.2.2.1 i hi) (fun i hi => hwa.1) a2 true
  refine ⟨J2, qRun_of fun Q hQ => b256_0 (qisR_sh hr) (by omega) ⟨_, a1, _, _, k219, _, _, b1, ?_⟩, qFk_tr a3 (qFg_k b2)⟩
  have hQ : Q (.inl (some (.int (qb (!(aAct F S (aAlv F S) a).isEmpty))), qw g J2)) := hQ
  show (qj ((capV true (aAct F S (aAlv F S) a)).length : Nat) ≤ 0 → Q (.inl (some (.int (qb false)), qw g J2))) ∧ (¬ qj ((capV true (aAct F S (aAlv F S) a)).length : Nat) ≤ 0 → Q (.inl (some (.int (qb true)), qw g J2)))
  generalize aAct F S (aAlv F S) a = E at hQ
  cases E with
  | nil => exact ⟨fun _ => hQ, fun c => absurd (by decide) c⟩
  | cons x l =>
    have : (capV true (x :: l)).length = 1 := rfl
    rw [this]
    exact ⟨fun c => absurd c (by decide), fun _ => hQ⟩
end CM2
