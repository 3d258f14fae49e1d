/-! ===== the text of the family, the reference, 3: acts ===== -/
def rNx0 (d : Nat) (g : qG1) (r : Nat) (x2 v5 : Int32) (J : Nat → Nat → Int32) (Q : qR → Prop) : Prop :=
  (J 245 5 = 0 → qIx (qj 2 + J r 1) 8 ∧ qwq d 198 16 [(0, .ref 245), (1, .ref r), (2, .int (x2 ||| (qj 1 <<< (v5 &&& 31))))] [] (qw g (qup (qup J r (qj 2 + J r 1).toNatClampNeg v5) r 1 ((qup J r (qj 2 + J r 1).toNatClampNeg v5) r 1 + qj 1))) Q) ∧ (¬ J 245 5 = 0 → Q (.inl (none, qw g J)))
def rNx1 (d : Nat) (g : qG1) (r : Nat) (x2 v5 : Int32) (J3 J : Nat → Nat → Int32) (Q : qR → Prop) : Prop :=
  (¬ J 245 5 = 0 → rNx0 d g r x2 v5 J Q) ∧ (¬ ¬ J 245 5 = 0 → ((¬ J r 1 = qj 6 → rNx0 d g r x2 v5 J Q) ∧ (¬ ¬ J r 1 = qj 6 → ∃ J10, qRun (d - 1) 176 [.ref 245, .int (qj 3), .int (J3 245 4)] (qw g J) (.inl (none, qw g J10)) ∧ rNx0 d g r x2 v5 J10 Q)))
/-- an act's next puppet is read -/
def rNx (d : Nat) (g : qG1) (r : Nat) (x2 : Int32) (J0 : Nat → Nat → Int32) (Q : qR → Prop) : Prop :=
  ∃ J3, qRun (d - 1 - 1) 175 [.ref 245] (qw g J0) (.inl (none, qw g J3)) ∧ ∃ (v5 : Int32) (J4 : _), qRun (d - 1 - 1) 179 [.ref 245, .int (qj 0), .int (J3 248 1 - qj 1)] (qw g J3) (.inl (some (.int v5), qw g J4)) ∧
    ((¬ J4 245 5 = 0 → rNx1 d g r x2 v5 J3 J4 Q) ∧ (¬ ¬ J4 245 5 = 0 → ((qhas x2 v5 = false → rNx1 d g r x2 v5 J3 J4 Q) ∧ (qhas x2 v5 = true → ∃ J24, qRun (d - 1) 176 [.ref 245, .int (qj 2), .int (J3 245 4)] (qw g J4) (.inl (none, qw g J24)) ∧ rNx1 d g r x2 v5 J3 J24 Q))))
section FAMM3
variable {d : Nat} {g : qG1} {I : Nat → Nat → Int32} {T : Nat → Nat} {n i : Nat} {F : qFam}
theorem aPps_bm {k v : Nat} {o : Nat → Nat} (hv : v < 8) : qj (bm 8 (fun p => anb k (fun j => o j == p)) : Nat) ||| (qj 1 <<< (qj (v : Int) &&& 31)) = qj (bm 8 (fun p => anb (k + 1) (fun j => iup o k v j == p)) : Nat) := by
  rw [bm_set hv (by omega)]
  congr 2
  refine bm_ext (fun p _ => ?_)
  have e : anb k (fun j => iup o k v j == p) = anb k (fun j => o j == p) := by
    have : ∀ m, m ≤ k → anb m (fun j => iup o k v j == p) = anb m (fun j => o j == p) := by
      intro m
      induction m with
      | zero => intro _; rfl
      | succ m ih =>
        intro hm
        rw [anb, anb, ih (by omega)]
        show (_ || (if m = k then v else o m) == p) = _
        rw [if_neg (by omega)]
    exact this k (Nat.le_refl _)
  show (if p = v then true else anb k (fun j => o j == p)) = (anb k (fun j => iup o k v j == p) || (if k = k then v else o k) == p)
  rw [e, if_pos rfl]
  by_cases c : p = v
  · rw [if_pos c, c, beq_self_eq_true, Bool.or_true]
  · rw [if_neg c, beq_eq_false_iff_ne.mpr (fun q => c q.symm), Bool.or_false]
theorem rNx_ok (hd : 5 ≤ d) {np : Nat} (hnp : np ≤ 8) {r k : Nat} {o : Nat → Nat} (hr : ¬ r = 245 ∧ ¬ r = 246) (hk : k ≤ 6) {J0 : Nat → Nat → Int32} (X : rX T n J0 i) (z : J0 245 5 = qj 0) (e1 : J0 248 1 = qj (np : Int)) (er : J0 r 1 = qj (k : Int)) :
    match aNum T n i 0 ((np : Int) - 1) with
    | .inl e => ∃ J', (rE T n J' e ∧ rF J0 J') ∧ ∀ Q : qR → Prop, Q (.inl (none, qw g J')) → rNx d g r (qj (bm 8 (fun p => anb k (fun j => o j == p)) : Nat)) J0 Q
    | .inr q => if anb k (fun j => o j == q.1) = true then ∃ J', (rE T n J' (2, tBl T n i) ∧ rF J0 J') ∧ ∀ Q : qR → Prop, Q (.inl (none, qw g J')) → rNx d g r (qj (bm 8 (fun p => anb k (fun j => o j == p)) : Nat)) J0 Q
      else if 6 ≤ k then ∃ J', (rE T n J' (3, tBl T n i) ∧ rF J0 J') ∧ ∀ Q : qR → Prop, Q (.inl (none, qw g J')) → rNx d g r (qj (bm 8 (fun p => anb k (fun j => o j == p)) : Nat)) J0 Q
      else ∃ J4, (rX T n J4 q.2 ∧ J4 245 5 = qj 0 ∧ rF J0 J4) ∧ ∀ Q : qR → Prop, qwq d 198 16 [(0, .ref 245), (1, .ref r), (2, .int (qj (bm 8 (fun p => anb (k + 1) (fun j => iup o k q.1 j == p)) : Nat)))] [] (qw g (qup (qup J4 r (2 + k) (qj (q.1 : Int))) r 1 (qj ((k + 1 : Nat) : Int)))) Q → rNx d g r (qj (bm 8 (fun p => anb k (fun j => o j == p)) : Nat)) J0 Q := by
  obtain ⟨J3, d1, d2, d3, d4, d5⟩ := m175 (d := d - 1 - 1) (g := g) (by omega) X
  have e248 : J3 248 1 - qj 1 = qj ((np : Int) - 1) := by rw [d3.1 _ (by omega), e1, qj_sub]
  have q2 := m179 (d := d - 1 - 1) (g := g) (lo := 0) (hi := (np : Int) - 1) (by omega) d2 (d4.trans z) (by omega) (by omega)
  rw [aNum_i X.2.1] at q2
  have hd4 := d2.2.2.2.1
  cases h2 : aNum T n i 0 ((np : Int) - 1) with
  | inl e =>
    rw [h2] at q2
    obtain ⟨J4, b1, b2, b3⟩ := q2
    have ne := rE_ne b2
    refine ⟨J4, ⟨b2, rF_tr d3 b3⟩, fun Q hQ => ⟨J3, d1, qj 0, J4, ?_, fun _ => ⟨fun _ => ⟨fun q => absurd q ne, fun _ => hQ⟩, fun q => absurd ne q⟩, fun q => absurd ne q⟩⟩
    rw [e248]; exact b1
  | inr q =>
    rw [h2] at q2
    obtain ⟨J4, b1, b2, bz, b3⟩ := q2
    have bq := aNum_b h2 X.2.1
    have e4 : J4 r 1 = qj (k : Int) := by rw [b3.1 _ hr.1, d3.1 _ hr.1]; exact er
    have hv : q.1 < 8 := by omega
    have nz : ¬ ¬ J4 245 5 = 0 := fun c => c bz
    simp only []
    cases hq : anb k (fun j => o j == q.1) with
    | true =>
      rw [if_pos rfl]
      obtain ⟨J9, w1, w2, w5, w6, w3⟩ := m176 (d := d - 1) (g := g) (by omega) b2 bz 2 (tBl T n i)
      have w1' : qRun (d - 1) 176 [.ref 245, .int (qj 2), .int (qj (tBl T n i : Int))] (qw g J4) (.inl (none, qw g J9)) := w1
      have E9 : rE T n J9 (2, tBl T n i) := ⟨(show ¬ (2 : Nat) = 0 by omega), (show (2 : Nat) ≤ 3 by omega), w5, w6, _, w2⟩
      have ne := rE_ne E9
      refine ⟨J9, ⟨E9, rF_tr d3 (rF_tr b3 w3)⟩, fun Q hQ => ⟨J3, d1, _, J4, by rw [e248]; exact b1, fun c => absurd bz c, fun _ => ⟨fun c => ?_, fun _ => ⟨J9, by rw [hd4]; exact w1', fun _ => ⟨fun c => absurd c ne, fun _ => hQ⟩, fun c => absurd ne c⟩⟩⟩⟩
      rw [qhas_bm 8 _ hv (by omega), hq] at c
      exact Bool.noConfusion c
    | false =>
      rw [if_neg Bool.false_ne_true]
      have hasf : qhas (qj (bm 8 (fun p => anb k (fun j => o j == p)) : Nat)) (qj (q.1 : Int)) = false := by rw [qhas_bm 8 _ hv (by omega)]; exact hq
      by_cases c6 : 6 ≤ k
      · rw [if_pos c6]
        have ek : k = 6 := by omega
        obtain ⟨J9, w1, w2, w5, w6, w3⟩ := m176 (d := d - 1) (g := g) (by omega) b2 bz 3 (tBl T n i)
        have w1' : qRun (d - 1) 176 [.ref 245, .int (qj 3), .int (qj (tBl T n i : Int))] (qw g J4) (.inl (none, qw g J9)) := w1
        have E9 : rE T n J9 (3, tBl T n i) := ⟨(show ¬ (3 : Nat) = 0 by omega), (show (3 : Nat) ≤ 3 by omega), w5, w6, _, w2⟩
        have ne := rE_ne E9
        have e6 : J4 r 1 = qj 6 := by rw [e4, ek]; rfl
        refine ⟨J9, ⟨E9, rF_tr d3 (rF_tr b3 w3)⟩, fun Q hQ => ⟨J3, d1, _, J4, by rw [e248]; exact b1, fun c => absurd bz c, fun _ => ⟨fun _ => ⟨fun c => absurd bz c, fun _ => ⟨fun c => absurd e6 c, fun _ => ⟨J9, by rw [hd4]; exact w1', fun c => absurd c ne, fun _ => hQ⟩⟩⟩, fun c => ?_⟩⟩⟩
        rw [hasf] at c; exact Bool.noConfusion c
      · rw [if_neg c6]
        have ne6 : ¬ J4 r 1 = qj 6 := by
          rw [e4]
          intro c
          rw [qj_eq (by omega) (by omega) (by omega) (by omega)] at c
          omega
        refine ⟨J4, ⟨b2, bz, rF_tr d3 b3⟩, fun Q hQ => ⟨J3, d1, _, J4, by rw [e248]; exact b1, fun c => absurd bz c, fun _ => ⟨fun _ => ⟨fun c => absurd bz c, fun _ => ⟨fun _ => ⟨fun _ => ?_, fun c => absurd bz c⟩, fun c => absurd ne6 c⟩⟩, fun c => ?_⟩⟩⟩
        · have en : (qj 2 + J4 r 1).toNatClampNeg = 2 + k := by rw [e4, qj_add, qj_c2, qj_nat (by omega)]
          rw [en, qup_at, if_neg (by omega), e4]
          refine ⟨by rw [qj_add]; exact qIx_z (by omega) (by omega) (by omega), ?_⟩
          rw [aPps_bm hv, qj_add]
          exact hQ
        · rw [hasf] at c; exact Bool.noConfusion c
/-- an act more: the picture behind its row and the count -/
theorem qNF_act (R : qNF F I) (W : qWF F) {J : Nat → Nat → Int32} {l k : Nat} {o : Nat → Nat} (h6 : F.1 0 2 < 6) (e0 : J 248 2 = qj ((F.1 0 2 + 1 : Nat) : Int)) (ej : ∀ j, ¬ j = 2 → J 248 j = I 248 j) (x0 : J (294 + 1 + F.1 0 2) 0 = qj (l : Int)) (x1 : J (294 + 1 + F.1 0 2) 1 = qj (k : Int)) (x2 : ∀ j, j < k → J (294 + 1 + F.1 0 2) (2 + j) = qj (o j : Int)) (er : ∀ a, rNa a → ¬ a = 248 → ¬ a = 294 + 1 + F.1 0 2 → J a = I a) : qNF (acd (acl F l k o)) J := by
  obtain ⟨h1, h2, h3, h4, h5, h6', h7, h8, h9, h10, h11, h12, h13, h14, h15, h16, h17⟩ := R
  have w1 := W.1
  have w2 := W.2.1
  have w3 := W.2.2.1
  unfold rNa at er
  have row : ∀ h j, h < F.1 0 2 → J (294 + 1 + h) j = I (294 + 1 + h) j := fun h j hh => by rw [er _ (by omega) (by omega) (by omega)]
  refine ⟨(ej 0 (by omega)).trans h1, (ej 1 (by omega)).trans h2, e0, (ej 3 (by omega)).trans h4, ?_, ?_, ?_, ?_, ?_, ?_, fun h hh => ?_, fun h hh => ?_, fun a b ha hb => ?_, ?_, ?_, ?_, ?_⟩
  · intro p hp; have hp : p < F.1 0 0 := hp; rw [er _ (by omega) (by omega) (by omega)]; exact h5 p hp
  · intro p hp; have hp : p < F.1 0 0 := hp; rw [er _ (by omega) (by omega) (by omega)]; exact h6' p hp
  · intro p hp; have hp : p < F.1 0 0 := hp; rw [er _ (by omega) (by omega) (by omega)]; exact h7 p hp
  · intro p hp; have hp : p < F.1 0 1 := hp; rw [er _ (by omega) (by omega) (by omega)]; exact h8 p hp
  · intro p hp; have hp : p < F.1 0 1 := hp; rw [er _ (by omega) (by omega) (by omega)]; exact h9 p hp
  · intro p hp; have hp : p < F.1 0 1 := hp; rw [er _ (by omega) (by omega) (by omega)]; exact h10 p hp
  · have hh : h < F.1 0 2 + 1 := hh
    show _ = qj ((if h = F.1 0 2 then l else F.1 7 h : Nat) : Int)
    by_cases c : h = F.1 0 2
    · rw [if_pos c, c]; exact x0
    · rw [if_neg c, row h 0 (by omega)]; exact h11 h (by omega)
  · have hh : h < F.1 0 2 + 1 := hh
    show _ = qj ((if h = F.1 0 2 then k else F.1 8 h : Nat) : Int)
    by_cases c : h = F.1 0 2
    · rw [if_pos c, c]; exact x1
    · rw [if_neg c, row h 1 (by omega)]; exact h12 h (by omega)
  · have ha : a < F.1 0 2 + 1 := ha
    have hb : b < (if a = F.1 0 2 then k else F.1 8 a) := hb
    rw [acd_r (r := 10 + a) (by omega)]
    by_cases c : a = F.1 0 2
    · rw [if_pos c] at hb
      rw [c, acl_o]; exact x2 b hb
    · rw [if_neg c] at hb
      rw [row a _ (by omega), acl_r (by omega) (by omega) (by omega)]; exact h13 a b (by omega) hb
  · intro h k hh hk; rw [er _ (by omega) (by omega) (by omega), acd_r (by omega), acl_r (by omega) (by omega) (by omega)]; exact h14 h k hh hk
  · rw [er _ (by omega) (by omega) (by omega)]; exact h15
  · rw [er _ (by omega) (by omega) (by omega)]; exact h16
  · rw [er _ (by omega) (by omega) (by omega)]; exact h17
theorem aNum_n {lo hi : Int} (h : ¬ (tBl T n i < n ∧ dg (T (tBl T n i)) = true)) : aNum T n i lo hi = .inl (1, tBl T n i) := by unfold aNum; rw [if_neg h]
theorem aIs_n {b w : Nat} (hw : w < 20) (h : ¬ (b < n ∧ ltr (T b) = true)) : aIs T b (tLt T n b) w = false := by
  have e : tLt T n b = b := aLd_sp (by
    rcases Nat.lt_or_ge b n with q | q
    · right
      cases hq : ltr (T b) with
      | false => rfl
      | true => exact absurd ⟨q, hq⟩ h
    · exact Or.inl q)
  have := (wB_q w hw).2.2.1
  unfold aIs
  rw [e, Nat.sub_self, beq_eq_false_iff_ne.mpr (by omega)]; rfl
theorem m198 (hd : 5 ≤ d) (X : rX T n I i) (z : I 245 5 = qj 0) (R : qNF F I) (W : qWF F) (h6 : F.1 0 2 < 6) : match aActs T n F i with
    | .inr r => ∃ J, qRun d 198 [.ref 245, .ref (294 + 1 + F.1 0 2)] (qw g I) (.inl (none, qw g J)) ∧ rX T n J r.2 ∧ J 245 5 = qj 0 ∧ qNF r.1 (aInc 2 J) ∧ rN I J ∧ J 245 7 = I 245 7
    | .inl e => ∃ J, qRun d 198 [.ref 245, .ref (294 + 1 + F.1 0 2)] (qw g I) (.inl (none, qw g J)) ∧ rE T n J e ∧ rN I J := by
  have h8 := W.2.1
  have hra : rNa (294 + 1 + F.1 0 2) := by unfold rNa; omega
  have hsh := sh8a (L := g.2.1) h6
  have q1 := m179 (d := d - 1) (g := g) (lo := 0) (hi := 9) (by omega) X z (by omega) (by omega)
  unfold aActs
  cases h1 : aNum T n i 0 9 with
  | inl e =>
    rw [h1] at q1
    obtain ⟨J1, a1, a2, a3⟩ := q1
    have E2 := rE_w (a := 294 + 1 + F.1 0 2) (j := 1) (v := qj 0) (rE_w (a := 294 + 1 + F.1 0 2) (j := 0) (v := qj 0) a2 (by omega) (by omega)) (by omega) (by omega)
    refine ⟨_, qRun_of fun Q hQ => b198_0 hsh (by omega) ⟨_, _, a1, b198_16 hsh (by omega) ⟨fun _ => ⟨fun _ => hQ, fun q => absurd (rE_ne E2) q⟩, fun q => absurd (rE_ne E2) q⟩⟩, E2, rN_tr (rN_f a3) (rN_tr (rN_w hra) (rN_w hra))⟩
  | inr r =>
    rw [h1] at q1
    obtain ⟨J1, a1, a2, az, a3⟩ := q1
    have bq := aNum_b h1 X.2.1
    simp only []
    generalize hr0 : 294 + 1 + F.1 0 2 = r0 at hra hsh
    have hr1 : ¬ r0 = 245 ∧ ¬ r0 = 246 := by omega
    have key : ∀ (m k i : Nat) (o : Nat → Nat), k + m = 7 → k ≤ 6 → ∀ J : Nat → Nat → Int32, rX T n J i → J 245 5 = qj 0 → J r0 0 = qj (r.1 : Int) → J r0 1 = qj (k : Int) → (∀ j, j < k → J r0 (2 + j) = qj (o j : Int)) → (∀ a, ¬ a = 245 → ¬ a = r0 → J a = I a) → (∀ j, ¬ j = 4 → ¬ j = 5 → ¬ j = 6 → J 245 j = I 245 j) →
        match aPps T n F m k i o with
        | .inl e => ∃ J', (rE T n J' e ∧ (∀ a, ¬ a = 245 → ¬ a = r0 → J' a = I a) ∧ ∀ j, ¬ j = 4 → ¬ j = 5 → ¬ j = 6 → J' 245 j = I 245 j) ∧ ∀ Q : qR → Prop, Q (.inl (none, qw g J')) → qwq d 198 16 [(0, .ref 245), (1, .ref r0), (2, .int (qj (bm 8 (fun p => anb k (fun j => o j == p)) : Nat)))] [] (qw g J) Q
        | .inr q => ∃ J', (rX T n J' q.2 ∧ J' 245 5 = qj 0 ∧ (J' r0 0 = qj (r.1 : Int) ∧ J' r0 1 = qj (q.1.1 : Int) ∧ ∀ j, j < q.1.1 → J' r0 (2 + j) = qj (q.1.2 j : Int)) ∧ (∀ a, ¬ a = 245 → ¬ a = r0 → J' a = I a) ∧ ∀ j, ¬ j = 4 → ¬ j = 5 → ¬ j = 6 → J' 245 j = I 245 j) ∧ ∀ Q : qR → Prop, Q (.inl (none, qw g J')) → qwq d 198 16 [(0, .ref 245), (1, .ref r0), (2, .int (qj (bm 8 (fun p => anb k (fun j => o j == p)) : Nat)))] [] (qw g J) Q := by
      intro m
      induction m with
      | zero => intro k i o hk hk6; omega
      | succ m ih =>
        intro k i o hk hk6 J x1 xz y0 y1 y2 x4 x5
        have hbl := tBl_b (T := T) x1.2.1
        -- the next puppet from a memory that stands as J
        have nx : ∀ (K : Nat → Nat → Int32) (i2 : Nat), i2 ≤ n → tBl T n i2 = tBl T n i → rX T n K i2 → K 245 5 = qj 0 → rF J K →
            (∀ Q : qR → Prop, rNx d g r0 (qj (bm 8 (fun p => anb k (fun j => o j == p)) : Nat)) K Q → qwq d 198 16 [(0, .ref 245), (1, .ref r0), (2, .int (qj (bm 8 (fun p => anb k (fun j => o j == p)) : Nat)))] [] (qw g J) Q) →
            match (match aNum T n i 0 ((F.1 0 1 : Int) - 1) with
              | .inl e => (.inl e : (Nat × Nat) ⊕ ((Nat × (Nat → Nat)) × Nat))
              | .inr q => if anb k (fun j => o j == q.1) = true then .inl (2, tBl T n i) else if 6 ≤ k then .inl (3, tBl T n i) else aPps T n F m (k + 1) q.2 (iup o k q.1)) with
            | .inl e => ∃ J', (rE T n J' e ∧ (∀ a, ¬ a = 245 → ¬ a = r0 → J' a = I a) ∧ ∀ j, ¬ j = 4 → ¬ j = 5 → ¬ j = 6 → J' 245 j = I 245 j) ∧ ∀ Q : qR → Prop, Q (.inl (none, qw g J')) → qwq d 198 16 [(0, .ref 245), (1, .ref r0), (2, .int (qj (bm 8 (fun p => anb k (fun j => o j == p)) : Nat)))] [] (qw g J) Q
            | .inr q => ∃ J', (rX T n J' q.2 ∧ J' 245 5 = qj 0 ∧ (J' r0 0 = qj (r.1 : Int) ∧ J' r0 1 = qj (q.1.1 : Int) ∧ ∀ j, j < q.1.1 → J' r0 (2 + j) = qj (q.1.2 j : Int)) ∧ (∀ a, ¬ a = 245 → ¬ a = r0 → J' a = I a) ∧ ∀ j, ¬ j = 4 → ¬ j = 5 → ¬ j = 6 → J' 245 j = I 245 j) ∧ ∀ Q : qR → Prop, Q (.inl (none, qw g J')) → qwq d 198 16 [(0, .ref 245), (1, .ref r0), (2, .int (qj (bm 8 (fun p => anb k (fun j => o j == p)) : Nat)))] [] (qw g J) Q := by
          intro K i2 hi2 hb2 XK zK fK go
          have eN : aNum T n i2 0 ((F.1 0 1 : Int) - 1) = aNum T n i 0 ((F.1 0 1 : Int) - 1) := by rw [← aNum_i hi2, ← aNum_i x1.2.1, hb2]
          have hx := rNx_ok (d := d) (g := g) (o := o) (by omega) h8 hr1 hk6 XK zK (by rw [fK.1 _ (by omega), x4 _ (by omega) (by omega)]; exact R.2.1) (by rw [fK.1 _ hr1.1]; exact y1)
          rw [eN, hb2] at hx
          have fa : ∀ {J' : Nat → Nat → Int32}, rF K J' → (∀ a, ¬ a = 245 → ¬ a = r0 → J' a = I a) ∧ ∀ j, ¬ j = 4 → ¬ j = 5 → ¬ j = 6 → J' 245 j = I 245 j := fun h => ⟨fun a p q => by rw [h.1 a p, fK.1 a p]; exact x4 a p q, fun j p q s => by rw [h.2 j p q s, fK.2 j p q s]; exact x5 j p q s⟩
          cases h2 : aNum T n i 0 ((F.1 0 1 : Int) - 1) with
          | inl e =>
            rw [h2] at hx
            obtain ⟨J', ⟨p1, p2⟩, p3⟩ := hx
            exact ⟨J', ⟨p1, fa p2⟩, fun Q hQ => go Q (p3 Q hQ)⟩
          | inr q =>
            rw [h2] at hx
            have bq2 := aNum_b h2 x1.2.1
            simp only [] at hx ⊢
            cases hq : anb k (fun j => o j == q.1) with
            | true =>
              rw [hq, if_pos rfl] at hx
              rw [if_pos rfl]
              obtain ⟨J', ⟨p1, p2⟩, p3⟩ := hx
              exact ⟨J', ⟨p1, fa p2⟩, fun Q hQ => go Q (p3 Q hQ)⟩
            | false =>
              rw [hq, if_neg Bool.false_ne_true] at hx
              rw [if_neg Bool.false_ne_true]
              by_cases c6 : 6 ≤ k
              · rw [if_pos c6] at hx ⊢
                obtain ⟨J', ⟨p1, p2⟩, p3⟩ := hx
                exact ⟨J', ⟨p1, fa p2⟩, fun Q hQ => go Q (p3 Q hQ)⟩
              · rw [if_neg c6] at hx ⊢
                obtain ⟨J4, ⟨p1, p2, p4⟩, p3⟩ := hx
                have rowr : J4 r0 = J r0 := by rw [p4.1 _ hr1.1, fK.1 _ hr1.1]
                have ihh := ih (k + 1) q.2 (iup o k q.1) (by omega) (by omega) (qup (qup J4 r0 (2 + k) (qj (q.1 : Int))) r0 1 (qj ((k + 1 : Nat) : Int))) (rX_w (rX_w p1 hr1.1 hr1.2) hr1.1 hr1.2) (by rw [qup_ne (by omega), qup_ne (by omega)]; exact p2) (by rw [qup_at, if_neg (by omega), qup_at, if_neg (by omega), rowr]; exact y0) (by rw [qup_at, if_pos rfl]) (fun j hj => by
                  rw [qup_at, if_neg (by omega), qup_at]
                  unfold iup
                  by_cases e : j = k
                  · rw [if_pos (by omega), if_pos e]
                  · rw [if_neg (by omega), if_neg e, rowr]; exact y2 j (by omega)) (fun a p q => by rw [qup_ne q, qup_ne q]; exact (fa p4).1 a p q) (fun j p q s => by rw [qup_ne (by omega), qup_ne (by omega)]; exact (fa p4).2 j p q s)
                cases hr : aPps T n F m (k + 1) q.2 (iup o k q.1) with
                | inl e =>
                  rw [hr] at ihh
                  obtain ⟨J', o1, o2⟩ := ihh
                  exact ⟨J', o1, fun Q hQ => go Q (p3 Q (o2 Q hQ))⟩
                | inr w =>
                  rw [hr] at ihh
                  obtain ⟨J', o1, o2⟩ := ihh
                  exact ⟨J', o1, fun Q hQ => go Q (p3 Q (o2 Q hQ))⟩
        rw [aPps]
        by_cases hk0 : k = 0
        · have h0 := nx J i x1.2.1 rfl x1 xz rF_rf (fun Q h => b198_16 hsh (by omega) ⟨fun q => absurd xz q, fun _ => ⟨fun _ => h, fun q => absurd (by rw [y1, hk0]; rfl) q⟩⟩)
          by_cases hdg : tBl T n i < n ∧ dg (T (tBl T n i)) = true
          · rw [if_pos hdg]; exact h0
          · rw [if_neg hdg, if_pos hk0]
            rw [aNum_n hdg] at h0
            exact h0
        · obtain ⟨K, s1, s2, s3, s4⟩ := m183 (d := d - 1) (g := g) (w := 8) (by omega) x1 xz (by omega)
          have nk0 : ¬ J r0 1 = 0 := by
            rw [y1]
            intro c
            rw [qz0, qj_eq (by omega) (by omega) (by omega) (by omega)] at c
            omega
          have s1' : qRun (d - 1) 183 [.ref 245, .int (qj 5), .int (qj 14), .int (qj 4), .int (qj 0), .int (qj 0), .int (qj 0), .int (qj 0)] (qw g J) (.inl (some (.int (qb (aIs T (tBl T n i) (tLt T n (tBl T n i)) 8))), qw g K)) := s1
          have h0 : aIs T (tBl T n i) (tLt T n (tBl T n i)) 8 = false → _ := fun hf => nx K (tBl T n i) hbl.2 (tBl_i x1.2.1) s2 s4 s3 (fun Q h => b198_16 hsh (by omega) ⟨fun q => absurd xz q, fun _ => ⟨fun q => absurd q nk0, fun _ => ⟨_, _, s1', fun q => by rw [hf] at q; exact Bool.noConfusion q, fun _ => h⟩⟩⟩)
          by_cases hdg : tBl T n i < n ∧ dg (T (tBl T n i)) = true
          · rw [if_pos hdg]
            refine h0 (aIs_n (by omega) (fun c => ?_))
            have b1 := dg_b hdg.2
            have b2 := ltr_b c.2
            omega
          · rw [if_neg hdg, if_neg hk0]
            by_cases hlt : tBl T n i < n ∧ ltr (T (tBl T n i)) = true
            · have ew : aWrd T n i = .inr (tBl T n i, tLt T n (tBl T n i)) := by unfold aWrd; rw [if_pos hlt]
              rw [ew]
              simp only []
              cases hw : aIs T (tBl T n i) (tLt T n (tBl T n i)) 8 with
              | true =>
                rw [if_pos rfl]
                obtain ⟨K2, t1, t2, t3, t4, t5⟩ := m184 (d := d - 1) (g := g) (by omega) s2
                have fk : rF J K2 := rF_tr s3 t3
                refine ⟨K2, ⟨t2, t4.trans s4, ⟨by rw [fk.1 _ hr1.1]; exact y0, by rw [fk.1 _ hr1.1]; exact y1, fun j hj => by rw [fk.1 _ hr1.1]; exact y2 j hj⟩, fun a p q => by rw [fk.1 a p]; exact x4 a p q, fun j p q s => by rw [fk.2 j p q s]; exact x5 j p q s⟩, fun Q hQ => b198_16 hsh (by omega) ⟨fun q => absurd xz q, fun _ => ⟨fun q => absurd q nk0, fun _ => ⟨_, _, s1', fun _ => ⟨fun q => absurd s4 q, fun _ => ⟨_, t1, hQ⟩⟩, fun q => by rw [hw] at q; exact Bool.noConfusion q⟩⟩⟩⟩
              | false =>
                rw [if_neg Bool.false_ne_true]
                have h0' := h0 hw
                rw [aNum_n hdg] at h0'
                exact h0'
            · have ew : aWrd T n i = .inl (1, tBl T n i) := by unfold aWrd; rw [if_neg hlt]
              rw [ew]
              have h0' := h0 (aIs_n (by omega) hlt)
              rw [aNum_n hdg] at h0'
              exact h0'
    have e0 : bm 8 (fun p => anb 0 (fun j => F.1 (10 + F.1 0 2) j == p)) = 0 := bm_zero.mpr (fun _ _ => rfl)
    have kk := key 7 0 r.2 (F.1 (10 + F.1 0 2)) rfl (by omega) (qup (qup J1 r0 0 (qj (r.1 : Int))) r0 1 (qj ((0 : Nat) : Int))) (rX_w (rX_w a2 hr1.1 hr1.2) hr1.1 hr1.2) (by rw [qup_ne (by omega), qup_ne (by omega)]; exact az) (by rw [qup_at, if_neg (by omega), qup_at, if_pos rfl]) (by rw [qup_at, if_pos rfl]) (fun j hj => absurd hj (Nat.not_lt_zero j)) (fun a p q => by rw [qup_ne q, qup_ne q]; exact a3.1 a p) (fun j p q s => by rw [qup_ne (by omega), qup_ne (by omega)]; exact a3.2 j p q s)
    rw [e0] at kk
    have rnk : ∀ {J' : Nat → Nat → Int32}, (∀ a, ¬ a = 245 → ¬ a = r0 → J' a = I a) → (∀ j, ¬ j = 4 → ¬ j = 5 → ¬ j = 6 → J' 245 j = I 245 j) → rN I J' := fun h1 h2 => ⟨fun a p q => h1 a p (fun e => q (by rw [e]; exact hra)), fun j p q s _ => h2 j p q s⟩
    cases hr : aPps T n F 7 0 r.2 (F.1 (10 + F.1 0 2)) with
    | inl e =>
      rw [hr] at kk
      obtain ⟨J', ⟨p1, p2, p4⟩, p3⟩ := kk
      exact ⟨J', qRun_of fun Q hQ => b198_0 hsh (by omega) ⟨_, _, a1, p3 Q hQ⟩, p1, rnk p2 p4⟩
    | inr w =>
      rw [hr] at kk
      obtain ⟨J', ⟨p1, p2, ⟨p5, p6, p7⟩, p8, p9⟩, p3⟩ := kk
      refine ⟨J', qRun_of fun Q hQ => b198_0 hsh (by omega) ⟨_, _, a1, p3 Q hQ⟩, p1, p2, ?_, rnk p8 p9, p9 7 (by omega) (by omega) (by omega)⟩
      have e248 : J' 248 = I 248 := p8 248 (by omega) (by omega)
      show qNF (acd (acl F r.1 w.1.1 w.1.2)) (qup J' 248 2 (J' 248 2 + qj 1))
      refine qNF_act R W h6 ?_ (fun j hj => ?_) ?_ ?_ (fun j hj => ?_) (fun a p q s => ?_)
      · rw [qup_at, if_pos rfl, e248, R.2.2.1, qj_add]; rfl
      · rw [qup_at, if_neg hj, e248]
      · rw [qup_ne (by omega), hr0]; exact p5
      · rw [qup_ne (by omega), hr0]; exact p6
      · rw [qup_ne (by omega), hr0]; exact p7 j hj
      · rw [qup_ne q]; exact p8 a (by unfold rNa at p; omega) (by omega)
end FAMM3
