/-! ===== the text of the law, the reference: words, notes, opening ===== -/
/-- a known thing's number -/
def aKn (T : Nat → Nat) (b e : Nat) : Option Nat := if aIs T b e 9 = true then some 0 else if aIs T b e 10 = true then some 1 else if aIs T b e 11 = true then some 2 else if aIs T b e 12 = true then some 3 else if aIs T b e 13 = true then some 4 else if aIs T b e 14 = true then some 5 else if aIs T b e 15 = true then some 6 else if aIs T b e 16 = true then some 7 else if aIs T b e 17 = true then some 8 else none
theorem aLwd_k {T : Nat → Nat} {b e : Nat} : aLwd T b e = (match aKn T b e with | some k => some (1000 + k) | none => if aIs T b e 18 = true then some 2000 else if aIs T b e 19 = true then some 2001 else none) := by
  unfold aLwd aKn
  cases aIs T b e 9 with
  | true => rfl
  | false =>
    cases aIs T b e 10 with
    | true => rfl
    | false =>
      cases aIs T b e 11 with
      | true => rfl
      | false =>
        cases aIs T b e 12 with
        | true => rfl
        | false =>
          cases aIs T b e 13 with
          | true => rfl
          | false =>
            cases aIs T b e 14 with
            | true => rfl
            | false =>
              cases aIs T b e 15 with
              | true => rfl
              | false =>
                cases aIs T b e 16 with
                | true => rfl
                | false =>
                  cases aIs T b e 17 with
                  | true => rfl
                  | false =>
                    rfl
theorem aKn_b {T : Nat → Nat} {b e k : Nat} (h : aKn T b e = some k) : k ≤ 8 := by
  unfold aKn at h
  repeat' split at h
  all_goals first | (injection h with h; omega) | (cases h)
/-- the reference's law that is read -/
def rL (L : qLw) (I : Nat → Nat → Int32) : Prop := I 245 28 = qj (L.1 : Int) ∧ ∀ i, i < L.1 → I (489 + 1 + i) 0 = qj (aKd (L.2 i) : Int) ∧ I (489 + 1 + i) 1 = qj (aVl (L.2 i) : Int)
def rG (I J : Nat → Nat → Int32) : Prop := (∀ a, ¬ a = 245 → ¬ (490 ≤ a ∧ a < 650) → J a = I a) ∧ ∀ j, ¬ j = 4 → ¬ j = 5 → ¬ j = 6 → ¬ j = 8 → ¬ j = 28 → J 245 j = I 245 j
theorem rG_f {I J : Nat → Nat → Int32} (h : rF I J) : rG I J := ⟨fun a p _ => h.1 a p, fun j p q r _ _ => h.2 j p q r⟩
theorem rG_tr {I J K : Nat → Nat → Int32} (h : rG I J) (h2 : rG J K) : rG I K := ⟨fun a p q => (h2.1 a p q).trans (h.1 a p q), fun j p q r s t => (h2.2 j p q r s t).trans (h.2 j p q r s t)⟩
theorem rG_8 {I : Nat → Nat → Int32} {v : Int32} : rG I (qup I 245 8 v) := ⟨fun a p _ => qup_ne p, fun j _ _ _ s _ => by rw [qup_at, if_neg s]⟩
theorem rG_4 {I : Nat → Nat → Int32} {v : Int32} : rG I (qup I 245 4 v) := ⟨fun a p _ => qup_ne p, fun j s _ _ _ _ => by rw [qup_at, if_neg s]⟩
theorem rL_f {L : qLw} {I J : Nat → Nat → Int32} (R : rL L I) (h : rF I J) : rL L J := ⟨by rw [h.2 28 (by omega) (by omega) (by omega)]; exact R.1, fun i hi => by rw [h.1 _ (by omega)]; exact R.2 i hi⟩
theorem rL_u {L : qLw} {I : Nat → Nat → Int32} {k : Nat} {v : Int32} (R : rL L I) (hk : ¬ k = 28) : rL L (qup I 245 k v) := ⟨by rw [qup_at, if_neg (by omega)]; exact R.1, fun i hi => by rw [qup_ne (by omega)]; exact R.2 i hi⟩
section LAW4
variable {d : Nat} {g : qG1} {I : Nat → Nat → Int32} {T : Nat → Nat} {n i : Nat} {L : qLw}
theorem rE_8 {e : Nat × Nat} (h : rE T n I e) {v : Int32} : rE T n (qup I 245 8 v) e := by
  obtain ⟨h1, h2, h3, h4, i, h5⟩ := h
  exact ⟨h1, h2, by rw [qup_at, if_neg (by omega)]; exact h3, by rw [qup_at, if_neg (by omega)]; exact h4, i, rX_u h5 (by omega) (by omega)⟩
theorem m185 (hd : 5 ≤ d) (X : rX T n I i) (h5 : I 245 5 = qj 0) {w : Nat} (hw : w < 20) : ∃ J, qRun d 185 [.ref 245, .int (qj (wN w 0 : Int)), .int (qj (wN w 1 : Int)), .int (qj (wN w 2 : Int)), .int (qj (wN w 3 : Int)), .int (qj (wN w 4 : Int)), .int (qj (wN w 5 : Int)), .int (qj (wN w 6 : Int))] (qw g I) (.inl (some (.int (qb (aIs T (tBl T n i) (tLt T n (tBl T n i)) w))), qw g J)) ∧ rX T n J (if aIs T (tBl T n i) (tLt T n (tBl T n i)) w = true then tLt T n (tBl T n i) else tBl T n i) ∧ rF I J ∧ J 245 5 = qj 0 := by
  obtain ⟨J1, k1, x1, f1, z1⟩ := m183 (d := d - 1) (g := g) (by omega) X h5 hw
  cases a : aIs T (tBl T n i) (tLt T n (tBl T n i)) w with
  | true =>
    rw [a] at k1
    obtain ⟨J2, k2, x2, f2, z2, -⟩ := m184 (d := d - 1) (g := g) (by omega) x1
    exact ⟨J2, qRun_of fun Q hQ => b185_0 (by omega) ⟨_, J1, k1, fun q => Bool.noConfusion q, fun _ => ⟨J2, k2, hQ⟩⟩, by rw [if_pos rfl]; exact x2, rF_tr f1 f2, z2.trans z1⟩
  | false =>
    rw [a] at k1
    exact ⟨J1, qRun_of fun Q hQ => b185_0 (by omega) ⟨_, J1, k1, fun _ => hQ, fun q => Bool.noConfusion q⟩, by rw [if_neg Bool.false_ne_true]; exact x1, f1, z1⟩
theorem m208 (hd : 6 ≤ d) (X : rX T n I i) (h5 : I 245 5 = qj 0) : ∃ J, qRun d 208 [.ref 245] (qw g I) (.inl (some (.int (qj (oK (aKn T (tBl T n i) (tLt T n (tBl T n i)))))), qw g J)) ∧ rX T n J (match aKn T (tBl T n i) (tLt T n (tBl T n i)) with | some _ => tLt T n (tBl T n i) | none => tBl T n i) ∧ rF I J ∧ J 245 5 = qj 0 := by
  have st : ∀ (K : Nat → Nat → Int32) (w : Nat), w < 20 → rX T n K (tBl T n i) → K 245 5 = qj 0 → ∃ J, qRun (d - 1) 185 [.ref 245, .int (qj (wN w 0 : Int)), .int (qj (wN w 1 : Int)), .int (qj (wN w 2 : Int)), .int (qj (wN w 3 : Int)), .int (qj (wN w 4 : Int)), .int (qj (wN w 5 : Int)), .int (qj (wN w 6 : Int))] (qw g K) (.inl (some (.int (qb (aIs T (tBl T n i) (tLt T n (tBl T n i)) w))), qw g J)) ∧ rX T n J (if aIs T (tBl T n i) (tLt T n (tBl T n i)) w = true then tLt T n (tBl T n i) else tBl T n i) ∧ rF K J ∧ J 245 5 = qj 0 := by
    intro K w hw XK zK
    have h := m185 (d := d - 1) (g := g) (w := w) (by omega) XK zK hw
    rw [tBl_i X.2.1] at h
    exact h
  obtain ⟨J9, k9, x9, f9, z9⟩ := m185 (d := d - 1) (g := g) (w := 9) (by omega) X h5 (by omega)
  unfold aKn
  cases a9 : aIs T (tBl T n i) (tLt T n (tBl T n i)) 9 with
  | true =>
    rw [a9] at k9 x9
    rw [if_pos rfl] at x9
    exact ⟨J9, qRun_of fun Q hQ => b208_0 (by omega) ⟨true, J9, k9, fun q => Bool.noConfusion q, fun _ => hQ⟩, x9, f9, z9⟩
  | false =>
    rw [a9] at k9 x9
    rw [if_neg Bool.false_ne_true] at x9
    obtain ⟨J10, k10, x10, f10, z10⟩ := st J9 10 (by omega) x9 z9
    cases a10 : aIs T (tBl T n i) (tLt T n (tBl T n i)) 10 with
    | true =>
      rw [a10] at k10 x10
      rw [if_pos rfl] at x10
      exact ⟨J10, qRun_of fun Q hQ => b208_0 (by omega) ⟨false, J9, k9, fun _ => ⟨true, J10, k10, fun q => Bool.noConfusion q, fun _ => hQ⟩, fun q => Bool.noConfusion q⟩, x10, (rF_tr f9 f10), z10⟩
    | false =>
      rw [a10] at k10 x10
      rw [if_neg Bool.false_ne_true] at x10
      obtain ⟨J11, k11, x11, f11, z11⟩ := st J10 11 (by omega) x10 z10
      cases a11 : aIs T (tBl T n i) (tLt T n (tBl T n i)) 11 with
      | true =>
        rw [a11] at k11 x11
        rw [if_pos rfl] at x11
        exact ⟨J11, qRun_of fun Q hQ => b208_0 (by omega) ⟨false, J9, k9, fun _ => ⟨false, J10, k10, fun _ => ⟨true, J11, k11, fun q => Bool.noConfusion q, fun _ => hQ⟩, fun q => Bool.noConfusion q⟩, fun q => Bool.noConfusion q⟩, x11, (rF_tr (rF_tr f9 f10) f11), z11⟩
      | false =>
        rw [a11] at k11 x11
        rw [if_neg Bool.false_ne_true] at x11
        obtain ⟨J12, k12, x12, f12, z12⟩ := st J11 12 (by omega) x11 z11
        cases a12 : aIs T (tBl T n i) (tLt T n (tBl T n i)) 12 with
        | true =>
          rw [a12] at k12 x12
          rw [if_pos rfl] at x12
          exact ⟨J12, qRun_of fun Q hQ => b208_0 (by omega) ⟨false, J9, k9, fun _ => ⟨false, J10, k10, fun _ => ⟨false, J11, k11, fun _ => ⟨true, J12, k12, fun q => Bool.noConfusion q, fun _ => hQ⟩, fun q => Bool.noConfusion q⟩, fun q => Bool.noConfusion q⟩, fun q => Bool.noConfusion q⟩, x12, (rF_tr (rF_tr (rF_tr f9 f10) f11) f12), z12⟩
        | false =>
          rw [a12] at k12 x12
          rw [if_neg Bool.false_ne_true] at x12
          obtain ⟨J13, k13, x13, f13, z13⟩ := st J12 13 (by omega) x12 z12
          cases a13 : aIs T (tBl T n i) (tLt T n (tBl T n i)) 13 with
          | true =>
            rw [a13] at k13 x13
            rw [if_pos rfl] at x13
            exact ⟨J13, qRun_of fun Q hQ => b208_0 (by omega) ⟨false, J9, k9, fun _ => ⟨false, J10, k10, fun _ => ⟨false, J11, k11, fun _ => ⟨false, J12, k12, fun _ => ⟨true, J13, k13, fun q => Bool.noConfusion q, fun _ => hQ⟩, fun q => Bool.noConfusion q⟩, fun q => Bool.noConfusion q⟩, fun q => Bool.noConfusion q⟩, fun q => Bool.noConfusion q⟩, x13, (rF_tr (rF_tr (rF_tr (rF_tr f9 f10) f11) f12) f13), z13⟩
          | false =>
            rw [a13] at k13 x13
            rw [if_neg Bool.false_ne_true] at x13
            obtain ⟨J14, k14, x14, f14, z14⟩ := st J13 14 (by omega) x13 z13
            cases a14 : aIs T (tBl T n i) (tLt T n (tBl T n i)) 14 with
            | true =>
              rw [a14] at k14 x14
              rw [if_pos rfl] at x14
              exact ⟨J14, qRun_of fun Q hQ => b208_0 (by omega) ⟨false, J9, k9, fun _ => ⟨false, J10, k10, fun _ => ⟨false, J11, k11, fun _ => ⟨false, J12, k12, fun _ => ⟨false, J13, k13, fun _ => ⟨true, J14, k14, fun q => Bool.noConfusion q, fun _ => hQ⟩, fun q => Bool.noConfusion q⟩, fun q => Bool.noConfusion q⟩, fun q => Bool.noConfusion q⟩, fun q => Bool.noConfusion q⟩, fun q => Bool.noConfusion q⟩, x14, (rF_tr (rF_tr (rF_tr (rF_tr (rF_tr f9 f10) f11) f12) f13) f14), z14⟩
            | false =>
              rw [a14] at k14 x14
              rw [if_neg Bool.false_ne_true] at x14
              obtain ⟨J15, k15, x15, f15, z15⟩ := st J14 15 (by omega) x14 z14
              cases a15 : aIs T (tBl T n i) (tLt T n (tBl T n i)) 15 with
              | true =>
                rw [a15] at k15 x15
                rw [if_pos rfl] at x15
                exact ⟨J15, qRun_of fun Q hQ => b208_0 (by omega) ⟨false, J9, k9, fun _ => ⟨false, J10, k10, fun _ => ⟨false, J11, k11, fun _ => ⟨false, J12, k12, fun _ => ⟨false, J13, k13, fun _ => ⟨false, J14, k14, fun _ => ⟨true, J15, k15, fun q => Bool.noConfusion q, fun _ => hQ⟩, fun q => Bool.noConfusion q⟩, fun q => Bool.noConfusion q⟩, fun q => Bool.noConfusion q⟩, fun q => Bool.noConfusion q⟩, fun q => Bool.noConfusion q⟩, fun q => Bool.noConfusion q⟩, x15, (rF_tr (rF_tr (rF_tr (rF_tr (rF_tr (rF_tr f9 f10) f11) f12) f13) f14) f15), z15⟩
              | false =>
                rw [a15] at k15 x15
                rw [if_neg Bool.false_ne_true] at x15
                obtain ⟨J16, k16, x16, f16, z16⟩ := st J15 16 (by omega) x15 z15
                cases a16 : aIs T (tBl T n i) (tLt T n (tBl T n i)) 16 with
                | true =>
                  rw [a16] at k16 x16
                  rw [if_pos rfl] at x16
                  exact ⟨J16, qRun_of fun Q hQ => b208_0 (by omega) ⟨false, J9, k9, fun _ => ⟨false, J10, k10, fun _ => ⟨false, J11, k11, fun _ => ⟨false, J12, k12, fun _ => ⟨false, J13, k13, fun _ => ⟨false, J14, k14, fun _ => ⟨false, J15, k15, fun _ => ⟨true, J16, k16, fun q => Bool.noConfusion q, fun _ => hQ⟩, fun q => Bool.noConfusion q⟩, fun q => Bool.noConfusion q⟩, fun q => Bool.noConfusion q⟩, fun q => Bool.noConfusion q⟩, fun q => Bool.noConfusion q⟩, fun q => Bool.noConfusion q⟩, fun q => Bool.noConfusion q⟩, x16, (rF_tr (rF_tr (rF_tr (rF_tr (rF_tr (rF_tr (rF_tr f9 f10) f11) f12) f13) f14) f15) f16), z16⟩
                | false =>
                  rw [a16] at k16 x16
                  rw [if_neg Bool.false_ne_true] at x16
                  obtain ⟨J17, k17, x17, f17, z17⟩ := st J16 17 (by omega) x16 z16
                  cases a17 : aIs T (tBl T n i) (tLt T n (tBl T n i)) 17 with
                  | true =>
                    rw [a17] at k17 x17
                    rw [if_pos rfl] at x17
                    exact ⟨J17, qRun_of fun Q hQ => b208_0 (by omega) ⟨false, J9, k9, fun _ => ⟨false, J10, k10, fun _ => ⟨false, J11, k11, fun _ => ⟨false, J12, k12, fun _ => ⟨false, J13, k13, fun _ => ⟨false, J14, k14, fun _ => ⟨false, J15, k15, fun _ => ⟨false, J16, k16, fun _ => ⟨true, J17, k17, fun q => Bool.noConfusion q, fun _ => hQ⟩, fun q => Bool.noConfusion q⟩, fun q => Bool.noConfusion q⟩, fun q => Bool.noConfusion q⟩, fun q => Bool.noConfusion q⟩, fun q => Bool.noConfusion q⟩, fun q => Bool.noConfusion q⟩, fun q => Bool.noConfusion q⟩, fun q => Bool.noConfusion q⟩, x17, (rF_tr (rF_tr (rF_tr (rF_tr (rF_tr (rF_tr (rF_tr (rF_tr f9 f10) f11) f12) f13) f14) f15) f16) f17), z17⟩
                  | false =>
                    rw [a17] at k17 x17
                    rw [if_neg Bool.false_ne_true] at x17
                    exact ⟨J17, qRun_of fun Q hQ => b208_0 (by omega) ⟨false, J9, k9, fun _ => ⟨false, J10, k10, fun _ => ⟨false, J11, k11, fun _ => ⟨false, J12, k12, fun _ => ⟨false, J13, k13, fun _ => ⟨false, J14, k14, fun _ => ⟨false, J15, k15, fun _ => ⟨false, J16, k16, fun _ => ⟨false, J17, k17, fun _ => hQ, fun q => Bool.noConfusion q⟩, fun q => Bool.noConfusion q⟩, fun q => Bool.noConfusion q⟩, fun q => Bool.noConfusion q⟩, fun q => Bool.noConfusion q⟩, fun q => Bool.noConfusion q⟩, fun q => Bool.noConfusion q⟩, fun q => Bool.noConfusion q⟩, fun q => Bool.noConfusion q⟩, x17, (rF_tr (rF_tr (rF_tr (rF_tr (rF_tr (rF_tr (rF_tr (rF_tr f9 f10) f11) f12) f13) f14) f15) f16) f17), z17⟩
/-- a word of the law is noted -/
theorem m204 (hd : 1 ≤ d) (X : rX T n I i) (z : I 245 5 = qj 0) (R : rL L I) (h : L.1 < 150) (w : Nat) : ∃ J, qRun d 204 [.ref 245, .int (qj (aKd w : Int)), .int (qj (aVl w : Int))] (qw g I) (.inl (none, qw g J)) ∧ rX T n J i ∧ J 245 5 = qj 0 ∧ rL (ladd L w) J ∧ rG I J ∧ J 245 8 = I 245 8 := by
  refine ⟨qup (qup (qup I (489 + 1 + L.1) 0 (qj (aKd w : Int))) (489 + 1 + L.1) 1 (qj (aVl w : Int))) 245 28 (qj ((L.1 + 1 : Nat) : Int)), qRun_of fun Q hQ => b204_0 (by omega) ⟨fun _ => ?_, fun q => absurd z q⟩, rX_u (rX_w (rX_w X (by omega) (by omega)) (by omega) (by omega)) (by omega) (by omega), ?_, ⟨?_, fun j hj => ?_⟩, ⟨fun a p q => ?_, fun j p q r s t => ?_⟩, ?_⟩
  · have e := R.1
    have e2 : ∀ v : Int32, qup I (489 + 1 + L.1) 0 v 245 28 = qj (L.1 : Int) := fun v => by rw [qup_ne (by omega)]; exact e
    have e3 : ∀ v u : Int32, qup (qup I (489 + 1 + L.1) 0 v) (489 + 1 + L.1) 1 u 245 28 = qj (L.1 : Int) := fun v u => by rw [qup_ne (by omega)]; exact e2 v
    simp (disch := omega) only [e, qz0, qj_lt, qj_le, qj_eq, qtk, qfk, qbtt, qbft, qbtf, qbff, qIx_z, qj_nat, true_and, and_true, true_implies, false_implies, not_true_eq_false, not_false_eq_true, Bool.true_eq_false, Bool.false_eq_true, qj_sub, qinB_t, qinB_f, q2_e, qj_add, qj_s1, qj_c1, qj_c2, qj_c9, qj_c17, qj_c97, e2, e3]
    exact hQ
  · rw [qup_at, if_neg (by omega), qup_ne (by omega), qup_ne (by omega)]; exact z
  · rw [qup_at, if_pos rfl]; rfl
  · have hj : j < L.1 + 1 := hj
    rw [qup_ne (by omega)]
    show _ = qj ((aKd (iup L.2 L.1 w j) : Nat) : Int) ∧ _ = qj ((aVl (iup L.2 L.1 w j) : Nat) : Int)
    unfold iup
    by_cases c : j = L.1
    · rw [c, if_pos rfl]
      exact ⟨by rw [qup_at, if_neg (by omega), qup_at, if_pos rfl], by rw [qup_at, if_pos rfl]⟩
    · rw [if_neg c, qup_ne (by omega), qup_ne (by omega)]; exact R.2 j (by omega)
  · rw [qup_ne p, qup_ne (by omega), qup_ne (by omega)]
  · rw [qup_at, if_neg t, qup_ne (by omega), qup_ne (by omega)]
  · rw [qup_at, if_neg (by omega), qup_ne (by omega), qup_ne (by omega)]
theorem m204e (hd : 1 ≤ d) (h5 : ¬ I 245 5 = qj 0) (a b : Int32) : qRun d 204 [.ref 245, .int a, .int b] (qw g I) (.inl (none, qw g I)) :=
  qRun_of fun Q hQ => b204_0 (by omega) ⟨fun q => absurd q h5, fun _ => hQ⟩
theorem m205 (hd : 2 ≤ d) (z : I 245 5 = qj 0) {o : Nat} (e8 : I 245 8 = qj (o : Int)) (ho : o < 6) : qRun d 205 [.ref 245] (qw g I) (.inl (some (.int (qb true)), qw g (qup I 245 8 (qj ((o + 1 : Nat) : Int))))) := by
  refine qRun_of fun Q hQ => b205_0 (by omega) ?_
  simp (disch := omega) only [z, e8, qz0, qj_lt, qj_le, qj_eq, qtk, qfk, qbtt, qbft, qbtf, qbff, qIx_z, qj_nat, true_and, and_true, true_implies, false_implies, not_true_eq_false, not_false_eq_true, Bool.true_eq_false, Bool.false_eq_true, qj_sub, qinB_t, qinB_f, q2_e, qj_add, qj_s1, qj_c1, qj_c2, qj_c9, qj_c17, qj_c97]
  exact hQ
theorem m205f (hd : 2 ≤ d) (X : rX T n I i) (z : I 245 5 = qj 0) (e8 : I 245 8 = qj 6) : ∃ J, qRun d 205 [.ref 245] (qw g I) (.inl (some (.int (qb false)), qw g J)) ∧ rE T n J (3, i) ∧ rF I J := by
  obtain ⟨J9, w1, w2, w5, w6, w3⟩ := m176 (d := d - 1) (g := g) (by omega) X z 3 i
  have w1' : qRun (d - 1) 176 [.ref 245, .int (qj 3), .int (qj (i : Int))] (qw g I) (.inl (none, qw g J9)) := w1
  have E9 : rE T n J9 (3, i) := ⟨(show ¬ (3 : Nat) = 0 by omega), (show (3 : Nat) ≤ 3 by omega), w5, w6, _, w2⟩
  have ne := rE_ne E9
  refine ⟨J9, qRun_of fun Q hQ => b205_0 (by omega) ⟨fun q => absurd z q, fun _ => ⟨fun q => absurd e8 q, fun _ => ⟨J9, by rw [X.2.2.2.1]; exact w1', fun _ => hQ, fun q => absurd ne q⟩⟩⟩, E9, w3⟩
end LAW4
