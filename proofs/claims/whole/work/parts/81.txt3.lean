/-! ===== texts, the reference ===== -/
/-- the text that is read, in the reference -/
def rX (T : Nat → Nat) (n : Nat) (I : Nat → Nat → Int32) (i : Nat) : Prop := n ≤ 600 ∧ i ≤ n ∧ I 245 2 = qj (n : Int) ∧ I 245 4 = qj (i : Int) ∧ (∀ j, j < n → I 246 j = qj (T j : Int)) ∧ ∀ j, j < n → T j < 256
def rF (I J : Nat → Nat → Int32) : Prop := (∀ a, ¬ a = 245 → J a = I a) ∧ ∀ j, ¬ j = 4 → ¬ j = 5 → ¬ j = 6 → J 245 j = I 245 j
theorem rF_rf {I : Nat → Nat → Int32} : rF I I := ⟨fun _ _ => rfl, fun _ _ _ _ => rfl⟩
theorem rF_tr {I J K : Nat → Nat → Int32} (h : rF I J) (h2 : rF J K) : rF I K := ⟨fun a p => (h2.1 a p).trans (h.1 a p), fun j p q r => (h2.2 j p q r).trans (h.2 j p q r)⟩
theorem rF_u {I : Nat → Nat → Int32} {k : Nat} {v : Int32} (hk : k = 4 ∨ k = 5 ∨ k = 6) : rF I (qup I 245 k v) := ⟨fun a p => qup_ne p, fun j p q r => by rw [qup_at, if_neg (by omega)]⟩
theorem rX_4 {T : Nat → Nat} {n i j : Nat} {I : Nat → Nat → Int32} (h : rX T n I i) (hj : j ≤ n) : rX T n (qup I 245 4 (qj (j : Int))) j := by
  obtain ⟨h1, h2, h3, h4, h5, h6⟩ := h
  exact ⟨h1, hj, by rw [qup_at, if_neg (by omega)]; exact h3, by rw [qup_at, if_pos rfl], fun j hj => by rw [qup_ne (by omega)]; exact h5 j hj, h6⟩
theorem rX_u {T : Nat → Nat} {n i : Nat} {I : Nat → Nat → Int32} (h : rX T n I i) {k : Nat} {v : Int32} (hk : ¬ k = 2) (hk3 : ¬ k = 4) : rX T n (qup I 245 k v) i := by
  obtain ⟨h1, h2, h3, h4, h5, h6⟩ := h
  exact ⟨h1, h2, by rw [qup_at, if_neg (by omega)]; exact h3, by rw [qup_at, if_neg (by omega)]; exact h4, fun j hj => by rw [qup_ne (by omega)]; exact h5 j hj, h6⟩
/-- a fault stands; the place stays within the text -/
def rE (T : Nat → Nat) (n : Nat) (J : Nat → Nat → Int32) (e : Nat × Nat) : Prop := ¬ e.1 = 0 ∧ e.1 ≤ 3 ∧ J 245 5 = qj (e.1 : Int) ∧ J 245 6 = qj (e.2 : Int) ∧ ∃ i, rX T n J i
section TXT3
variable {d : Nat} {g : qG1} {I : Nat → Nat → Int32} {T : Nat → Nat} {n i : Nat}
theorem m174 (hd : 1 ≤ d) (X : rX T n I i) {k : Nat} (hk : k < 100000) : qRun d 174 [.ref 245, .int (qj k)] (qw g I) (.inl (some (.int (qj (tb T n k))), qw g I)) := by
  obtain ⟨h1, h2, h3, h4, h5, h6⟩ := X
  refine qRun_of fun Q hQ => b174_0 (by omega) ?_
  unfold tb at hQ
  by_cases h : k < n
  · rw [if_pos h] at hQ
    have e := h5 k h
    simp (disch := omega) only [qz0, qj_lt, qj_le, qj_eq, qtk, qfk, qbtt, qbft, qbtf, qbff, qIx_z, qj_nat, true_and, and_true, true_implies, false_implies, not_true_eq_false, not_false_eq_true, Bool.true_eq_false, Bool.false_eq_true, qj_sub, qinB_t, qinB_f, q2_e, qj_add, qj_s1, qj_c1, qj_c2, qj_c9, qj_c17, qj_c97, h3, e]
    exact hQ
  · rw [if_neg h] at hQ
    simp (disch := omega) only [qz0, qj_lt, qj_le, qj_eq, qtk, qfk, qbtt, qbft, qbtf, qbff, qIx_z, qj_nat, true_and, and_true, true_implies, false_implies, not_true_eq_false, not_false_eq_true, Bool.true_eq_false, Bool.false_eq_true, qj_sub, qinB_t, qinB_f, q2_e, qj_add, qj_s1, qj_c1, qj_c2, qj_c9, qj_c17, qj_c97, h3]
    exact hQ
theorem m175 (hd : 2 ≤ d) (X : rX T n I i) : ∃ J, qRun d 175 [.ref 245] (qw g I) (.inl (none, qw g J)) ∧ rX T n J (tBl T n i) ∧ rF I J ∧ J 245 5 = I 245 5 ∧ J 245 6 = I 245 6 := by
  have key : ∀ r i, i + r = n → ∀ J, rX T n J i → qup J 245 4 (qj (tBl T n i : Int)) = qup I 245 4 (qj (tBl T n i : Int)) → ∀ Q : qR → Prop, Q (.inl (none, qw g (qup I 245 4 (qj (tBl T n i : Int))))) → qwq d 175 0 [(0, .ref 245)] [] (qw g J) Q := by
    intro r
    have stop : ∀ i, (n ≤ i ∨ ¬ T i = 32) → ∀ J, rX T n J i → qup J 245 4 (qj (tBl T n i : Int)) = qup I 245 4 (qj (tBl T n i : Int)) → ∀ Q : qR → Prop, Q (.inl (none, qw g (qup I 245 4 (qj (tBl T n i : Int))))) → qwq d 175 0 [(0, .ref 245)] [] (qw g J) Q := by
      intro i hc J XJ e Q hQ
      have hle := XJ.1
      have hle2 := XJ.2.1
      have e4 := XJ.2.2.2.1
      have es : tBl T n i = i := aLd_sp (by
        rcases hc with q | q
        · exact Or.inl q
        · exact Or.inr (beq_eq_false_iff_ne.mpr q))
      rw [es] at e hQ
      rw [← e4, qup_self] at e
      rw [e4] at e
      rw [← e] at hQ
      refine b175_0 (by omega) ?_
      rw [e4]
      refine ⟨_, _, m174 (by omega) XJ (by omega), ?_⟩
      have ne : ¬ qj (tb T n i) = qj 32 := by
        have := tb_sg (i := i) (s := 32) XJ.2.2.2.2.2 (by omega)
        intro q
        have := this.mp q
        omega
      exact ⟨fun _ => hQ, fun q => absurd ne q⟩
    induction r with
    | zero => intro i hi; exact stop i (Or.inl (by omega))
    | succ r ih =>
      intro i hi J XJ e Q hQ
      by_cases h : T i = 32
      · have hle := XJ.1
        have e4 := XJ.2.2.2.1
        have es : tBl T n i = tBl T n (i + 1) := aLd_st (by omega) (beq_iff_eq.mpr h)
        rw [es] at e hQ
        refine b175_0 (by omega) ?_
        rw [e4]
        refine ⟨_, _, m174 (by omega) XJ (by omega), ?_⟩
        have ee : qj (tb T n i) = qj 32 := (tb_sg (s := 32) XJ.2.2.2.2.2 (by omega)).mpr ⟨by omega, h⟩
        refine ⟨fun q => absurd ee q, fun _ => ?_⟩
        rw [e4, qj_add]
        exact ih (i + 1) (by omega) _ (rX_4 XJ (by omega)) (by rw [qup_qup]; exact e) Q hQ
      · exact stop i (Or.inr h) J XJ e Q hQ
  refine ⟨qup I 245 4 (qj (tBl T n i : Int)), qRun_of fun Q hQ => ?_, rX_4 X (tBl_b X.2.1).2, rF_u (Or.inl rfl), by rw [qup_at, if_neg (by omega)], by rw [qup_at, if_neg (by omega)]⟩
  show qwq d 175 0 [(0, .ref 245)] [] (qw g I) Q
  exact key (n - i) i (by have := X.2.1; omega) I X rfl Q hQ
/-- a fault, where none stood -/
theorem m176 (hd : 1 ≤ d) (X : rX T n I i) (h5 : I 245 5 = qj 0) (k p : Nat) : ∃ J, qRun d 176 [.ref 245, .int (qj k), .int (qj p)] (qw g I) (.inl (none, qw g J)) ∧ rX T n J i ∧ J 245 5 = qj (k : Int) ∧ J 245 6 = qj (p : Int) ∧ rF I J := by
  refine ⟨qup (qup I 245 5 (qj (k : Int))) 245 6 (qj (p : Int)), qRun_of fun Q hQ => b176_0 (by omega) ?_, rX_u (rX_u X (by omega) (by omega)) (by omega) (by omega), by rw [qup_at, if_neg (by omega), qup_at, if_pos rfl], by rw [qup_at, if_pos rfl], rF_tr (rF_u (by omega)) (rF_u (by omega))⟩
  simp only [h5, qz0]
  exact ⟨fun q => absurd trivial q, fun _ => hQ⟩
/-- what a number is in the reference so far -/
def rVal (v w : Nat) : Prop := v = min w 100000
theorem m179 (hd : 3 ≤ d) (X : rX T n I i) (h5 : I 245 5 = qj 0) {lo hi : Int} (hlo : -1 ≤ lo ∧ lo ≤ 1000) (hhi : -1 ≤ hi ∧ hi ≤ 1000) : match aNum T n i lo hi with
    | .inr r => ∃ J, qRun d 179 [.ref 245, .int (qj lo), .int (qj hi)] (qw g I) (.inl (some (.int (qj (r.1 : Int))), qw g J)) ∧ rX T n J r.2 ∧ J 245 5 = qj 0 ∧ rF I J
    | .inl e => ∃ J, qRun d 179 [.ref 245, .int (qj lo), .int (qj hi)] (qw g I) (.inl (some (.int (qj 0)), qw g J)) ∧ rE T n J e ∧ rF I J := by
  obtain ⟨J, k1, k2, k3, k4, k5⟩ := m175 (d := d - 1) (g := g) (by omega) X
  have e4 := k2.2.2.2.1
  have hT := X.2.2.2.2.2
  have hn := X.1
  have hb := tBl_b (T := T) X.2.1
  have edg : qdig (qj (tb T n (tBl T n i))) = (decide (tBl T n i < n) && dg (T (tBl T n i))) := tb_dg hT
  have k174 := m174 (d := d - 1) (g := g) (by omega) k2 (k := tBl T n i) (by omega)
  unfold aNum
  generalize tBl T n i = b at k1 k2 e4 hb edg k174 ⊢
  by_cases h : b < n ∧ dg (T b) = true
  · rw [if_pos h]
    rw [decide_eq_true h.1, h.2] at edg
    have key : ∀ r k : Nat, b + k + r = n → ∀ (K : Nat → Nat → Int32) (v : Nat), rX T n K (b + k) → rVal v (nV T b k) → (K 245 5 = qj 0 ∧ rF I K) → tDg T n (b + k) = tDg T n b →
        ∃ (J : Nat → Nat → Int32) (v' : Nat), (rX T n J (tDg T n b) ∧ rVal v' (nE T n b) ∧ J 245 5 = qj 0 ∧ rF I J) ∧ ∀ Q : qR → Prop,
          (lo ≤ (v' : Int) → (v' : Int) ≤ hi → Q (.inl (some (.int (qj (v' : Int))), qw g J))) →
          (¬ (lo ≤ (v' : Int) ∧ (v' : Int) ≤ hi) → Q (.inl (some (.int (qj 0)), qw g (qup (qup J 245 5 (qj 2)) 245 6 (qj (b : Int)))))) →
          qwq d 179 44 [(0, .ref 245), (1, .int (qj lo)), (2, .int (qj hi)), (3, .int (qj (b : Int))), (4, .int (qj (v : Int)))] [] (qw g K) Q := by
      have stop : ∀ (k : Nat) (K : Nat → Nat → Int32) (v : Nat), rX T n K (b + k) → rVal v (nV T b k) → (K 245 5 = qj 0 ∧ rF I K) → tDg T n (b + k) = tDg T n b → (n ≤ b + k ∨ dg (T (b + k)) = false) →
          ∃ (J : Nat → Nat → Int32) (v' : Nat), (rX T n J (tDg T n b) ∧ rVal v' (nE T n b) ∧ J 245 5 = qj 0 ∧ rF I J) ∧ ∀ Q : qR → Prop,
            (lo ≤ (v' : Int) → (v' : Int) ≤ hi → Q (.inl (some (.int (qj (v' : Int))), qw g J))) →
            (¬ (lo ≤ (v' : Int) ∧ (v' : Int) ≤ hi) → Q (.inl (some (.int (qj 0)), qw g (qup (qup J 245 5 (qj 2)) 245 6 (qj (b : Int)))))) →
            qwq d 179 44 [(0, .ref 245), (1, .int (qj lo)), (2, .int (qj hi)), (3, .int (qj (b : Int))), (4, .int (qj (v : Int)))] [] (qw g K) Q := by
        intro k K v h1 h3 h4 h5' h6
        have es : tDg T n (b + k) = b + k := aLd_sp h6
        have e : tDg T n b = b + k := by rw [← h5', es]
        have eN : nE T n b = nV T b k := by unfold nE; rw [e, show b + k - b = k by omega]
        have hv : v ≤ 100000 := by unfold rVal at h3; omega
        refine ⟨K, v, ⟨by rw [e]; exact h1, by rw [eN]; exact h3, h4⟩, fun Q q1 q2 => b179_44 (by omega) ?_⟩
        have e2 := h1.2.2.2.1
        have hle := h1.2.1
        have kb := m174 (d := d - 1) (g := g) (by omega) h1 (k := b + k) (by omega)
        have ed : qdig (qj (tb T n (b + k))) = false := by
          rw [tb_dg hT]
          rcases h6 with h6 | h6
          · rw [decide_eq_false (by omega)]; rfl
          · rw [h6, Bool.and_false]
        rw [e2]
        refine ⟨_, _, kb, ?_⟩
        rw [ed]
        refine ⟨fun _ => ?_, fun q => Bool.noConfusion q⟩
        have hin : qinB (qj (v : Int)) (qj lo) (qj hi) = (decide (lo ≤ (v : Int)) && decide ((v : Int) ≤ hi)) := qinB_z (by omega) (by omega) (by omega) (by omega) (by omega) (by omega)
        have h50 := h4.1
        by_cases c1 : lo ≤ (v : Int)
        · by_cases c2 : (v : Int) ≤ hi
          · rw [hin, decide_eq_true c1, decide_eq_true c2]
            refine ⟨fun _ => ?_, fun q => Bool.noConfusion q⟩
            rw [h50]
            exact ⟨fun q => absurd rfl q, fun _ => q1 c1 c2⟩
          · rw [hin, decide_eq_false c2, Bool.and_false]
            refine ⟨fun q => Bool.noConfusion q, fun _ => ?_⟩
            refine ⟨_, qRun_of fun Q hQ => b176_0 (by omega) ?_, ⟨fun _ => q2 (fun q => c2 q.2), fun q => absurd ?_ q⟩⟩
            · simp only [h50, qz0]
              exact ⟨fun q => absurd trivial q, fun _ => hQ⟩
            · show ¬ (qup (qup K 245 5 (qj 2)) 245 6 (qj (b : Int)) 245 5 = 0)
              rw [qup_at, if_neg (by omega), qup_at, if_pos rfl]; decide
        · rw [hin, decide_eq_false c1, Bool.false_and]
          refine ⟨fun q => Bool.noConfusion q, fun _ => ?_⟩
          refine ⟨_, qRun_of fun Q hQ => b176_0 (by omega) ?_, ⟨fun _ => q2 (fun q => c1 q.1), fun q => absurd ?_ q⟩⟩
          · simp only [h50, qz0]
            exact ⟨fun q => absurd trivial q, fun _ => hQ⟩
          · show ¬ (qup (qup K 245 5 (qj 2)) 245 6 (qj (b : Int)) 245 5 = 0)
            rw [qup_at, if_neg (by omega), qup_at, if_pos rfl]; decide
      intro r
      induction r with
      | zero => intro k hk K v h1 h3 h4 h5'; exact stop k K v h1 h3 h4 h5' (Or.inl (by omega))
      | succ r ih =>
        intro k hk K v h1 h3 h4 h5'
        cases hdk : dg (T (b + k)) with
        | false => exact stop k K v h1 h3 h4 h5' (Or.inr hdk)
        | true =>
          have hdb := dg_b hdk
          have hv : v ≤ 100000 := by unfold rVal at h3; omega
          have kb := m174 (d := d - 1) (g := g) (by omega) h1 (k := b + k) (by omega)
          rw [tb_i (by omega)] at kb
          have ed : qdig (qj (T (b + k) : Int)) = true := by rw [qdig_n (by omega)]; exact hdk
          have e2 := h1.2.2.2.1
          have h5'' : tDg T n (b + (k + 1)) = tDg T n b := by
            rw [← h5']
            exact (aLd_st (p := fun k => dg (T k)) (n := n) (i := b + k) (by omega) hdk).symm
          have e10 : qj 10 * qj (v : Int) + qj (T (b + k) : Int) - qj 48 = qj ((v * 10 + (T (b + k) - 48) : Nat) : Int) := by
            rw [qj_mul, qj_add, qj_sub]; congr 1; omega
          have hX' : rX T n (qup K 245 4 (qj ((b + (k + 1) : Nat) : Int))) (b + (k + 1)) := rX_4 h1 (by omega)
          have hO' : qup K 245 4 (qj ((b + (k + 1) : Nat) : Int)) 245 5 = qj 0 ∧ rF I (qup K 245 4 (qj ((b + (k + 1) : Nat) : Int))) := ⟨by rw [qup_at, if_neg (by omega)]; exact h4.1, rF_tr h4.2 (rF_u (Or.inl rfl))⟩
          by_cases c : v * 10 + (T (b + k) - 48) ≤ 100000
          · obtain ⟨J', v', q1, q2⟩ := ih (k + 1) (by omega) _ (v * 10 + (T (b + k) - 48)) hX' (by unfold rVal at h3 ⊢; rw [nV_d]; omega) hO' h5''
            refine ⟨J', v', q1, fun Q c1 c2 => b179_44 (by omega) ?_⟩
            have := q2 Q c1 c2
            rw [e2]
            refine ⟨_, _, kb, ?_⟩
            rw [ed]
            refine ⟨fun q => Bool.noConfusion q, fun _ => ?_⟩
            rw [e2]
            refine ⟨_, _, kb, ?_⟩
            rw [e10, e2]
            simp (disch := omega) only [qj_le, qtk, qj_add]
            exact this
          · obtain ⟨J', v', q1, q2⟩ := ih (k + 1) (by omega) _ 100000 hX' (by unfold rVal at h3 ⊢; rw [nV_d]; omega) hO' h5''
            refine ⟨J', v', q1, fun Q c1 c2 => b179_44 (by omega) ?_⟩
            have := q2 Q c1 c2
            rw [e2]
            refine ⟨_, _, kb, ?_⟩
            rw [ed]
            refine ⟨fun q => Bool.noConfusion q, fun _ => ?_⟩
            rw [e2]
            refine ⟨_, _, kb, ?_⟩
            rw [e10, e2]
            simp (disch := omega) only [qj_le, qfk, qj_add]
            exact this
    obtain ⟨J', v', ⟨q1, q3, q4, q4'⟩, q5⟩ := key (n - b) 0 (by omega) J 0 k2 (by unfold rVal; rfl) ⟨k4.trans h5, k3⟩ rfl
    have go : ∀ Q : qR → Prop, qwq d 179 44 [(0, .ref 245), (1, .int (qj lo)), (2, .int (qj hi)), (3, .int (qj (b : Int))), (4, .int (qj ((0 : Nat) : Int)))] [] (qw g J) Q → qwp d 179 [.ref 245, .int (qj lo), .int (qj hi)] (qw g I) Q := fun Q h46 => b179_0 (by omega) ⟨fun _ => ⟨_, k1, by
      rw [e4]
      refine ⟨_, _, k174, ?_⟩
      rw [edg]
      exact ⟨fun _ => h46, fun q => Bool.noConfusion q⟩⟩, fun q => absurd (h5.trans qz0.symm) q⟩
    by_cases c : lo ≤ nE T n b ∧ (nE T n b : Int) ≤ hi
    · rw [if_pos c]
      have ev : v' = nE T n b := by unfold rVal at q3; omega
      rw [ev] at q5
      exact ⟨J', qRun_of fun Q hQ => go Q (q5 Q (fun _ _ => hQ) (fun x => absurd c x)), q1, q4, q4'⟩
    · rw [if_neg c]
      have ev : ¬ (lo ≤ (v' : Int) ∧ (v' : Int) ≤ hi) := by unfold rVal at q3; omega
      exact ⟨qup (qup J' 245 5 (qj 2)) 245 6 (qj (b : Int)), qRun_of fun Q hQ => go Q (q5 Q (fun x y => absurd ⟨x, y⟩ ev) (fun _ => hQ)), ⟨(show ¬ (2 : Nat) = 0 by omega), (show (2 : Nat) ≤ 3 by omega), by rw [qup_at, if_neg (by omega), qup_at, if_pos rfl]; rfl, by rw [qup_at, if_pos rfl], _, rX_u (rX_u q1 (by omega) (by omega)) (by omega) (by omega)⟩, rF_tr q4' (rF_tr (rF_u (by omega)) (rF_u (by omega)))⟩
  · rw [if_neg h]
    have edf : qdig (qj (tb T n b)) = false := by
      rw [edg]
      cases hq : dg (T b) with
      | false => rw [Bool.and_false]
      | true => rw [decide_eq_false (fun q => h ⟨q, hq⟩)]; rfl
    obtain ⟨J4, w1, hJ4, f5, f6, w3⟩ := m176 (d := d - 1) (g := g) (by omega) k2 (k4.trans h5) 1 b
    have w1' : qRun (d - 1) 176 [.ref 245, .int (qj 1), .int (qj (b : Int))] (qw g J) (.inl (none, qw g J4)) := w1
    -- behind the fault nothing more is read: no digit stands here
    have f5' : J4 245 5 = qj 1 := f5
    have k174' := m174 (d := d - 1) (g := g) (by omega) hJ4 (k := b) (by omega)
    have e4' := hJ4.2.2.2.1
    have ne : ¬ J4 245 5 = 0 := by rw [f5']; decide
    refine ⟨J4, qRun_of fun Q hQ => b179_0 (by omega) ⟨fun _ => ⟨_, k1, ?_⟩, fun q => absurd (h5.trans qz0.symm) q⟩, ⟨(show ¬ (1 : Nat) = 0 by omega), (show (1 : Nat) ≤ 3 by omega), f5, f6, _, hJ4⟩, rF_tr k3 w3⟩
    rw [e4]
    refine ⟨_, _, k174, ?_⟩
    rw [edf]
    refine ⟨fun q => Bool.noConfusion q, fun _ => ?_⟩
    rw [e4]
    refine ⟨_, w1', b179_44 (by omega) ?_⟩
    rw [e4']
    refine ⟨_, _, k174', ?_⟩
    rw [edf]
    exact ⟨fun _ => ⟨fun _ => ⟨fun _ => hQ, fun q => absurd ne q⟩, fun _ => ⟨J4, qRun_of fun Q hQ => b176_0 (by omega) ⟨fun _ => hQ, fun q => absurd ne q⟩, ⟨fun _ => hQ, fun q => absurd ne q⟩⟩⟩, fun q => Bool.noConfusion q⟩
end TXT3
