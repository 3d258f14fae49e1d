/-! ===== texts, the class: numbers, words ===== -/
theorem nV_d {T : Nat → Nat} {b : Nat} (k : Nat) : nV T b (k + 1) = nV T b k * 10 + (T (b + k) - 48) := rfl
theorem dg_b {b : Nat} (h : dg b = true) : 48 ≤ b ∧ b ≤ 57 := by
  unfold dg at h
  rw [Bool.and_eq_true, decide_eq_true_iff, decide_eq_true_iff] at h
  exact h
/-- what the class holds for a number so far: the number itself, or one beyond all -/
def cVal (v w : Nat) : Prop := (v = w ∧ v < 1000000) ∨ (100000 ≤ v ∧ v < 1000000 ∧ 100000 ≤ w)
section TXT2
variable {d : Nat} {g : qG1} {I : Nat → Nat → Int32} {T : Nat → Nat} {n i : Nat}
theorem c79 (hd : 2 ≤ d) (X : tX T n I i) {lo hi : Int} (hlo : -1 ≤ lo ∧ lo ≤ 1000) (hhi : -1 ≤ hi ∧ hi ≤ 1000) : match aNum T n i lo hi with
    | .inr r => ∃ J, qRun d 79 [.ref 65, .int (qj lo), .int (qj hi)] (qw g I) (.inl (some (.int (qb true)), qw g J)) ∧ tX T n J r.2 ∧ J 65 6 = qj (tBl T n i : Int) ∧ J 65 7 = qj (r.1 : Int) ∧ J 65 8 = I 65 7 ∧ tF I J
    | .inl e => ∃ J, qRun d 79 [.ref 65, .int (qj lo), .int (qj hi)] (qw g I) (.inl (some (.int (qb false)), qw g J)) ∧ tE J e ∧ tF I J := by
  obtain ⟨J, k1, k2, k3, k4⟩ := c75b (d := d - 1) (g := g) (by omega) X
  have e3 := k2.2.2.2.1
  have hT := X.2.2.2.2.2
  have hb := tBl_b (T := T) X.2.1
  have e7 := k4 7 (by omega)
  have edg : qdig (qj (tb T n (tBl T n i))) = (decide (tBl T n i < n) && dg (T (tBl T n i))) := tb_dg hT
  unfold aNum
  generalize tBl T n i = b at k1 k2 e3 hb edg ⊢
  by_cases h : b < n ∧ dg (T b) = true
  · rw [if_pos h]
    rw [decide_eq_true h.1, h.2] at edg
    have hd9 := tDg_b (T := T) (i := b) hb.2
    have hn := X.1
    -- the digits
    let O : (Nat → Nat → Int32) → Prop := fun K => K 65 6 = qj (b : Int) ∧ K 65 8 = I 65 7 ∧ tF I K
    have key : ∀ r k : Nat, b + k + r = n → ∀ (K : Nat → Nat → Int32) (v : Nat), tX T n K (b + k) → K 65 7 = qj (v : Int) → cVal v (nV T b k) → O K → tDg T n (b + k) = tDg T n b →
        ∃ (J : Nat → Nat → Int32) (v' : Nat), (tX T n J (tDg T n b) ∧ J 65 7 = qj (v' : Int) ∧ cVal v' (nE T n b) ∧ O J) ∧ ∀ Q : qR → Prop,
          ((v' : Int) < lo → Q (.inl (some (.int (qb false)), qw g (qup (qup J 65 4 (qj 2)) 65 5 (J 65 6))))) →
          (¬ (v' : Int) < lo → (v' : Int) ≤ hi → Q (.inl (some (.int (qb true)), qw g J))) →
          (¬ (v' : Int) < lo → ¬ (v' : Int) ≤ hi → Q (.inl (some (.int (qb false)), qw g (qup (qup J 65 4 (qj 2)) 65 5 (J 65 6))))) →
          qwq d 79 46 [(0, .ref 65), (1, .int (qj lo)), (2, .int (qj hi)), (3, .int (qj ((b + k : Nat) : Int)))] [] (qw g K) Q := by
      have stop : ∀ (k : Nat) (K : Nat → Nat → Int32) (v : Nat), tX T n K (b + k) → K 65 7 = qj (v : Int) → cVal v (nV T b k) → O K → tDg T n (b + k) = tDg T n b → (n ≤ b + k ∨ dg (T (b + k)) = false) →
          ∃ (J : Nat → Nat → Int32) (v' : Nat), (tX T n J (tDg T n b) ∧ J 65 7 = qj (v' : Int) ∧ cVal v' (nE T n b) ∧ O J) ∧ ∀ Q : qR → Prop,
            ((v' : Int) < lo → Q (.inl (some (.int (qb false)), qw g (qup (qup J 65 4 (qj 2)) 65 5 (J 65 6))))) →
            (¬ (v' : Int) < lo → (v' : Int) ≤ hi → Q (.inl (some (.int (qb true)), qw g J))) →
            (¬ (v' : Int) < lo → ¬ (v' : Int) ≤ hi → Q (.inl (some (.int (qb false)), qw g (qup (qup J 65 4 (qj 2)) 65 5 (J 65 6))))) →
            qwq d 79 46 [(0, .ref 65), (1, .int (qj lo)), (2, .int (qj hi)), (3, .int (qj ((b + k : Nat) : Int)))] [] (qw g K) Q := by
        intro k K v h1 h2 h3 h4 h5 h6
        have es : tDg T n (b + k) = b + k := aLd_sp h6
        have e : tDg T n b = b + k := by rw [← h5, es]
        have eN : nE T n b = nV T b k := by unfold nE; rw [e, show b + k - b = k by omega]
        have hv : v < 1000000 := by rcases h3 with h3 | h3 <;> omega
        refine ⟨K, v, ⟨by rw [e]; exact h1, h2, by rw [eN]; exact h3, h4⟩, fun Q q1 q2 q3 => b79_46 (by omega) ?_⟩
        have e2 := h1.2.2.1
        have hle := h1.2.1
        have hn1 := h1.1
        by_cases c : n ≤ b + k
        · simp (disch := omega) only [e2, h2, qj_le, qj_lt, qtk]
          exact ⟨q1, fun c1 => ⟨fun c2 => q2 c1 c2, fun c2 => q3 c1 c2⟩⟩
        · have k74 := c74 (d := d - 1) (g := g) (by omega) h1 (k := b + k) (by omega)
          have c' : dg (T (b + k)) = false := by
            rcases h6 with h6 | h6
            · omega
            · exact h6
          have ed : qdig (qj (tb T n (b + k))) = false := by rw [tb_dg hT, c', Bool.and_false]
          simp (disch := omega) only [e2, qj_le, qfk]
          refine ⟨_, _, k74, ?_⟩
          rw [ed]
          refine ⟨fun _ => ?_, fun q => Bool.noConfusion q⟩
          simp (disch := omega) only [h2, qj_le, qj_lt]
          exact ⟨q1, fun c1 => ⟨fun c2 => q2 c1 c2, fun c2 => q3 c1 c2⟩⟩
      intro r
      induction r with
      | zero => intro k hk K v h1 h2 h3 h4 h5; exact stop k K v h1 h2 h3 h4 h5 (Or.inl (by omega))
      | succ r ih =>
        intro k hk K v h1 h2 h3 h4 h5
        cases hdk : dg (T (b + k)) with
        | false => exact stop k K v h1 h2 h3 h4 h5 (Or.inr hdk)
        | true =>
          have hdb := dg_b hdk
          have hv : v < 1000000 := by rcases h3 with h3 | h3 <;> omega
          have k74 := c74 (d := d - 1) (g := g) (by omega) h1 (k := b + k) (by omega)
          rw [tb_i (by omega)] at k74
          have ed : qdig (qj (T (b + k) : Int)) = true := by rw [qdig_n (by omega)]; exact hdk
          have e2 := h1.2.2.1
          have h5' : tDg T n (b + (k + 1)) = tDg T n b := by
            rw [← h5]
            exact (aLd_st (p := fun k => dg (T k)) (n := n) (i := b + k) (by omega) hdk).symm
          have hmk : ∀ v', cVal v' (nV T b (k + 1)) → ∀ K', K' = qup (qup K 65 7 (qj (v' : Int))) 65 3 (qj ((b + (k + 1) : Nat) : Int)) → (tX T n K' (b + (k + 1)) ∧ K' 65 7 = qj (v' : Int) ∧ O K') := by
            intro v' hv' K' hK'
            subst hK'
            refine ⟨tX_3 (tX_u h1 (by omega) (by omega)) (by omega), by rw [qup_at, if_neg (by omega), qup_at, if_pos rfl], ?_, ?_, ?_⟩
            · rw [qup_at, if_neg (by omega), qup_at, if_neg (by omega)]; exact h4.1
            · rw [qup_at, if_neg (by omega), qup_at, if_neg (by omega)]; exact h4.2.1
            · exact tF_tr h4.2.2 (tF_tr (tF_u (by omega)) (tF_u (by omega)))
          by_cases c : 100000 ≤ v
          · have hv' : cVal v (nV T b (k + 1)) := by
              right
              rw [nV_d]
              rcases h3 with h3 | h3 <;> omega
            have eK : qup K 65 3 (qj ((b + (k + 1) : Nat) : Int)) = qup (qup K 65 7 (qj (v : Int))) 65 3 (qj ((b + (k + 1) : Nat) : Int)) := by rw [← h2, qup_self]
            obtain ⟨x1, x2, x3⟩ := hmk v hv' _ eK
            obtain ⟨J', v', q1, q2⟩ := ih (k + 1) (by omega) _ v x1 x2 hv' x3 h5'
            refine ⟨J', v', q1, fun Q c1 c2 c3 => b79_46 (by omega) ?_⟩
            have := q2 Q c1 c2 c3
            simp (disch := omega) only [e2, qj_le, qfk]
            refine ⟨_, _, k74, ?_⟩
            rw [ed]
            refine ⟨fun q => Bool.noConfusion q, fun _ => ?_⟩
            simp (disch := omega) only [h2, qj_le, qtk, qj_add]
            exact this
          · have ev : v = nV T b k := by rcases h3 with h3 | h3 <;> omega
            have e10 : qj (v : Int) * qj 10 + qj (T (b + k) : Int) - qj 48 = qj ((v * 10 + (T (b + k) - 48) : Nat) : Int) := by
              rw [qj_mul, qj_add, qj_sub]; congr 1; omega
            have hv' : cVal (v * 10 + (T (b + k) - 48)) (nV T b (k + 1)) := by
              left
              rw [nV_d, ev]
              exact ⟨rfl, by omega⟩
            obtain ⟨x1, x2, x3⟩ := hmk _ hv' _ rfl
            obtain ⟨J', v', q1, q2⟩ := ih (k + 1) (by omega) _ _ x1 x2 hv' x3 h5'
            refine ⟨J', v', q1, fun Q c1 c2 c3 => b79_46 (by omega) ?_⟩
            have := q2 Q c1 c2 c3
            simp (disch := omega) only [e2, qj_le, qfk]
            refine ⟨_, _, k74, ?_⟩
            rw [ed]
            refine ⟨fun q => Bool.noConfusion q, fun _ => ?_⟩
            simp (disch := omega) only [h2, qj_le, qfk]
            refine ⟨_, _, k74, ?_⟩
            rw [e10]
            simp (disch := omega) only [qj_add]
            exact this
    have hX0 : tX T n (qup (qup (qup J 65 6 (qj (b : Int))) 65 8 (J 65 7)) 65 7 (qj ((0 : Nat) : Int))) (b + 0) := tX_u (tX_u (tX_u k2 (by omega) (by omega)) (by omega) (by omega)) (by omega) (by omega)
    obtain ⟨J', v', ⟨q1, q2, q3, q4⟩, q5⟩ := key (n - b) 0 (by omega) _ 0 hX0 (by rw [qup_at, if_pos rfl]) (Or.inl ⟨rfl, by omega⟩) ⟨by rw [qup_at, if_neg (by omega), qup_at, if_neg (by omega), qup_at, if_pos rfl], by rw [qup_at, if_neg (by omega), qup_at, if_pos rfl]; exact e7, tF_tr k3 (tF_tr (tF_u (by omega)) (tF_tr (tF_u (by omega)) (tF_u (by omega))))⟩ rfl
    have go : ∀ Q : qR → Prop, qwq d 79 46 [(0, .ref 65), (1, .int (qj lo)), (2, .int (qj hi)), (3, .int (qj ((b + 0 : Nat) : Int)))] [] (qw g (qup (qup (qup J 65 6 (qj (b : Int))) 65 8 (J 65 7)) 65 7 (qj ((0 : Nat) : Int)))) Q → qwp d 79 [.ref 65, .int (qj lo), .int (qj hi)] (qw g I) Q := fun Q h46 => b79_0 (by omega) ⟨_, _, k1, by
      rw [edg, e3]
      exact ⟨fun _ => h46, fun q => Bool.noConfusion q⟩⟩
    by_cases c : lo ≤ nE T n b ∧ (nE T n b : Int) ≤ hi
    · rw [if_pos c]
      have ev : v' = nE T n b := by rcases q3 with q3 | q3 <;> omega
      rw [ev] at q2 q5
      exact ⟨J', qRun_of fun Q hQ => go Q (q5 Q (fun x => by omega) (fun _ _ => hQ) (fun _ x => absurd c.2 x)), q1, q4.1, q2, q4.2.1, q4.2.2⟩
    · rw [if_neg c]
      have e6 := q4.1
      refine ⟨qup (qup J' 65 4 (qj 2)) 65 5 (J' 65 6), qRun_of fun Q hQ => go Q (q5 Q (fun _ => hQ) (fun x y => ?_) (fun _ _ => hQ)), ⟨by rw [qup_at, if_neg (by omega), qup_at, if_pos rfl]; rfl, by rw [qup_at, if_pos rfl]; exact e6⟩, tF_tr q4.2.2 (tF_tr (tF_u (by omega)) (tF_u (by omega)))⟩
      exact absurd (by rcases q3 with q3 | q3 <;> omega) c
  · rw [if_neg h]
    have edf : qdig (qj (tb T n b)) = false := by
      rw [edg]
      cases hq : dg (T b) with
      | false => rw [Bool.and_false]
      | true => rw [decide_eq_false (fun q => h ⟨q, hq⟩)]; rfl
    refine ⟨qup (qup J 65 4 (qj 1)) 65 5 (qj (b : Int)), qRun_of fun Q hQ => b79_0 (by omega) ⟨_, _, k1, ?_⟩, ⟨by rw [qup_at, if_neg (by omega), qup_at, if_pos rfl]; rfl, by rw [qup_at, if_pos rfl]⟩, tF_tr k3 (tF_tr (tF_u (by omega)) (tF_u (by omega)))⟩
    rw [edf, e3]
    exact ⟨fun q => Bool.noConfusion q, fun _ => hQ⟩
theorem c80 (hd : 2 ≤ d) (X : tX T n I i) : match aWrd T n i with
    | .inr r => ∃ J, qRun d 80 [.ref 65] (qw g I) (.inl (some (.int (qb true)), qw g J)) ∧ tX T n J r.2 ∧ J 65 6 = qj (r.1 : Int) ∧ tF I J ∧ J 65 7 = I 65 7 ∧ J 65 8 = I 65 8
    | .inl e => ∃ J, qRun d 80 [.ref 65] (qw g I) (.inl (some (.int (qb false)), qw g J)) ∧ tE J e ∧ tF I J := by
  obtain ⟨J, k1, k2, k3, k4⟩ := c75b (d := d - 1) (g := g) (by omega) X
  have e3 := k2.2.2.2.1
  have hT := X.2.2.2.2.2
  have hb := tBl_b (T := T) X.2.1
  have edg : qlet (qj (tb T n (tBl T n i))) = (decide (tBl T n i < n) && ltr (T (tBl T n i))) := tb_lt hT
  have e7 := k4 7 (by omega)
  have e8 := k4 8 (by omega)
  unfold aWrd
  generalize tBl T n i = b at k1 k2 e3 hb edg ⊢
  by_cases h : b < n ∧ ltr (T b) = true
  · rw [if_pos h]
    rw [decide_eq_true h.1, h.2] at edg
    have hn := X.1
    have key : ∀ r k : Nat, b + k + r = n → ∀ K : Nat → Nat → Int32, tX T n K (b + k) → (K 65 6 = qj (b : Int) ∧ tF I K ∧ K 65 7 = I 65 7 ∧ K 65 8 = I 65 8) → tLt T n (b + k) = tLt T n b →
        ∃ J, (tX T n J (tLt T n b) ∧ J 65 6 = qj (b : Int) ∧ tF I J ∧ J 65 7 = I 65 7 ∧ J 65 8 = I 65 8) ∧ ∀ Q : qR → Prop, Q (.inl (some (.int (qb true)), qw g J)) → qwq d 80 33 [(0, .ref 65), (1, .int (qj ((b + k : Nat) : Int)))] [] (qw g K) Q := by
      have stop : ∀ (k : Nat) (K : Nat → Nat → Int32), tX T n K (b + k) → (K 65 6 = qj (b : Int) ∧ tF I K ∧ K 65 7 = I 65 7 ∧ K 65 8 = I 65 8) → tLt T n (b + k) = tLt T n b → (n ≤ b + k ∨ ltr (T (b + k)) = false) →
          ∃ J, (tX T n J (tLt T n b) ∧ J 65 6 = qj (b : Int) ∧ tF I J ∧ J 65 7 = I 65 7 ∧ J 65 8 = I 65 8) ∧ ∀ Q : qR → Prop, Q (.inl (some (.int (qb true)), qw g J)) → qwq d 80 33 [(0, .ref 65), (1, .int (qj ((b + k : Nat) : Int)))] [] (qw g K) Q := by
        intro k K h1 h4 h5 h6
        have es : tLt T n (b + k) = b + k := aLd_sp h6
        have e : tLt T n b = b + k := by rw [← h5, es]
        refine ⟨K, ⟨by rw [e]; exact h1, h4⟩, fun Q q1 => b80_33 (by omega) ?_⟩
        have e2 := h1.2.2.1
        have hle := h1.2.1
        have hn1 := h1.1
        by_cases c : n ≤ b + k
        · simp (disch := omega) only [e2, qj_le, qtk]
          exact q1
        · have k74 := c74 (d := d - 1) (g := g) (by omega) h1 (k := b + k) (by omega)
          have c' : ltr (T (b + k)) = false := by
            rcases h6 with h6 | h6
            · omega
            · exact h6
          have ed : qlet (qj (tb T n (b + k))) = false := by rw [tb_lt hT, c', Bool.and_false]
          simp (disch := omega) only [e2, qj_le, qfk]
          refine ⟨_, _, k74, ?_⟩
          rw [ed]
          exact ⟨fun _ => q1, fun q => Bool.noConfusion q⟩
      intro r
      induction r with
      | zero => intro k hk K h1 h4 h5; exact stop k K h1 h4 h5 (Or.inl (by omega))
      | succ r ih =>
        intro k hk K h1 h4 h5
        cases hdk : ltr (T (b + k)) with
        | false => exact stop k K h1 h4 h5 (Or.inr hdk)
        | true =>
          have k74 := c74 (d := d - 1) (g := g) (by omega) h1 (k := b + k) (by omega)
          rw [tb_i (by omega)] at k74
          have ed : qlet (qj (T (b + k) : Int)) = true := by rw [qlet_n (hT _ (by omega))]; exact hdk
          have e2 := h1.2.2.1
          have h5' : tLt T n (b + (k + 1)) = tLt T n b := by
            rw [← h5]
            exact (aLd_st (p := fun k => ltr (T k)) (n := n) (i := b + k) (by omega) hdk).symm
          obtain ⟨J', q1, q2⟩ := ih (k + 1) (by omega) (qup K 65 3 (qj ((b + (k + 1) : Nat) : Int))) (tX_3 h1 (by omega)) ⟨by rw [qup_at, if_neg (by omega)]; exact h4.1, tF_tr h4.2.1 (tF_u (by omega)), by rw [qup_at, if_neg (by omega)]; exact h4.2.2.1, by rw [qup_at, if_neg (by omega)]; exact h4.2.2.2⟩ h5'
          refine ⟨J', q1, fun Q c1 => b80_33 (by omega) ?_⟩
          have := q2 Q c1
          simp (disch := omega) only [e2, qj_le, qfk]
          refine ⟨_, _, k74, ?_⟩
          rw [ed]
          refine ⟨fun q => Bool.noConfusion q, fun _ => ?_⟩
          simp (disch := omega) only [qj_add]
          exact this
    obtain ⟨J', q1, q2⟩ := key (n - b) 0 (by omega) (qup J 65 6 (qj (b : Int))) (tX_u k2 (by omega) (by omega)) ⟨by rw [qup_at, if_pos rfl], tF_tr k3 (tF_u (by omega)), by rw [qup_at, if_neg (by omega)]; exact e7, by rw [qup_at, if_neg (by omega)]; exact e8⟩ rfl
    refine ⟨J', qRun_of fun Q hQ => b80_0 (by omega) ⟨_, _, k1, ?_⟩, q1⟩
    rw [edg, e3]
    exact ⟨fun _ => q2 Q hQ, fun q => Bool.noConfusion q⟩
  · rw [if_neg h]
    have edf : qlet (qj (tb T n b)) = false := by
      rw [edg]
      cases hq : ltr (T b) with
      | false => rw [Bool.and_false]
      | true => rw [decide_eq_false (fun q => h ⟨q, hq⟩)]; rfl
    refine ⟨qup (qup J 65 4 (qj 1)) 65 5 (qj (b : Int)), qRun_of fun Q hQ => b80_0 (by omega) ⟨_, _, k1, ?_⟩, ⟨by rw [qup_at, if_neg (by omega), qup_at, if_pos rfl]; rfl, by rw [qup_at, if_pos rfl]⟩, tF_tr k3 (tF_tr (tF_u (by omega)) (tF_u (by omega)))⟩
    rw [edf, e3]
    exact ⟨fun q => Bool.noConfusion q, fun _ => hQ⟩
end TXT2
