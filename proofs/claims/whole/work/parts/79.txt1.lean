/-! ===== texts: what stands in them ===== -/
def dg (b : Nat) : Bool := decide (48 ≤ b) && decide (b ≤ 57)
def ltr (b : Nat) : Bool := decide (97 ≤ b) && decide (b ≤ 122)
/-- the byte at a place, -1 behind the end -/
def tb (T : Nat → Nat) (n i : Nat) : Int := if i < n then (T i : Int) else -1
/-- behind the blanks, the digits, the letters -/
def tBl (T : Nat → Nat) (n i : Nat) : Nat := aLd (fun k => T k == 32) (n - i) i
def tDg (T : Nat → Nat) (n i : Nat) : Nat := aLd (fun k => dg (T k)) (n - i) i
def tLt (T : Nat → Nat) (n i : Nat) : Nat := aLd (fun k => ltr (T k)) (n - i) i
theorem aLd_ge (p : Nat → Bool) : ∀ r i, i ≤ aLd p r i
  | 0, _ => Nat.le_refl _
  | r + 1, i => by
    have := aLd_ge p r (i + 1)
    rw [aLd]; split <;> omega
theorem aLd_st {p : Nat → Bool} {n i : Nat} (h : i < n) (hp : p i = true) : aLd p (n - i) i = aLd p (n - (i + 1)) (i + 1) := by
  rw [show n - i = n - (i + 1) + 1 by omega, aLd, if_pos hp]
theorem aLd_sp {p : Nat → Bool} {n i : Nat} (h : n ≤ i ∨ p i = false) : aLd p (n - i) i = i := by
  rcases h with h | h
  · rw [show n - i = 0 by omega]; rfl
  · cases hr : n - i with
    | zero => rfl
    | succ r => rw [aLd, h]; rfl
theorem aLd_nd {p : Nat → Bool} : ∀ r i, aLd p r i < i + r → p (aLd p r i) = false
  | 0, i, h => absurd h (Nat.lt_irrefl _)
  | r + 1, i, h => by
    rw [aLd] at h ⊢
    cases hp : p i with
    | true =>
      rw [hp, if_pos rfl] at h
      rw [if_pos rfl]
      exact aLd_nd r (i + 1) (by omega)
    | false => rw [if_neg Bool.false_ne_true]; exact hp
theorem tBl_b {T : Nat → Nat} {n i : Nat} (h : i ≤ n) : i ≤ tBl T n i ∧ tBl T n i ≤ n := ⟨aLd_ge _ _ _, by have := aLd_le (fun k => T k == 32) (n - i) i; unfold tBl; omega⟩
theorem tDg_b {T : Nat → Nat} {n i : Nat} (h : i ≤ n) : i ≤ tDg T n i ∧ tDg T n i ≤ n := ⟨aLd_ge _ _ _, by have := aLd_le (fun k => dg (T k)) (n - i) i; unfold tDg; omega⟩
theorem tLt_b {T : Nat → Nat} {n i : Nat} (h : i ≤ n) : i ≤ tLt T n i ∧ tLt T n i ≤ n := ⟨aLd_ge _ _ _, by have := aLd_le (fun k => ltr (T k)) (n - i) i; unfold tLt; omega⟩
/-- behind blanks there is none -/
theorem tBl_i {T : Nat → Nat} {n i : Nat} (h : i ≤ n) : tBl T n (tBl T n i) = tBl T n i := by
  have hb := tBl_b (T := T) h
  refine aLd_sp ?_
  rcases Nat.lt_or_ge (tBl T n i) n with q | q
  · right
    have := aLd_nd (p := fun k => T k == 32) (n - i) i
    unfold tBl at q hb ⊢
    exact this (by omega)
  · exact Or.inl q
/-- the number of the digits from i up to e -/
def nV (T : Nat → Nat) (i : Nat) : Nat → Nat
  | 0 => 0
  | k + 1 => nV T i k * 10 + (T (i + k) - 48)
def nE (T : Nat → Nat) (n b : Nat) : Nat := nV T b (tDg T n b - b)
/-- a number between lo and hi: a fault and its place, or the number and where it ends -/
def aNum (T : Nat → Nat) (n i : Nat) (lo hi : Int) : (Nat × Nat) ⊕ (Nat × Nat) :=
  if tBl T n i < n ∧ dg (T (tBl T n i)) = true then (if lo ≤ nE T n (tBl T n i) ∧ (nE T n (tBl T n i) : Int) ≤ hi then .inr (nE T n (tBl T n i), tDg T n (tBl T n i)) else .inl (2, tBl T n i)) else .inl (1, tBl T n i)
/-- one sign: where it ends -/
def aSgn (T : Nat → Nat) (n i s : Nat) : (Nat × Nat) ⊕ Nat := if tBl T n i < n ∧ T (tBl T n i) = s then .inr (tBl T n i + 1) else .inl (1, tBl T n i)
/-- a word: where it begins and ends -/
def aWrd (T : Nat → Nat) (n i : Nat) : (Nat × Nat) ⊕ (Nat × Nat) := if tBl T n i < n ∧ ltr (T (tBl T n i)) = true then .inr (tBl T n i, tLt T n (tBl T n i)) else .inl (1, tBl T n i)
theorem qdig_n {b : Nat} (h : b < 256) : qdig (qj (b : Int)) = dg b := by
  unfold qdig dg
  rw [qinB_z (by omega) (by omega) (by omega) (by omega) (by omega) (by omega)]
  rw [decide_eq_decide.mpr (show (48 : Int) ≤ (b : Int) ↔ 48 ≤ b by omega), decide_eq_decide.mpr (show (b : Int) ≤ 57 ↔ b ≤ 57 by omega)]
theorem qdig_m : qdig (qj (-1)) = false := by decide
theorem qlet_n {b : Nat} (h : b < 256) : qlet (qj (b : Int)) = ltr b := by
  unfold qlet ltr
  rw [qinB_z (by omega) (by omega) (by omega) (by omega) (by omega) (by omega)]
  rw [decide_eq_decide.mpr (show (97 : Int) ≤ (b : Int) ↔ 97 ≤ b by omega), decide_eq_decide.mpr (show (b : Int) ≤ 122 ↔ b ≤ 122 by omega)]
theorem qlet_m : qlet (qj (-1)) = false := by decide
theorem tb_dg {T : Nat → Nat} {n i : Nat} (hT : ∀ j, j < n → T j < 256) : qdig (qj (tb T n i)) = (decide (i < n) && dg (T i)) := by
  unfold tb
  by_cases h : i < n
  · rw [if_pos h, qdig_n (hT i h), decide_eq_true h]; rfl
  · rw [if_neg h, qdig_m, decide_eq_false h]; rfl
theorem tb_lt {T : Nat → Nat} {n i : Nat} (hT : ∀ j, j < n → T j < 256) : qlet (qj (tb T n i)) = (decide (i < n) && ltr (T i)) := by
  unfold tb
  by_cases h : i < n
  · rw [if_pos h, qlet_n (hT i h), decide_eq_true h]; rfl
  · rw [if_neg h, qlet_m, decide_eq_false h]; rfl
theorem tb_b {T : Nat → Nat} {n i : Nat} (hT : ∀ j, j < n → T j < 256) : -1 ≤ tb T n i ∧ tb T n i < 256 := by
  unfold tb
  split
  · have := hT i (by assumption); omega
  · omega
/-- the text that is read, in the class: n bytes, read up to i -/
def tX (T : Nat → Nat) (n : Nat) (I : Nat → Nat → Int32) (i : Nat) : Prop := n ≤ 600 ∧ i ≤ n ∧ I 65 2 = qj (n : Int) ∧ I 65 3 = qj (i : Int) ∧ ((∀ j, j < n → I 66 j = qj (T j : Int)) ∧ I 65 5 = qj (-1)) ∧ ∀ j, j < n → T j < 256
/-- what reading may write -/
def tF (I J : Nat → Nat → Int32) : Prop := (∀ a, ¬ a = 65 → J a = I a) ∧ J 65 1 = I 65 1
theorem tF_rf {I : Nat → Nat → Int32} : tF I I := ⟨fun _ _ => rfl, rfl⟩
theorem tF_tr {I J K : Nat → Nat → Int32} (h : tF I J) (h2 : tF J K) : tF I K := ⟨fun a p => (h2.1 a p).trans (h.1 a p), h2.2.trans h.2⟩
theorem tX_u {T : Nat → Nat} {n i : Nat} {I : Nat → Nat → Int32} (h : tX T n I i) {k : Nat} {v : Int32} (hk : ¬ k = 2) (hk3 : ¬ k = 3) (hk5 : ¬ k = 5 := by omega) : tX T n (qup I 65 k v) i := by
  obtain ⟨h1, h2, h3, h4, h5, h6⟩ := h
  exact ⟨h1, h2, by rw [qup_at, if_neg (by omega)]; exact h3, by rw [qup_at, if_neg (by omega)]; exact h4, ⟨fun j hj => by rw [qup_ne (by omega)]; exact h5.1 j hj, by rw [qup_at, if_neg (by omega)]; exact h5.2⟩, h6⟩
theorem tX_3 {T : Nat → Nat} {n i j : Nat} {I : Nat → Nat → Int32} (h : tX T n I i) (hj : j ≤ n) : tX T n (qup I 65 3 (qj (j : Int))) j := by
  obtain ⟨h1, h2, h3, h4, h5, h6⟩ := h
  exact ⟨h1, hj, by rw [qup_at, if_neg (by omega)]; exact h3, by rw [qup_at, if_pos rfl], ⟨fun j hj => by rw [qup_ne (by omega)]; exact h5.1 j hj, by rw [qup_at, if_neg (by omega)]; exact h5.2⟩, h6⟩
theorem tF_u {I : Nat → Nat → Int32} {k : Nat} {v : Int32} (hk : ¬ k = 1) : tF I (qup I 65 k v) := ⟨fun a p => qup_ne p, by rw [qup_at, if_neg (by omega)]⟩
section TXT1
variable {d : Nat} {g : qG1} {I : Nat → Nat → Int32} {T : Nat → Nat} {n i : Nat}
theorem c74 (hd : 1 ≤ d) (X : tX T n I i) {k : Nat} (hk : k < 100000) : qRun d 74 [.ref 65, .int (qj k)] (qw g I) (.inl (some (.int (qj (tb T n k))), qw g I)) := by
  obtain ⟨h1, h2, h3, h4, h5, h6⟩ := X
  refine qRun_of fun Q hQ => b74_0 (by omega) ?_
  unfold tb at hQ
  by_cases h : k < n
  · rw [if_pos h] at hQ
    have e := h5.1 k h
    simp (disch := omega) only [qz0, qj_lt, qj_le, qj_eq, qtk, qfk, qbtt, qbft, qbtf, qbff, qIx_z, qj_nat, true_and, and_true, true_implies, false_implies, not_true_eq_false, not_false_eq_true, Bool.true_eq_false, Bool.false_eq_true, h3, e]
    exact hQ
  · rw [if_neg h] at hQ
    simp (disch := omega) only [qz0, qj_lt, qj_le, qj_eq, qtk, qfk, qbtt, qbft, qbtf, qbff, qIx_z, qj_nat, true_and, and_true, true_implies, false_implies, not_true_eq_false, not_false_eq_true, Bool.true_eq_false, Bool.false_eq_true, h3]
    exact hQ
theorem c75 (hd : 1 ≤ d) (X : tX T n I i) : qRun d 75 [.ref 65] (qw g I) (.inl (some (.int (qj (tb T n (tBl T n i)))), qw g (qup I 65 3 (qj (tBl T n i : Int))))) := by
  refine qRun_of fun Q hQ => ?_
  show qwq d 75 0 [(0, .ref 65)] [] (qw g I) Q
  have key : ∀ r i, i + r = n → ∀ J, tX T n J i → qup J 65 3 (qj (tBl T n i : Int)) = qup I 65 3 (qj (tBl T n i : Int)) → Q (.inl (some (.int (qj (tb T n (tBl T n i)))), qw g (qup I 65 3 (qj (tBl T n i : Int))))) → qwq d 75 0 [(0, .ref 65)] [] (qw g J) Q := by
    intro r
    induction r with
    | zero =>
      intro i hi J XJ e hQ
      obtain ⟨h1, h2, h3, h4, h5, h6⟩ := XJ
      have es : tBl T n i = i := aLd_sp (Or.inl (by omega))
      rw [es] at e hQ
      rw [← h4, qup_self] at e
      rw [h4] at e
      rw [← e] at hQ
      unfold tb at hQ
      rw [if_neg (by omega)] at hQ
      refine b75_0 (by omega) ?_
      simp (disch := omega) only [qz0, qj_lt, qj_le, qj_eq, qtk, qfk, qbtt, qbft, qbtf, qbff, qIx_z, qj_nat, true_and, and_true, true_implies, false_implies, not_true_eq_false, not_false_eq_true, Bool.true_eq_false, Bool.false_eq_true, h3, h4]
      exact hQ
    | succ r ih =>
      intro i hi J XJ e hQ
      have XJ' := XJ
      obtain ⟨h1, h2, h3, h4, h5, h6⟩ := XJ
      have ei := h5.1 i (by omega)
      have hb := h6 i (by omega)
      by_cases h : T i = 32
      · have es : tBl T n i = tBl T n (i + 1) := aLd_st (by omega) (beq_iff_eq.mpr h)
        rw [es] at e hQ
        refine b75_0 (by omega) ?_
        simp (disch := omega) only [qz0, qj_lt, qj_le, qj_eq, qtk, qfk, qbtt, qbft, qbtf, qbff, qIx_z, qj_nat, true_and, and_true, true_implies, false_implies, not_true_eq_false, not_false_eq_true, Bool.true_eq_false, Bool.false_eq_true, h3, h4, ei, qj_add, qj_s1]
        exact ih (i + 1) (by omega) _ (tX_3 XJ' (by omega)) (by rw [qup_qup]; exact e) hQ
      · have es : tBl T n i = i := aLd_sp (Or.inr (beq_eq_false_iff_ne.mpr h))
        rw [es] at e hQ
        rw [← h4, qup_self] at e
        rw [h4] at e
        rw [← e] at hQ
        unfold tb at hQ
        rw [if_pos (by omega)] at hQ
        refine b75_0 (by omega) ?_
        simp (disch := omega) only [qz0, qj_lt, qj_le, qj_eq, qtk, qfk, qbtt, qbft, qbtf, qbff, qIx_z, qj_nat, true_and, and_true, true_implies, false_implies, not_true_eq_false, not_false_eq_true, Bool.true_eq_false, Bool.false_eq_true, h3, h4, ei]
        exact hQ
  exact key (n - i) i (by have := X.2.1; omega) I X rfl hQ
theorem tb_e (T : Nat → Nat) (n i : Nat) (h : ¬ i < n) : tb T n i = -1 := by unfold tb; rw [if_neg h]
theorem tb_i {T : Nat → Nat} {n i : Nat} (h : i < n) : tb T n i = T i := by unfold tb; rw [if_pos h]
/-- peeked at -/
theorem c75b (hd : 1 ≤ d) (X : tX T n I i) : ∃ J, qRun d 75 [.ref 65] (qw g I) (.inl (some (.int (qj (tb T n (tBl T n i)))), qw g J)) ∧ tX T n J (tBl T n i) ∧ tF I J ∧ ∀ k, ¬ k = 3 → J 65 k = I 65 k :=
  ⟨_, c75 hd X, tX_3 X (tBl_b X.2.1).2, tF_u (by omega), fun k hk => by rw [qup_at, if_neg hk]⟩
theorem c76 (hd : 2 ≤ d) (X : tX T n I i) : ∃ J, qRun d 76 [.ref 65] (qw g I) (.inl (some (.int (qb (decide (n ≤ tBl T n i)))), qw g J)) ∧ tX T n J (tBl T n i) ∧ tF I J ∧ ∀ k, ¬ k = 3 → J 65 k = I 65 k := by
  obtain ⟨J, k1, k2, k3, k4⟩ := c75b (d := d - 1) (g := g) (by omega) X
  refine ⟨J, qRun_of fun Q hQ => b76_0 (by omega) ⟨_, _, k1, ?_⟩, k2, k3, k4⟩
  by_cases h : tBl T n i < n
  · have := X.2.2.2.2.2 _ h
    rw [decide_eq_false (by omega)] at hQ
    rw [tb_i h]
    simp (disch := omega) only [qz0, qj_lt, qj_le, qj_eq, qtk, qfk, qbtt, qbft, qbtf, qbff, qIx_z, qj_nat, true_and, and_true, true_implies, false_implies, not_true_eq_false, not_false_eq_true, Bool.true_eq_false, Bool.false_eq_true]
    exact hQ
  · rw [decide_eq_true (by omega)] at hQ
    rw [tb_e _ _ _ h]
    simp (disch := omega) only [qz0, qj_lt, qj_le, qj_eq, qtk, qfk, qbtt, qbft, qbtf, qbff, qIx_z, qj_nat, true_and, and_true, true_implies, false_implies, not_true_eq_false, not_false_eq_true, Bool.true_eq_false, Bool.false_eq_true]
    exact hQ
theorem c77 (hd : 2 ≤ d) (X : tX T n I i) : ∃ J, qRun d 77 [.ref 65] (qw g I) (.inl (some (.int (qb (decide (tBl T n i < n) && dg (T (tBl T n i))))), qw g J)) ∧ tX T n J (tBl T n i) ∧ tF I J ∧ ∀ k, ¬ k = 3 → J 65 k = I 65 k := by
  obtain ⟨J, k1, k2, k3, k4⟩ := c75b (d := d - 1) (g := g) (by omega) X
  refine ⟨J, qRun_of fun Q hQ => b77_0 (by omega) ⟨_, _, k1, ?_⟩, k2, k3, k4⟩
  rw [tb_dg X.2.2.2.2.2]; exact hQ
/-- a fault is noted -/
def tE (J : Nat → Nat → Int32) (e : Nat × Nat) : Prop := J 65 4 = qj (e.1 : Int) ∧ J 65 5 = qj (e.2 : Int)
theorem c73 (hd : 1 ≤ d) (k p : Nat) : ∃ J, qRun d 73 [.ref 65, .int (qj k), .int (qj p)] (qw g I) (.inl (some (.int (qb false)), qw g J)) ∧ tE J (k, p) ∧ tF I J :=
  ⟨_, qRun_of fun Q hQ => b73_0 (by omega) hQ, ⟨by rw [qup_at, if_neg (by omega), qup_at, if_pos rfl], by rw [qup_at, if_pos rfl]⟩, tF_tr (tF_u (by omega)) (tF_u (by omega))⟩
theorem tb_sg {T : Nat → Nat} {n i s : Nat} (hT : ∀ j, j < n → T j < 256) (hs : s < 256) : (qj (tb T n i) = qj (s : Int)) ↔ (i < n ∧ T i = s) := by
  have hb := tb_b (i := i) hT
  rw [qj_eq (by omega) (by omega) (by omega) (by omega)]
  unfold tb
  by_cases h : i < n
  · rw [if_pos h]; omega
  · rw [if_neg h]; omega
theorem c78 (hd : 2 ≤ d) (X : tX T n I i) {s : Nat} (hs : s < 256) : match aSgn T n i s with
    | .inr e => ∃ J, qRun d 78 [.ref 65, .int (qj s)] (qw g I) (.inl (some (.int (qb true)), qw g J)) ∧ tX T n J e ∧ tF I J ∧ ∀ k, ¬ k = 3 → J 65 k = I 65 k
    | .inl e => ∃ J, qRun d 78 [.ref 65, .int (qj s)] (qw g I) (.inl (some (.int (qb false)), qw g J)) ∧ tE J e ∧ tF I J := by
  obtain ⟨J, k1, k2, k3, k4⟩ := c75b (d := d - 1) (g := g) (by omega) X
  have e3 := k2.2.2.2.1
  have hsg := tb_sg (i := tBl T n i) X.2.2.2.2.2 hs
  have hb := tBl_b (T := T) X.2.1
  unfold aSgn
  by_cases h : tBl T n i < n ∧ T (tBl T n i) = s
  · rw [if_pos h]
    refine ⟨qup J 65 3 (qj ((tBl T n i + 1 : Nat) : Int)), qRun_of fun Q hQ => b78_0 (by omega) ⟨_, _, k1, ?_⟩, tX_3 k2 (by omega), tF_tr k3 (tF_u (by omega)), fun k hk => by rw [qup_at, if_neg hk]; exact k4 k hk⟩
    have c := hsg.mpr h
    simp only [c, e3, qj_add, qj_s1]
    exact ⟨fun _ => hQ, fun q => absurd trivial q⟩
  · rw [if_neg h]
    refine ⟨qup (qup J 65 4 (qj 1)) 65 5 (qj (tBl T n i : Int)), qRun_of fun Q hQ => b78_0 (by omega) ⟨_, _, k1, ?_⟩, ⟨by rw [qup_at, if_neg (by omega), qup_at, if_pos rfl]; rfl, by rw [qup_at, if_pos rfl]⟩, tF_tr k3 (tF_tr (tF_u (by omega)) (tF_u (by omega)))⟩
    have c : ¬ qj (tb T n (tBl T n i)) = qj (s : Int) := fun q => h (hsg.mp q)
    rw [e3]
    exact ⟨fun q => absurd q c, fun _ => hQ⟩
end TXT1
