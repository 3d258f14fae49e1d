/-! ===== texts, the reference: words, signs ===== -/
def ql (z : Int) : Int64 := Int64.ofInt z
theorem ql_add (a b : Int) : ql a + ql b = ql (a + b) := by unfold ql; rw [Int64.ofInt_add]
theorem ql_sub (a b : Int) : ql a - ql b = ql (a - b) := by unfold ql; rw [Int64.ofInt_sub]
theorem ql_mul (a b : Int) : ql a * ql b = ql (a * b) := by unfold ql; rw [Int64.ofInt_mul]
theorem ql_toInt {z : Int} (h1 : -9223372036854775808 ≤ z) (h2 : z < 9223372036854775808) : (ql z).toInt = z := Int64.toInt_ofInt_of_le h1 h2
theorem ql_eq {a b : Int} (h1 : -9223372036854775808 ≤ a) (h2 : a < 9223372036854775808) (h3 : -9223372036854775808 ≤ b) (h4 : b < 9223372036854775808) : ql a = ql b ↔ a = b := by rw [← Int64.toInt_inj, ql_toInt h1 h2, ql_toInt h3 h4]
theorem qj_l {z : Int} (h1 : -2147483648 ≤ z) (h2 : z < 2147483648) : (qj z).toInt64 = ql z := by
  rw [← Int64.toInt_inj, ql_toInt (by omega) (by omega), Int32.toInt_toInt64, qj_toInt h1 h2]
theorem ql_27 {v a : Nat} (ha : a < 27) : (Int64.ofInt ((28 : Int) - 1)) * ql (v : Int) + (qj (a : Int)).toInt64 = ql ((27 * v + a : Nat) : Int) := by
  rw [qj_l (by omega) (by omega), show Int64.ofInt ((28 : Int) - 1) = ql 27 from rfl, ql_mul, ql_add]
  congr 1
theorem lg_0 (x y : Int64) : lg_cmp x y = 0 ↔ x = y := by
  unfold lg_cmp
  by_cases h : x > y
  · rw [if_pos h]
    exact ⟨fun q => absurd q (by decide), fun q => by rw [q] at h; exact absurd h Int64.lt_irrefl⟩
  · rw [if_neg h]
    by_cases e : x = y
    · rw [if_pos e]; exact ⟨fun _ => e, fun _ => rfl⟩
    · rw [if_neg e]; exact ⟨fun q => absurd q (by decide), fun q => absurd q e⟩
/-- letters as a number -/
def cv (c : Nat → Nat) : Nat → Nat
  | 0 => 0
  | k + 1 => 27 * cv c k + c k
theorem cv_inj {c c' : Nat → Nat} : ∀ k m, (∀ j, j < k → 1 ≤ c j ∧ c j ≤ 26) → (∀ j, j < m → 1 ≤ c' j ∧ c' j ≤ 26) → cv c k = cv c' m → k = m ∧ ∀ j, j < k → c j = c' j
  | 0, 0, _, _, _ => ⟨rfl, fun j h => absurd h (Nat.not_lt_zero j)⟩
  | 0, m + 1, _, h2, e => by
    have := (h2 m (by omega)).1
    rw [cv, cv] at e; omega
  | k + 1, 0, h1, _, e => by
    have := (h1 k (by omega)).1
    rw [cv, cv] at e; omega
  | k + 1, m + 1, h1, h2, e => by
    have a1 := h1 k (by omega)
    have a2 := h2 m (by omega)
    rw [cv, cv] at e
    have e1 : c k = c' m := by omega
    have e2 : cv c k = cv c' m := by omega
    obtain ⟨i1, i2⟩ := cv_inj k m (fun j hj => h1 j (by omega)) (fun j hj => h2 j (by omega)) e2
    subst i1
    refine ⟨rfl, fun j hj => ?_⟩
    by_cases q : j = k
    · rw [q]; exact e1
    · exact i2 j (by omega)
theorem cv_lt {c : Nat → Nat} : ∀ k, (∀ j, j < k → c j ≤ 26) → cv c k < 27 ^ k
  | 0, _ => Nat.one_pos
  | k + 1, h => by
    have := cv_lt k (fun j hj => h j (by omega))
    have := h k (by omega)
    rw [cv, Nat.pow_succ]; omega
theorem aLd_md {p : Nat → Bool} : ∀ r i k, i ≤ k → k < aLd p r i → p k = true
  | 0, i, k, h1, h2 => by rw [aLd] at h2; omega
  | r + 1, i, k, h1, h2 => by
    rw [aLd] at h2
    cases hp : p i with
    | false => rw [hp, if_neg Bool.false_ne_true] at h2; omega
    | true =>
      rw [hp, if_pos rfl] at h2
      by_cases e : k = i
      · rw [e]; exact hp
      · exact aLd_md r (i + 1) k (by omega) h2
theorem ltr_b {b : Nat} (h : ltr b = true) : 97 ≤ b ∧ b ≤ 122 := by
  unfold ltr at h
  rw [Bool.and_eq_true, decide_eq_true_iff, decide_eq_true_iff] at h
  exact h
def sv1 (v a : Nat) : Nat := if a = 0 then v else 27 * v + a
def sv (x : Nat → Nat) : Nat := sv1 (sv1 (sv1 (sv1 (27 * (27 * x 0 + x 1) + x 2) (x 3)) (x 4)) (x 5)) (x 6)
/-- a word's letters, by their numbers -/
def wN (n j : Nat) : Nat := (wB n).getD j 0 - 96
theorem wN_sv : ∀ n, n < 20 → sv (wN n) = cv (wN n) (wB n).length ∧ sv (wN n) < 27 ^ 7 ∧ ∀ j, j < 7 → wN n j < 27 := by decide +kernel
/-- the number of the word from b -/
def wL (T : Nat → Nat) (n b : Nat) : Int := if tLt T n b - b ≤ 7 then (cv (fun j => T (b + j) - 96) (tLt T n b - b) : Nat) else -1
theorem wL_is {T : Nat → Nat} {n b : Nat} {w : Nat} (hw : w < 20) : (wL T n b = (sv (wN w) : Nat)) ↔ aIs T b (tLt T n b) w = true := by
  obtain ⟨s1, s2, s3⟩ := wN_sv w hw
  obtain ⟨w1, w2, w3, w4⟩ := wB_q w hw
  have hl : ∀ j, j < tLt T n b - b → 97 ≤ T (b + j) ∧ T (b + j) ≤ 122 := fun j hj => ltr_b (aLd_md (p := fun k => ltr (T k)) (n - b) b (b + j) (by omega) (by unfold tLt at hj; omega))
  have hw' : ∀ j, j < (wB w).length → 1 ≤ wN w j ∧ wN w j ≤ 26 := fun j hj => by have := (w4 j hj).2; unfold wN; omega
  unfold wL aIs
  constructor
  · intro h
    by_cases c : tLt T n b - b ≤ 7
    · rw [if_pos c, s1] at h
      obtain ⟨i1, i2⟩ := cv_inj (c := fun j => T (b + j) - 96) (c' := wN w) _ _ (fun j hj => by have := hl j hj; show 1 ≤ T (b + j) - 96 ∧ T (b + j) - 96 ≤ 26; omega) hw' (by omega)
      rw [beq_iff_eq.mpr i1, Bool.true_and, Bool.not_eq_true']
      refine (anb_false _ _).mpr (fun k hk => ?_)
      have e := i2 k (by omega)
      have h1 := hl k (by omega)
      have h2 := (w4 k hk).2
      have e' : T (b + k) - 96 = (wB w).getD k 0 - 96 := e
      rw [beq_iff_eq.mpr (by omega)]; rfl
    · rw [if_neg c] at h; omega
  · intro h
    rw [Bool.and_eq_true, beq_iff_eq, Bool.not_eq_true'] at h
    rw [if_pos (by omega), s1, h.1]
    have : ∀ k, k ≤ (wB w).length → cv (fun j => T (b + j) - 96) k = cv (wN w) k := by
      intro k
      induction k with
      | zero => intro _; rfl
      | succ k ih =>
        intro hk
        have := (anb_false _ _).mp h.2 k (by omega)
        rw [Bool.not_eq_false', beq_iff_eq] at this
        rw [cv, cv, ih (by omega)]
        show _ + (T (b + k) - 96) = _ + ((wB w).getD k 0 - 96)
        rw [this]
    rw [this _ (Nat.le_refl _)]
section TXT4
variable {d : Nat} {g : qG1} {I : Nat → Nat → Int32} {T : Nat → Nat} {n i : Nat}
theorem m181 (hd : 3 ≤ d) (X : rX T n I i) : ∃ J, qRun d 181 [.ref 245] (qw g I) (.inl (some (.long (ql (wL T n (tBl T n i)))), qw g J)) ∧ rX T n J (tBl T n i) ∧ rF I J ∧ J 245 5 = I 245 5 ∧ J 245 6 = I 245 6 := by
  obtain ⟨J, k1, k2, k3, k4, k5⟩ := m175 (d := d - 1) (g := g) (by omega) X
  refine ⟨J, qRun_of fun Q hQ => b181_0 (by omega) ⟨_, k1, ?_⟩, k2, k3, k4, k5⟩
  have hT := X.2.2.2.2.2
  have hn := X.1
  have hb := tBl_b (T := T) X.2.1
  have e4 := k2.2.2.2.1
  generalize tBl T n i = b at k2 hb e4 hQ ⊢
  have hle := tLt_b (T := T) hb.2
  have hcl : ∀ j, j < tLt T n b - b → T (b + j) - 96 ≤ 26 := fun j hj => by
    have := ltr_b (aLd_md (p := fun k => ltr (T k)) (n - b) b (b + j) (by omega) (by unfold tLt at hj; omega))
    omega
  have key : ∀ r k, k + r = tLt T n b - b → qwq d 181 8 [(0, .ref 245), (1, .long (ql (cv (fun j => T (b + j) - 96) (min k 7) : Nat))), (3, .int (qj k))] [] (qw g J) Q := by
    intro r
    induction r with
    | zero =>
      intro k hk
      have ek : k = tLt T n b - b := by omega
      have k174 := m174 (d := d - 1) (g := g) (by omega) k2 (k := b + k) (by omega)
      have ed : qlet (qj (tb T n (b + k))) = false := by
        rw [tb_lt hT]
        by_cases c : b + k < n
        · have := aLd_nd (p := fun k => ltr (T k)) (n - b) b
          have e : b + k = aLd (fun k => ltr (T k)) (n - b) b := by unfold tLt at ek hle; omega
          rw [← e] at this
          rw [this (by omega), Bool.and_false]
        · rw [decide_eq_false c]; rfl
      refine b181_8 (by omega) ?_
      rw [e4, qj_add]
      refine ⟨_, _, k174, ?_⟩
      rw [ed]
      refine ⟨fun _ => ?_, fun q => Bool.noConfusion q⟩
      unfold wL at hQ
      by_cases c : k ≤ 7
      · rw [if_pos (by omega), ← ek] at hQ
        rw [show min k 7 = k by omega]
        simp (disch := omega) only [qj_le]
        exact ⟨fun _ => hQ, fun q => absurd (by omega) q⟩
      · rw [if_neg (by omega)] at hQ
        simp (disch := omega) only [qj_le]
        exact ⟨fun q => absurd q (by omega), fun _ => hQ⟩
    | succ r ih =>
      intro k hk
      have k174 := m174 (d := d - 1) (g := g) (by omega) k2 (k := b + k) (by omega)
      rw [tb_i (by omega)] at k174
      have hlt : ltr (T (b + k)) = true := aLd_md (p := fun k => ltr (T k)) (n - b) b (b + k) (by omega) (by unfold tLt at hk; omega)
      have hlb := ltr_b hlt
      have ed : qlet (qj (T (b + k) : Int)) = true := by rw [qlet_n (by omega)]; exact hlt
      have ih := ih (k + 1) (by omega)
      refine b181_8 (by omega) ?_
      rw [e4, qj_add]
      refine ⟨_, _, k174, ?_⟩
      rw [ed]
      refine ⟨fun q => Bool.noConfusion q, fun _ => ?_⟩
      by_cases c : 7 ≤ k
      · rw [show min (k + 1) 7 = min k 7 by omega] at ih
        simp (disch := omega) only [qj_le, qj_add]
        exact ⟨fun _ => ih, fun q => absurd (by omega) q⟩
      · rw [show min (k + 1) 7 = k + 1 by omega, cv] at ih
        rw [show min k 7 = k by omega]
        simp (disch := omega) only [qj_le]
        refine ⟨fun q => absurd q (by omega), fun _ => ?_⟩
        rw [e4, qj_add]
        refine ⟨_, _, k174, ?_⟩
        have ev : (((((Int64.ofInt ((28 : Int) - 1)) * ql (cv (fun j => T (b + j) - 96) k : Nat)) + (qj (T (b + k) : Int)).toInt64) - (Int64.ofInt ((98 : Int) - 1))) + (Int64.ofNat 1)) = ql ((27 * cv (fun j => T (b + j) - 96) k + (T (b + k) - 96) : Nat) : Int) := by
          rw [qj_l (by omega) (by omega), show Int64.ofInt ((28 : Int) - 1) = ql 27 from rfl, show Int64.ofInt ((98 : Int) - 1) = ql 97 from rfl, show Int64.ofNat 1 = ql 1 from rfl, ql_mul, ql_add, ql_sub, ql_add]
          congr 1; omega
        rw [ev, qj_add]
        exact ih
  exact key (tLt T n b - b) 0 (by omega)
theorem m182 (hd : 1 ≤ d) {x : Nat → Nat} (hx : ∀ j, j < 7 → x j < 27) : qRun d 182 [.int (qj (x 0 : Int)), .int (qj (x 1 : Int)), .int (qj (x 2 : Int)), .int (qj (x 3 : Int)), .int (qj (x 4 : Int)), .int (qj (x 5 : Int)), .int (qj (x 6 : Int))] (qw g I) (.inl (some (.long (ql (sv x : Nat))), qw g I)) := by
  have h0 := hx 0 (by omega)
  have h1 := hx 1 (by omega)
  have h2 := hx 2 (by omega)
  have h3 := hx 3 (by omega)
  have h4 := hx 4 (by omega)
  have h5 := hx 5 (by omega)
  have h6 := hx 6 (by omega)
  refine qRun_of fun Q hQ => ?_
  have s80 : ∀ v : Nat, Q (.inl (some (.long (ql (sv1 v (x 6) : Nat))), qw g I)) → qwq d 182 80 [(6, .int (qj (x 6 : Int)))] [.long (ql (v : Int))] (qw g I) Q := fun v h => b182_80 (by omega) (by
    unfold sv1 at h
    simp (disch := omega) only [qz0, qj_eq]
    by_cases c : x 6 = 0
    · rw [if_pos c] at h
      exact ⟨fun q => absurd (by omega) q, fun _ => b182_102 (by omega) h⟩
    · rw [if_neg c] at h
      refine ⟨fun _ => b182_102 (by omega) ?_, fun q => absurd (by omega) q⟩
      rw [ql_27 h6]; exact h)
  have s58 : ∀ v : Nat, Q (.inl (some (.long (ql (sv1 (sv1 v (x 5)) (x 6) : Nat))), qw g I)) → qwq d 182 58 [(5, .int (qj (x 5 : Int))), (6, .int (qj (x 6 : Int)))] [.long (ql (v : Int))] (qw g I) Q := fun v h => b182_58 (by omega) (by
    have h := s80 _ h
    unfold sv1 at h
    simp (disch := omega) only [qz0, qj_eq]
    by_cases c : x 5 = 0
    · rw [if_pos c] at h
      exact ⟨fun q => absurd (by omega) q, fun _ => h⟩
    · rw [if_neg c] at h
      refine ⟨fun _ => ?_, fun q => absurd (by omega) q⟩
      rw [ql_27 h5]; exact h)
  have s36 : ∀ v : Nat, Q (.inl (some (.long (ql (sv1 (sv1 (sv1 v (x 4)) (x 5)) (x 6) : Nat))), qw g I)) → qwq d 182 36 [(4, .int (qj (x 4 : Int))), (5, .int (qj (x 5 : Int))), (6, .int (qj (x 6 : Int)))] [.long (ql (v : Int))] (qw g I) Q := fun v h => b182_36 (by omega) (by
    have h := s58 _ h
    unfold sv1 at h
    simp (disch := omega) only [qz0, qj_eq]
    by_cases c : x 4 = 0
    · rw [if_pos c] at h
      exact ⟨fun q => absurd (by omega) q, fun _ => h⟩
    · rw [if_neg c] at h
      refine ⟨fun _ => ?_, fun q => absurd (by omega) q⟩
      rw [ql_27 h4]; exact h)
  have h := s36 _ hQ
  refine b182_0 (by omega) ?_
  rw [show (qj (x 0 : Int)).toInt64 = ql ((x 0 : Nat) : Int) from qj_l (by omega) (by omega), ql_27 h1, ql_27 h2, ql_27 h3]
  unfold sv1 at h
  simp (disch := omega) only [qz0, qj_eq]
  by_cases c : x 3 = 0
  · rw [if_pos c] at h
    exact ⟨fun q => absurd (by omega) q, fun _ => h⟩
  · rw [if_neg c] at h
    exact ⟨fun _ => h, fun q => absurd (by omega) q⟩
/-- whether a word stands here -/
theorem m183 (hd : 4 ≤ d) (X : rX T n I i) (h5 : I 245 5 = qj 0) {w : Nat} (hw : w < 20) : ∃ J, qRun d 183 [.ref 245, .int (qj (wN w 0 : Int)), .int (qj (wN w 1 : Int)), .int (qj (wN w 2 : Int)), .int (qj (wN w 3 : Int)), .int (qj (wN w 4 : Int)), .int (qj (wN w 5 : Int)), .int (qj (wN w 6 : Int))] (qw g I) (.inl (some (.int (qb (aIs T (tBl T n i) (tLt T n (tBl T n i)) w))), qw g J)) ∧ rX T n J (tBl T n i) ∧ rF I J ∧ J 245 5 = qj 0 := by
  obtain ⟨J, k1, k2, k3, k4, k5⟩ := m181 (d := d - 1) (g := g) (by omega) X
  obtain ⟨s1, s2, s3⟩ := wN_sv w hw
  refine ⟨J, qRun_of fun Q hQ => b183_0 (by omega) ?_, k2, k3, k4.trans h5⟩
  rw [h5]
  refine ⟨fun q => absurd rfl q, fun _ => ⟨_, _, k1, _, _, m182 (by omega) s3, ?_⟩⟩
  have hb := tBl_b (T := T) X.2.1
  have hlw : -1 ≤ wL T n (tBl T n i) ∧ wL T n (tBl T n i) < 27 ^ 7 := by
    unfold wL
    split
    · have hcl : ∀ j, j < tLt T n (tBl T n i) - tBl T n i → T (tBl T n i + j) - 96 ≤ 26 := fun j hj => by
        have := ltr_b (aLd_md (p := fun k => ltr (T k)) (n - tBl T n i) (tBl T n i) (tBl T n i + j) (by omega) (by unfold tLt at hj; omega))
        omega
      have h1 := cv_lt (c := fun j => T (tBl T n i + j) - 96) _ hcl
      have h2 : 27 ^ (tLt T n (tBl T n i) - tBl T n i) ≤ 27 ^ 7 := Nat.pow_le_pow_right (by decide) (by assumption)
      omega
    · omega
  have h27 : (27 : Nat) ^ 7 = 10460353203 := by decide
  have h27' : (27 : Int) ^ 7 = 10460353203 := by decide
  have hcmp : (lg_cmp (ql (wL T n (tBl T n i))) (ql (sv (wN w) : Nat)) = 0) ↔ aIs T (tBl T n i) (tLt T n (tBl T n i)) w = true := by
    rw [lg_0, ql_eq (by omega) (by omega) (by omega) (by omega)]
    exact wL_is hw
  cases ha : aIs T (tBl T n i) (tLt T n (tBl T n i)) w with
  | true =>
    rw [ha] at hQ
    have := hcmp.mpr ha
    exact ⟨fun q => absurd this q, fun _ => hQ⟩
  | false =>
    rw [ha] at hQ
    have : ¬ lg_cmp (ql (wL T n (tBl T n i))) (ql (sv (wN w) : Nat)) = 0 := fun q => by
      have := hcmp.mp q
      rw [ha] at this; exact Bool.noConfusion this
    exact ⟨fun _ => hQ, fun q => absurd this q⟩
/-- behind the word -/
theorem m184 (hd : 2 ≤ d) (X : rX T n I i) : ∃ J, qRun d 184 [.ref 245] (qw g I) (.inl (none, qw g J)) ∧ rX T n J (tLt T n i) ∧ rF I J ∧ J 245 5 = I 245 5 ∧ J 245 6 = I 245 6 := by
  have key : ∀ r i, i + r = n → ∀ J, rX T n J i → qup J 245 4 (qj (tLt T n i : Int)) = qup I 245 4 (qj (tLt T n i : Int)) → ∀ Q : qR → Prop, Q (.inl (none, qw g (qup I 245 4 (qj (tLt T n i : Int))))) → qwq d 184 0 [(0, .ref 245)] [] (qw g J) Q := by
    intro r
    have stop : ∀ i, (n ≤ i ∨ ltr (T i) = false) → ∀ J, rX T n J i → qup J 245 4 (qj (tLt T n i : Int)) = qup I 245 4 (qj (tLt T n i : Int)) → ∀ Q : qR → Prop, Q (.inl (none, qw g (qup I 245 4 (qj (tLt T n i : Int))))) → qwq d 184 0 [(0, .ref 245)] [] (qw g J) Q := by
      intro i hc J XJ e Q hQ
      have hle := XJ.1
      have hle2 := XJ.2.1
      have e4 := XJ.2.2.2.1
      have es : tLt T n i = i := aLd_sp hc
      rw [es] at e hQ
      rw [← e4, qup_self] at e
      rw [e4] at e
      rw [← e] at hQ
      refine b184_0 (by omega) ?_
      rw [e4]
      refine ⟨_, _, m174 (by omega) XJ (by omega), ?_⟩
      have ed : qlet (qj (tb T n i)) = false := by
        rw [tb_lt XJ.2.2.2.2.2]
        rcases hc with q | q
        · rw [decide_eq_false (by omega)]; rfl
        · rw [q, Bool.and_false]
      rw [ed]
      exact ⟨fun _ => hQ, fun q => Bool.noConfusion q⟩
    induction r with
    | zero => intro i hi; exact stop i (Or.inl (by omega))
    | succ r ih =>
      intro i hi J XJ e Q hQ
      cases h : ltr (T i) with
      | true =>
        have hle := XJ.1
        have e4 := XJ.2.2.2.1
        have es : tLt T n i = tLt T n (i + 1) := aLd_st (p := fun k => ltr (T k)) (by omega) h
        rw [es] at e hQ
        refine b184_0 (by omega) ?_
        rw [e4]
        refine ⟨_, _, m174 (by omega) XJ (by omega), ?_⟩
        have ed : qlet (qj (tb T n i)) = true := by rw [tb_lt XJ.2.2.2.2.2, h, decide_eq_true (by omega)]; rfl
        rw [ed]
        refine ⟨fun q => Bool.noConfusion q, fun _ => ?_⟩
        rw [e4, qj_add]
        exact ih (i + 1) (by omega) _ (rX_4 XJ (by omega)) (by rw [qup_qup]; exact e) Q hQ
      | false => exact stop i (Or.inr h) J XJ e Q hQ
  refine ⟨qup I 245 4 (qj (tLt T n i : Int)), qRun_of fun Q hQ => ?_, rX_4 X (tLt_b X.2.1).2, rF_u (Or.inl rfl), by rw [qup_at, if_neg (by omega)], by rw [qup_at, if_neg (by omega)]⟩
  show qwq d 184 0 [(0, .ref 245)] [] (qw g I) Q
  exact key (n - i) i (by have := X.2.1; omega) I X rfl Q hQ
theorem m186 (hd : 3 ≤ d) (X : rX T n I i) (h5 : I 245 5 = qj 0) {s : Nat} (hs : s < 256) : match aSgn T n i s with
    | .inr e => ∃ J, qRun d 186 [.ref 245, .int (qj s)] (qw g I) (.inl (none, qw g J)) ∧ rX T n J e ∧ J 245 5 = qj 0 ∧ rF I J
    | .inl e => ∃ J, qRun d 186 [.ref 245, .int (qj s)] (qw g I) (.inl (none, qw g J)) ∧ rE T n J e ∧ rF I J := by
  obtain ⟨J, k1, k2, k3, k4, k5⟩ := m175 (d := d - 1) (g := g) (by omega) X
  have e4 := k2.2.2.2.1
  have hn := X.1
  have hb := tBl_b (T := T) X.2.1
  have k174 := m174 (d := d - 1) (g := g) (by omega) k2 (k := tBl T n i) (by omega)
  have hsg := tb_sg (i := tBl T n i) X.2.2.2.2.2 hs
  unfold aSgn
  by_cases h : tBl T n i < n ∧ T (tBl T n i) = s
  · rw [if_pos h]
    refine ⟨qup J 245 4 (qj ((tBl T n i + 1 : Nat) : Int)), qRun_of fun Q hQ => b186_0 (by omega) ⟨fun _ => ⟨_, k1, ?_⟩, fun q => absurd h5 q⟩, rX_4 k2 (by omega), by rw [qup_at, if_neg (by omega)]; exact k4.trans h5, rF_tr k3 (rF_u (Or.inl rfl))⟩
    rw [e4]
    refine ⟨_, _, k174, fun q => absurd (hsg.mpr h) q, fun _ => ?_⟩
    rw [e4, qj_add]; exact hQ
  · rw [if_neg h]
    obtain ⟨J4, w1, hJ4, f5, f6, w3⟩ := m176 (d := d - 1) (g := g) (by omega) k2 (k4.trans h5) 1 (tBl T n i)
    have w1' : qRun (d - 1) 176 [.ref 245, .int (qj 1), .int (qj (tBl T n i : Int))] (qw g J) (.inl (none, qw g J4)) := w1
    refine ⟨J4, qRun_of fun Q hQ => b186_0 (by omega) ⟨fun _ => ⟨_, k1, ?_⟩, fun q => absurd h5 q⟩, ⟨(show ¬ (1 : Nat) = 0 by omega), (show (1 : Nat) ≤ 3 by omega), f5, f6, _, hJ4⟩, rF_tr k3 w3⟩
    rw [e4]
    refine ⟨_, _, k174, fun _ => ?_, fun q => absurd (fun c => h (hsg.mp c)) q⟩
    rw [e4]
    exact ⟨_, w1', hQ⟩
/-- what a reading does where a fault stands: nothing -/
theorem m186e (hd : 3 ≤ d) (h5 : ¬ I 245 5 = qj 0) (s : Int32) : qRun d 186 [.ref 245, .int s] (qw g I) (.inl (none, qw g I)) :=
  qRun_of fun Q hQ => b186_0 (by omega) ⟨fun q => absurd q h5, fun _ => hQ⟩
theorem m179e (hd : 3 ≤ d) (h5 : ¬ I 245 5 = qj 0) (a b : Int32) : qRun d 179 [.ref 245, .int a, .int b] (qw g I) (.inl (some (.int (qj 0)), qw g I)) :=
  qRun_of fun Q hQ => b179_0 (by omega) ⟨fun q => absurd q h5, fun _ => hQ⟩
theorem m187 (hd : 3 ≤ d) (X : rX T n I i) (h5 : I 245 5 = qj 0) {s : Nat} (hs : s < 256) : ∃ J, qRun d 187 [.ref 245, .int (qj s)] (qw g I) (.inl (some (.int (qb (decide (tBl T n i < n) && (T (tBl T n i) == s)))), qw g J)) ∧ rX T n J (if tBl T n i < n ∧ T (tBl T n i) = s then tBl T n i + 1 else tBl T n i) ∧ J 245 5 = qj 0 ∧ rF I J := by
  obtain ⟨J, k1, k2, k3, k4, k5⟩ := m175 (d := d - 1) (g := g) (by omega) X
  have e4 := k2.2.2.2.1
  have hn := X.1
  have hb := tBl_b (T := T) X.2.1
  have k174 := m174 (d := d - 1) (g := g) (by omega) k2 (k := tBl T n i) (by omega)
  have hsg := tb_sg (i := tBl T n i) X.2.2.2.2.2 hs
  by_cases h : tBl T n i < n ∧ T (tBl T n i) = s
  · rw [if_pos h, decide_eq_true h.1, beq_iff_eq.mpr h.2]
    refine ⟨qup J 245 4 (qj ((tBl T n i + 1 : Nat) : Int)), qRun_of fun Q hQ => b187_0 (by omega) ⟨fun _ => ⟨_, k1, ?_⟩, fun q => absurd h5 q⟩, rX_4 k2 (by omega), by rw [qup_at, if_neg (by omega)]; exact k4.trans h5, rF_tr k3 (rF_u (Or.inl rfl))⟩
    rw [e4]
    refine ⟨_, _, k174, fun q => absurd (hsg.mpr h) q, fun _ => ?_⟩
    rw [e4, qj_add]; exact hQ
  · have eb : (decide (tBl T n i < n) && (T (tBl T n i) == s)) = false := by
      cases hq : (decide (tBl T n i < n) && (T (tBl T n i) == s)) with
      | false => rfl
      | true =>
        rw [Bool.and_eq_true, decide_eq_true_iff, beq_iff_eq] at hq
        exact absurd hq h
    rw [if_neg h, eb]
    refine ⟨J, qRun_of fun Q hQ => b187_0 (by omega) ⟨fun _ => ⟨_, k1, ?_⟩, fun q => absurd h5 q⟩, k2, k4.trans h5, k3⟩
    rw [e4]
    exact ⟨_, _, k174, fun _ => hQ, fun q => absurd (fun c => h (hsg.mp c)) q⟩
end TXT4
