/-! ===== the law: its code, its score; whom a puppet would choose ===== -/
abbrev qLw : Type := Nat × (Nat → Nat)
def aHg (c : Nat → Nat) : Nat → Nat
  | 0 => 0
  | i + 1 => if c i < 2000 then aHg c i + 1 else aHg c i - 1
/-- a law that can be reckoned -/
def qWL (L : qLw) : Prop := L.1 ≤ 150 ∧ aHg L.2 L.1 = 1 ∧ ∀ i, i < L.1 → (L.2 i ≤ 1008 ∧ ¬ (L.2 i = 1000 ∧ False) ∨ (2000 ≤ L.2 i ∧ L.2 i ≤ 2006 ∧ 2 ≤ aHg L.2 i))
def qRL (L : qLw) (I : Nat → Nat → Int32) (l : Nat) : Prop := I l 1 = qj (L.1 : Int) ∧ ∀ i, i < L.1 → I (l + 1) i = qj (L.2 i : Int)
def aVal (F : qFam) (S : qSt) (p h w : Nat) : Int32 :=
  if w = 1000 then qj (S.1 1 h) else if w = 1001 then qj (F.1 4 p) else if w = 1002 then qj ((S.1 0 0 : Int) - F.1 2 h) else if w = 1003 then qj (cn 8 (S.2.1 h) : Nat)
  else if w = 1004 then qj (S.1 3 p) else if w = 1005 then qj (S.1 0 0) else if w = 1006 then qj h else if w = 1007 then qj p else qb (aKin F S p h)
def aJoin (w : Nat) (a b : Int32) : Int32 :=
  if w = 2000 then qmin a b else if w = 2001 then qmax a b else if w = 2002 then a + b else if w = 2003 then a - b else if w = 2004 then a * b
  else if w = 2005 then (if b = 0 then qj 0 else a / b) else (if b = 0 then qj 0 else a - a / b * b)
def aStk (v : Nat → Int32) (c : Nat → Nat) : Nat → Nat → Int32
  | 0, _ => 0
  | i + 1, j => if c i < 2000 then (if j = aHg c i then (if c i < 1000 then qj (c i) else v (c i)) else aStk v c i j)
      else (if j = aHg c i - 2 then aJoin (c i) (aStk v c i (aHg c i - 2)) (aStk v c i (aHg c i - 1)) else aStk v c i j)
def aSc (F : qFam) (L : qLw) (S : qSt) (p h : Nat) : Int32 := aStk (aVal F S p h) L.2 L.1 0
def aChN (F : qFam) (S : qSt) (sc : Nat → Int32) (p : Nat) : Nat → Nat
  | 0 => 0
  | h + 1 => if aCan F S h p = true ∧ (aChN F S sc p h = 0 ∨ sc (aChN F S sc p h - 1) < sc h) then h + 1 else aChN F S sc p h
/-- whom it chooses, and 1; 0: nobody -/
def aCh (F : qFam) (L : qLw) (S : qSt) (p : Nat) : Nat := aChN F S (aSc F L S p) p (F.1 0 0)
theorem aStk_lt {v : Nat → Int32} {c : Nat → Nat} {i j : Nat} (h : c i < 2000) : aStk v c (i + 1) j = if j = aHg c i then (if c i < 1000 then qj (c i) else v (c i)) else aStk v c i j := by rw [aStk, if_pos h]
theorem aStk_ge {v : Nat → Int32} {c : Nat → Nat} {i j : Nat} (h : ¬ c i < 2000) : aStk v c (i + 1) j = if j = aHg c i - 2 then aJoin (c i) (aStk v c i (aHg c i - 2)) (aStk v c i (aHg c i - 1)) else aStk v c i j := by rw [aStk, if_neg h]
theorem aHg_le (c : Nat → Nat) : ∀ i, aHg c i ≤ i
  | 0 => Nat.le_refl _
  | i + 1 => by
    have := aHg_le c i
    rw [aHg]
    split <;> omega
theorem aChN_le (F : qFam) (S : qSt) (sc : Nat → Int32) (p : Nat) : ∀ n, aChN F S sc p n ≤ n
  | 0 => Nat.le_refl _
  | n + 1 => by
    have := aChN_le F S sc p n
    rw [aChN]
    split <;> omega
theorem aChN_can (F : qFam) (S : qSt) (sc : Nat → Int32) (p : Nat) : ∀ n h, aChN F S sc p n = h + 1 → aCan F S h p = true
  | 0, h, e => by rw [aChN] at e; omega
  | n + 1, h, e => by
    rw [aChN] at e
    split at e
    · rename_i c
      have : n = h := by omega
      subst this; exact c.1
    · exact aChN_can F S sc p n h e
theorem qRL_cg {L : qLw} {I I' : Nat → Nat → Int32} {l : Nat} (h : qRL L I l) (e : ∀ a, l ≤ a → a < l + 2 → I' a = I a) : qRL L I' l := by
  obtain ⟨h1, h2⟩ := h
  refine ⟨?_, ?_⟩
  · rw [e l (by omega) (by omega)]; exact h1
  · rw [e _ (by omega) (by omega)]; exact h2
section LAW
variable {d : Nat} {g : qG1} {I : Nat → Nat → Int32} {F : qFam} {S : qSt} {L : qLw} {f s l : Nat}
theorem c45 (hd : 2 ≤ d) (hs : qisS s) (hf : qisF f) (RF : qRF F I f) (W : qWF F) (R : qRS F I s S) (WS : qWS F S) {p h w : Nat} (hp : p < F.1 0 1) (hh : h < F.1 0 0) (hw : 1000 ≤ w) (hw2 : w ≤ 1008) :
    qRun d 45 [.int (qj w), .ref f, .ref s, .int (qj p), .int (qj h)] (qw g I) (.inl (some (.int (aVal F S p h w)), qw g I)) := by
  refine qRun_of fun Q hQ => b45_0 hf hs (by omega) ?_
  have h9 := W.1
  have h8 := W.2.1
  have k := c63 (d := d - 1) (g := g) (by omega) hs hf RF W R WS (p := p) (h := h) (by omega) hh
  obtain ⟨s1, s2, s3, s4, s5, s6, s7, s8⟩ := R
  obtain ⟨f1, f2, f3, f4, f5, f6, f7, f8, f9, f10, f11, f12, -⟩ := RF
  simp (disch := omega) only [qIx_z, qj_nat, s1, s3, s4, s7, f6, f12, qj_eq, qj_sub, qpc_bm, true_and]
  unfold aVal at hQ
  have e : ∀ n : Nat, (w : Int) = n ↔ w = n := fun n => by omega
  have hv : w = 1000 ∨ w = 1001 ∨ w = 1002 ∨ w = 1003 ∨ w = 1004 ∨ w = 1005 ∨ w = 1006 ∨ w = 1007 ∨ w = 1008 := by omega
  rcases hv with rfl | rfl | rfl | rfl | rfl | rfl | rfl | rfl | rfl
  · exact ⟨fun _ => hQ, fun c => absurd rfl c⟩
  · exact ⟨fun c => by omega, fun _ => ⟨fun _ => hQ, fun c => absurd rfl c⟩⟩
  · exact ⟨fun c => by omega, fun _ => ⟨fun c => by omega, fun _ => ⟨fun _ => hQ, fun c => absurd rfl c⟩⟩⟩
  · exact ⟨fun c => by omega, fun _ => ⟨fun c => by omega, fun _ => ⟨fun c => by omega, fun _ => ⟨fun _ => hQ, fun c => absurd rfl c⟩⟩⟩⟩
  · exact ⟨fun c => by omega, fun _ => ⟨fun c => by omega, fun _ => ⟨fun c => by omega, fun _ => ⟨fun c => by omega, fun _ => ⟨fun _ => hQ, fun c => absurd rfl c⟩⟩⟩⟩⟩
  · exact ⟨fun c => by omega, fun _ => ⟨fun c => by omega, fun _ => ⟨fun c => by omega, fun _ => ⟨fun c => by omega, fun _ => ⟨fun c => by omega, fun _ => ⟨fun _ => hQ, fun c => absurd rfl c⟩⟩⟩⟩⟩⟩
  · exact ⟨fun c => by omega, fun _ => ⟨fun c => by omega, fun _ => ⟨fun c => by omega, fun _ => ⟨fun c => by omega, fun _ => ⟨fun c => by omega, fun _ => ⟨fun c => by omega, fun _ => ⟨fun _ => hQ, fun c => absurd rfl c⟩⟩⟩⟩⟩⟩⟩
  · exact ⟨fun c => by omega, fun _ => ⟨fun c => by omega, fun _ => ⟨fun c => by omega, fun _ => ⟨fun c => by omega, fun _ => ⟨fun c => by omega, fun _ => ⟨fun c => by omega, fun _ => ⟨fun c => by omega, fun _ => ⟨fun _ => hQ, fun c => absurd rfl c⟩⟩⟩⟩⟩⟩⟩⟩
  · refine ⟨fun c => by omega, fun _ => ⟨fun c => by omega, fun _ => ⟨fun c => by omega, fun _ => ⟨fun c => by omega, fun _ => ⟨fun c => by omega, fun _ => ⟨fun c => by omega, fun _ => ⟨fun c => by omega, fun _ => ⟨fun c => by omega, fun _ => ⟨_, _, k, fun c => ?_, fun c => ?_⟩⟩⟩⟩⟩⟩⟩⟩⟩
    · rw [c] at hQ; exact hQ
    · rw [c] at hQ; exact hQ
theorem c46 (hd : 2 ≤ d) {w : Nat} {a b : Int32} (hw : 2000 ≤ w) (hw2 : w ≤ 2006) : qRun d 46 [.int (qj w), .int a, .int b] (qw g I) (.inl (some (.int (aJoin w a b)), qw g I)) := by
  refine qRun_of fun Q hQ => b46_0 (by omega) ?_
  simp (disch := omega) only [qj_eq]
  unfold aJoin at hQ
  have hv : w = 2000 ∨ w = 2001 ∨ w = 2002 ∨ w = 2003 ∨ w = 2004 ∨ w = 2005 ∨ w = 2006 := by omega
  rcases hv with rfl | rfl | rfl | rfl | rfl | rfl | rfl
  · exact ⟨fun _ => hQ, fun c => absurd rfl c⟩
  · exact ⟨fun c => by omega, fun _ => ⟨fun _ => hQ, fun c => absurd rfl c⟩⟩
  · exact ⟨fun c => by omega, fun _ => ⟨fun c => by omega, fun _ => ⟨fun _ => hQ, fun c => absurd rfl c⟩⟩⟩
  · exact ⟨fun c => by omega, fun _ => ⟨fun c => by omega, fun _ => ⟨fun c => by omega, fun _ => ⟨fun _ => hQ, fun c => absurd rfl c⟩⟩⟩⟩
  · exact ⟨fun c => by omega, fun _ => ⟨fun c => by omega, fun _ => ⟨fun c => by omega, fun _ => ⟨fun c => by omega, fun _ => ⟨fun _ => hQ, fun c => absurd rfl c⟩⟩⟩⟩⟩
  · refine ⟨fun c => by omega, fun _ => ⟨fun c => by omega, fun _ => ⟨fun c => by omega, fun _ => ⟨fun c => by omega, fun _ => ⟨fun c => by omega, fun _ => ⟨fun _ => ⟨fun z => ⟨z, ?_⟩, fun z => ?_⟩, fun c => absurd rfl c⟩⟩⟩⟩⟩⟩
    · simp only [z] at hQ; exact hQ
    · simp only [Classical.not_not.mp z] at hQ; exact hQ
  · refine ⟨fun c => by omega, fun _ => ⟨fun c => by omega, fun _ => ⟨fun c => by omega, fun _ => ⟨fun c => by omega, fun _ => ⟨fun c => by omega, fun _ => ⟨fun c => by omega, fun _ => ⟨fun z => ⟨z, ?_⟩, fun z => ?_⟩⟩⟩⟩⟩⟩⟩
    · simp only [z] at hQ; exact hQ
    · simp only [Classical.not_not.mp z] at hQ; exact hQ
theorem c44 (hd : 3 ≤ d) (hs : qisS s) (hf : qisF f) (hl : qisL l) (RF : qRF F I f) (W : qWF F) (R : qRS F I s S) (WS : qWS F S) (RL : qRL L I l) (WL : qWL L) {p h : Nat} (hp : p < F.1 0 1) (hh : h < F.1 0 0) :
    ∃ I', qRun d 44 [.ref l, .ref f, .ref s, .int (qj p), .int (qj h)] (qw g I) (.inl (some (.int (aSc F L S p h)), qw g I')) ∧ ∀ a, ¬ a = l + 2 → I' a = I a := by
  have key : ∃ I', (∀ a, ¬ a = l + 2 → I' a = I a) ∧ ∀ Q : qR → Prop, Q (.inl (some (.int (aSc F L S p h)), qw g I')) → qwp d 44 [.ref l, .ref f, .ref s, .int (qj p), .int (qj h)] (qw g I) Q := by
    have LP : ∀ i, i ≤ L.1 → ∀ J : Nat → Nat → Int32, (∀ a, ¬ a = l + 2 → J a = I a) → (∀ j, j < aHg L.2 i → J (l + 2) j = aStk (aVal F S p h) L.2 i j) →
        ∃ I', (∀ a, ¬ a = l + 2 → I' a = I a) ∧ ∀ Q : qR → Prop, Q (.inl (some (.int (aSc F L S p h)), qw g I')) → qwq d 44 6 [(0, .ref l), (1, .ref f), (2, .ref s), (3, .int (qj p)), (4, .int (qj h)), (5, .int (qj (aHg L.2 i))), (6, .int (qj i))] [] (qw g J) Q := by
      have h150 := WL.1
      refine upto _ (fun J hJ hst => ⟨J, hJ, fun Q hQ => ?_⟩) (fun i hi ih J hJ hst => ?_)
      · refine b44_6 hf hl hs (by omega) ?_
        have e : J l 1 = qj (L.1 : Int) := by rw [hJ l (by omega)]; exact RL.1
        have e2 : J (l + 2) 0 = aSc F L S p h := hst 0 (by rw [WL.2.1]; exact Nat.one_pos)
        simp (disch := omega) only [e, qj_le, e2]
        exact ⟨fun _ => hQ, fun c => by omega⟩
      · have hc := WL.2.2 i hi
        have hg := aHg_le L.2 i
        have e : J l 1 = qj (L.1 : Int) := by rw [hJ l (by omega)]; exact RL.1
        have e1 : J (l + 1) i = qj (L.2 i : Int) := by rw [hJ _ (by omega)]; exact RL.2 i hi
        have hne : ∀ a, f ≤ a → a < f + 29 → ¬ a = l + 2 := fun a h1 h2 => by unfold qisF at hf; unfold qisL at hl; omega
        have hns : ∀ a, s ≤ a → a < s + 16 → ¬ a = l + 2 := fun a h1 h2 => by unfold qisS at hs; unfold qisL at hl; omega
        have RF' : qRF F J f := qRF_cg RF (fun a h1 h2 => hJ a (hne a h1 h2))
        have R' : qRS F J s S := qRS_cg R (fun a h1 h2 => hJ a (hns a h1 h2))
        rcases hc with ⟨c1, -⟩ | ⟨c1, c2, c3⟩
        · let v : Int32 := if L.2 i < 1000 then qj (L.2 i) else aVal F S p h (L.2 i)
          have hg1 : aHg L.2 (i + 1) = aHg L.2 i + 1 := by rw [aHg, if_pos (by omega)]
          obtain ⟨I', k1, k2⟩ := ih (qup J (l + 2) (aHg L.2 i) v) (fun a ha => by rw [qup_ne ha]; exact hJ a ha) (fun j hj => by
            rw [qup_at, aStk_lt (by omega)]
            by_cases ej : j = aHg L.2 i
            · rw [if_pos ej, if_pos ej]
            · rw [if_neg ej, if_neg ej]; exact hst j (by omega))
          refine ⟨I', k1, fun Q hQ => ?_⟩
          have k3 := k2 Q hQ
          rw [hg1] at k3
          refine b44_6 hf hl hs (by omega) ?_
          have k := c45 (d := d - 1) (g := g) (I := J) (by omega) hs hf RF' W R' WS (w := L.2 i) hp hh
          simp (disch := omega) only [e, e1, qj_le, qj_lt, qIx_z, qj_nat, qj_add, qj_s1, true_and]
          refine ⟨fun c => by omega, fun _ => ⟨fun c => by omega, fun _ => ⟨fun c => by omega, fun _ => ⟨fun _ => ⟨fun c => ?_, fun c => ?_⟩, fun c => by omega⟩⟩⟩⟩
          · have hv : v = aVal F S p h (L.2 i) := if_neg (by omega)
            rw [hv] at k3
            exact ⟨_, _, k (by omega) (by omega), k3⟩
          · have hv : v = qj (L.2 i) := if_pos (by omega)
            rw [hv] at k3
            exact k3
        · have hg1 : aHg L.2 (i + 1) = aHg L.2 i - 1 := by rw [aHg, if_neg (by omega)]
          obtain ⟨I', k1, k2⟩ := ih (qup J (l + 2) (aHg L.2 i - 2) (aJoin (L.2 i) (aStk (aVal F S p h) L.2 i (aHg L.2 i - 2)) (aStk (aVal F S p h) L.2 i (aHg L.2 i - 1)))) (fun a ha => by rw [qup_ne ha]; exact hJ a ha) (fun j hj => by
            rw [qup_at, aStk_ge (by omega)]
            by_cases ej : j = aHg L.2 i - 2
            · rw [if_pos ej, if_pos ej]
            · rw [if_neg ej, if_neg ej]; exact hst j (by omega))
          refine ⟨I', k1, fun Q hQ => ?_⟩
          have k3 := k2 Q hQ
          rw [hg1] at k3
          refine b44_6 hf hl hs (by omega) ?_
          have z1 : (aHg L.2 i : Int) - 2 = ((aHg L.2 i - 2 : Nat) : Int) := by omega
          have z2 : (aHg L.2 i : Int) - 1 = ((aHg L.2 i - 1 : Nat) : Int) := by omega
          have z3 : (aHg L.2 i : Int) + -1 = ((aHg L.2 i - 1 : Nat) : Int) := by omega
          have y1 := hst (aHg L.2 i - 2) (by omega)
          have y2 := hst (aHg L.2 i - 1) (by omega)
          simp (disch := omega) only [e, e1, qj_le, qj_lt, qIx_z, qj_sub, z1, z2, z3, qj_nat, y1, y2, qj_add, qj_s1, true_and]
          exact ⟨fun c => by omega, fun _ => ⟨fun c => by omega, fun _ => ⟨fun _ => ⟨fun _ => ⟨_, _, c46 (by omega) c1 c2, k3⟩, fun c => by omega⟩, fun c => by omega⟩⟩⟩
    obtain ⟨I', k1, k2⟩ := LP 0 (Nat.zero_le _) I (fun _ _ => rfl) (fun j hj => absurd hj (Nat.not_lt_zero _))
    exact ⟨I', k1, fun Q hQ => b44_0 hf hl hs (by omega) (k2 Q hQ)⟩
  obtain ⟨I', k1, k2⟩ := key
  exact ⟨I', qRun_of k2, k1⟩
theorem c47 (hd : 4 ≤ d) (hs : qisS s) (hf : qisF f) (hl : qisL l) (RF : qRF F I f) (W : qWF F) (R : qRS F I s S) (WS : qWS F S) (hy : S.1 0 0 ≤ 1000) (RL : qRL L I l) (WL : qWL L) {p : Nat} (hp : p < F.1 0 1) :
    ∃ I', qRun d 47 [.ref l, .ref f, .ref s, .int (qj p)] (qw g I) (.inl (some (.int (qj ((aCh F L S p : Int) - 1))), qw g I')) ∧ ∀ a, ¬ a = l + 2 → I' a = I a := by
  have h9 := W.1
  have h8 := W.2.1
  have hne : ∀ a, f ≤ a → a < f + 29 → ¬ a = l + 2 := fun a h1 h2 => by unfold qisF at hf; unfold qisL at hl; omega
  have hns : ∀ a, s ≤ a → a < s + 16 → ¬ a = l + 2 := fun a h1 h2 => by unfold qisS at hs; unfold qisL at hl; omega
  let C := aChN F S (aSc F L S p) p
  have key : ∀ i, i ≤ F.1 0 0 → ∀ (J : Nat → Nat → Int32) (m : Int32), (∀ a, ¬ a = l + 2 → J a = I a) → (C i = 0 ∨ m = aSc F L S p (C i - 1)) →
      ∃ I', (∀ a, ¬ a = l + 2 → I' a = I a) ∧ ∀ Q : qR → Prop, Q (.inl (some (.int (qj ((aCh F L S p : Int) - 1))), qw g I')) → qwq d 47 9 [(0, .ref l), (1, .ref f), (2, .ref s), (3, .int (qj p)), (4, .int (qj ((C i : Int) - 1))), (5, .int m), (6, .int (qj i))] [] (qw g J) Q := by
    refine upto _ (fun J m hJ hm => ⟨J, hJ, fun Q hQ => ?_⟩) (fun i hi ih J m hJ hm => ?_)
    · refine b47_9 hf hl hs (by omega) ?_
      have e : J f 0 = qj (F.1 0 0 : Int) := by rw [hJ f (hne _ (by omega) (by omega))]; exact RF.1
      simp (disch := omega) only [e, qj_le]
      exact ⟨fun _ => hQ, fun c => by omega⟩
    · have RF' : qRF F J f := qRF_cg RF (fun a h1 h2 => hJ a (hne a h1 h2))
      have R' : qRS F J s S := qRS_cg R (fun a h1 h2 => hJ a (hns a h1 h2))
      have RL' : qRL L J l := qRL_cg RL (fun a h1 h2 => hJ a (by omega))
      have hCi : C i ≤ i := aChN_le F S (aSc F L S p) p i
      have e : J f 0 = qj (F.1 0 0 : Int) := RF'.1
      have hC1 : C (i + 1) = if aCan F S i p = true ∧ (C i = 0 ∨ aSc F L S p (C i - 1) < aSc F L S p i) then i + 1 else C i := rfl
      cases hcan : aCan F S i p with
      | false =>
        have hC2 : C (i + 1) = C i := by rw [hC1, if_neg (by rw [hcan]; simp)]
        rw [hC2] at ih
        obtain ⟨I', k1, k2⟩ := ih J m hJ hm
        refine ⟨I', k1, fun Q hQ => b47_9 hf hl hs (by omega) ?_⟩
        simp (disch := omega) only [e, qj_le]
        refine ⟨fun c => by omega, fun _ => ⟨_, _, c62 (by omega) hs hf RF' W R' hy hi (by omega), ?_⟩⟩
        rw [hcan]
        rw [qj_add]
        exact ⟨fun _ => k2 Q hQ, fun c => Bool.noConfusion c⟩
      | true =>
        obtain ⟨J3, r1, r2⟩ := c44 (d := d - 1) (g := g) (by omega) hs hf hl RF' W R' WS RL' WL hp hi
        have hJ3 : ∀ a, ¬ a = l + 2 → J3 a = I a := fun a ha => by rw [r2 a ha]; exact hJ a ha
        by_cases hb : C i = 0 ∨ aSc F L S p (C i - 1) < aSc F L S p i
        · have hC2 : C (i + 1) = i + 1 := by rw [hC1, if_pos ⟨hcan, hb⟩]
          rw [hC2] at ih
          obtain ⟨I', k1, k2⟩ := ih J3 (aSc F L S p i) hJ3 (Or.inr rfl)
          have k3 : ∀ Q : qR → Prop, Q (.inl (some (.int (qj ((aCh F L S p : Int) - 1))), qw g I')) → qwq d 47 9 [(0, .ref l), (1, .ref f), (2, .ref s), (3, .int (qj p)), (4, .int (qj i)), (5, .int (aSc F L S p i)), (6, .int (qj ((i : Int) + 1)))] [] (qw g J3) Q := fun Q hQ => by
            have := k2 Q hQ
            have z : ((i + 1 : Nat) : Int) - 1 = i := by omega
            rw [z] at this; exact this
          refine ⟨I', k1, fun Q hQ => b47_9 hf hl hs (by omega) ?_⟩
          simp (disch := omega) only [e, qj_le, qj_add]
          refine ⟨fun c => by omega, fun _ => ⟨_, _, c62 (by omega) hs hf RF' W R' hy hi (by omega), ?_⟩⟩
          rw [hcan]
          refine ⟨fun c => Bool.noConfusion c, fun _ => ⟨_, _, r1, ?_⟩⟩
          simp (disch := omega) only [qj_eq]
          refine ⟨fun _ => k3 Q hQ, fun c => ⟨fun c2 => ?_, fun _ => k3 Q hQ⟩⟩
          rcases hb with hb | hb
          · omega
          · rcases hm with hm | hm
            · omega
            · rw [← hm] at hb
              exact absurd c2 ((qle_nlt _ _).mpr hb)
        · have hC2 : C (i + 1) = C i := by rw [hC1, if_neg (fun q => hb q.2)]
          rw [hC2] at ih
          obtain ⟨I', k1, k2⟩ := ih J3 m hJ3 hm
          have hb1 : ¬ C i = 0 := fun q => hb (Or.inl q)
          have hb2 : aSc F L S p i ≤ m := by
            rcases hm with hm | hm
            · exact absurd hm hb1
            · rw [hm]; exact (qlt_nle _ _).mp (fun q => hb (Or.inr q))
          refine ⟨I', k1, fun Q hQ => b47_9 hf hl hs (by omega) ?_⟩
          simp (disch := omega) only [e, qj_le, qj_add]
          refine ⟨fun c => by omega, fun _ => ⟨_, _, c62 (by omega) hs hf RF' W R' hy hi (by omega), ?_⟩⟩
          rw [hcan]
          refine ⟨fun c => Bool.noConfusion c, fun _ => ⟨_, _, r1, ?_⟩⟩
          simp (disch := omega) only [qj_eq]
          exact ⟨fun c => by omega, fun c => ⟨fun _ => k2 Q hQ, fun c2 => absurd hb2 c2⟩⟩
  obtain ⟨I', k1, k2⟩ := key 0 (Nat.zero_le _) I (qj 0) (fun _ _ => rfl) (Or.inl rfl)
  exact ⟨I', qRun_of (fun Q hQ => b47_0 hf hl hs (by omega) (k2 Q hQ)), k1⟩
end LAW
