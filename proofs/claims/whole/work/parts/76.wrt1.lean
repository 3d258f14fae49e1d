/-! ===== what changes the object: years, undone, deaths, strings, giving, images; the class ===== -/
def iup {α : Type} (f : Nat → α) (k : Nat) (v : α) : Nat → α := fun j => if j = k then v else f j
abbrev qRs : Type := (Int32 × qSt × qSt × (Nat → qSt) × (Nat → Nat)) ⊕ Nat
def rYrs (F : qFam) (L : qLw) (S S0 : qSt) (Im : Nat → qSt) (C : Nat → Nat) (z : Int) : qRs :=
  if 1 ≤ z ∧ z ≤ 60 then .inl (qj ((S.1 0 0 + min z.toNat (200 - S.1 0 0) : Nat) : Int), itr (aYear F L) (min z.toNat (200 - S.1 0 0)) S, S0, Im, iup C 0 (C 0 + min z.toNat (200 - S.1 0 0))) else .inr 1
def rUnd (F : qFam) (L : qLw) (S S0 : qSt) (Im : Nat → qSt) (C : Nat → Nat) (z : Int) : qRs :=
  if 1 ≤ z ∧ z ≤ 60 then (if C 0 = 0 then .inl (qj 0, S, S0, Im, C) else .inl (qj ((min z.toNat (C 0) : Nat) : Int), itr (aYear F L) (C 0 - min z.toNat (C 0)) S0, S0, Im, iup C 0 (C 0 - min z.toNat (C 0)))) else .inr 1
def rDie (F : qFam) (S S0 : qSt) (Im : Nat → qSt) (C : Nat → Nat) (h : Int) : qRs :=
  if 0 ≤ h ∧ h < F.1 0 0 then (if aAl F S h.toNat = true then .inl (qj (cn 8 (S.2.1 h.toNat) : Nat), aBur S h.toNat, aBur S h.toNat, Im, iup C 0 0) else .inl (qj (-1), S, S0, Im, C)) else .inr 0
def aStr (S : qSt) (p n : Nat) : qSt := (qup S.1 3 p (min 30 (S.1 3 p + n)), S.2)
def rStr (F : qFam) (S : qSt) (Im : Nat → qSt) (C : Nat → Nat) (p n : Int) : qRs :=
  if 0 ≤ p ∧ p < F.1 0 1 then (if 1 ≤ n ∧ n ≤ 30 then .inl (qj ((min 30 (S.1 3 p.toNat + n.toNat) : Nat) : Int), aStr S p.toNat n.toNat, aStr S p.toNat n.toNat, Im, iup C 0 0) else .inr 1) else .inr 0
def rGiv (F : qFam) (S S0 : qSt) (Im : Nat → qSt) (C : Nat → Nat) (p h k : Int) : qRs :=
  if (0 ≤ p ∧ p < F.1 0 1) ∧ (0 ≤ h ∧ h < F.1 0 0) ∧ 0 ≤ k ∧ k < F.1 0 0 then (if S.2.1 h.toNat p.toNat = true ∧ aCan F S k.toNat p.toNat = true then .inl (qj 1, aBeg (aCea S h.toNat p.toNat) k.toNat p.toNat, aBeg (aCea S h.toNat p.toNat) k.toNat p.toNat, Im, iup C 0 0) else .inl (qj 0, S, S0, Im, C)) else .inr 0
def rImg (S S0 : qSt) (Im : Nat → qSt) (C : Nat → Nat) : qRs :=
  if C 1 < 3 then .inl (qj ((C 1 + 1 : Nat) : Int), S, S0, iup Im (C 1) S, iup C 1 (C 1 + 1)) else .inl (qj (-1), S, S0, Im, C)
def rRes (S S0 : qSt) (Im : Nat → qSt) (C : Nat → Nat) : qRs :=
  if C 1 = 0 then .inl (qj (-1), S, S0, Im, C) else .inl (qj ((C 1 - 1 : Nat) : Int), Im (C 1 - 1), Im (C 1 - 1), Im, iup (iup C 1 (C 1 - 1)) 0 0)
/-- a call that changes the class' object -/
def qCW (d k : Nat) (as : List Value) (g : qG1) (I : Nat → Nat → Int32) (F : qFam) (L : qLw) (B : qBk) (T : Nat → Nat) (P : Int) : qRs → Prop
  | .inl r => ∃ I', qRun d k as (qw g I) (.inl (some (.int r.1), qw g I')) ∧ qCls g I' F L B r.2.1 r.2.2.1 r.2.2.2.1 r.2.2.2.2 T P ∧ ∀ a, a < 64 ∨ 245 ≤ a → I' a = I a
  | .inr e => qRun d k as (qw g I) (.inr (e, qw (qgT g) (qup I 64 (16 + e) (I 64 (16 + e) + qj 1))))
theorem qCW_inl {d k : Nat} {as : List Value} {g : qG1} {I : Nat → Nat → Int32} {F : qFam} {L : qLw} {B : qBk} {T : Nat → Nat} {P : Int} {v : Int32} {S S0 : qSt} {Im : Nat → qSt} {C : Nat → Nat} (I' : Nat → Nat → Int32) (h : ∀ Q : qR → Prop, Q (.inl (some (.int v), qw g I')) → qwp d k as (qw g I) Q) (c : qCls g I' F L B S S0 Im C T P) (e : ∀ a, a < 64 ∨ 245 ≤ a → I' a = I a) : qCW d k as g I F L B T P (.inl (v, S, S0, Im, C)) := ⟨I', qRun_of h, c, e⟩
theorem qCW_0 {d k : Nat} {as : List Value} {g : qG1} {I : Nat → Nat → Int32} {F : qFam} {L : qLw} {B : qBk} {T : Nat → Nat} {P : Int} (h : ∀ Q : qR → Prop, Q (.inr (0, qw (qgT g) (qup I 64 16 (I 64 16 + qj 1)))) → qwp d k as (qw g I) Q) : qCW d k as g I F L B T P (.inr 0) := qRun_of h
theorem qCW_1 {d k : Nat} {as : List Value} {g : qG1} {I : Nat → Nat → Int32} {F : qFam} {L : qLw} {B : qBk} {T : Nat → Nat} {P : Int} (h : ∀ Q : qR → Prop, Q (.inr (1, qw (qgT g) (qup I 64 17 (I 64 17 + qj 1)))) → qwp d k as (qw g I) Q) : qCW d k as g I F L B T P (.inr 1) := qRun_of h
/-- what a change of now, base and the years' count may write -/
def qFw (g : qG1) (I J : Nat → Nat → Int32) : Prop := (∀ a, ¬ (139 ≤ a ∧ a < 171) → ¬ a = 64 → ¬ a = g.2.2.1 3 + 2 → J a = I a) ∧ ∀ j, ¬ j = 9 → J 64 j = I 64 j
theorem qFw_rf {g : qG1} {I : Nat → Nat → Int32} : qFw g I I := ⟨fun _ _ _ _ => rfl, fun _ _ => rfl⟩
theorem qFw_tr {g : qG1} {I J K : Nat → Nat → Int32} (h : qFw g I J) (h2 : qFw g J K) : qFw g I K := ⟨fun a p q r => (h2.1 a p q r).trans (h.1 a p q r), fun j p => (h2.2 j p).trans (h.2 j p)⟩
theorem qFw_s {g : qG1} {I J : Nat → Nat → Int32} {s : Nat} (hs : s = 139 ∨ s = 155) (hW : qWo g.2.2.1) (h : qFr s (g.2.2.1 3) I J) : qFw g I J := by
  have := qWo_b hW
  exact ⟨fun a p q r => h a (by omega) r, fun j _ => by rw [h 64 (by omega) (by omega)]⟩
theorem qFw_a {g : qG1} {I J : Nat → Nat → Int32} {s : Nat} (hs : s = 139 ∨ s = 155) (h : ∀ a, (a < s ∨ s + 16 ≤ a) → J a = I a) : qFw g I J :=
  ⟨fun a p q r => h a (by omega), fun j _ => by rw [h 64 (by omega)]⟩
theorem qFw_9 {g : qG1} {I J : Nat → Nat → Int32} {v : Int32} (h : qFw g I J) : qFw g I (qup J 64 9 v) := ⟨fun a p q r => by rw [qup_ne q]; exact h.1 a p q r, fun j p => by rw [qup_at, if_neg p]; exact h.2 j p⟩
section WRT1
variable {d : Nat} {g : qG1} {I : Nat → Nat → Int32} {F : qFam} {L : qLw} {B : qBk} {S S0 : qSt} {Im : Nat → qSt} {C T : Nat → Nat} {P : Int} {f s : Nat}
/-- the class with another now, base and count -/
theorem qCls_w (H : qCls g I F L B S S0 Im C T P) (c1 : C 1 ≤ 3) {J : Nat → Nat → Int32} {U U0 : qSt} {n : Nat} (h : qFw g I J) (R : qRS F J 139 U) (R0 : qRS F J 155 U0) (h9 : J 64 9 = qj n) : qCls g J F L B U U0 Im (iup C 0 n) T P := by
  obtain ⟨h1, h2, h3, h4, h5, h6, h7, h8, h9', h10, h11, h12, h13, h14, h15⟩ := H
  obtain ⟨b1, b2, b3⟩ := qWo_b h1
  refine ⟨h1, qRF_cg h2 (fun a p q => h.1 a (by omega) (by omega) (by omega)), qRL_cg h3 (fun a p q => h.1 a (by omega) (by omega) (by omega)), qRB_cg h4 (fun a p q => h.1 a (by omega) (by omega) (by omega)), R, R0, fun k hk => qRS_cg (h7 k hk) (fun a p q => h.1 a (by have : k < C 1 := hk; omega) (by omega) (by omega)), h9, ?_, ?_, ?_, ?_, ?_, ?_, qCon_cg h15 (fun a p => h.1 a (by omega) (by omega) (by omega))⟩
  · rw [h.2 12 (by omega)]; exact h9'
  · rw [h.2 16 (by omega)]; exact h10
  · rw [h.2 17 (by omega)]; exact h11
  · rw [h.1 65 (by omega) (by omega) (by omega)]; exact h12
  · rw [h.1 66 (by omega) (by omega) (by omega)]; exact h13
  · rw [h.1 65 (by omega) (by omega) (by omega)]; exact h14
theorem qFw_245 (hW : qWo g.2.2.1) {J : Nat → Nat → Int32} (h : qFw g I J) : ∀ a, a < 64 ∨ 245 ≤ a → J a = I a := fun a ha => by
  have := qWo_b hW
  exact h.1 a (by omega) (by omega) (by omega)
/-- years are forgotten -/
theorem c147 (hd : 2 ≤ d) (W : qWF F) {J : Nat → Nat → Int32} {U : qSt} (R : qRS F J 139 U) :
    ∃ J', qRun d 147 [.ref 64] (qw g J) (.inl (none, qw g J')) ∧ qRS F J' 139 U ∧ qRS F J' 155 U ∧ J' 64 9 = qj 0 ∧ qFw g J J' := by
  obtain ⟨J1, k1, k2, k3⟩ := c53 (d := d - 1) (g := g) (by omega) (show qisS 155 by unfold qisS; omega) (show qisS 139 by unfold qisS; omega) (by omega) W R
  refine ⟨qup J1 64 9 (qj 0), qRun_of fun Q hQ => b147_0 (by omega) ⟨_, k1, hQ⟩, ?_, ?_, ?_, qFw_9 (qFw_a (Or.inr rfl) k3)⟩
  · exact qRS_cg R (fun a p q => by rw [qup_ne (by omega)]; exact k3 a (by omega))
  · exact qRS_cg k2 (fun a p q => qup_ne (by omega))
  · rw [qup_at, if_pos rfl]
/-- a year of what is now -/
theorem now1 (hd : 6 ≤ d) (X : qAbs F L B S S0 Im C T) (H : qCls g I F L B S S0 Im C T P) {U : qSt} {J : Nat → Nat → Int32} (R : qRS F J 139 U) (WU : qWS F U) (hyU : U.1 0 0 < 1000) (hJ : qFw g I J) :
    ∃ J', qRun d 67 [.ref 139, .ref (g.2.2.1 1), .ref (g.2.2.1 3)] (qw g J) (.inl (none, qw g J')) ∧ qRS F J' 139 (aYear F L U) ∧ qFw g J J' ∧ J' 64 9 = J 64 9 ∧ ∀ a, 155 ≤ a → a < 171 → J' a = J a := by
  have hwb := qWo_b H.1
  obtain ⟨J1, k1, k2, k3⟩ := c67 (g := g) (f := g.2.2.1 1) (l := g.2.2.1 3) hd (show qisS 139 by unfold qisS; omega) H.1.1 H.1.2.2.2.1 (qRF_cg H.2.1 (fun a p q => hJ.1 a (by omega) (by omega) (by omega))) X.1 R WU hyU (qRL_cg H.2.2.1 (fun a p q => hJ.1 a (by omega) (by omega) (by omega))) X.2.1
  exact ⟨J1, k1, k2, qFw_s (Or.inl rfl) H.1 k3, by rw [k3 64 (by omega) (by omega)], fun a p q => k3 a (by omega) (by omega)⟩
theorem f96 (hd : 8 ≤ d) (X : qAbs F L B S S0 Im C T) (H : qCls g I F L B S S0 Im C T P) {z : Int} (hz : -2147483648 ≤ z ∧ z < 2147483648) : qCW d 96 [.ref 64, .int (qj z)] g I F L B T P (rYrs F L S S0 Im C z) := by
  have W := X.1
  have WS := X.2.2.2.1.1
  have hy : S.1 0 0 ≤ 1000 := Nat.le_trans X.2.2.2.1.2.1 (by decide)
  have h9 := W.1
  have h8 := W.2.1
  have w3 := W.2.2.1
  have hf := H.1.1
  have hl := H.1.2.2.2.1
  have hb := H.1.2.2.2.2.2.2.1
  have RF := H.2.1
  have RS := H.2.2.2.2.1
  have hs9 : qisS 139 := by unfold qisS; omega
  have hC := H.2.2.2.2.2.2.2.2.2.2.2.2.2.2.1
  unfold rYrs
  have h200 := X.2.2.2.1.2.1
  have c1 := X.2.2.2.2.2.2.2.1
  by_cases h : 1 ≤ z ∧ z ≤ 60
  · rw [if_pos h]
    obtain ⟨n, rfl⟩ : ∃ n : Nat, z = n := ⟨z.toNat, by omega⟩
    rw [Int.toNat_natCast]
    have e9 := H.2.2.2.2.2.2.2.1
    generalize hk : min n (200 - S.1 0 0) = k
    have key : ∀ i, i ≤ k → ∀ J, qRS F J 139 (itr (aYear F L) i S) → J 64 9 = qj ((C 0 + i : Nat) : Int) → qFw g I J → (∀ a, 155 ≤ a → a < 171 → J a = I a) →
        ∃ I', (qRS F I' 139 (itr (aYear F L) k S) ∧ I' 64 9 = qj ((C 0 + k : Nat) : Int) ∧ qFw g I I' ∧ ∀ a, 155 ≤ a → a < 171 → I' a = I a) ∧ ∀ Q : qR → Prop, Q (.inl (some (.int (qj ((S.1 0 0 + k : Nat) : Int))), qw g I')) → qwq d 96 22 [(0, .ref 64), (1, .int (qj n)), (2, .int (qj i))] [] (qw g J) Q := by
      refine upto _ (fun J h1 h2 h3 h4 => ⟨J, ⟨h1, h2, h3, h4⟩, fun Q hQ => b96_22 hf hl rfl rfl (by omega) ?_⟩) (fun i hi ih J h1 h2 h3 h4 => ?_)
      · obtain ⟨w1, w2⟩ := itr_ok (L := L) W WS k
        have e0 := h1.1
        rw [w2] at e0
        by_cases c : n ≤ k
        · simp (disch := omega) only [qz0, qj_lt, qj_le, qj_eq, qtk, qfk, qbtt, qbft, qbtf, qbff, qIx_z, qj_nat, true_and, and_true, true_implies, false_implies, not_true_eq_false, not_false_eq_true, Bool.true_eq_false, Bool.false_eq_true, e0]
          exact hQ
        · simp (disch := omega) only [qz0, qj_lt, qj_le, qj_eq, qtk, qfk, qbtt, qbft, qbtf, qbff, qIx_z, qj_nat, true_and, and_true, true_implies, false_implies, not_true_eq_false, not_false_eq_true, Bool.true_eq_false, Bool.false_eq_true, e0]
          exact hQ
      · obtain ⟨w1, w2⟩ := itr_ok (L := L) W WS i
        have e0 := h1.1
        rw [w2] at e0
        obtain ⟨J1, k1, k2, k3, k4, k5⟩ := now1 (d := d - 1) (by omega) X H h1 w1 (by omega) h3
        have e9 : J1 64 9 = qj ((C 0 + i : Nat) : Int) := by rw [k4]; exact h2
        obtain ⟨I', q1, q2⟩ := ih (qup J1 64 9 (qj ((C 0 + (i + 1) : Nat) : Int))) (qRS_cg k2 (fun a p q => qup_ne (by omega))) (by rw [qup_at, if_pos rfl]) (qFw_9 (qFw_tr h3 k3)) (fun a p q => by rw [qup_ne (by omega), k5 a p q]; exact h4 a p q)
        refine ⟨I', q1, fun Q hQ => b96_22 hf hl rfl rfl (by omega) ?_⟩
        simp (disch := omega) only [qz0, qj_lt, qj_le, qj_eq, qtk, qfk, qbtt, qbft, qbtf, qbff, qIx_z, qj_nat, true_and, and_true, true_implies, false_implies, not_true_eq_false, not_false_eq_true, Bool.true_eq_false, Bool.false_eq_true, e0]
        refine ⟨_, k1, ?_⟩
        simp (disch := omega) only [e9, qj_add, qj_s1]
        exact q2 Q hQ
    obtain ⟨I', ⟨q1, q2, q3, q5⟩, q4⟩ := key 0 (Nat.zero_le _) I RS e9 qFw_rf (fun _ _ _ => rfl)
    refine qCW_inl I' (fun Q hQ => b96_0 (by omega) ?_) (qCls_w H c1 q3 q1 (qRS_cg H.2.2.2.2.2.1 (fun a p q => q5 a (by omega) (by omega))) q2) (qFw_245 H.1 q3)
    simp (disch := omega) only [qz0, qj_lt, qj_le, qj_eq, qtk, qfk, qbtt, qbft, qbtf, qbff, qIx_z, qj_nat, true_and, and_true, true_implies, false_implies, not_true_eq_false, not_false_eq_true, Bool.true_eq_false, Bool.false_eq_true]
    exact q4 Q hQ
  · rw [if_neg h]
    refine qCW_1 fun Q hQ => b96_0 (by omega) ?_
    simp (disch := omega) only [qz0, qj_lt]
    exact qrfu hQ (fun c => qrfu hQ (fun c => by omega))
theorem f97 (hd : 8 ≤ d) (X : qAbs F L B S S0 Im C T) (H : qCls g I F L B S S0 Im C T P) {z : Int} (hz : -2147483648 ≤ z ∧ z < 2147483648) : qCW d 97 [.ref 64, .int (qj z)] g I F L B T P (rUnd F L S S0 Im C z) := by
  have W := X.1
  have WS := X.2.2.2.1.1
  have hy : S.1 0 0 ≤ 1000 := Nat.le_trans X.2.2.2.1.2.1 (by decide)
  have h9 := W.1
  have h8 := W.2.1
  have w3 := W.2.2.1
  have hf := H.1.1
  have hl := H.1.2.2.2.1
  have hb := H.1.2.2.2.2.2.2.1
  have RF := H.2.1
  have RS := H.2.2.2.2.1
  have hs9 : qisS 139 := by unfold qisS; omega
  have hC := H.2.2.2.2.2.2.2.2.2.2.2.2.2.2.1
  unfold rUnd
  have hs5 : qisS 155 := by unfold qisS; omega
  have h0 := X.2.2.2.2.2.2.1
  have c1 := X.2.2.2.2.2.2.2.1
  have R0 := H.2.2.2.2.2.1
  have WS0 := X.2.2.2.2.1.1
  by_cases h : 1 ≤ z ∧ z ≤ 60
  · rw [if_pos h]
    obtain ⟨n, rfl⟩ : ∃ n : Nat, z = n := ⟨z.toNat, by omega⟩
    rw [Int.toNat_natCast]
    have e9 := H.2.2.2.2.2.2.2.1
    by_cases hc : C 0 = 0
    · rw [if_pos hc]
      refine qCW_inl I (fun Q hQ => b97_0 (by omega) ?_) H (fun _ _ => rfl)
      simp (disch := omega) only [qz0, qj_lt, qj_le, qj_eq, qtk, qfk, qbtt, qbft, qbtf, qbff, qIx_z, qj_nat, true_and, and_true, true_implies, false_implies, not_true_eq_false, not_false_eq_true, Bool.true_eq_false, Bool.false_eq_true, e9, qmin_z, hc]
      exact hQ
    · rw [if_neg hc]
      have em : min (n : Int) ((C 0 : Nat) : Int) = ((min n (C 0) : Nat) : Int) := by omega
      generalize hk : min n (C 0) = k at em
      have es : qj ((C 0 : Nat) : Int) - qj (k : Int) = qj ((C 0 - k : Nat) : Int) := by rw [qj_sub]; congr 1; omega
      obtain ⟨J1, a1, a2, a3⟩ := c53 (d := d - 1) (g := g) (I := qup I 64 9 (qj ((C 0 - k : Nat) : Int))) (by omega) hs9 hs5 (by omega) W (qRS_cg R0 (fun a p q => qup_ne (by omega)))
      have hJ1 : qFw g I J1 := qFw_tr (qFw_9 qFw_rf) (qFw_a (Or.inl rfl) a3)
      have key : ∀ i, i ≤ C 0 - k → ∀ J, qRS F J 139 (itr (aYear F L) i S0) → J 64 9 = qj ((C 0 - k : Nat) : Int) → qFw g I J → (∀ a, 155 ≤ a → a < 171 → J a = I a) →
          ∃ I', (qRS F I' 139 (itr (aYear F L) (C 0 - k) S0) ∧ I' 64 9 = qj ((C 0 - k : Nat) : Int) ∧ qFw g I I' ∧ ∀ a, 155 ≤ a → a < 171 → I' a = I a) ∧ ∀ Q : qR → Prop, Q (.inl (some (.int (qj (k : Int))), qw g I')) → qwq d 97 58 [(0, .ref 64), (2, .int (qj k)), (3, .int (qj i))] [] (qw g J) Q := by
        refine upto _ (fun J h1 h2 h3 h4 => ⟨J, ⟨h1, h2, h3, h4⟩, fun Q hQ => b97_58 hf hl rfl rfl (by omega) ?_⟩) (fun i hi ih J h1 h2 h3 h4 => ?_)
        · simp (disch := omega) only [qz0, qj_lt, qj_le, qj_eq, qtk, qfk, qbtt, qbft, qbtf, qbff, qIx_z, qj_nat, true_and, and_true, true_implies, false_implies, not_true_eq_false, not_false_eq_true, Bool.true_eq_false, Bool.false_eq_true, h2]
          exact hQ
        · obtain ⟨w1, w2⟩ := itr_ok (L := L) W WS0 i
          obtain ⟨J2, k1, k2, k3, k4, k5⟩ := now1 (d := d - 1) (by omega) X H h1 w1 (by omega) h3
          obtain ⟨I', q1, q2⟩ := ih J2 k2 (by rw [k4]; exact h2) (qFw_tr h3 k3) (fun a p q => by rw [k5 a p q]; exact h4 a p q)
          refine ⟨I', q1, fun Q hQ => b97_58 hf hl rfl rfl (by omega) ?_⟩
          simp (disch := omega) only [qz0, qj_lt, qj_le, qj_eq, qtk, qfk, qbtt, qbft, qbtf, qbff, qIx_z, qj_nat, true_and, and_true, true_implies, false_implies, not_true_eq_false, not_false_eq_true, Bool.true_eq_false, Bool.false_eq_true, h2]
          refine ⟨_, k1, ?_⟩
          simp (disch := omega) only [qj_add, qj_s1]
          exact q2 Q hQ
      obtain ⟨I', ⟨q1, q2, q3, q5⟩, q4⟩ := key 0 (Nat.zero_le _) J1 a2 (by rw [a3 64 (by omega), qup_at, if_pos rfl]) hJ1 (fun a p q => by rw [a3 a (by omega), qup_ne (by omega)])
      refine qCW_inl I' (fun Q hQ => b97_0 (by omega) ?_) (qCls_w H c1 q3 q1 (qRS_cg R0 (fun a p q => q5 a (by omega) (by omega))) q2) (qFw_245 H.1 q3)
      simp (disch := omega) only [qz0, qj_lt, qj_le, qj_eq, qtk, qfk, qbtt, qbft, qbtf, qbff, qIx_z, qj_nat, true_and, and_true, true_implies, false_implies, not_true_eq_false, not_false_eq_true, Bool.true_eq_false, Bool.false_eq_true, e9, qmin_z, em, es]
      exact ⟨_, a1, q4 Q hQ⟩
  · rw [if_neg h]
    refine qCW_1 fun Q hQ => b97_0 (by omega) ?_
    simp (disch := omega) only [qz0, qj_lt]
    exact qrfu hQ (fun c => qrfu hQ (fun c => by omega))
theorem f103 (hd : 9 ≤ d) (X : qAbs F L B S S0 Im C T) (H : qCls g I F L B S S0 Im C T P) {z : Int} (hz : -2147483648 ≤ z ∧ z < 2147483648) : qCW d 103 [.ref 64, .int (qj z)] g I F L B T P (rDie F S S0 Im C z) := by
  have W := X.1
  have WS := X.2.2.2.1.1
  have hy : S.1 0 0 ≤ 1000 := Nat.le_trans X.2.2.2.1.2.1 (by decide)
  have h9 := W.1
  have h8 := W.2.1
  have w3 := W.2.2.1
  have hf := H.1.1
  have hl := H.1.2.2.2.1
  have hb := H.1.2.2.2.2.2.2.1
  have RF := H.2.1
  have RS := H.2.2.2.2.1
  have hs9 : qisS 139 := by unfold qisS; omega
  have hC := H.2.2.2.2.2.2.2.2.2.2.2.2.2.2.1
  unfold rDie
  have f1 := RF.1
  have c1 := X.2.2.2.2.2.2.2.1
  by_cases h : 0 ≤ z ∧ z < F.1 0 0
  · rw [if_pos h]
    obtain ⟨n, rfl⟩ : ∃ n : Nat, z = n := ⟨z.toNat, by omega⟩
    rw [Int.toNat_natCast]
    have k54 := c54 (d := d - 1) (g := g) (by omega) hs9 hf RF W RS hy (h := n) (by omega)
    cases ha : aAl F S n with
    | false =>
      rw [ha] at k54
      rw [if_neg Bool.false_ne_true]
      refine qCW_inl I (fun Q hQ => b103_0 hf rfl (by omega) ?_) H (fun _ _ => rfl)
      simp (disch := omega) only [qz0, qj_lt, qj_le, qj_eq, qtk, qfk, qbtt, qbft, qbtf, qbff, qIx_z, qj_nat, true_and, and_true, true_implies, false_implies, not_true_eq_false, not_false_eq_true, Bool.true_eq_false, Bool.false_eq_true, f1]
      refine ⟨_, _, k54, ?_⟩
      simp (disch := omega) only [qz0, qj_lt, qj_le, qj_eq, qtk, qfk, qbtt, qbft, qbtf, qbff, qIx_z, qj_nat, true_and, and_true, true_implies, false_implies, not_true_eq_false, not_false_eq_true, Bool.true_eq_false, Bool.false_eq_true]
      exact hQ
    | true =>
      rw [ha] at k54
      rw [if_pos rfl]
      have s4 := (qNow RS).2.2.2.1 n (by omega)
      obtain ⟨J1, a1, a2, a3⟩ := c66 (d := d - 1) (g := g) (h := n) (by omega) hs9 RS (by omega)
      obtain ⟨J2, b1, b2, b3, b4, b5⟩ := c147 (d := d - 1) (g := g) (by omega) W a2
      have hJ2 := qFw_tr (qFw_a (g := g) (Or.inl rfl) a3) b5
      refine qCW_inl J2 (fun Q hQ => b103_0 hf rfl (by omega) ?_) (qCls_w H c1 hJ2 b2 b3 b4) (qFw_245 H.1 hJ2)
      simp (disch := omega) only [qz0, qj_lt, qj_le, qj_eq, qtk, qfk, qbtt, qbft, qbtf, qbff, qIx_z, qj_nat, true_and, and_true, true_implies, false_implies, not_true_eq_false, not_false_eq_true, Bool.true_eq_false, Bool.false_eq_true, f1]
      refine ⟨_, _, k54, ?_⟩
      simp (disch := omega) only [qz0, qj_lt, qj_le, qj_eq, qtk, qfk, qbtt, qbft, qbtf, qbff, qIx_z, qj_nat, true_and, and_true, true_implies, false_implies, not_true_eq_false, not_false_eq_true, Bool.true_eq_false, Bool.false_eq_true]
      refine ⟨_, a1, _, b1, ?_⟩
      rw [s4, qpc_bm (by omega)]
      exact hQ
  · rw [if_neg h]
    refine qCW_0 fun Q hQ => b103_0 hf rfl (by omega) ?_
    simp (disch := omega) only [qz0, qj_lt, qj_le, f1]
    exact qrfu hQ (fun c => qrfu hQ (fun c => by omega))
theorem f104 (hd : 9 ≤ d) (X : qAbs F L B S S0 Im C T) (H : qCls g I F L B S S0 Im C T P) {z w : Int} (hz : -2147483648 ≤ z ∧ z < 2147483648) (hw : -2147483648 ≤ w ∧ w < 2147483648) : qCW d 104 [.ref 64, .int (qj z), .int (qj w)] g I F L B T P (rStr F S Im C z w) := by
  have W := X.1
  have WS := X.2.2.2.1.1
  have hy : S.1 0 0 ≤ 1000 := Nat.le_trans X.2.2.2.1.2.1 (by decide)
  have h9 := W.1
  have h8 := W.2.1
  have w3 := W.2.2.1
  have hf := H.1.1
  have hl := H.1.2.2.2.1
  have hb := H.1.2.2.2.2.2.2.1
  have RF := H.2.1
  have RS := H.2.2.2.2.1
  have hs9 : qisS 139 := by unfold qisS; omega
  have hC := H.2.2.2.2.2.2.2.2.2.2.2.2.2.2.1
  unfold rStr
  have f2 := RF.2.1
  have c1 := X.2.2.2.2.2.2.2.1
  by_cases h : 0 ≤ z ∧ z < F.1 0 1
  · rw [if_pos h]
    obtain ⟨n, rfl⟩ : ∃ n : Nat, z = n := ⟨z.toNat, by omega⟩
    by_cases h2 : 1 ≤ w ∧ w ≤ 30
    · rw [if_pos h2]
      obtain ⟨m, rfl⟩ : ∃ m : Nat, w = m := ⟨w.toNat, by omega⟩
      rw [Int.toNat_natCast, Int.toNat_natCast]
      have s7 := (qNow RS).2.2.2.2.2.2.1 n (by omega)
      have b30 := WS.2.2.1 n (by omega)
      have em : min (30 : Int) ((S.1 3 n : Int) + (m : Int)) = ((min 30 (S.1 3 n + m) : Nat) : Int) := by omega
      have R1 : qRS F (qup I 153 n (qj ((min 30 (S.1 3 n + m) : Nat) : Int))) 139 (aStr S n m) := qRS_u7 RS rfl
      obtain ⟨J2, b1, b2, b3, b4, b5⟩ := c147 (d := d - 1) (g := g) (by omega) W R1
      have hJ1 : qFw g I (qup I 153 n (qj ((min 30 (S.1 3 n + m) : Nat) : Int))) := ⟨fun a p q r => qup_ne (by omega), fun j _ => by rw [qup_ne (by omega)]⟩
      have hJ2 := qFw_tr hJ1 b5
      have e7 : J2 153 n = qj ((min 30 (S.1 3 n + m) : Nat) : Int) := by
        have := (qNow b2).2.2.2.2.2.2.1 n (by omega)
        rw [this]
        show qj ((qup S.1 3 n (min 30 (S.1 3 n + m)) 3 n : Nat) : Int) = _
        rw [qup_at, if_pos rfl]
      refine qCW_inl J2 (fun Q hQ => b104_0 hf rfl (by omega) ?_) (qCls_w H c1 hJ2 b2 b3 b4) (qFw_245 H.1 hJ2)
      simp (disch := omega) only [qz0, qj_lt, qj_le, qj_eq, qtk, qfk, qbtt, qbft, qbtf, qbff, qIx_z, qj_nat, true_and, and_true, true_implies, false_implies, not_true_eq_false, not_false_eq_true, Bool.true_eq_false, Bool.false_eq_true, f2, s7, qj_add, qmin_z, em]
      refine ⟨_, b1, ?_⟩
      simp (disch := omega) only [e7]
      exact hQ
    · rw [if_neg h2]
      refine qCW_1 fun Q hQ => b104_0 hf rfl (by omega) ?_
      simp (disch := omega) only [qz0, qj_lt, qj_le, qj_eq, qtk, qfk, qbtt, qbft, qbtf, qbff, qIx_z, qj_nat, true_and, and_true, true_implies, false_implies, not_true_eq_false, not_false_eq_true, Bool.true_eq_false, Bool.false_eq_true, f2]
      exact qrfu hQ (fun c => qrfu hQ (fun c => by omega))
  · rw [if_neg h]
    refine qCW_0 fun Q hQ => b104_0 hf rfl (by omega) ?_
    simp (disch := omega) only [qz0, qj_lt, qj_le, f2]
    exact qrfu hQ (fun c => qrfu hQ (fun c => by omega))
theorem f105 (hd : 9 ≤ d) (X : qAbs F L B S S0 Im C T) (H : qCls g I F L B S S0 Im C T P) {z v w : Int} (hz : -2147483648 ≤ z ∧ z < 2147483648) (hv : -2147483648 ≤ v ∧ v < 2147483648) (hw : -2147483648 ≤ w ∧ w < 2147483648) : qCW d 105 [.ref 64, .int (qj z), .int (qj v), .int (qj w)] g I F L B T P (rGiv F S S0 Im C z v w) := by
  have W := X.1
  have WS := X.2.2.2.1.1
  have hy : S.1 0 0 ≤ 1000 := Nat.le_trans X.2.2.2.1.2.1 (by decide)
  have h9 := W.1
  have h8 := W.2.1
  have w3 := W.2.2.1
  have hf := H.1.1
  have hl := H.1.2.2.2.1
  have hb := H.1.2.2.2.2.2.2.1
  have RF := H.2.1
  have RS := H.2.2.2.2.1
  have hs9 : qisS 139 := by unfold qisS; omega
  have hC := H.2.2.2.2.2.2.2.2.2.2.2.2.2.2.1
  unfold rGiv
  have f1 := RF.1
  have f2 := RF.2.1
  have c1 := X.2.2.2.2.2.2.2.1
  by_cases h : (0 ≤ z ∧ z < F.1 0 1) ∧ (0 ≤ v ∧ v < F.1 0 0) ∧ 0 ≤ w ∧ w < F.1 0 0
  · rw [if_pos h]
    obtain ⟨p, rfl⟩ : ∃ n : Nat, z = n := ⟨z.toNat, by omega⟩
    obtain ⟨h', rfl⟩ : ∃ m : Nat, v = m := ⟨v.toNat, by omega⟩
    obtain ⟨k, rfl⟩ : ∃ m : Nat, w = m := ⟨w.toNat, by omega⟩
    rw [Int.toNat_natCast, Int.toNat_natCast, Int.toNat_natCast]
    have s4 := (qNow RS).2.2.2.1 h' (by omega)
    have k62 := c62 (d := d - 1) (g := g) (by omega) hs9 hf RF W RS hy (h := k) (p := p) (by omega) (by omega)
    cases hwk : S.2.1 h' p with
    | false =>
      rw [if_neg (fun q => Bool.noConfusion q.1)]
      refine qCW_inl I (fun Q hQ => b105_0 hf rfl (by omega) ?_) H (fun _ _ => rfl)
      simp (disch := omega) only [qz0, qj_lt, qj_le, qj_eq, qtk, qfk, qbtt, qbft, qbtf, qbff, qIx_z, qj_nat, true_and, and_true, true_implies, false_implies, not_true_eq_false, not_false_eq_true, Bool.true_eq_false, Bool.false_eq_true, f1, f2, s4, qhas_bm, hwk]
      exact hQ
    | true =>
      cases hcn : aCan F S k p with
      | false =>
        rw [hcn] at k62
        rw [if_neg (fun q => Bool.noConfusion q.2)]
        refine qCW_inl I (fun Q hQ => b105_0 hf rfl (by omega) ?_) H (fun _ _ => rfl)
        simp (disch := omega) only [qz0, qj_lt, qj_le, qj_eq, qtk, qfk, qbtt, qbft, qbtf, qbff, qIx_z, qj_nat, true_and, and_true, true_implies, false_implies, not_true_eq_false, not_false_eq_true, Bool.true_eq_false, Bool.false_eq_true, f1, f2, s4, qhas_bm, hwk]
        refine ⟨_, _, k62, ?_⟩
        simp (disch := omega) only [qz0, qj_lt, qj_le, qj_eq, qtk, qfk, qbtt, qbft, qbtf, qbff, qIx_z, qj_nat, true_and, and_true, true_implies, false_implies, not_true_eq_false, not_false_eq_true, Bool.true_eq_false, Bool.false_eq_true]
        exact hQ
      | true =>
        rw [hcn] at k62
        rw [if_pos ⟨rfl, rfl⟩]
        obtain ⟨J1, a1, a2, a3⟩ := c65 (d := d - 1) (g := g) (h := h') (p := p) (by omega) hs9 RS (by omega) (by omega)
        obtain ⟨J2, b1, b2, b3⟩ := c64 (d := d - 1) (g := g) (h := k) (p := p) (by omega) hs9 a2 (by omega) (by omega)
        obtain ⟨J3, d1, d2, d3, d4, d5⟩ := c147 (d := d - 1) (g := g) (by omega) W b2
        have hJ3 := qFw_tr (qFw_tr (qFw_a (g := g) (Or.inl rfl) a3) (qFw_a (Or.inl rfl) b3)) d5
        refine qCW_inl J3 (fun Q hQ => b105_0 hf rfl (by omega) ?_) (qCls_w H c1 hJ3 d2 d3 d4) (qFw_245 H.1 hJ3)
        simp (disch := omega) only [qz0, qj_lt, qj_le, qj_eq, qtk, qfk, qbtt, qbft, qbtf, qbff, qIx_z, qj_nat, true_and, and_true, true_implies, false_implies, not_true_eq_false, not_false_eq_true, Bool.true_eq_false, Bool.false_eq_true, f1, f2, s4, qhas_bm, hwk]
        refine ⟨_, _, k62, ?_⟩
        simp (disch := omega) only [qz0, qj_lt, qj_le, qj_eq, qtk, qfk, qbtt, qbft, qbtf, qbff, qIx_z, qj_nat, true_and, and_true, true_implies, false_implies, not_true_eq_false, not_false_eq_true, Bool.true_eq_false, Bool.false_eq_true]
        exact ⟨_, a1, _, b1, _, d1, hQ⟩
  · rw [if_neg h]
    refine qCW_0 fun Q hQ => b105_0 hf rfl (by omega) ?_
    simp (disch := omega) only [qz0, qj_lt, qj_le, f1, f2]
    exact qrfu hQ (fun c => qrfu hQ (fun c => qrfu hQ (fun c => qrfu hQ (fun c => qrfu hQ (fun c => qrfu hQ (fun c => by omega))))))
theorem qPf_im {W : Nat → Nat} {k : Nat} (hk : k < 3) : qPf W 187 k = 188 + 16 * k := by
  have : k = 0 ∨ k = 1 ∨ k = 2 := by omega
  rcases this with rfl | rfl | rfl <;> rfl
theorem qisS_im {k : Nat} (hk : k < 3) : qisS (188 + 16 * k) := by unfold qisS; omega
theorem f136 (hd : 2 ≤ d) (X : qAbs F L B S S0 Im C T) (H : qCls g I F L B S S0 Im C T P) : qCW d 136 [.ref 64] g I F L B T P (rImg S S0 Im C) := by
  have W := X.1
  have WS := X.2.2.2.1.1
  have hy : S.1 0 0 ≤ 1000 := Nat.le_trans X.2.2.2.1.2.1 (by decide)
  have h9 := W.1
  have h8 := W.2.1
  have w3 := W.2.2.1
  have hf := H.1.1
  have hl := H.1.2.2.2.1
  have hb := H.1.2.2.2.2.2.2.1
  have RF := H.2.1
  have RS := H.2.2.2.2.1
  have hs9 : qisS 139 := by unfold qisS; omega
  have hC := H.2.2.2.2.2.2.2.2.2.2.2.2.2.2.1
  unfold rImg
  have c1 := X.2.2.2.2.2.2.2.1
  have e12 := H.2.2.2.2.2.2.2.2.1
  by_cases h : C 1 < 3
  · rw [if_pos h]
    obtain ⟨J, k1, k2, k3⟩ := c53 (d := d - 1) (g := g) (by omega) (qisS_im h) hs9 (by omega) W RS
    have e12' : J 64 12 = qj ((C 1 : Nat) : Int) := by rw [k3 64 (by omega)]; exact e12
    have hfr : ∀ a, ¬ a = 64 → (a < 188 + 16 * C 1 ∨ 188 + 16 * C 1 + 16 ≤ a) → qup J 64 12 (qj ((C 1 + 1 : Nat) : Int)) a = I a := fun a p q => by rw [qup_ne p]; exact k3 a q
    have hf64 : ∀ j, ¬ j = 12 → qup J 64 12 (qj ((C 1 + 1 : Nat) : Int)) 64 j = I 64 j := fun j p => by rw [qup_at, if_neg p, k3 64 (by omega)]
    obtain ⟨b1, b2, b3⟩ := qWo_b H.1
    obtain ⟨h1, h2, h3, h4, h5, h6, h7, h8', h9', h10, h11, h12, h13, h14, h15⟩ := H
    refine qCW_inl (qup J 64 12 (qj ((C 1 + 1 : Nat) : Int))) (fun Q hQ => b136_0 (by omega) ?_) ⟨h1, qRF_cg h2 (fun a p q => hfr a (by omega) (by omega)), qRL_cg h3 (fun a p q => hfr a (by omega) (by omega)), qRB_cg h4 (fun a p q => hfr a (by omega) (by omega)), qRS_cg h5 (fun a p q => hfr a (by omega) (by omega)), qRS_cg h6 (fun a p q => hfr a (by omega) (by omega)), fun k hk => ?_, (hf64 9 (by omega)).trans h8', by rw [qup_at, if_pos rfl]; rfl, (hf64 16 (by omega)).trans h10, (hf64 17 (by omega)).trans h11, by rw [hfr 65 (by omega) (by omega)]; exact h12, by rw [hfr 66 (by omega) (by omega)]; exact h13, by rw [hfr 65 (by omega) (by omega)]; exact h14, qCon_cg h15 (fun a p => hfr a (by omega) (by omega))⟩ (fun a p => hfr a (by omega) (by omega))
    · simp (disch := omega) only [qz0, qj_lt, qj_le, qj_eq, qtk, qfk, qbtt, qbft, qbtf, qbff, qIx_z, qj_nat, true_and, and_true, true_implies, false_implies, not_true_eq_false, not_false_eq_true, Bool.true_eq_false, Bool.false_eq_true, e12, qPf_im]
      refine ⟨qisS_im h, _, k1, ?_⟩
      simp (disch := omega) only [e12', qj_add, qj_s1]
      exact hQ
    · have hk : k < C 1 + 1 := hk
      unfold iup
      by_cases e : k = C 1
      · rw [if_pos e, e]
        exact qRS_cg k2 (fun a p q => qup_ne (by omega))
      · rw [if_neg e]
        exact qRS_cg (h7 k (by omega)) (fun a p q => hfr a (by omega) (by omega))
  · rw [if_neg h]
    refine qCW_inl I (fun Q hQ => b136_0 (by omega) ?_) H (fun _ _ => rfl)
    simp (disch := omega) only [qz0, qj_lt, qj_le, qj_eq, qtk, qfk, qbtt, qbft, qbtf, qbff, qIx_z, qj_nat, true_and, and_true, true_implies, false_implies, not_true_eq_false, not_false_eq_true, Bool.true_eq_false, Bool.false_eq_true, e12]
    exact hQ
theorem f137 (hd : 3 ≤ d) (X : qAbs F L B S S0 Im C T) (H : qCls g I F L B S S0 Im C T P) : qCW d 137 [.ref 64] g I F L B T P (rRes S S0 Im C) := by
  have W := X.1
  have WS := X.2.2.2.1.1
  have hy : S.1 0 0 ≤ 1000 := Nat.le_trans X.2.2.2.1.2.1 (by decide)
  have h9 := W.1
  have h8 := W.2.1
  have w3 := W.2.2.1
  have hf := H.1.1
  have hl := H.1.2.2.2.1
  have hb := H.1.2.2.2.2.2.2.1
  have RF := H.2.1
  have RS := H.2.2.2.2.1
  have hs9 : qisS 139 := by unfold qisS; omega
  have hC := H.2.2.2.2.2.2.2.2.2.2.2.2.2.2.1
  unfold rRes
  have c1 := X.2.2.2.2.2.2.2.1
  have e12 := H.2.2.2.2.2.2.2.2.1
  by_cases h : C 1 = 0
  · rw [if_pos h]
    refine qCW_inl I (fun Q hQ => b137_0 (by omega) ?_) H (fun _ _ => rfl)
    simp (disch := omega) only [qz0, qj_lt, qj_le, qj_eq, qtk, qfk, qbtt, qbft, qbtf, qbff, qIx_z, qj_nat, true_and, and_true, true_implies, false_implies, not_true_eq_false, not_false_eq_true, Bool.true_eq_false, Bool.false_eq_true, e12]
    exact hQ
  · rw [if_neg h]
    have hk : C 1 - 1 < 3 := by omega
    have es : qj ((C 1 : Nat) : Int) - qj 1 = qj ((C 1 - 1 : Nat) : Int) := by rw [qj_sub]; congr 1; omega
    have RI := H.2.2.2.2.2.2.1 (C 1 - 1) (by omega)
    obtain ⟨J, k1, k2, k3⟩ := c53 (d := d - 1) (g := g) (I := qup I 64 12 (qj ((C 1 - 1 : Nat) : Int))) (by omega) hs9 (qisS_im hk) (by omega) W (qRS_cg RI (fun a p q => qup_ne (by omega)))
    obtain ⟨J2, d1, d2, d3, d4, d5⟩ := c147 (d := d - 1) (g := g) (by omega) W k2
    have H0 : qCls g (qup I 64 12 (qj ((C 1 - 1 : Nat) : Int))) F L B S S0 Im (iup C 1 (C 1 - 1)) T P := by
      obtain ⟨b1, b2, b3⟩ := qWo_b H.1
      obtain ⟨h1, h2, h3, h4, h5, h6, h7, h8', h9', h10, h11, h12, h13, h14, h15⟩ := H
      have hfr : ∀ a, ¬ a = 64 → qup I 64 12 (qj ((C 1 - 1 : Nat) : Int)) a = I a := fun a p => qup_ne p
      have hf64 : ∀ j, ¬ j = 12 → qup I 64 12 (qj ((C 1 - 1 : Nat) : Int)) 64 j = I 64 j := fun j p => by rw [qup_at, if_neg p]
      refine ⟨h1, qRF_cg h2 (fun a p q => hfr a (by omega)), qRL_cg h3 (fun a p q => hfr a (by omega)), qRB_cg h4 (fun a p q => hfr a (by omega)), qRS_cg h5 (fun a p q => hfr a (by omega)), qRS_cg h6 (fun a p q => hfr a (by omega)), fun k hk2 => ?_, (hf64 9 (by omega)).trans h8', by rw [qup_at, if_pos rfl]; rfl, (hf64 16 (by omega)).trans h10, (hf64 17 (by omega)).trans h11, by rw [hfr 65 (by omega)]; exact h12, by rw [hfr 66 (by omega)]; exact h13, by rw [hfr 65 (by omega)]; exact h14, qCon_cg h15 (fun a p => hfr a (by omega))⟩
      have hk2 : k < C 1 - 1 := hk2
      exact qRS_cg (h7 k (by omega)) (fun a p q => hfr a (by omega))
    have hJ2 : qFw g (qup I 64 12 (qj ((C 1 - 1 : Nat) : Int))) J2 := qFw_tr (qFw_a (Or.inl rfl) k3) d5
    have c1' : (iup C 1 (C 1 - 1)) 1 ≤ 3 := by show C 1 - 1 ≤ 3; omega
    refine qCW_inl J2 (fun Q hQ => b137_0 (by omega) ?_) (qCls_w H0 c1' hJ2 d2 d3 d4) (fun a p => by rw [qFw_245 H.1 hJ2 a p, qup_ne (by omega)])
    have e12' : J2 64 12 = qj ((C 1 - 1 : Nat) : Int) := by rw [hJ2.2 12 (by omega), qup_at, if_pos rfl]
    simp (disch := omega) only [qz0, qj_lt, qj_le, qj_eq, qtk, qfk, qbtt, qbft, qbtf, qbff, qIx_z, qj_nat, true_and, and_true, true_implies, false_implies, not_true_eq_false, not_false_eq_true, Bool.true_eq_false, Bool.false_eq_true, e12, es, qPf_im]
    refine ⟨_, k1, _, d1, ?_⟩
    simp (disch := omega) only [e12']
    exact hQ
end WRT1
