/-! ===== the whole object: as both hold it ===== -/
/-- lines; 0 years, 1 puppets, 2 hands -/
abbrev qBk : Type := Nat × (Nat → Nat → Nat)
def qSok (F : qFam) (S : qSt) : Prop := qWS F S ∧ S.1 0 0 ≤ 200 ∧ ∀ h, h < F.1 0 0 → S.1 1 h = F.1 1 h
/-- counters: 0 years to undo, 1 images, 2 and 3 refusals, 4 bytes of the tape -/
def qAbs (F : qFam) (L : qLw) (B : qBk) (S S0 : qSt) (Im : Nat → qSt) (C T : Nat → Nat) : Prop :=
  qWF F ∧ qWL L ∧ (B.1 ≤ 12 ∧ ∀ k, k < B.1 → 1 ≤ B.2 0 k ∧ B.2 0 k ≤ 60 ∧ B.2 1 k < F.1 0 1 ∧ B.2 2 k < F.1 0 0) ∧ qSok F S ∧ qSok F S0 ∧ (∀ k, k < C 1 → qSok F (Im k)) ∧
  S0.1 0 0 + C 0 ≤ 200 ∧ C 1 ≤ 3 ∧ C 4 ≤ 600 ∧ ∀ j, j < C 4 → T j < 256
/-- the class' six references -/
def qWo (W : Nat → Nat) : Prop := qisF (W 1) ∧ qisF (W 2) ∧ ¬ W 1 = W 2 ∧ qisL (W 3) ∧ qisL (W 4) ∧ ¬ W 3 = W 4 ∧ qisB (W 5) ∧ qisB (W 6) ∧ ¬ W 5 = W 6
def qRB (B : qBk) (I : Nat → Nat → Int32) (b : Nat) : Prop := I b 0 = qj (B.1 : Int) ∧ ∀ k, k < B.1 → I (b + 1) k = qj (B.2 0 k : Int) ∧ I (b + 2) k = qj (B.2 1 k : Int) ∧ I (b + 3) k = qj (B.2 2 k : Int)
def qMB (B : qBk) (I : Nat → Nat → Int32) : Prop := I 245 41 = qj (B.1 : Int) ∧ ∀ k, k < B.1 → I (650 + 1 + k) 0 = qj (B.2 0 k : Int) ∧ I (650 + 1 + k) 1 = qj (B.2 1 k : Int) ∧ I (650 + 1 + k) 2 = qj (B.2 2 k : Int)
/-- constants of the class: rows of sets, the law without one, the texts' bytes -/
def qCon (I : Nat → Nat → Int32) : Prop := qCst I ∧ (∀ j, j < 9 → I 2 j = qj (qL0.2 j : Int)) ∧ (∀ n j, n < 20 → j < (qsb n).length → I (30 + n) j = (qsb n).getD j 0) ∧ ∀ n, n < 20 → I (10 + n) 1 = qj 0
def qCls (g : qG1) (I : Nat → Nat → Int32) (F : qFam) (L : qLw) (B : qBk) (S S0 : qSt) (Im : Nat → qSt) (C T : Nat → Nat) (P : Int) : Prop :=
  qWo g.2.2.1 ∧ qRF F I (g.2.2.1 1) ∧ qRL L I (g.2.2.1 3) ∧ qRB B I (g.2.2.1 5) ∧ qRS F I 139 S ∧ qRS F I 155 S0 ∧ (∀ k, k < C 1 → qRS F I (188 + 16 * k) (Im k)) ∧
  I 64 9 = qj (C 0 : Int) ∧ I 64 12 = qj (C 1 : Int) ∧ I 64 16 = qj (C 2 : Int) ∧ I 64 17 = qj (C 3 : Int) ∧ I 65 1 = qj (C 4 : Int) ∧ (∀ j, j < C 4 → I 66 j = qj (T j : Int)) ∧ I 65 5 = qj P ∧ qCon I
def qMdl (I : Nat → Nat → Int32) (F : qFam) (L : qLw) (B : qBk) (S S0 : qSt) (Im : Nat → qSt) (C T : Nat → Nat) (P : Int) : Prop :=
  qMF F I ∧ qMl F I (aTold F) ∧ qML L I ∧ qMB B I ∧ qMS F I 682 S ∧ qMS F I 683 S0 ∧ qMS F I 684 (aTold F) ∧ (∀ k, k < C 1 → qMS F I (677 + k) (Im k)) ∧
  I 245 42 = qj (C 0 : Int) ∧ I 245 43 = qj (C 1 : Int) ∧ I 247 0 = qj (C 2 : Int) ∧ I 247 1 = qj (C 3 : Int) ∧ I 245 1 = qj (C 4 : Int) ∧ (∀ j, j < C 4 → I 246 j = qj (T j : Int)) ∧ I 245 3 = qj P ∧ I 245 45 = qj 0
/-- what a question may write -/
def qFq (g : qG1) (I J : Nat → Nat → Int32) : Prop := ∀ a, ¬ (171 ≤ a ∧ a < 187) → ¬ (236 ≤ a ∧ a ≤ 244) → ¬ a = g.2.2.1 3 + 2 → J a = I a
def qFp (I J : Nat → Nat → Int32) : Prop := (∀ a, ¬ a = 245 → ¬ a = 680 → ¬ a = 681 → ¬ (685 ≤ a ∧ a ≤ 693) → J a = I a) ∧ ∀ j, ¬ j = 0 → ¬ j = 44 → ¬ j = 51 → ¬ j = 52 → ¬ j = 53 → J 245 j = I 245 j
theorem qFq_rf {g : qG1} {I : Nat → Nat → Int32} : qFq g I I := fun _ _ _ _ => rfl
theorem qFq_tr {g : qG1} {I J K : Nat → Nat → Int32} (h : qFq g I J) (h2 : qFq g J K) : qFq g I K := fun a p q r => (h2 a p q r).trans (h a p q r)
theorem qFp_rf {I : Nat → Nat → Int32} : qFp I I := ⟨fun _ _ _ _ _ => rfl, fun _ _ _ _ _ _ => rfl⟩
theorem qFp_tr {I J K : Nat → Nat → Int32} (h : qFp I J) (h2 : qFp J K) : qFp I K := ⟨fun a p q r t => (h2.1 a p q r t).trans (h.1 a p q r t), fun j p q r t u => (h2.2 j p q r t u).trans (h.2 j p q r t u)⟩
theorem qFq_c {g : qG1} {I J : Nat → Nat → Int32} (h : qFc I J) : qFq g I J := fun a p q r => h a (by omega)
theorem qFq_n {g : qG1} {I J : Nat → Nat → Int32} (h : ∀ a, ¬ a = 243 → J a = I a) : qFq g I J := fun a p q r => h a (by omega)
theorem qFq_l {g : qG1} {I J : Nat → Nat → Int32} (h : ∀ a, ¬ a = g.2.2.1 3 + 2 → J a = I a) : qFq g I J := fun a p q r => h a r
theorem qFq_s {g : qG1} {I J : Nat → Nat → Int32} (h : qFr 171 (g.2.2.1 3) I J) : qFq g I J := fun a p q r => h a (by omega) r
theorem qFq_a {g : qG1} {I J : Nat → Nat → Int32} (h : ∀ a, (a < 171 ∨ 187 ≤ a) → J a = I a) : qFq g I J := fun a p q r => h a (by omega)
theorem qFp_k {I J : Nat → Nat → Int32} (h : qFk I J) : qFp I J := ⟨fun a p q r t => h.1 a p (by omega), fun j p q r t u => h.2 j r t u⟩
theorem qFp_n {I J : Nat → Nat → Int32} (h : ∀ a, ¬ a = 693 → J a = I a) : qFp I J := ⟨fun a p q r t => h a (by omega), fun j _ _ _ _ _ => by rw [h 245 (by omega)]⟩
theorem qFp_s {I J : Nat → Nat → Int32} (h : qFs I J) : qFp I J := ⟨fun a p q r t => h a q r, fun j _ _ _ _ _ => by rw [h 245 (by omega) (by omega)]⟩
theorem qFp_m {r : Nat} {I J : Nat → Nat → Int32} (hr : r = 685 ∨ r = 686) (h : qFm r I J) : qFp I J := ⟨fun a p q r' t => h.1 a (by omega) q r' p, fun j _ q _ _ _ => h.2 j q⟩
theorem qFp_r {r : Nat} {I J : Nat → Nat → Int32} (hr : r = 685 ∨ r = 686) (h : ∀ a, ¬ a = r → J a = I a) : qFp I J := ⟨fun a p q r' t => h a (by omega), fun j _ q _ _ _ => by rw [h 245 (by omega)]⟩
theorem qFp_0 {I : Nat → Nat → Int32} {v : Int32} : qFp I (qup I 245 0 v) := ⟨fun a p _ _ _ => qup_ne p, fun j p _ _ _ _ => by rw [qup_at, if_neg p]⟩
theorem qRB_cg {B : qBk} {I J : Nat → Nat → Int32} {b : Nat} (h : qRB B I b) (e : ∀ a, b ≤ a → a < b + 4 → J a = I a) : qRB B J b := by
  obtain ⟨h1, h2⟩ := h
  refine ⟨by rw [e b (by omega) (by omega)]; exact h1, fun k hk => ?_⟩
  rw [e (b + 1) (by omega) (by omega), e (b + 2) (by omega) (by omega), e (b + 3) (by omega) (by omega)]
  exact h2 k hk
theorem qCon_cg {I J : Nat → Nat → Int32} (h : qCon I) (e : ∀ a, a < 64 → J a = I a) : qCon J :=
  ⟨qCst_cg h.1 (fun a ha => e a (by omega)), fun j hj => by rw [e 2 (by omega)]; exact h.2.1 j hj, fun n j hn hj => by rw [e _ (by omega)]; exact h.2.2.1 n j hn hj, fun n hn => by rw [e _ (by omega)]; exact h.2.2.2 n hn⟩
theorem qWo_b {W : Nat → Nat} (h : qWo W) : (W 1 = 67 ∨ W 1 = 96) ∧ (W 3 = 125 ∨ W 3 = 128) ∧ (W 5 = 131 ∨ W 5 = 135) := ⟨h.1, h.2.2.2.1, h.2.2.2.2.2.2.1⟩
theorem qCls_q {g : qG1} {I J : Nat → Nat → Int32} {F : qFam} {L : qLw} {B : qBk} {S S0 : qSt} {Im : Nat → qSt} {C T : Nat → Nat} {P : Int} (h : qCls g I F L B S S0 Im C T P) (c1 : C 1 ≤ 3) (e : qFq g I J) : qCls g J F L B S S0 Im C T P := by
  obtain ⟨h1, h2, h3, h4, h5, h6, h7, h8, h9, h10, h11, h12, h13, h14, h15⟩ := h
  obtain ⟨b1, b2, b3⟩ := qWo_b h1
  refine ⟨h1, qRF_cg h2 (fun a p q => e a (by omega) (by omega) (by omega)), qRL_cg h3 (fun a p q => e a (by omega) (by omega) (by omega)), qRB_cg h4 (fun a p q => e a (by omega) (by omega) (by omega)), qRS_cg h5 (fun a p q => e a (by omega) (by omega) (by omega)), qRS_cg h6 (fun a p q => e a (by omega) (by omega) (by omega)), fun k hk => qRS_cg (h7 k hk) (fun a p q => e a (by omega) (by omega) (by omega)), ?_, ?_, ?_, ?_, ?_, ?_, ?_, qCon_cg h15 (fun a p => e a (by omega) (by omega) (by omega))⟩
  · rw [e 64 (by omega) (by omega) (by omega)]; exact h8
  · rw [e 64 (by omega) (by omega) (by omega)]; exact h9
  · rw [e 64 (by omega) (by omega) (by omega)]; exact h10
  · rw [e 64 (by omega) (by omega) (by omega)]; exact h11
  · rw [e 65 (by omega) (by omega) (by omega)]; exact h12
  · rw [e 66 (by omega) (by omega) (by omega)]; exact h13
  · rw [e 65 (by omega) (by omega) (by omega)]; exact h14
theorem qMB_cg {B : qBk} {I J : Nat → Nat → Int32} (h : qMB B I) (hB : B.1 ≤ 12) (e1 : J 245 41 = I 245 41) (e : ∀ a, 650 < a → a < 663 → J a = I a) : qMB B J := by
  obtain ⟨h1, h2⟩ := h
  refine ⟨by rw [e1]; exact h1, fun k hk => ?_⟩
  rw [e _ (by omega) (by omega)]; exact h2 k hk
theorem qMdl_q {I J : Nat → Nat → Int32} {F : qFam} {L : qLw} {B : qBk} {S S0 : qSt} {Im : Nat → qSt} {C T : Nat → Nat} {P : Int} (h : qMdl I F L B S S0 Im C T P) (X : qAbs F L B S S0 Im C T) (e : qFp I J) : qMdl J F L B S S0 Im C T P := by
  obtain ⟨h1, h2, h3, h4, h5, h6, h7, h8, h9, h10, h11, h12, h13, h14, h15, h16⟩ := h
  have W := X.1
  have WL := X.2.1
  have c1 := X.2.2.2.2.2.2.2.1
  refine ⟨qMF_cg h1 (fun a p q => e.1 a (by
      by_cases e245 : a = 245
      · omega
      · exact e245) (by omega) (by omega) (by omega)) W, qMl_cg h2 (fun a p q => e.1 a (by omega) (by omega) (by omega) (by omega)) W, qML_cg h3 WL (e.2 27 (by omega) (by omega) (by omega) (by omega) (by omega)) (fun a p q => e.1 a (by omega) (by omega) (by omega) (by omega)), qMB_cg h4 X.2.2.1.1 (e.2 41 (by omega) (by omega) (by omega) (by omega) (by omega)) (fun a p q => e.1 a (by omega) (by omega) (by omega) (by omega)), qMS_cg h5 (e.1 682 (by omega) (by omega) (by omega) (by omega)), qMS_cg h6 (e.1 683 (by omega) (by omega) (by omega) (by omega)), qMS_cg h7 (e.1 684 (by omega) (by omega) (by omega) (by omega)), fun k hk => qMS_cg (h8 k hk) (e.1 _ (by omega) (by omega) (by omega) (by omega)), ?_, ?_, ?_, ?_, ?_, ?_, ?_, ?_⟩
  · rw [e.2 42 (by omega) (by omega) (by omega) (by omega) (by omega)]; exact h9
  · rw [e.2 43 (by omega) (by omega) (by omega) (by omega) (by omega)]; exact h10
  · rw [e.1 247 (by omega) (by omega) (by omega) (by omega)]; exact h11
  · rw [e.1 247 (by omega) (by omega) (by omega) (by omega)]; exact h12
  · rw [e.2 1 (by omega) (by omega) (by omega) (by omega) (by omega)]; exact h13
  · rw [e.1 246 (by omega) (by omega) (by omega) (by omega)]; exact h14
  · rw [e.2 3 (by omega) (by omega) (by omega) (by omega) (by omega)]; exact h15
  · rw [e.2 45 (by omega) (by omega) (by omega) (by omega) (by omega)]; exact h16
/-! branches that are decided -/
theorem qtk {P X Y : Prop} (h : P) : ((P → X) ∧ (¬ P → Y)) ↔ X := ⟨fun q => q.1 h, fun q => ⟨fun _ => q, fun n => absurd h n⟩⟩
theorem qfk {P X Y : Prop} (h : ¬ P) : ((P → X) ∧ (¬ P → Y)) ↔ Y := ⟨fun q => q.2 h, fun q => ⟨fun n => absurd n h, fun _ => q⟩⟩
theorem qbtt {X Y : Prop} : (((true : Bool) = true → X) ∧ ((true : Bool) = false → Y)) ↔ X := ⟨fun q => q.1 rfl, fun q => ⟨fun _ => q, fun n => Bool.noConfusion n⟩⟩
theorem qbft {X Y : Prop} : (((false : Bool) = true → X) ∧ ((false : Bool) = false → Y)) ↔ Y := ⟨fun q => q.2 rfl, fun q => ⟨fun n => Bool.noConfusion n, fun _ => q⟩⟩
theorem qbtf {X Y : Prop} : (((true : Bool) = false → X) ∧ ((true : Bool) = true → Y)) ↔ Y := ⟨fun q => q.2 rfl, fun q => ⟨fun n => Bool.noConfusion n, fun _ => q⟩⟩
theorem qbff {X Y : Prop} : (((false : Bool) = false → X) ∧ ((false : Bool) = true → Y)) ↔ X := ⟨fun q => q.1 rfl, fun q => ⟨fun _ => q, fun n => Bool.noConfusion n⟩⟩
theorem qinB_t {v a b : Int} (h : a ≤ v) (h' : v ≤ b) (h3 : -2147483648 ≤ a) (h6 : b < 2147483648) : qinB (qj v) (qj a) (qj b) = true := by
  rw [qinB_z (by omega) (by omega) (by omega) (by omega) (by omega) (by omega), decide_eq_true h, decide_eq_true h']; rfl
theorem qinB_f {v a b : Int} (h : v < a ∨ b < v) (h1 : -2147483648 ≤ v) (h2 : v < 2147483648) (h3 : -2147483648 ≤ a) (h4 : a < 2147483648) (h5 : -2147483648 ≤ b) (h6 : b < 2147483648) : qinB (qj v) (qj a) (qj b) = false := by
  rw [qinB_z h1 h2 h3 h4 h5 h6]
  rcases h with h | h
  · rw [decide_eq_false (by omega)]; rfl
  · rw [decide_eq_false (p := v ≤ b) (by omega), Bool.and_false]
/-- every int has its number -/
theorem qj_ex (x : Int32) : ∃ z : Int, x = qj z ∧ -2147483648 ≤ z ∧ z < 2147483648 := ⟨x.toInt, (qj_of x).symm, Int32.le_toInt x, Int32.toInt_lt x⟩
section BAD
variable {d : Nat} {g : qG1} {I : Nat → Nat → Int32}
/-- bad, where nothing is bad, or is already -/
theorem m167f (hd : 1 ≤ d) (h0 : I 245 0 = qj 0) (w r : Int32) : qRun d 167 [.ref 245, .int (qj 0), .int w, .int r] (qw g I) (.inl (some (.int (qb false)), qw g I)) := by
  refine qRun_of fun Q hQ => b167_0 (by omega) ?_
  simp only [h0, qz0]
  exact ⟨fun _ => ⟨fun _ => hQ, fun c => absurd trivial c⟩, fun c => absurd trivial c⟩
theorem m167t (hd : 1 ≤ d) (h0 : I 245 0 = qj 0) {w r : Nat} (hw : 1 ≤ w) (hw2 : w ≤ 2) (hr : r < 2) {n : Nat} (h1 : I 247 r = qj n) :
    qRun d 167 [.ref 245, .int (qj 1), .int (qj w), .int (qj r)] (qw g I) (.inl (some (.int (qb true)), qw g (qup (qup I 245 0 (qj w)) 247 r (qj ((n + 1 : Nat) : Int))))) := by
  refine qRun_of fun Q hQ => b167_0 (by omega) ?_
  simp (disch := omega) only [h0, qz0, qj_eq, qIx_z, qj_nat, h1, qj_add, qj_s1, true_and]
  exact ⟨fun c => by omega, fun _ => ⟨fun c => absurd trivial c, fun _ => ⟨fun c => by omega, fun _ => hQ⟩⟩⟩
end BAD
