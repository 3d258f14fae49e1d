/-! ===== both hold one object: what a call of each leaves ===== -/
def qOB (g : qG1) (I : Nat → Nat → Int32) (F : qFam) (L : qLw) (B : qBk) (S S0 : qSt) (Im : Nat → qSt) (C T : Nat → Nat) (P : Int) : Prop :=
  qAbs F L B S S0 Im C T ∧ qCls g I F L B S S0 Im C T P ∧ qMdl I F L B S S0 Im C T P ∧ S.1 0 0 = S0.1 0 0 + C 0
def qObj (g : qG1) (I : Nat → Nat → Int32) : Prop := ∃ (F : qFam) (L : qLw) (B : qBk) (S S0 : qSt) (Im : Nat → qSt) (C T : Nat → Nat) (P : Int), qOB g I F L B S S0 Im C T P
theorem qObj_l {g g' : qG1} {I : Nat → Nat → Int32} (h : qObj g I) (e : g'.2.2.1 = g.2.2.1) : qObj g' I := by
  obtain ⟨F, L, B, S, S0, Im, C, T, P, X, H, K, Y⟩ := h
  refine ⟨F, L, B, S, S0, Im, C, T, P, X, ?_, K, Y⟩
  unfold qCls at H ⊢
  rw [e]; exact H
/-- both called, one behind the other -/
def qBo (dc dm kc km c : Nat) (A : Nat → Prop) (V : Int32 → Prop) (zs : List Value) (g : qG1) (I : Nat → Nat → Int32) : Prop :=
  (∃ (v : Int32) (g1 : qG1) (I1 : Nat → Nat → Int32), V v ∧ qRun dc kc (.ref 64 :: zs) (qw g I) (.inl (some (.int v), qw g1 I1)) ∧ (g1.1 = g.1 ∧ g1.2.1 = g.2.1 ∧ I1 1 = I 1) ∧
    ∀ l : Nat → Nat → Int64, ∃ I2, qRun dm km (.ref 245 :: zs) (qw (g1.1, g1.2.1, g1.2.2.1, l) I1) (.inl (some (.int v), qw (g1.1, g1.2.1, g1.2.2.1, l) I2)) ∧ I2 1 = I 1 ∧ I2 245 0 = qj 0 ∧ qObj g1 I2) ∨
  ∃ (e : Nat) (I1 I2 : Nat → Nat → Int32), A e ∧ qRun dc kc (.ref 64 :: zs) (qw g I) (.inr (e, qw (qgT g) I1)) ∧ I1 1 = I 1 ∧
    qRun dm km (.ref 245 :: zs) (qw (qgT g) I1) (.inl (some (.int (qj 0)), qw (qgT g) I2)) ∧ I2 1 = I 1 ∧ I2 245 0 = qj ((if e = 0 then 1 else c : Nat) : Int) ∧ qObj g I2
section JOIN
variable {dc dm kc km c : Nat} {A : Nat → Prop} {V : Int32 → Prop} {zs : List Value} {g : qG1} {I J : Nat → Nat → Int32} {F : qFam} {L : qLw} {B : qBk} {S S0 : qSt} {Im : Nat → qSt} {C T : Nat → Nat} {P : Int}
theorem qMdl_hi (K : qMdl I F L B S S0 Im C T P) (X : qAbs F L B S S0 Im C T) (e : ∀ a, 245 ≤ a → J a = I a) : qMdl J F L B S S0 Im C T P := by
  obtain ⟨h1, h2, h3, h4, h5, h6, h7, h8, h9, h10, h11, h12, h13, h14, h15, h16⟩ := K
  have W := X.1
  have WL := X.2.1
  have e5 := e 245 (by omega)
  refine ⟨qMF_cg h1 (fun a p q => e a (by omega)) W, qMl_cg h2 (fun a p q => e a (by omega)) W, qML_cg h3 WL (by rw [e5]) (fun a p q => e a (by omega)), qMB_cg h4 X.2.2.1.1 (by rw [e5]) (fun a p q => e a (by omega)), qMS_cg h5 (e _ (by omega)), qMS_cg h6 (e _ (by omega)), qMS_cg h7 (e _ (by omega)), fun k hk => qMS_cg (h8 k hk) (e _ (by omega)), ?_, ?_, ?_, ?_, ?_, ?_, ?_, ?_⟩
  · rw [e5]; exact h9
  · rw [e5]; exact h10
  · rw [e 247 (by omega)]; exact h11
  · rw [e 247 (by omega)]; exact h12
  · rw [e5]; exact h13
  · rw [e 246 (by omega)]; exact h14
  · rw [e5]; exact h15
  · rw [e5]; exact h16
theorem qCls_lo (H : qCls g I F L B S S0 Im C T P) (c1 : C 1 ≤ 3) (e : ∀ a, a < 245 → J a = I a) : qCls g J F L B S S0 Im C T P := by
  obtain ⟨h1, h2, h3, h4, h5, h6, h7, h8, h9, h10, h11, h12, h13, h14, h15⟩ := H
  obtain ⟨b1, b2, b3⟩ := qWo_b h1
  have e4 := e 64 (by omega)
  have e5 := e 65 (by omega)
  refine ⟨h1, qRF_cg h2 (fun a p q => e a (by omega)), qRL_cg h3 (fun a p q => e a (by omega)), qRB_cg h4 (fun a p q => e a (by omega)), qRS_cg h5 (fun a p q => e a (by omega)), qRS_cg h6 (fun a p q => e a (by omega)), fun k hk => qRS_cg (h7 k hk) (fun a p q => e a (by omega)), ?_, ?_, ?_, ?_, ?_, ?_, ?_, qCon_cg h15 (fun a p => e a (by omega))⟩
  · rw [e4]; exact h8
  · rw [e4]; exact h9
  · rw [e4]; exact h10
  · rw [e4]; exact h11
  · rw [e5]; exact h12
  · rw [e 66 (by omega)]; exact h13
  · rw [e5]; exact h14
theorem qOB_r (O : qOB g I F L B S S0 Im C T P) {e : Nat} (he : e < 2) {v : Int32} :
    qOB g (qup (qup (qup I 64 (16 + e) (I 64 (16 + e) + qj 1)) 245 0 v) 247 e (qj ((C (2 + e) + 1 : Nat) : Int))) F L B S S0 Im (iup C (2 + e) (C (2 + e) + 1)) T P := by
  obtain ⟨X, H, K, Y⟩ := O
  have c1 := X.2.2.2.2.2.2.2.1
  obtain ⟨h1, h2, h3, h4, h5, h6, h7, h8, h9, h10, h11, h12, h13, h14, h15⟩ := H
  obtain ⟨b1, b2, b3⟩ := qWo_b h1
  obtain ⟨k1, k2, k3, k4, k5, k6, k7, k8, k9, k10, k11, k12, k13, k14, k15, k16⟩ := K
  have W := X.1
  have WL := X.2.1
  generalize hJ : qup (qup (qup I 64 (16 + e) (I 64 (16 + e) + qj 1)) 245 0 v) 247 e (qj ((C (2 + e) + 1 : Nat) : Int)) = J
  have ea : ∀ a, ¬ a = 64 → ¬ a = 245 → ¬ a = 247 → J a = I a := fun a p q r => by rw [← hJ, qup_ne r, qup_ne q, qup_ne p]
  have e4 : ∀ j, J 64 j = if j = 16 + e then I 64 (16 + e) + qj 1 else I 64 j := fun j => by rw [← hJ, qup_ne (by omega), qup_ne (by omega), qup_at]
  have e5 : ∀ j, ¬ j = 0 → J 245 j = I 245 j := fun j hj => by rw [← hJ, qup_ne (by omega), qup_at, if_neg hj, qup_ne (by omega)]
  have e7 : ∀ j, J 247 j = if j = e then qj ((C (2 + e) + 1 : Nat) : Int) else I 247 j := fun j => by rw [← hJ, qup_at, qup_ne (by omega), qup_ne (by omega)]
  have i0 : iup C (2 + e) (C (2 + e) + 1) 0 = C 0 := if_neg (by omega)
  have i1 : iup C (2 + e) (C (2 + e) + 1) 1 = C 1 := if_neg (by omega)
  have i4 : iup C (2 + e) (C (2 + e) + 1) 4 = C 4 := if_neg (by omega)
  have hee : e = 0 ∨ e = 1 := by omega
  refine ⟨?_, ⟨h1, qRF_cg h2 (fun a p q => ea a (by omega) (by omega) (by omega)), qRL_cg h3 (fun a p q => ea a (by omega) (by omega) (by omega)), qRB_cg h4 (fun a p q => ea a (by omega) (by omega) (by omega)), qRS_cg h5 (fun a p q => ea a (by omega) (by omega) (by omega)), qRS_cg h6 (fun a p q => ea a (by omega) (by omega) (by omega)), ?_, ?_, ?_, ?_, ?_, ?_, ?_, ?_, qCon_cg h15 (fun a p => ea a (by omega) (by omega) (by omega))⟩,
    ⟨qMF_cg k1 (fun a p q => ea a (by omega) (by omega) (by omega)) W, qMl_cg k2 (fun a p q => ea a (by omega) (by omega) (by omega)) W, qML_cg k3 WL (e5 27 (by omega)) (fun a p q => ea a (by omega) (by omega) (by omega)), qMB_cg k4 X.2.2.1.1 (e5 41 (by omega)) (fun a p q => ea a (by omega) (by omega) (by omega)), qMS_cg k5 (ea _ (by omega) (by omega) (by omega)), qMS_cg k6 (ea _ (by omega) (by omega) (by omega)), qMS_cg k7 (ea _ (by omega) (by omega) (by omega)), ?_, ?_, ?_, ?_, ?_, ?_, ?_, ?_, ?_⟩, ?_⟩
  · unfold qAbs at X ⊢
    rw [i0, i1, i4]; exact X
  · intro k hk
    rw [i1] at hk
    exact qRS_cg (h7 k hk) (fun a p q => ea a (by omega) (by omega) (by omega))
  · rw [e4, if_neg (by omega), i0]; exact h8
  · rw [e4, if_neg (by omega), i1]; exact h9
  · rw [e4]
    rcases hee with rfl | rfl
    · rw [if_pos rfl]
      show I 64 16 + qj 1 = qj ((C 2 + 1 : Nat) : Int)
      rw [h10, qj_add, qj_s1]
    · rw [if_neg (by omega)]; exact h10
  · rw [e4]
    rcases hee with rfl | rfl
    · rw [if_neg (by omega)]; exact h11
    · rw [if_pos rfl]
      show I 64 17 + qj 1 = qj ((C 3 + 1 : Nat) : Int)
      rw [h11, qj_add, qj_s1]
  · rw [ea 65 (by omega) (by omega) (by omega), i4]; exact h12
  · intro j hj
    rw [i4] at hj
    rw [ea 66 (by omega) (by omega) (by omega)]; exact h13 j hj
  · rw [ea 65 (by omega) (by omega) (by omega)]; exact h14
  · intro k hk
    rw [i1] at hk
    exact qMS_cg (k8 k hk) (ea _ (by omega) (by omega) (by omega))
  · rw [e5 42 (by omega), i0]; exact k9
  · rw [e5 43 (by omega), i1]; exact k10
  · rw [e7]
    rcases hee with rfl | rfl
    · rw [if_pos rfl]; rfl
    · rw [if_neg (by omega)]; exact k11
  · rw [e7]
    rcases hee with rfl | rfl
    · rw [if_neg (by omega)]; exact k12
    · rw [if_pos rfl]; rfl
  · rw [e5 1 (by omega), i4]; exact k13
  · intro j hj
    rw [i4] at hj
    rw [ea 246 (by omega) (by omega) (by omega)]; exact k14 j hj
  · rw [e5 3 (by omega)]; exact k15
  · rw [e5 45 (by omega)]; exact k16
  · rw [i0]; exact Y
/-- a refusal of both -/
theorem qBo_r (O : qOB g I F L B S S0 Im C T P) {e : Nat} (hA : A e ∧ e < 2) (h1 : qRun dc kc (.ref 64 :: zs) (qw g I) (.inr (e, qw (qgT g) (qup I 64 (16 + e) (I 64 (16 + e) + qj 1)))))
    (h2 : ∀ (g2 : qG1) (I1 : Nat → Nat → Int32), qMdl I1 F L B S S0 Im C T P → qRun dm km (.ref 245 :: zs) (qw g2 I1) (.inl (some (.int (qj 0)), qw g2 (qup (qup I1 245 0 (qj ((if e = 0 then 1 else c : Nat) : Int))) 247 e (qj ((C (2 + e) + 1 : Nat) : Int)))))) : qBo dc dm kc km c A V zs g I := by
  have K1 := qMdl_hi O.2.2.1 O.1 (J := qup I 64 (16 + e) (I 64 (16 + e) + qj 1)) (fun a ha => qup_ne (by omega))
  refine Or.inr ⟨e, _, _, hA.1, h1, by rw [qup_ne (by omega)], h2 (qgT g) _ K1, by rw [qup_ne (by omega), qup_ne (by omega), qup_ne (by omega)], by rw [qup_ne (by omega), qup_at, if_pos rfl], _, _, _, _, _, _, _, _, _, qOB_r O hA.2⟩
theorem qBo_Q (O : qOB g I F L B S S0 Im C T P) {r : Int32 ⊕ Nat} (hA : ∀ e, r = .inr e → A e ∧ e < 2) (hV : ∀ v, r = .inl v → V v) (h1 : qCQ dc kc (.ref 64 :: zs) g I r)
    (h2 : ∀ (g2 : qG1) (I1 : Nat → Nat → Int32), qMdl I1 F L B S S0 Im C T P → qMQ dm km (.ref 245 :: zs) g2 I1 c C r) : qBo dc dm kc km c A V zs g I := by
  have c1 := O.1.2.2.2.2.2.2.2.1
  have hw := qWo_b O.2.1.1
  cases r with
  | inl v =>
    obtain ⟨I1, a1, a2⟩ := h1
    have K1 := qMdl_hi O.2.2.1 O.1 (J := I1) (fun a ha => a2 a (by omega) (by omega) (by omega))
    refine Or.inl ⟨v, g, I1, hV v rfl, a1, ⟨rfl, rfl, a2 1 (by omega) (by omega) (by omega)⟩, fun l => ?_⟩
    obtain ⟨I2, b1, b2, b3⟩ := h2 (g.1, g.2.1, g.2.2.1, l) I1 K1
    have lo : ∀ a, a < 245 → I2 a = I1 a := fun a ha => b2.1 a (by omega) (by omega) (by omega) (by omega)
    exact ⟨I2, b1, by rw [lo 1 (by omega)]; exact a2 1 (by omega) (by omega) (by omega), b3, F, L, B, S, S0, Im, C, T, P, O.1, qCls_lo (qCls_q O.2.1 c1 a2) c1 lo, qMdl_q K1 O.1 b2, O.2.2.2⟩
  | inr e => exact qBo_r O (hA e rfl) h1 h2
theorem qBo_W (O : qOB g I F L B S S0 Im C T P) {r : qRs} (hA : ∀ e, r = .inr e → A e ∧ e < 2) (hV : ∀ v, V v)
    (hX : ∀ v S' S0' Im' C', r = .inl (v, S', S0', Im', C') → qAbs F L B S' S0' Im' C' T ∧ S'.1 0 0 = S0'.1 0 0 + C' 0) (h1 : qCW dc kc (.ref 64 :: zs) g I F L B T P r)
    (h2 : ∀ (g2 : qG1) (I1 : Nat → Nat → Int32), qMdl I1 F L B S S0 Im C T P → qMW dm km (.ref 245 :: zs) g2 I1 F L B c C T P r) : qBo dc dm kc km c A V zs g I := by
  cases r with
  | inl r =>
    obtain ⟨v, S', S0', Im', C'⟩ := r
    obtain ⟨I1, a1, a2, a3⟩ := h1
    obtain ⟨X', Y'⟩ := hX v S' S0' Im' C' rfl
    have K1 := qMdl_hi O.2.2.1 O.1 (J := I1) (fun a ha => a3 a (Or.inr ha))
    refine Or.inl ⟨v, g, I1, hV v, a1, ⟨rfl, rfl, a3 1 (by omega)⟩, fun l => ?_⟩
    obtain ⟨I2, b1, b2, b3, b4⟩ := h2 (g.1, g.2.1, g.2.2.1, l) I1 K1
    exact ⟨I2, b1, by rw [b4 1 (by omega)]; exact a3 1 (by omega), b3, F, L, B, S', S0', Im', C', T, P, X', qCls_lo a2 X'.2.2.2.2.2.2.2.1 b4, b2, Y'⟩
  | inr e => exact qBo_r O (hA e rfl) h1 h2
theorem qBo_T (O : qOB g I F L B S S0 Im C T P) {r : qRt} (hA : ∀ e, r = .inr e → A e ∧ e < 2) (hV : ∀ v, V v)
    (hX : ∀ v F' L' B' S' S0' Im' C' P', r = .inl (v, F', L', B', S', S0', Im', C', P') → qAbs F' L' B' S' S0' Im' C' T ∧ S'.1 0 0 = S0'.1 0 0 + C' 0) (h1 : qCT dc kc (.ref 64 :: zs) g I T r)
    (h2 : ∀ (g2 : qG1) (I1 : Nat → Nat → Int32), qMdl I1 F L B S S0 Im C T P → qMT dm km (.ref 245 :: zs) g2 I1 C T r) : qBo dc dm kc km 1 A V zs g I := by
  cases r with
  | inl r =>
    obtain ⟨v, F', L', B', S', S0', Im', C', P'⟩ := r
    obtain ⟨g1, I1, a1, ⟨e1, e2, -, -⟩, a2, a3⟩ := h1
    obtain ⟨X', Y'⟩ := hX v F' L' B' S' S0' Im' C' P' rfl
    have K1 := qMdl_hi O.2.2.1 O.1 (J := I1) (fun a ha => a3 a (Or.inr ha))
    refine Or.inl ⟨v, g1, I1, hV v, a1, ⟨e1, e2, a3 1 (by omega)⟩, fun l => ?_⟩
    obtain ⟨I2, b1, b2, b3, b4⟩ := h2 (g1.1, g1.2.1, g1.2.2.1, l) I1 K1
    exact ⟨I2, b1, by rw [b4 1 (by omega)]; exact a3 1 (by omega), b3, F', L', B', S', S0', Im', C', T, P', X', qCls_lo a2 X'.2.2.2.2.2.2.2.1 b4, b2, Y'⟩
  | inr e =>
    refine qBo_r O (hA e rfl) h1 (fun g2 I1 K => ?_)
    have := h2 g2 I1 K
    show qRun dm km (.ref 245 :: zs) (qw g2 I1) (.inl (some (.int (qj 0)), qw g2 (qup (qup I1 245 0 (qj ((if e = 0 then 1 else 1 : Nat) : Int))) 247 e (qj ((C (2 + e) + 1 : Nat) : Int)))))
    rw [show (if e = 0 then 1 else 1 : Nat) = 1 by split <;> rfl]
    exact this
/-! what each answer keeps -/
theorem qSok_of {U V' : qSt} (h : qSok F U) (o : qOK F U V') (y : V'.1 0 0 ≤ 200) : qSok F V' := ⟨o.1, y, fun k hk => by rw [o.2.2]; exact h.2.2 k hk⟩
theorem itr_lm {U : qSt} (W : qWF F) (WU : qWS F U) : ∀ j, (itr (aYear F L) j U).1 1 = U.1 1
  | 0 => rfl
  | j + 1 => by
    rw [itr]
    exact (aYear_ok (L := L) (D := fun _ => false) (itr_ok (L := L) W WU j).1 W).2.2.trans (itr_lm W WU j)
theorem qSok_itr {U : qSt} (W : qWF F) (h : qSok F U) {j : Nat} (hj : U.1 0 0 + j ≤ 200) : qSok F (itr (aYear F L) j U) := by
  obtain ⟨w1, w2⟩ := itr_ok (L := L) W h.1 j
  exact ⟨w1, by rw [w2]; exact hj, fun k hk => by rw [itr_lm W h.1 j]; exact h.2.2 k hk⟩
/-- another now and base, the years that can be undone -/
theorem qAbs_s (X : qAbs F L B S S0 Im C T) {U U0 : qSt} {n : Nat} (h : qSok F U) (h0 : qSok F U0) (hn : U0.1 0 0 + n ≤ 200) : qAbs F L B U U0 Im (iup C 0 n) T := by
  obtain ⟨x1, x2, x3, x4, x5, x6, x7, x8, x9, x10⟩ := X
  exact ⟨x1, x2, x3, h, h0, x6, hn, x8, x9, x10⟩
theorem qAbs_f (X : qAbs F L B S S0 Im C T) {U : qSt} (h : qSok F U) : qAbs F L B U U Im (iup C 0 0) T ∧ U.1 0 0 = U.1 0 0 + iup C 0 0 0 := ⟨qAbs_s X h h (by have := h.2.1; omega), rfl⟩
theorem xYrs (O : qOB g I F L B S S0 Im C T P) {z : Int} : ∀ v S' S0' Im' C', rYrs F L S S0 Im C z = .inl (v, S', S0', Im', C') → qAbs F L B S' S0' Im' C' T ∧ S'.1 0 0 = S0'.1 0 0 + C' 0 := by
  obtain ⟨X, H, K, Y⟩ := O
  intro v S' S0' Im' C' h
  unfold rYrs at h
  have h200 := X.2.2.2.1.2.1
  split at h
  · cases h
    have hk : min z.toNat (200 - S.1 0 0) ≤ 200 - S.1 0 0 := Nat.min_le_right _ _
    generalize min z.toNat (200 - S.1 0 0) = k at hk ⊢
    refine ⟨qAbs_s X (qSok_itr X.1 X.2.2.2.1 (by omega)) X.2.2.2.2.1 (by omega), ?_⟩
    rw [(itr_ok (L := L) X.1 X.2.2.2.1.1 k).2]
    show S.1 0 0 + k = S0.1 0 0 + (C 0 + k)
    omega
  · cases h
theorem xUnd (O : qOB g I F L B S S0 Im C T P) {z : Int} : ∀ v S' S0' Im' C', rUnd F L S S0 Im C z = .inl (v, S', S0', Im', C') → qAbs F L B S' S0' Im' C' T ∧ S'.1 0 0 = S0'.1 0 0 + C' 0 := by
  obtain ⟨X, H, K, Y⟩ := O
  intro v S' S0' Im' C' h
  unfold rUnd at h
  have h0 := X.2.2.2.2.2.2.1
  split at h
  · split at h
    · cases h; exact ⟨X, Y⟩
    · cases h
      generalize hk : C 0 - min z.toNat (C 0) = k
      have hk : k ≤ C 0 := by omega
      refine ⟨qAbs_s X (qSok_itr X.1 X.2.2.2.2.1 (by omega)) X.2.2.2.2.1 (by omega), ?_⟩
      rw [(itr_ok (L := L) X.1 X.2.2.2.2.1.1 k).2]
      rfl
  · cases h
theorem xDie (O : qOB g I F L B S S0 Im C T P) {z : Int} : ∀ v S' S0' Im' C', rDie F S S0 Im C z = .inl (v, S', S0', Im', C') → qAbs F L B S' S0' Im' C' T ∧ S'.1 0 0 = S0'.1 0 0 + C' 0 := by
  obtain ⟨X, H, K, Y⟩ := O
  intro v S' S0' Im' C' h
  unfold rDie at h
  split at h
  · rename_i hz
    split at h
    · cases h
      have o := qOK_bur (F := F) X.2.2.2.1.1 (k := z.toNat) (by omega)
      exact qAbs_f X (qSok_of X.2.2.2.1 o (by rw [o.2.1]; exact X.2.2.2.1.2.1))
    · cases h; exact ⟨X, Y⟩
  · cases h
theorem xStr (O : qOB g I F L B S S0 Im C T P) {z w : Int} : ∀ v S' S0' Im' C', rStr F S Im C z w = .inl (v, S', S0', Im', C') → qAbs F L B S' S0' Im' C' T ∧ S'.1 0 0 = S0'.1 0 0 + C' 0 := by
  obtain ⟨X, H, K, Y⟩ := O
  intro v S' S0' Im' C' h
  unfold rStr at h
  split at h
  · split at h
    · cases h
      refine qAbs_f X ?_
      obtain ⟨⟨w1, w2, w3, w4⟩, y, l⟩ := X.2.2.2.1
      refine ⟨⟨w1, fun k => ?_, fun p hp => ?_, fun p => ?_⟩, ?_, fun k hk => ?_⟩
      · show qup S.1 3 z.toNat (min 30 (S.1 3 z.toNat + w.toNat)) 2 k ≤ 8
        rw [qup_ne (by omega)]; exact w2 k
      · show qup S.1 3 z.toNat (min 30 (S.1 3 z.toNat + w.toNat)) 3 p ≤ 30
        rw [qup_at]
        split
        · exact Nat.min_le_left _ _
        · exact w3 p hp
      · show qup S.1 3 z.toNat (min 30 (S.1 3 z.toNat + w.toNat)) 4 p ≤ _
        rw [qup_ne (by omega)]; exact w4 p
      · show qup S.1 3 z.toNat (min 30 (S.1 3 z.toNat + w.toNat)) 0 0 ≤ 200
        rw [qup_ne (by omega)]; exact y
      · show qup S.1 3 z.toNat (min 30 (S.1 3 z.toNat + w.toNat)) 1 k = _
        rw [qup_ne (by omega)]; exact l k hk
    · cases h
  · cases h
theorem xGiv (O : qOB g I F L B S S0 Im C T P) {z w u : Int} : ∀ v S' S0' Im' C', rGiv F S S0 Im C z w u = .inl (v, S', S0', Im', C') → qAbs F L B S' S0' Im' C' T ∧ S'.1 0 0 = S0'.1 0 0 + C' 0 := by
  obtain ⟨X, H, K, Y⟩ := O
  intro v S' S0' Im' C' h
  unfold rGiv at h
  split at h
  · rename_i hz
    split at h
    · cases h
      have o1 := qOK_cea (F := F) X.2.2.2.1.1 (k := w.toNat) (p := z.toNat) (by omega)
      have o2 := qOK_beg (F := F) o1.1 (k := u.toNat) (p := z.toNat) (by omega) (by omega)
      have o := qOK_tr o1 o2
      exact qAbs_f X (qSok_of X.2.2.2.1 o (by rw [o.2.1]; exact X.2.2.2.1.2.1))
    · cases h; exact ⟨X, Y⟩
  · cases h
theorem xImg (O : qOB g I F L B S S0 Im C T P) : ∀ v S' S0' Im' C', rImg S S0 Im C = .inl (v, S', S0', Im', C') → qAbs F L B S' S0' Im' C' T ∧ S'.1 0 0 = S0'.1 0 0 + C' 0 := by
  obtain ⟨X, H, K, Y⟩ := O
  intro v S' S0' Im' C' h
  unfold rImg at h
  split at h
  · rename_i h3
    cases h
    obtain ⟨x1, x2, x3, x4, x5, x6, x7, x8, x9, x10⟩ := X
    refine ⟨⟨x1, x2, x3, x4, x5, fun k hk => ?_, x7, h3, x9, x10⟩, Y⟩
    have hk : k < C 1 + 1 := hk
    unfold iup
    by_cases e : k = C 1
    · rw [if_pos e]; exact x4
    · rw [if_neg e]; exact x6 k (by omega)
  · cases h; exact ⟨X, Y⟩
theorem xRes (O : qOB g I F L B S S0 Im C T P) : ∀ v S' S0' Im' C', rRes S S0 Im C = .inl (v, S', S0', Im', C') → qAbs F L B S' S0' Im' C' T ∧ S'.1 0 0 = S0'.1 0 0 + C' 0 := by
  obtain ⟨X, H, K, Y⟩ := O
  intro v S' S0' Im' C' h
  unfold rRes at h
  split at h
  · cases h; exact ⟨X, Y⟩
  · rename_i h3
    cases h
    obtain ⟨x1, x2, x3, x4, x5, x6, x7, x8, x9, x10⟩ := X
    have s := x6 (C 1 - 1) (by omega)
    refine ⟨⟨x1, x2, x3, s, s, fun k hk => ?_, ?_, ?_, x9, x10⟩, rfl⟩
    · have hk : k < C 1 - 1 := hk
      exact x6 k (by omega)
    · have := s.2.1
      show (Im (C 1 - 1)).1 0 0 + 0 ≤ 200
      omega
    · show C 1 - 1 ≤ 3
      omega
theorem qSok_told (W : qWF F) : qSok F (aTold F) := ⟨qWS_told W, by show (0 : Nat) ≤ 200; omega, fun k hk => rfl⟩
theorem qL0_ok : qWL qL0 := by
  refine ⟨by decide, by decide, fun i hi => ?_⟩
  have hi : i < 9 := hi
  have : i = 0 ∨ i = 1 ∨ i = 2 ∨ i = 3 ∨ i = 4 ∨ i = 5 ∨ i = 6 ∨ i = 7 ∨ i = 8 := by omega
  rcases this with rfl | rfl | rfl | rfl | rfl | rfl | rfl | rfl | rfl <;> decide
theorem xFam (O : qOB g I F L B S S0 Im C T P) {z : Int} : ∀ v F' L' B' S' S0' Im' C' P', rFam F L B S S0 Im C T z = .inl (v, F', L', B', S', S0', Im', C', P') → qAbs F' L' B' S' S0' Im' C' T ∧ S'.1 0 0 = S0'.1 0 0 + C' 0 := by
  obtain ⟨X, H, K, Y⟩ := O
  intro v F' L' B' S' S0' Im' C' P' h
  unfold rFam at h
  split at h
  · cases hr : aFamT T z.toNat 61 0 fam0 0 with
    | inl e =>
      rw [hr] at h
      cases h
      obtain ⟨x1, x2, x3, x4, x5, x6, x7, x8, x9, x10⟩ := X
      exact ⟨⟨x1, x2, x3, x4, x5, x6, x7, x8, Nat.zero_le _, fun j hj => absurd hj (Nat.not_lt_zero j)⟩, Y⟩
    | inr G =>
      rw [hr] at h
      have W' := aFamT_ok _ _ _ _ _ hr fam0_ok (Nat.zero_le _)
      cases h
      have s := qSok_told W'.1
      exact ⟨⟨W'.1, qL0_ok, ⟨Nat.zero_le _, fun k hk => absurd hk (Nat.not_lt_zero k)⟩, s, s, fun k hk => absurd hk (Nat.not_lt_zero k), by show (0 : Nat) + 0 ≤ 200; omega, Nat.zero_le _, Nat.zero_le _, fun j hj => absurd hj (Nat.not_lt_zero j)⟩, rfl⟩
  · cases h
theorem xLaw (O : qOB g I F L B S S0 Im C T P) {z : Int} : ∀ v F' L' B' S' S0' Im' C' P', rLaw F L B S S0 Im C T z = .inl (v, F', L', B', S', S0', Im', C', P') → qAbs F' L' B' S' S0' Im' C' T ∧ S'.1 0 0 = S0'.1 0 0 + C' 0 := by
  obtain ⟨X, H, K, Y⟩ := O
  intro v F' L' B' S' S0' Im' C' P' h
  obtain ⟨x1, x2, x3, x4, x5, x6, x7, x8, x9, x10⟩ := X
  unfold rLaw at h
  split at h
  · rename_i hz
    cases hr : aLawT T z.toNat with
    | inl e =>
      rw [hr] at h
      cases h
      exact ⟨⟨x1, x2, x3, x4, x5, x6, x7, x8, Nat.zero_le _, fun j hj => absurd hj (Nat.not_lt_zero j)⟩, Y⟩
    | inr L2 =>
      rw [hr] at h
      cases h
      have := x4.2.1
      exact ⟨⟨x1, aLawT_ok hr (by omega), x3, x4, x4, x6, by show S.1 0 0 + 0 ≤ 200; omega, x8, Nat.zero_le _, fun j hj => absurd hj (Nat.not_lt_zero j)⟩, rfl⟩
  · cases h
theorem xBok (O : qOB g I F L B S S0 Im C T P) {z : Int} : ∀ v F' L' B' S' S0' Im' C' P', rBok F L B S S0 Im C T z = .inl (v, F', L', B', S', S0', Im', C', P') → qAbs F' L' B' S' S0' Im' C' T ∧ S'.1 0 0 = S0'.1 0 0 + C' 0 := by
  obtain ⟨X, H, K, Y⟩ := O
  intro v F' L' B' S' S0' Im' C' P' h
  obtain ⟨x1, x2, x3, x4, x5, x6, x7, x8, x9, x10⟩ := X
  unfold rBok at h
  split at h
  · cases hr : aBkT T z.toNat F 13 0 (0, fun _ _ => 0) 0 with
    | inl e =>
      rw [hr] at h
      cases h
      exact ⟨⟨x1, x2, x3, x4, x5, x6, x7, x8, Nat.zero_le _, fun j hj => absurd hj (Nat.not_lt_zero j)⟩, Y⟩
    | inr B2 =>
      rw [hr] at h
      cases h
      have wb := aBkT_ok _ _ _ _ _ hr (Nat.zero_le _) rfl ⟨Nat.zero_le _, fun k hk => absurd hk (Nat.not_lt_zero k)⟩
      exact ⟨⟨x1, x2, wb, x4, x5, x6, x7, x8, Nat.zero_le _, fun j hj => absurd hj (Nat.not_lt_zero j)⟩, Y⟩
  · cases h
theorem fT_b {s : Nat} {x1 x2 x3 x4 x5 : Int32} (h : ∀ j, j < s → T j < 256) : ∀ j, fT T s x1 x2 x3 x4 x5 j < 256 := fun j => by
  unfold fT
  split
  · rename_i c; exact h j c
  · exact (fB_e _ _).2
theorem qBo_F (O : qOB g I F L B S S0 Im C T P) (hdc : 2 ≤ dc) (hdm : 1 ≤ dm) {x1 x2 x3 x4 x5 : Int32} : qBo dc dm 85 173 1 A (fun _ => True) [.int x1, .int x2, .int x3, .int x4, .int x5] g I := by
  have h1 := f85 (g := g) (I := I) hdc O.1 O.2.1 (x1 := x1) (x2 := x2) (x3 := x3) (x4 := x4) (x5 := x5)
  have h2 : ∀ (g2 : qG1) (I1 : Nat → Nat → Int32), qMdl I1 F L B S S0 Im C T P → _ := fun g2 I1 K => r173 (g := g2) (I := I1) hdm O.1 K (x1 := x1) (x2 := x2) (x3 := x3) (x4 := x4) (x5 := x5)
  obtain ⟨X, H, K, Y⟩ := O
  by_cases h : C 4 + 20 ≤ 600
  · rw [if_pos h] at h1
    obtain ⟨I1, a1, a2, a3⟩ := h1
    have K1 := qMdl_hi K X (J := I1) (fun a ha => a3 a (Or.inr ha))
    refine Or.inl ⟨_, g, I1, trivial, a1, ⟨rfl, rfl, a3 1 (by omega)⟩, fun l => ?_⟩
    have k2 := h2 (g.1, g.2.1, g.2.2.1, l) I1 K1
    rw [if_pos h, if_pos h, if_pos h] at k2
    obtain ⟨I2, b1, b2, b3, b4⟩ := k2
    obtain ⟨y1, y2, y3, y4, y5, y6, y7, y8, y9, y10⟩ := X
    exact ⟨I2, b1, by rw [b4 1 (by omega)]; exact a3 1 (by omega), b3, F, L, B, S, S0, Im, iup C 4 (C 4 + 20), fT T (C 4) x1 x2 x3 x4 x5, P, ⟨y1, y2, y3, y4, y5, y6, y7, y8, h, fun j _ => fT_b y10 j⟩, qCls_lo a2 y8 b4, b2, Y⟩
  · rw [if_neg h] at h1
    refine Or.inl ⟨_, g, I, trivial, h1, ⟨rfl, rfl, rfl⟩, fun l => ?_⟩
    have k2 := h2 (g.1, g.2.1, g.2.2.1, l) I K
    rw [if_neg h, if_neg h, if_neg h] at k2
    obtain ⟨I2, b1, b2, b3, b4⟩ := k2
    exact ⟨I2, b1, b4 1 (by omega), b3, F, L, B, S, S0, Im, C, T, P, X, qCls_lo H X.2.2.2.2.2.2.2.1 b4, b2, Y⟩
end JOIN
