/-! ===== the reference's casting ===== -/
def qMC (I : Nat → Nat → Int32) (ps la : Nat → Nat) (n : Nat) : Prop := I 245 51 = qj n ∧ ∀ i, i < n → I 687 i = qj (ps i) ∧ I 688 i = qj (la i)
/-- the ways that have been seen -/
def qCV (I : Nat → Nat → Int32) (n H : Nat) (V : List (List Nat)) : Prop :=
  I 245 52 = qj V.length ∧ I 245 53 = qj (bm 9 (fun h => decide (h < H) && V.all (fun c => (un 0 c n).testBit h)) : Nat) ∧
  (V ≠ [] → ∀ k, k < n → I 690 k = qj ((V.headD []).getD k 0)) ∧ ∀ k, k < n → I 691 k = qj (bm 9 (fun h => V.any (fun c => (c.getD k 0).testBit h)) : Nat)
def capV (o : Bool) (V : List (List Nat)) : List (List Nat) := if o = true then V.take 1 else V
def qFg (I J : Nat → Nat → Int32) : Prop := (∀ a, ¬ a = 245 → ¬ a = 689 → ¬ a = 690 → ¬ a = 691 → J a = I a) ∧ ∀ j, ¬ j = 52 → ¬ j = 53 → J 245 j = I 245 j
theorem qFg_rf {I : Nat → Nat → Int32} : qFg I I := ⟨fun _ _ _ _ _ => rfl, fun _ _ _ => rfl⟩
theorem qFg_tr {I J K : Nat → Nat → Int32} (h : qFg I J) (h2 : qFg J K) : qFg I K := ⟨fun a p q r t => (h2.1 a p q r t).trans (h.1 a p q r t), fun j p q => (h2.2 j p q).trans (h.2 j p q)⟩
theorem qFg_F {I J : Nat → Nat → Int32} {F : qFam} (h : qFg I J) (W : qWF F) (MF : qMF F I) : qMF F J := qMF_cg MF (fun a h1 h2 => h.1 a (by
  intro e; omega) (by omega) (by omega) (by omega)) W
theorem un_app : ∀ (pre : List Nat) (t : Nat) (c : List Nat) (m : Nat), un t (pre ++ c) (pre.length + m) = un (un t pre pre.length) c m
  | [], t, c, m => by rw [List.length_nil, Nat.zero_add]; rfl
  | s :: pre, t, c, m => by
    rw [List.length_cons, show pre.length + 1 + m = pre.length + m + 1 by omega]
    exact un_app pre (t ||| s) c m
theorem capV_cap {o : Bool} {X Y : List (List Nat)} : capV o (capV o X ++ Y) = capV o (X ++ Y) := by
  cases o with
  | false => rfl
  | true =>
    show (X.take 1 ++ Y).take 1 = (X ++ Y).take 1
    cases X with
    | nil => rfl
    | cons x X => rfl
theorem capV_cons {Y : List (List Nat)} {x : List Nat} {X : List (List Nat)} : capV true (x :: X ++ Y) = [x] := rfl
/-- the reference's question whether a set is free -/
theorem qfree2 {s t : Nat} {q a : Nat → Bool} (hs : s < 512) (ht : t < 512) : (qj (s : Int) &&& ((qj (t : Int) ||| qj (bm 9 q : Nat)) ||| (qj (bm 9 a : Nat) ^^^ qj (-1))) = 0) ↔ ((s &&& bm 9 (fun h => a h && !q h) == s) && (s &&& t == 0)) = true := by
  have e : qj (s : Int) &&& ((qj (t : Int) ||| qj (bm 9 q : Nat)) ||| (qj (bm 9 a : Nat) ^^^ qj (-1))) = qj (bm 9 (fun k => s.testBit k && (t.testBit k || q k || !a k)) : Nat) := qj_bits _ _ (fun i hi => by
    rw [Int32.toBitVec_and, BitVec.getLsbD_and, Int32.toBitVec_or, BitVec.getLsbD_or, Int32.toBitVec_or, BitVec.getLsbD_or, Int32.toBitVec_xor, BitVec.getLsbD_xor, qj_lsb _ hi, qj_lsb _ hi, qj_lsb _ hi, qj_lsb _ hi, qj_m1 hi, bm_tb, bm_tb, bm_tb, Bool.xor_true]
    by_cases h9 : i < 9
    · simp [h9]
    · have : s.testBit i = false := by rw [← bm_self hs, bm_tb]; simp [h9]
      simp [h9, this])
  rw [e, qz0, qbm_eq0 (by omega), Bool.and_eq_true, nsub hs, ndis hs]
  constructor
  · intro h
    refine ⟨fun k hk h1 => ?_, fun k hk h1 => ?_⟩
    · have := h k hk
      rw [h1] at this
      rw [bm_tb]
      cases e1 : q k <;> cases e2 : a k <;> rw [e1, e2] at this <;> simp [hk] at this ⊢
    · have := h k hk
      rw [h1] at this
      cases e1 : t.testBit k with
      | false => rfl
      | true => rw [e1] at this; simp at this
  · rintro ⟨h1, h2⟩ k hk
    cases e1 : s.testBit k with
    | false => rfl
    | true =>
      have h3 := h1 k hk e1
      have h4 := h2 k hk e1
      rw [bm_tb] at h3
      rw [h4]
      cases e2 : q k <;> cases e3 : a k <;> rw [e2, e3] at h3 <;> simp [hk] at h3 ⊢
/-- what speaksWith asks -/
def cSw (sil : Nat → Nat → Bool) (t s : Nat) : Bool := !(anb 9 (fun h => s.testBit h && anb 9 (fun g => sil h g && (t ||| s).testBit g)))
theorem cSw_eq {sil : Nat → Nat → Bool} {t s : Nat} (hsym : ∀ h g, sil h g = true → sil g h = true) (ht : cQt sil t = true) : cSw sil t s = cQt sil (t ||| s) := by
  unfold cSw cQt at *
  congr 1
  rw [Bool.not_eq_true', anb_false] at ht
  rw [Bool.eq_iff_iff, anb_iff, anb_iff]
  constructor
  · rintro ⟨h, hh, e⟩
    rw [Bool.and_eq_true, anb_iff] at e
    obtain ⟨e1, k, hk, e2⟩ := e
    rw [Bool.and_eq_true] at e2
    refine ⟨h, hh, ?_⟩
    rw [Bool.and_eq_true, anb_iff, Nat.testBit_or, e1, Bool.or_true]
    exact ⟨rfl, k, hk, by rw [e2.2, e2.1]; rfl⟩
  · rintro ⟨h, hh, e⟩
    rw [Bool.and_eq_true, anb_iff, Nat.testBit_or] at e
    obtain ⟨e1, k, hk, e2⟩ := e
    rw [Bool.and_eq_true] at e2
    cases hs : s.testBit h with
    | true =>
      refine ⟨h, hh, ?_⟩
      rw [Bool.and_eq_true, anb_iff]
      exact ⟨hs, k, hk, by rw [e2.2, e2.1]; rfl⟩
    | false =>
      rw [hs, Bool.or_false] at e1
      have := ht h hh
      rw [e1, Bool.true_and, anb_false] at this
      have := this k hk
      have e3 := e2.1
      rw [Nat.testBit_or] at e3
      cases hk2 : t.testBit k with
      | true => rw [hk2, e2.2] at this; cases this
      | false =>
        rw [hk2, Bool.false_or] at e3
        refine ⟨k, hk, ?_⟩
        rw [Bool.and_eq_true, anb_iff]
        exact ⟨e3, h, hh, by rw [hsym h k e2.2, Nat.testBit_or, e1]; rfl⟩
section CM
variable {d : Nat} {g : qG1} {I : Nat → Nat → Int32} {F : qFam} {S : qSt} {r : Nat} {al : Nat → Bool} {ps la : Nat → Nat}
theorem m252 (hd : 2 ≤ d) (MF : qMF F I) (W : qWF F) {t s : Nat} (ht : t < 512) (hs : s < 512) : qRun d 252 [.ref 245, .int (qj t), .int (qj s)] (qw g I) (.inl (some (.int (qb (cSw (F.2 2) t s))), qw g I)) := by
  refine qRun_of fun Q hQ => b252_0 (by omega) ?_
  have f1 := MF.1
  have h9 := W.1
  have f16 := MF.2.2.2.2.2.2.2.2.2.2.2.2.2.2.2
  have w11 := W.2.2.2.2.2.2.2.2.2.2.1
  have hor : t ||| s < 512 := Nat.or_lt_two_pow (n := 9) ht hs
  let P : Nat → Bool := fun h => s.testBit h && anb 9 (fun g => F.2 2 h g && (t ||| s).testBit g)
  have hP : cSw (F.2 2) t s = !(anb (F.1 0 0) P) := by
    unfold cSw
    congr 1
    rw [Bool.eq_iff_iff, anb_iff, anb_iff]
    constructor
    · rintro ⟨h, hh, e⟩
      have e' := e
      rw [Bool.and_eq_true, anb_iff] at e'
      obtain ⟨-, k, hk, e2⟩ := e'
      rw [Bool.and_eq_true] at e2
      exact ⟨h, (w11 h k e2.1).1, e⟩
    · rintro ⟨h, hh, e⟩
      exact ⟨h, by omega, e⟩
  have L : ∀ i, i ≤ F.1 0 0 → anb i P = false → qwq d 252 2 [(0, .ref 245), (1, .int (qj t)), (2, .int (qj s)), (3, .int (qj i))] [] (qw g I) Q := by
    refine upto (P := fun i => anb i P = false → _) _ (fun hn => b252_2 (by omega) ?_) (fun i hi ih hn => b252_2 (by omega) ?_)
    · rw [hP, hn] at hQ
      simp (disch := omega) only [f1, qj_le]
      exact ⟨fun _ => hQ, fun c => by omega⟩
    · have step : P i = false → qwq d 252 2 [(0, .ref 245), (1, .int (qj t)), (2, .int (qj s)), (3, .int (qj ((i + 1 : Nat) : Int)))] [] (qw g I) Q := fun e => ih (by rw [anb, hn, e]; rfl)
      have done : P i = true → Q (.inl (some (.int (qb false)), qw g I)) := fun e => by
        rw [hP, (anb_iff P _).mpr ⟨i, hi, e⟩] at hQ; exact hQ
      have e1 : qj (bm 9 (F.2 2 i) : Nat) &&& qj ((t ||| s : Nat) : Int) = qj (bm 9 (fun k => F.2 2 i k && (t ||| s).testBit k) : Nat) := by rw [← qbm_and, bm_self hor]
      simp (disch := omega) only [f1, qj_le, qhas_n, qIx_z, qj_nat, f16, qj_or, e1, qz0, qbm_eq0, qj_add, qj_s1, true_and]
      have hZ : (∀ k, k < 9 → (F.2 2 i k && (t ||| s).testBit k) = false) ↔ anb 9 (fun k => F.2 2 i k && (t ||| s).testBit k) = false := (anb_false _ _).symm
      rw [hZ]
      refine ⟨fun c => by omega, fun _ => ⟨fun c => step ?_, fun c => ⟨fun z => step ?_, fun z => done ?_⟩⟩⟩
      · show (s.testBit i && _) = false; rw [c]; rfl
      · show (s.testBit i && _) = false; rw [z, Bool.and_false]
      · rw [Bool.not_eq_false] at z
        show (s.testBit i && _) = true; rw [c, z]; rfl
  exact L 0 (Nat.zero_le _) rfl
theorem m251 (hd : 1 ≤ d) (MF : qMF F I) (W : qWF F) {a n : Nat} (ha : a < F.1 0 2) (hn : n ≤ 6) :
    ∃ I', qRun d 251 [.ref 245, .int (qj a), .int (qj n)] (qw g I) (.inl (none, qw g I')) ∧ I' 245 51 = qj ((n + F.1 8 a : Nat) : Int) ∧ (∀ i, i < F.1 8 a → I' 687 (n + i) = qj (F.1 (10 + a) i) ∧ I' 688 (n + i) = qj (F.1 7 a)) ∧ (∀ i, i < n → I' 687 i = I 687 i ∧ I' 688 i = I 688 i) ∧
      (∀ b, ¬ b = 245 → ¬ b = 687 → ¬ b = 688 → I' b = I b) ∧ ∀ j, ¬ j = 51 → I' 245 j = I 245 j := by
  have w3 := W.2.2.1
  have hwa := W.2.2.2.2.2.2.1 a ha
  obtain ⟨-, -, -, -, -, -, -, -, -, f10, f11, f12, -⟩ := MF
  let Post : (Nat → Nat → Int32) → Prop := fun I' => I' 245 51 = qj ((n + F.1 8 a : Nat) : Int) ∧ (∀ i, i < F.1 8 a → I' 687 (n + i) = qj (F.1 (10 + a) i) ∧ I' 688 (n + i) = qj (F.1 7 a)) ∧ (∀ i, i < n → I' 687 i = I 687 i ∧ I' 688 i = I 688 i) ∧
      (∀ b, ¬ b = 245 → ¬ b = 687 → ¬ b = 688 → I' b = I b) ∧ ∀ j, ¬ j = 51 → I' 245 j = I 245 j
  have key : ∀ i, i ≤ F.1 8 a → ∀ J, (∀ b, ¬ b = 687 → ¬ b = 688 → J b = I b) → (∀ j, j < i → J 687 (n + j) = qj (F.1 (10 + a) j) ∧ J 688 (n + j) = qj (F.1 7 a)) → (∀ j, j < n → J 687 j = I 687 j ∧ J 688 j = I 688 j) →
      ∃ I', Post I' ∧ ∀ Q : qR → Prop, Q (.inl (none, qw g I')) → qwq d 251 2 [(0, .ref 245), (1, .int (qj a)), (2, .int (qj n)), (3, .int (qj i))] [] (qw g J) Q := by
    refine upto _ (fun J h1 h2 h3 => ?_) (fun i hi ih J h1 h2 h3 => ?_)
    · refine ⟨qup J 245 51 (qj ((n + F.1 8 a : Nat) : Int)), ⟨by rw [qup_at, if_pos rfl], fun i hi => ?_, fun i hi => ?_, fun b p q r => ?_, fun j hj => ?_⟩, fun Q hQ => b251_2 (by omega) ?_⟩
      · rw [qup_ne (by omega), qup_ne (by omega)]; exact h2 i hi
      · rw [qup_ne (by omega), qup_ne (by omega)]; exact h3 i hi
      · rw [qup_ne p]; exact h1 b q r
      · rw [qup_at, if_neg hj, h1 245 (by omega) (by omega)]
      · have e := (show J (301 + 1 + a) 1 = qj (F.1 8 a) by rw [h1 _ (by omega) (by omega)]; exact f11 a ha)
        simp (disch := omega) only [qIx_z, qj_nat, q2_e, e, qj_le, qj_add, true_and]
        exact ⟨fun _ => hQ, fun c => by omega⟩
    · have e := (show J (301 + 1 + a) 1 = qj (F.1 8 a) by rw [h1 _ (by omega) (by omega)]; exact f11 a ha)
      have e0 := (show J (301 + 1 + a) 0 = qj (F.1 7 a) by rw [h1 _ (by omega) (by omega)]; exact f10 a ha)
      have e2 := (show J (301 + 1 + a) (2 + i) = qj (F.1 (10 + a) i) by rw [h1 _ (by omega) (by omega)]; exact f12 a i ha hi)
      obtain ⟨I', k1, k2⟩ := ih (qup (qup J 687 (n + i) (qj (F.1 (10 + a) i))) 688 (n + i) (qj (F.1 7 a))) (fun b p q => by rw [qup_ne q, qup_ne p]; exact h1 b p q) (fun j hj => by
        rw [qup_ne (b := 687) (by omega), qup_at, qup_at, qup_ne (b := 688) (by omega)]
        by_cases ej : j = i
        · rw [ej, if_pos rfl, if_pos rfl]; exact ⟨rfl, rfl⟩
        · rw [if_neg (by omega), if_neg (by omega)]; exact h2 j (by omega)) (fun j hj => by
        rw [qup_ne (b := 687) (by omega), qup_at, qup_at, qup_ne (b := 688) (by omega), if_neg (by omega), if_neg (by omega)]; exact h3 j hj)
      refine ⟨I', k1, fun Q hQ => b251_2 (by omega) ?_⟩
      have z : (n : Int) + (i : Int) = ((n + i : Nat) : Int) := rfl
      simp (disch := omega) only [qIx_z, qj_nat, q2_e, e, qj_le, qj_add, qj_c2, z, e2, qup_ne, e0, qj_s1, true_and]
      exact ⟨fun c => by omega, fun _ => k2 Q hQ⟩
  obtain ⟨I', k1, k2⟩ := key 0 (Nat.zero_le _) I (fun _ _ _ => rfl) (fun j hj => absurd hj (Nat.not_lt_zero _)) (fun _ _ => ⟨rfl, rfl⟩)
  exact ⟨I', qRun_of (fun Q hQ => b251_0 (by omega) (k2 Q hQ)), k1⟩
theorem m253 (hr : qisR r) (W : qWF F) (WS : qWS F S) (hal : ∀ h, al h = true → h < F.1 0 0) {n : Nat} (hn : n ≤ 12) (hps : ∀ i, i < n → ps i < F.1 0 1) (hla : ∀ i, i < n → la i ≤ 9) (o : Bool) :
    ∀ (m i t : Nat) (pre : List Nat) (X : List (List Nat)) (d : Nat) (I : Nat → Nat → Int32), i + m = n → pre.length = i → un 0 pre i = t → t < 512 → cQt (F.2 2) t = true → 32 + m ≤ d → qMF F I → qMS F I r S → qMC I ps la n → (∀ k, k < i → I 689 k = qj (pre.getD k 0)) → (∀ k, k < i → pre.getD k 0 < 512) → qCV I n (F.1 0 0) (capV o X) → X.length ≤ 362880 →
      (X ++ (cE (F.2 2) (cK F ps) (cA F al ps) (fun i => decide (la i ≤ S.1 3 (ps i))) m i t).map (pre ++ ·)).length ≤ 362880 →
      ∃ I', qRun d 253 [.ref 245, .ref r, .int (qj i), .int (qj t), .int (qj (bm 9 al : Nat)), .int (qb o)] (qw g I) (.inl (none, qw g I')) ∧ qFg I I' ∧ (∀ k, k < i → I' 689 k = I 689 k) ∧
        qCV I' n (F.1 0 0) (capV o (X ++ (cE (F.2 2) (cK F ps) (cA F al ps) (fun i => decide (la i ≤ S.1 3 (ps i))) m i t).map (pre ++ ·))) := by
  have h9 := W.1
  have h8 := W.2.1
  have hb := qisR_b hr
  have hsh := qisR_sh (L := g.2.1) hr
  intro m
  induction m with
  | zero =>
    intro i t pre X d I him hpre hun ht hq hd MF R MC h689 hp512 CV hX hXL
    have hin : i = n := by omega
    subst hin
    have e51 := MC.1
    -- a way seen
    have leaf : ∀ V : List (List Nat), V.length ≤ 362879 → capV o X = V → capV o (X ++ [pre]) = V ++ [pre] → ∃ I', (qFg I I' ∧ (∀ k, k < i → I' 689 k = I 689 k) ∧ qCV I' i (F.1 0 0) (V ++ [pre])) ∧ ∀ Q : qR → Prop, Q (.inl (none, qw g I')) → qwq d 253 24 [(0, .ref 245), (3, .int (qj t)), (6, .int (qj 0))] [] (qw g I) Q := by
      intro V hV hcV _
      rw [hcV] at CV
      obtain ⟨v1, v2, v3, v4⟩ := CV
      have key : ∀ k, k ≤ i → ∀ J, (∀ a, ¬ a = 690 → ¬ a = 691 → J a = I a) → (∀ j, j < k → J 690 j = qj (((V ++ [pre]).headD []).getD j 0) ∧ J 691 j = qj (bm 9 (fun h => (V ++ [pre]).any (fun c => (c.getD j 0).testBit h)) : Nat)) → (∀ j, k ≤ j → J 690 j = I 690 j ∧ J 691 j = I 691 j) →
          ∃ I', (qFg I I' ∧ (∀ k, k < i → I' 689 k = I 689 k) ∧ qCV I' i (F.1 0 0) (V ++ [pre])) ∧ ∀ Q : qR → Prop, Q (.inl (none, qw g I')) → qwq d 253 24 [(0, .ref 245), (3, .int (qj t)), (6, .int (qj k))] [] (qw g J) Q := by
        refine upto _ (fun J h1 h2 h3 => ?_) (fun k hk ih J h1 h2 h3 => ?_)
        · have e52 : J 245 52 = qj V.length := by rw [h1 245 (by omega) (by omega)]; exact v1
          have e53 := (h1 245 (by omega) (by omega)).symm ▸ v2
          have ej51 : J 245 51 = qj i := by rw [h1 245 (by omega) (by omega)]; exact e51
          refine ⟨qup (qup J 245 52 (qj (V ++ [pre]).length)) 245 53 (qj (bm 9 (fun h => decide (h < F.1 0 0) && (V ++ [pre]).all (fun c => (un 0 c i).testBit h)) : Nat)), ⟨⟨fun a p _ q q' => by rw [qup_ne p, qup_ne p]; exact h1 a q q', fun j p q => by rw [qup_at, if_neg q, qup_at, if_neg p, h1 245 (by omega) (by omega)]⟩, fun k _ => by rw [qup_ne (by omega), qup_ne (by omega), h1 689 (by omega) (by omega)], ?_⟩, fun Q hQ => b253_24 (by omega) ?_⟩
          · refine ⟨by rw [qup_at, if_neg (by omega), qup_at, if_pos rfl], by rw [qup_at, if_pos rfl], fun _ k hk => by rw [qup_ne (by omega), qup_ne (by omega)]; exact (h2 k hk).1, fun k hk => by rw [qup_ne (by omega), qup_ne (by omega)]; exact (h2 k hk).2⟩
          · have ea : qj (bm 9 (fun h => decide (h < F.1 0 0) && V.all (fun c => (un 0 c i).testBit h)) : Nat) &&& qj (t : Int) = qj (bm 9 (fun h => decide (h < F.1 0 0) && (V ++ [pre]).all (fun c => (un 0 c i).testBit h)) : Nat) := by
              rw [← bm_self ht, qbm_and]
              congr 2
              refine bm_ext (fun k _ => ?_)
              rw [List.all_append]
              simp only [List.all_cons, List.all_nil, Bool.and_true, hun, Bool.and_assoc]
            have el : qj (V.length : Int) + qj 1 = qj (((V ++ [pre]).length : Nat) : Int) := by rw [qj_add, List.length_append]; rfl
            simp (disch := omega) only [ej51, qj_le, e52, e53, ea, el]
            exact ⟨fun _ => hQ, fun c => by omega⟩
        · have e52 : J 245 52 = qj V.length := by rw [h1 245 (by omega) (by omega)]; exact v1
          have ej51 : J 245 51 = qj i := by rw [h1 245 (by omega) (by omega)]; exact e51
          have e89 : J 689 k = qj (pre.getD k 0) := by rw [h1 689 (by omega) (by omega)]; exact h689 k hk
          have e91 : J 691 k = qj (bm 9 (fun h => V.any (fun c => (c.getD k 0).testBit h)) : Nat) := by rw [(h3 k (Nat.le_refl _)).2]; exact v4 k hk
          have eo : qj (bm 9 (fun h => V.any (fun c => (c.getD k 0).testBit h)) : Nat) ||| qj (pre.getD k 0 : Nat) = qj (bm 9 (fun h => (V ++ [pre]).any (fun c => (c.getD k 0).testBit h)) : Nat) := by
            rw [← bm_self (hp512 k hk), qbm_or]
            congr 2
            refine bm_ext (fun j _ => ?_)
            rw [List.any_append]
            simp only [List.any_cons, List.any_nil, Bool.or_false]
          have step : ∀ v, v = qj (((V ++ [pre]).headD []).getD k 0) → ∃ I', (qFg I I' ∧ (∀ k, k < i → I' 689 k = I 689 k) ∧ qCV I' i (F.1 0 0) (V ++ [pre])) ∧ ∀ Q : qR → Prop, Q (.inl (none, qw g I')) → qwq d 253 24 [(0, .ref 245), (3, .int (qj t)), (6, .int (qj ((k + 1 : Nat) : Int)))] [] (qw g (qup (qup J 690 k v) 691 k (qj (bm 9 (fun h => (V ++ [pre]).any (fun c => (c.getD k 0).testBit h)) : Nat)))) Q := fun v hv =>
            ih _ (fun a p q => by rw [qup_ne q, qup_ne p]; exact h1 a p q) (fun j hj => by
              rw [qup_ne (b := 690) (by omega), qup_at, qup_at, qup_ne (b := 691) (by omega)]
              by_cases e : j = k
              · subst e; rw [if_pos rfl, if_pos rfl]; exact ⟨hv, rfl⟩
              · rw [if_neg e, if_neg e]; exact h2 j (by omega)) (fun j hj => by
              rw [qup_ne (b := 690) (by omega), qup_at, qup_at, qup_ne (b := 691) (by omega), if_neg (by omega), if_neg (by omega)]; exact h3 j (by omega))
          cases hVe : V with
          | nil =>
            obtain ⟨I', k1, k2⟩ := step (qj (pre.getD k 0)) (by rw [hVe]; rfl)
            rw [hVe] at k1
            refine ⟨I', k1, fun Q hQ => b253_24 (by omega) ?_⟩
            have e52' : J 245 52 = qj 0 := by rw [e52, hVe]; rfl
            simp (disch := omega) only [ej51, qj_le, e52', qz0, e89, e91, eo, qIx_z, qj_nat, qup_ne, qj_add, qj_s1, true_and]
            exact ⟨fun c => by omega, fun _ => ⟨fun c => absurd trivial c, fun _ => k2 Q hQ⟩⟩
          | cons c V' =>
            have ehd : J 690 k = qj (((V ++ [pre]).headD []).getD k 0) := by rw [(h3 k (Nat.le_refl _)).1, v3 (by rw [hVe]; exact List.cons_ne_nil _ _) k hk, hVe]; rfl
            obtain ⟨I', k1, k2⟩ := step (J 690 k) ehd
            rw [hVe] at k1
            refine ⟨I', k1, fun Q hQ => b253_24 (by omega) ?_⟩
            have e52' : J 245 52 = qj ((V'.length + 1 : Nat) : Int) := by rw [e52, hVe]; rfl
            have hV2 : V'.length + 1 ≤ 362879 := by rw [hVe] at hV; exact hV
            simp (disch := omega) only [ej51, qj_le, e52', qz0, qj_eq, e89, e91, eo, qIx_z, qj_nat, qup_ne, qj_add, qj_s1, true_and]
            exact ⟨fun c => by omega, fun _ => ⟨fun _ => k2 Q hQ, fun c => by omega⟩⟩
      exact key 0 (Nat.zero_le _) I (fun _ _ _ => rfl) (fun j hj => absurd hj (Nat.not_lt_zero _)) (fun _ _ => ⟨rfl, rfl⟩)
    have hmap : (cE (F.2 2) (cK F ps) (cA F al ps) (fun i => decide (la i ≤ S.1 3 (ps i))) 0 i t).map (pre ++ ·) = [pre] := by
      show [pre ++ []] = _; rw [List.append_nil]
    rw [hmap] at hXL ⊢
    have hXL' : X.length ≤ 362879 := by rw [List.length_append] at hXL; simp at hXL; omega
    cases ho : o with
    | false =>
      rw [ho] at leaf
      obtain ⟨I', ⟨k1, k2, k3⟩, k4⟩ := leaf X (by omega) rfl rfl
      refine ⟨I', qRun_of fun Q hQ => b253_0 hsh (by omega) ?_, k1, k2, k3⟩
      simp (disch := omega) only [qb_f, qz0, e51]
      exact ⟨fun _ => ⟨fun c => absurd trivial c, fun _ => k4 Q hQ⟩, fun c => absurd trivial c⟩
    | true =>
      cases hXe : X with
      | nil =>
        rw [ho] at leaf
        obtain ⟨I', ⟨k1, k2, k3⟩, k4⟩ := leaf [] (by decide) (by rw [hXe]; rfl) (by rw [hXe]; rfl)
        refine ⟨I', qRun_of fun Q hQ => b253_0 hsh (by omega) ?_, k1, k2, k3⟩
        have e52 : I 245 52 = qj 0 := by rw [ho, hXe] at CV; exact CV.1
        simp (disch := omega) only [qb_t, qz0, e51, e52, qj_eq, qj_le]
        exact ⟨fun c => by omega, fun _ => ⟨fun _ => ⟨fun c => absurd trivial c, fun _ => k4 Q hQ⟩, fun c => absurd (Int.le_refl _) c⟩⟩
      | cons x X' =>
        rw [ho, hXe] at CV
        have e52 : I 245 52 = qj 1 := CV.1
        refine ⟨I, qRun_of fun Q hQ => b253_0 hsh (by omega) ?_, qFg_rf, fun _ _ => rfl, CV⟩
        simp (disch := omega) only [qb_t, qz0, e51, e52, qj_eq, qj_le]
        exact ⟨fun c => by omega, fun _ => ⟨fun c => by omega, fun _ => hQ⟩⟩
  | succ m ihm =>
    intro i t pre X d I him hpre hun ht hq hd MF R MC h689 hp512 CV hX hXL
    have hin : i < n := by omega
    obtain ⟨e51, emc⟩ := MC
    obtain ⟨e87, e88⟩ := emc i hin
    have hpi := hps i hin
    have hli := hla i hin
    have hw := W.2.2.2.2.2.1 _ hpi
    have v3 := WS.2.2.1 _ hpi
    have s3 := R.2.2.1 _ hpi
    -- only one is wanted and there is one: out at once
    by_cases hout : o = true ∧ X ≠ []
    · obtain ⟨ho, hne⟩ := hout
      cases hXe : X with
      | nil => exact absurd hXe hne
      | cons x X' =>
        subst ho
        rw [hXe] at CV
        have e52 : I 245 52 = qj 1 := CV.1
        refine ⟨I, qRun_of fun Q hQ => b253_0 hsh (by omega) ?_, qFg_rf, fun _ _ => rfl, CV⟩
        simp (disch := omega) only [qb_t, qz0, e51, e52, qj_eq, qj_le]
        exact ⟨fun c => by omega, fun _ => ⟨fun c => by omega, fun _ => hQ⟩⟩
    · let fE : Nat → List (List Nat) := fun s => if cOk (F.2 2) (cK F ps i) (cA F al ps i) t s = true then (cE (F.2 2) (cK F ps) (cA F al ps) (fun i => decide (la i ≤ S.1 3 (ps i))) m (i + 1) (t ||| s)).map (s :: ·) else []
      -- how it begins
      have begin_ : ∀ (Q : qR → Prop) , (S.1 3 (ps i) < la i → Q (.inl (none, qw g I))) → (¬ S.1 3 (ps i) < la i → qwq d 253 136 [(0, .ref 245), (1, .ref r), (2, .int (qj i)), (3, .int (qj t)), (4, .int (qj (bm 9 al : Nat))), (5, .int (qb o)), (6, .int (qj (ps i))), (7, .int (qj 1))] [] (qw g I) Q) → qwq d 253 0 [(0, .ref 245), (1, .ref r), (2, .int (qj i)), (3, .int (qj t)), (4, .int (qj (bm 9 al : Nat))), (5, .int (qb o))] [] (qw g I) Q := by
        intro Q h1 h2
        refine b253_0 hsh (by omega) ?_
        have go : (¬ qj (i : Int) = I 245 51 → qIx (qj (i : Int)) 12 ∧ (qIx ((qj 9) + (I 687 (qj (i : Int)).toNatClampNeg)) 107 ∧ ((((I 688 (qj (i : Int)).toNatClampNeg) ≤ (I r ((qj 9) + (I 687 (qj (i : Int)).toNatClampNeg)).toNatClampNeg) → qwq d 253 136 [(0, .ref 245), (1, .ref r), (2, .int (qj i)), (3, .int (qj t)), (4, .int (qj (bm 9 al : Nat))), (5, .int (qb o)), (6, .int (I 687 (qj (i : Int)).toNatClampNeg)), (7, .int (qj 1))] [] (qw g I) Q) ∧ (¬ ((I 688 (qj (i : Int)).toNatClampNeg) ≤ (I r ((qj 9) + (I 687 (qj (i : Int)).toNatClampNeg)).toNatClampNeg)) → Q (.inl (none, (qw g I)))))))) ∧ (¬ (¬ qj (i : Int) = (I 245 51)) → qwq d 253 24 [(0, .ref 245), (3, .int (qj t)), (6, .int (qj 0))] [] (qw g I) Q) := by
          simp (disch := omega) only [e51, qj_eq, qIx_z, qj_nat, e87, e88, qj_add, qj_c9, s3, qj_le, true_and]
          exact ⟨fun _ => ⟨fun c => h2 (by omega), fun c => h1 (by omega)⟩, fun c => by omega⟩
        cases ho : o with
        | false =>
          rw [ho] at go
          simp (disch := omega) only [qb_f, qz0]
          exact ⟨fun _ => go, fun c => absurd trivial c⟩
        | true =>
          have hXe : X = [] := Classical.byContradiction fun q => hout ⟨ho, q⟩
          have e52 : I 245 52 = qj 0 := by rw [ho, hXe] at CV; exact CV.1
          rw [ho] at go
          simp (disch := omega) only [qb_t, qz0, e52, qj_eq, qj_le]
          exact ⟨fun c => by omega, fun _ => ⟨fun _ => go, fun c => absurd (Int.le_refl _) c⟩⟩
      by_cases hs : S.1 3 (ps i) < la i
      · have hnil : cE (F.2 2) (cK F ps) (cA F al ps) (fun i => decide (la i ≤ S.1 3 (ps i))) (m + 1) i t = [] := by
          rw [cE, if_neg]; rw [decide_eq_true_iff]; omega
        rw [hnil, List.map_nil, List.append_nil]
        exact ⟨I, qRun_of fun Q hQ => begin_ Q (fun _ => hQ) (fun c => absurd hs c), qFg_rf, fun _ _ => rfl, CV⟩
      · have hE : cE (F.2 2) (cK F ps) (cA F al ps) (fun i => decide (la i ≤ S.1 3 (ps i))) (m + 1) i t = (List.range 512).flatMap fE := by
          rw [cE, if_pos]; rw [decide_eq_true_iff]; omega
        rw [hE] at hXL
        have hpreflen : ∀ a b : Nat, a ≤ b → ((List.range a).flatMap fE).length ≤ ((List.range b).flatMap fE).length := by
          intro a b hab
          induction b with
          | zero => rw [show a = 0 by omega]; exact Nat.le_refl _
          | succ b ih =>
            by_cases e : a = b + 1
            · rw [e]; exact Nat.le_refl _
            · have := ih (by omega)
              rw [List.range_succ, List.flatMap_append, List.length_append]; omega
        have hbig : ∀ s, 2 ^ F.1 0 0 ≤ s → s < 512 → fE s = [] := by
          intro s h1 h2
          refine if_neg (fun ho => ?_)
          unfold cOk at ho
          rw [Bool.and_eq_true, Bool.and_eq_true, Bool.and_eq_true, nsub h2] at ho
          have hsub := ho.1.1.2
          have : s < 2 ^ F.1 0 0 := by
            have e : bm (F.1 0 0) (fun k => s.testBit k) = s := by
              rw [← bm_up (F.1 0 0) (fun k => s.testBit k) 9 h9]
              refine Eq.trans (bm_ext (fun k hk => ?_)) (bm_self h2)
              cases ek : s.testBit k with
              | false => simp
              | true =>
                have := hsub k hk ek
                unfold cA at this
                rw [bm_tb, Bool.and_eq_true, Bool.and_eq_true] at this
                simp [hal k this.2.1]
            rw [← e]; exact bm_lt _ _
          omega
        have hall : ∀ b, 2 ^ F.1 0 0 ≤ b → b ≤ 512 → (List.range b).flatMap fE = (List.range (2 ^ F.1 0 0)).flatMap fE := by
          intro b
          induction b with
          | zero => intro h1 _; have := Nat.two_pow_pos (F.1 0 0); omega
          | succ b ih =>
            intro h1 h2
            by_cases e : 2 ^ F.1 0 0 = b + 1
            · rw [e]
            · rw [List.range_succ, List.flatMap_append, ih (by omega) (by omega)]
              simp [hbig b (by omega) (by omega)]
        have hp2 : 2 ^ F.1 0 0 ≤ 512 := Nat.le_trans (Nat.pow_le_pow_right (by decide : 0 < 2) h9) (by decide)
        have hpp := Nat.two_pow_pos (F.1 0 0)
        let Y : Nat → List (List Nat) := fun s => X ++ ((List.range s).flatMap fE).map (pre ++ ·)
        have hYl : ∀ s, s ≤ 512 → (Y s).length ≤ 362880 := fun s hs => by
          have := hpreflen s 512 hs
          rw [List.length_append, List.length_map] at hXL
          show (X ++ _).length ≤ _
          rw [List.length_append, List.length_map]; omega
        have key : ∀ s, s ≤ 2 ^ F.1 0 0 → 1 ≤ s → ∀ J, qFg I J → (∀ k, k < i → J 689 k = I 689 k) → qCV J n (F.1 0 0) (capV o (Y s)) →
            ∃ I', (qFg I I' ∧ (∀ k, k < i → I' 689 k = I 689 k) ∧ qCV I' n (F.1 0 0) (capV o (Y 512))) ∧ ∀ Q : qR → Prop, Q (.inl (none, qw g I')) → qwq d 253 136 [(0, .ref 245), (1, .ref r), (2, .int (qj i)), (3, .int (qj t)), (4, .int (qj (bm 9 al : Nat))), (5, .int (qb o)), (6, .int (qj (ps i))), (7, .int (qj s))] [] (qw g J) Q := by
          refine upto (P := fun s => 1 ≤ s → ∀ J, qFg I J → (∀ k, k < i → J 689 k = I 689 k) → qCV J n (F.1 0 0) (capV o (Y s)) → _) _ (fun _ J h1 h2 h3 => ?_) (fun s hs2 ih hs1 J h1 h2 h3 => ?_)
          · have ey : Y 512 = Y (2 ^ F.1 0 0) := by
              show X ++ _ = X ++ _
              rw [hall 512 hp2 (Nat.le_refl _)]
            refine ⟨J, ⟨h1, h2, by rw [ey]; exact h3⟩, fun Q hQ => b253_136 hsh (by omega) ?_⟩
            have f1 := (qFg_F h1 W MF).1
            rw [f1, qshl1 (by omega)]
            simp (disch := omega) only [qj_le]
            exact ⟨fun _ => hQ, fun c => by omega⟩
          · have MF' := qFg_F h1 W MF
            have R' : qMS F J r S := qMS_cg R (h1.1 r (by omega) (by unfold qisR at hr; omega) (by unfold qisR at hr; omega) (by unfold qisR at hr; omega))
            have f1 := MF'.1
            have f8 := MF'.2.2.2.2.2.2.2.1 _ hpi
            have f15 := MF'.2.2.2.2.2.2.2.2.2.2.2.2.2.2.1 (ps i) (by omega)
            have hs512 : s < 512 := by omega
            have k172 := m172 (d := d - 1) (g := g) (I := J) (by omega) (qj (s : Int))
            have e172 : cn 9 (fun k => qhas (qj (s : Int)) (qj (k : Int))) = p9 s := cn_ext (fun k hk => qhas_n _ (by omega))
            rw [e172] at k172
            have hp9 := p9_le s
            have hY : Y (s + 1) = Y s ++ (fE s).map (pre ++ ·) := by
              show X ++ _ = X ++ _ ++ _
              rw [List.range_succ, List.flatMap_append, List.map_append, List.append_assoc]
              simp
            -- nothing comes of this set
            have skip : fE s = [] → ∃ I', (qFg I I' ∧ (∀ k, k < i → I' 689 k = I 689 k) ∧ qCV I' n (F.1 0 0) (capV o (Y 512))) ∧ ∀ Q : qR → Prop, Q (.inl (none, qw g I')) → qwq d 253 136 [(0, .ref 245), (1, .ref r), (2, .int (qj i)), (3, .int (qj t)), (4, .int (qj (bm 9 al : Nat))), (5, .int (qb o)), (6, .int (qj (ps i))), (7, .int (qj ((s + 1 : Nat) : Int)))] [] (qw g J) Q := fun hf => by
              rw [hf, List.map_nil, List.append_nil] at hY
              exact ih (by omega) J h1 h2 (by rw [hY]; exact h3)
            by_cases hp : p9 s = F.1 5 (ps i)
            · by_cases hfr : ((s &&& cA F al ps i == s) && (s &&& t == 0)) = true
              · have k252 := m252 (d := d - 1) (g := g) (by omega) MF' W ht hs512
                have hsym : ∀ h g, F.2 2 h g = true → F.2 2 g h = true := fun h g e => (W.2.2.2.2.2.2.2.2.2.2.1 h g e).2.2.2
                rw [cSw_eq hsym hq] at k252
                have hok : cOk (F.2 2) (cK F ps i) (cA F al ps i) t s = cQt (F.2 2) (t ||| s) := by
                  unfold cOk
                  rw [show (p9 s == cK F ps i) = true from beq_iff_eq.mpr hp, Bool.true_and, hfr, Bool.true_and]
                cases hqs : cQt (F.2 2) (t ||| s) with
                | false =>
                  obtain ⟨I', k1, k2⟩ := skip (if_neg (by rw [hok, hqs]; exact Bool.false_ne_true))
                  refine ⟨I', k1, fun Q hQ => b253_136 hsh (by omega) ?_⟩
                  rw [hqs] at k252
                  rw [f1, qshl1 (by omega)]
                  simp (disch := omega) only [qj_le]
                  refine ⟨fun c => by omega, fun _ => ⟨_, _, k172, qIx_z (by omega) (by omega) (by omega), ?_⟩⟩
                  simp (disch := omega) only [qj_nat, q2_e, f8, f15, qj_eq, qj_add, qj_s1]
                  rw [qfree2 hs512 ht]
                  exact ⟨fun c => by omega, fun _ => ⟨fun c => absurd hfr c, fun _ => ⟨_, _, k252, fun c => Bool.noConfusion c, fun _ => k2 Q hQ⟩⟩⟩
                | true =>
                  have hfe : (fE s).map (pre ++ ·) = (cE (F.2 2) (cK F ps) (cA F al ps) (fun i => decide (la i ≤ S.1 3 (ps i))) m (i + 1) (t ||| s)).map ((pre ++ [s]) ++ ·) := by
                    show (if _ then _ else _ : List (List Nat)).map _ = _
                    rw [if_pos (by rw [hok, hqs]), List.map_map]
                    refine List.map_congr_left (fun c _ => ?_)
                    show pre ++ (s :: c) = pre ++ [s] ++ c
                    rw [List.append_assoc]; rfl
                  have CVJ : qCV (qup J 689 i (qj s)) n (F.1 0 0) (capV o (Y s)) := by
                    obtain ⟨q1, q2, q3, q4⟩ := h3
                    exact ⟨by rw [qup_ne (by omega)]; exact q1, by rw [qup_ne (by omega)]; exact q2, fun hne => by rw [qup_ne (by omega)]; exact q3 hne, by rw [qup_ne (by omega)]; exact q4⟩
                  have hun2 : un 0 (pre ++ [s]) (i + 1) = t ||| s := by
                    have := un_app pre 0 [s] 1
                    rw [hpre, hun] at this
                    exact this
                  have h1' : qFg I (qup J 689 i (qj s)) := qFg_tr h1 ⟨fun a _ p _ _ => qup_ne p, fun j _ _ => by rw [qup_ne (by omega)]⟩
                  obtain ⟨J2, w1, w2, w3, w4⟩ := ihm (i + 1) (t ||| s) (pre ++ [s]) (Y s) (d - 1) (qup J 689 i (qj s)) (by omega) (by rw [List.length_append, hpre]; rfl) hun2 (Nat.or_lt_two_pow (n := 9) ht hs512) hqs (by omega) (qFg_F h1' W MF)
                    (qMS_cg R (h1'.1 r (by omega) (by unfold qisR at hr; omega) (by unfold qisR at hr; omega) (by unfold qisR at hr; omega))) ⟨(h1'.2 51 (by omega) (by omega)).trans e51, fun k hk => by rw [h1'.1 687 (by omega) (by omega) (by omega) (by omega), h1'.1 688 (by omega) (by omega) (by omega) (by omega)]; exact emc k hk⟩
                    (fun k hk => by
                      rw [qup_at]
                      by_cases e : k = i
                      · subst e
                        rw [if_pos rfl, List.getD_eq_getElem?_getD, List.getElem?_append_right (by omega), hpre, Nat.sub_self]; rfl
                      · rw [if_neg e, h2 k (by omega), h689 k (by omega), List.getD_eq_getElem?_getD, List.getD_eq_getElem?_getD, List.getElem?_append_left (by omega)])
                    (fun k hk => by
                      by_cases e : k = i
                      · subst e
                        rw [List.getD_eq_getElem?_getD, List.getElem?_append_right (by omega), hpre, Nat.sub_self]; exact hs512
                      · have := hp512 k (by omega)
                        rw [List.getD_eq_getElem?_getD] at this ⊢
                        rw [List.getElem?_append_left (by omega)]; exact this)
                    CVJ (hYl s (by omega)) (by rw [← hfe, ← hY]; exact hYl (s + 1) (by omega))
                  rw [← hfe, ← hY] at w4
                  obtain ⟨I', k1, k2⟩ := ih (by omega) J2 (qFg_tr h1' w2) (fun k hk => by rw [w3 k (by omega), qup_at, if_neg (by omega)]; exact h2 k hk) w4
                  refine ⟨I', k1, fun Q hQ => b253_136 hsh (by omega) ?_⟩
                  rw [hqs] at k252
                  rw [f1, qshl1 (by omega)]
                  simp (disch := omega) only [qj_le]
                  refine ⟨fun c => by omega, fun _ => ⟨_, _, k172, qIx_z (by omega) (by omega) (by omega), ?_⟩⟩
                  simp (disch := omega) only [qj_nat, q2_e, f8, f15, qj_eq, qj_add, qIx_z, qj_s1, true_and]
                  rw [qfree2 hs512 ht, qj_or]
                  exact ⟨fun c => by omega, fun _ => ⟨fun c => absurd hfr c, fun _ => ⟨_, _, k252, fun _ => ⟨_, w1, k2 Q hQ⟩, fun c => Bool.noConfusion c⟩⟩⟩
              · obtain ⟨I', k1, k2⟩ := skip (if_neg (fun ho => hfr (by
                  unfold cOk at ho
                  rw [Bool.and_eq_true, Bool.and_eq_true, Bool.and_eq_true] at ho
                  rw [ho.1.1.2, ho.1.2]; rfl)))
                refine ⟨I', k1, fun Q hQ => b253_136 hsh (by omega) ?_⟩
                rw [f1, qshl1 (by omega)]
                simp (disch := omega) only [qj_le]
                refine ⟨fun c => by omega, fun _ => ⟨_, _, k172, qIx_z (by omega) (by omega) (by omega), ?_⟩⟩
                simp (disch := omega) only [qj_nat, q2_e, f8, f15, qj_eq, qj_add, qj_s1]
                rw [qfree2 hs512 ht]
                exact ⟨fun c => by omega, fun _ => ⟨fun _ => k2 Q hQ, fun c => absurd (Classical.not_not.mp c) hfr⟩⟩
            · obtain ⟨I', k1, k2⟩ := skip (if_neg (fun ho => hp (by
                unfold cOk at ho
                rw [Bool.and_eq_true, Bool.and_eq_true, Bool.and_eq_true, beq_iff_eq] at ho
                exact ho.1.1.1)))
              refine ⟨I', k1, fun Q hQ => b253_136 hsh (by omega) ?_⟩
              rw [f1, qshl1 (by omega)]
              simp (disch := omega) only [qj_le]
              refine ⟨fun c => by omega, fun _ => ⟨_, _, k172, qIx_z (by omega) (by omega) (by omega), ?_⟩⟩
              simp (disch := omega) only [qj_nat, q2_e, f8, qj_eq, qj_add, qj_s1]
              exact ⟨fun _ => k2 Q hQ, fun c => by omega⟩
        have hY1 : Y 1 = X := by
          show X ++ ((List.range 1).flatMap fE).map (pre ++ ·) = X
          have : fE 0 = [] := if_neg (fun ho => by
            unfold cOk at ho
            rw [Bool.and_eq_true, Bool.and_eq_true, Bool.and_eq_true, beq_iff_eq] at ho
            have z : p9 0 = 0 := by decide
            have := ho.1.1.1
            rw [z] at this
            unfold cK at this; omega)
          simp [List.range_succ, this]
        obtain ⟨I', ⟨k1, k2, k3⟩, k4⟩ := key 1 (by omega) (Nat.le_refl _) I qFg_rf (fun _ _ => rfl) (by rw [hY1]; exact CV)
        refine ⟨I', qRun_of fun Q hQ => begin_ Q (fun c => absurd c hs) (fun _ => k4 Q hQ), k1, k2, ?_⟩
        rw [hE]; exact k3
end CM
