/-! ===== nights: the first plan, with and without alike nights ===== -/
def fre (sil : Nat → Nat → Bool) (h : Nat) (c : Nat → Nat) (n : Nat) : Bool := !(anb h (fun g => sil h g && c g == n + 1))
def frN {α : Type} : Nat → (Nat → Option α) → Option α
  | 0, _ => none
  | n + 1, f => match frN n f with
    | some a => some a
    | none => f n
def cup (c : Nat → Nat) (h v : Nat) : Nat → Nat := fun g => if g = h then v else c g
def dS (sil : Nat → Nat → Bool) (al : Nat → Bool) (sym : Bool) (many : Nat) : Nat → Nat → Nat → (Nat → Nat) → Option (Nat → Nat)
  | 0, _, _, c => some c
  | r + 1, h, u, c => if al h = true then frN (if sym = true then min (u + 1) many else many) (fun n => if fre sil h c n = true then dS sil al sym many r (h + 1) (max u (n + 1)) (cup c h (n + 1)) else none) else dS sil al sym many r (h + 1) u (cup c h 0)
theorem frN_none {α : Type} {f : Nat → Option α} : ∀ B, frN B f = none ↔ ∀ n, n < B → f n = none
  | 0 => ⟨fun _ n h => absurd h (Nat.not_lt_zero _), fun _ => rfl⟩
  | B + 1 => by
    rw [frN]
    have ih := frN_none (f := f) B
    cases e : frN B f with
    | some a =>
      constructor
      · intro h; cases h
      · intro h
        have := ih.mpr (fun n hn => h n (by omega))
        rw [e] at this; cases this
    | none =>
      have h0 := ih.mp e
      constructor
      · intro h n hn
        by_cases e2 : n = B
        · subst e2; exact h
        · exact h0 n (by omega)
      · intro h; exact h B (by omega)
theorem frN_up {α : Type} {f : Nat → Option α} {B : Nat} {a : α} (h : frN B f = some a) : ∀ C, B ≤ C → frN C f = some a
  | 0, hC => by rw [show B = 0 by omega] at h; exact h
  | C + 1, hC => by
    by_cases e : B = C + 1
    · rw [← e]; exact h
    · rw [frN, frN_up h C (by omega)]
theorem frN_ext {α : Type} {f f' : Nat → Option α} : ∀ B, (∀ n, n < B → f n = f' n) → frN B f = frN B f'
  | 0, _ => rfl
  | B + 1, h => by rw [frN, frN, frN_ext B (fun n hn => h n (by omega)), h B (by omega)]
def Sol (sil : Nat → Nat → Bool) (al : Nat → Bool) (many H h : Nat) (c : Nat → Nat) : Prop :=
  ∃ e : Nat → Nat, (∀ g, g < h → e g = c g) ∧ ∀ k, h ≤ k → k < H → (al k = true → 1 ≤ e k ∧ e k ≤ many ∧ ∀ g, g < k → sil k g = true → ¬ e g = e k) ∧ (al k = false → e k = 0)
theorem fre_iff {sil : Nat → Nat → Bool} {h : Nat} {c : Nat → Nat} {n : Nat} : fre sil h c n = true ↔ ∀ g, g < h → sil h g = true → ¬ c g = n + 1 := by
  unfold fre
  rw [Bool.not_eq_true', anb_false]
  constructor
  · intro q g hg hs e
    have := q g hg
    rw [hs, Bool.true_and, beq_eq_false_iff_ne] at this
    exact this e
  · intro q g hg
    cases hs : sil h g with
    | false => rfl
    | true => rw [Bool.true_and, beq_eq_false_iff_ne]; exact q g hg hs
theorem dF_iff {sil : Nat → Nat → Bool} {al : Nat → Bool} {many : Nat} : ∀ r h u c, (∃ x, dS sil al false many r h u c = some x) ↔ Sol sil al many (h + r) h c
  | 0, h, u, c => ⟨fun _ => ⟨c, fun _ _ => rfl, fun k h1 h2 => by omega⟩, fun _ => ⟨c, rfl⟩⟩
  | r + 1, h, u, c => by
    rw [dS]
    cases ha : al h with
    | false =>
      rw [if_neg Bool.false_ne_true, dF_iff r (h + 1) u (cup c h 0), show h + 1 + r = h + (r + 1) by omega]
      constructor
      · rintro ⟨e, e1, e2⟩
        refine ⟨e, fun g hg => ?_, fun k h1 h2 => ?_⟩
        · rw [e1 g (by omega)]; unfold cup; rw [if_neg (by omega)]
        · by_cases ek : k = h
          · subst ek
            refine ⟨fun q => (by rw [ha] at q; cases q), fun _ => ?_⟩
            rw [e1 k (by omega)]; unfold cup; rw [if_pos rfl]
          · exact e2 k (by omega) h2
      · rintro ⟨e, e1, e2⟩
        refine ⟨e, fun g hg => ?_, fun k h1 h2 => e2 k (by omega) h2⟩
        unfold cup
        by_cases eg : g = h
        · subst eg; rw [if_pos rfl]; exact (e2 g (Nat.le_refl _) (by omega)).2 ha
        · rw [if_neg eg]; exact e1 g (by omega)
    | true =>
      rw [if_pos rfl, if_neg Bool.false_ne_true]
      have hn : (∃ x, frN many (fun n => if fre sil h c n = true then dS sil al false many r (h + 1) (max u (n + 1)) (cup c h (n + 1)) else none) = some x) ↔ ∃ n, n < many ∧ fre sil h c n = true ∧ Sol sil al many (h + (r + 1)) (h + 1) (cup c h (n + 1)) := by
        constructor
        · rintro ⟨x, hx⟩
          refine Classical.byContradiction fun q => ?_
          have : frN many (fun n => if fre sil h c n = true then dS sil al false many r (h + 1) (max u (n + 1)) (cup c h (n + 1)) else none) = none := (frN_none _).mpr (fun n hn => by
            by_cases hf : fre sil h c n = true
            · rw [if_pos hf]
              cases e : dS sil al false many r (h + 1) (max u (n + 1)) (cup c h (n + 1)) with
              | none => rfl
              | some y =>
                have := (dF_iff r (h + 1) (max u (n + 1)) (cup c h (n + 1))).mp ⟨y, e⟩
                rw [show h + 1 + r = h + (r + 1) by omega] at this
                exact absurd ⟨n, hn, hf, this⟩ q
            · rw [if_neg hf])
          rw [this] at hx; cases hx
        · rintro ⟨n, hn, hf, hs⟩
          rw [show h + (r + 1) = h + 1 + r by omega, ← dF_iff r (h + 1) (max u (n + 1))] at hs
          obtain ⟨y, hy⟩ := hs
          cases e : frN many (fun n => if fre sil h c n = true then dS sil al false many r (h + 1) (max u (n + 1)) (cup c h (n + 1)) else none) with
          | some x => exact ⟨x, rfl⟩
          | none =>
            have := (frN_none _).mp e n hn
            simp only [hf, if_true] at this
            rw [hy] at this; cases this
      rw [hn]
      constructor
      · rintro ⟨n, hn, hf, e, e1, e2⟩
        refine ⟨e, fun g hg => ?_, fun k h1 h2 => ?_⟩
        · rw [e1 g (by omega)]; unfold cup; rw [if_neg (by omega)]
        · by_cases ek : k = h
          · subst ek
            have hk : e k = n + 1 := by rw [e1 k (by omega)]; unfold cup; rw [if_pos rfl]
            refine ⟨fun _ => ⟨by omega, by omega, fun g hg hs => ?_⟩, fun q => (by rw [ha] at q; cases q)⟩
            rw [hk, e1 g (by omega)]; unfold cup; rw [if_neg (by omega)]
            exact fre_iff.mp hf g hg hs
          · exact e2 k (by omega) h2
      · rintro ⟨e, e1, e2⟩
        obtain ⟨q1, q2, q3⟩ := (e2 h (Nat.le_refl _) (by omega)).1 ha
        refine ⟨e h - 1, by omega, fre_iff.mpr (fun g hg hs => ?_), e, fun g hg => ?_, fun k h1 h2 => e2 k (by omega) h2⟩
        · rw [← e1 g hg, show e h - 1 + 1 = e h by omega]; exact q3 g hg hs
        · unfold cup
          by_cases eg : g = h
          · subst eg; rw [if_pos rfl]; omega
          · rw [if_neg eg]; exact e1 g (by omega)
/-- nights are alike until somebody is on them -/
theorem Sol_swap {sil : Nat → Nat → Bool} {al : Nat → Bool} {many H h u n : Nat} {c : Nat → Nat} (hc : ∀ g, g < h → c g ≤ u) (hun : u < n) (hn : n < many) (hs : Sol sil al many H (h + 1) (cup c h (n + 1))) : Sol sil al many H (h + 1) (cup c h (u + 1)) := by
  obtain ⟨e, e1, e2⟩ := hs
  let w : Nat → Nat := fun x => if x = n + 1 then u + 1 else if x = u + 1 then n + 1 else x
  have winj : ∀ x y, w x = w y → x = y := fun x y q => by
    have q : (if x = n + 1 then u + 1 else if x = u + 1 then n + 1 else x) = (if y = n + 1 then u + 1 else if y = u + 1 then n + 1 else y) := q
    split at q <;> split at q <;> (try split at q) <;> (try split at q) <;> omega
  refine ⟨fun k => w (e k), fun g hg => ?_, fun k h1 h2 => ?_⟩
  · show w (e g) = _
    rw [e1 g hg]
    unfold cup
    by_cases eg : g = h
    · rw [if_pos eg, if_pos eg]; exact if_pos rfl
    · rw [if_neg eg, if_neg eg]
      have := hc g (by omega)
      show (if c g = n + 1 then _ else if c g = u + 1 then _ else _) = _
      rw [if_neg (by omega), if_neg (by omega)]
  · obtain ⟨q1, q2⟩ := e2 k h1 h2
    refine ⟨fun ha => ?_, fun ha => ?_⟩
    · obtain ⟨q3, q4, q5⟩ := q1 ha
      have hw : 1 ≤ w (e k) ∧ w (e k) ≤ many := by
        show 1 ≤ (if e k = n + 1 then _ else if e k = u + 1 then _ else _) ∧ (if e k = n + 1 then _ else if e k = u + 1 then _ else _) ≤ _
        split <;> (try split) <;> omega
      exact ⟨hw.1, hw.2, fun g hg hs q => q5 g hg hs (winj _ _ q)⟩
    · show w (e k) = 0
      rw [q2 ha]
      show (if 0 = n + 1 then _ else if 0 = u + 1 then _ else _) = 0
      rw [if_neg (by omega), if_neg (by omega)]
theorem dS_eq {sil : Nat → Nat → Bool} {al : Nat → Bool} {many : Nat} : ∀ r h u c, (∀ g, g < h → c g ≤ u) → dS sil al true many r h u c = dS sil al false many r h u c
  | 0, h, u, c, _ => rfl
  | r + 1, h, u, c, hc => by
    rw [dS, dS]
    cases ha : al h with
    | false =>
      rw [if_neg Bool.false_ne_true, if_neg Bool.false_ne_true]
      refine dS_eq r (h + 1) u _ (fun g hg => ?_)
      unfold cup
      by_cases e : g = h
      · rw [if_pos e]; omega
      · rw [if_neg e]; exact hc g (by omega)
    | true =>
      rw [if_pos rfl, if_pos rfl, if_pos rfl, if_neg Bool.false_ne_true]
      have hcup : ∀ n g, g < h + 1 → cup c h (n + 1) g ≤ max u (n + 1) := fun n g hg => by
        unfold cup
        by_cases e : g = h
        · rw [if_pos e]; omega
        · rw [if_neg e]; have := hc g (by omega); omega
      have hext : ∀ B, frN B (fun n => if fre sil h c n = true then dS sil al true many r (h + 1) (max u (n + 1)) (cup c h (n + 1)) else none) = frN B (fun n => if fre sil h c n = true then dS sil al false many r (h + 1) (max u (n + 1)) (cup c h (n + 1)) else none) := fun B => frN_ext B (fun n _ => by rw [dS_eq r (h + 1) (max u (n + 1)) _ (hcup n)])
      rw [hext]
      cases e : frN (min (u + 1) many) (fun n => if fre sil h c n = true then dS sil al false many r (h + 1) (max u (n + 1)) (cup c h (n + 1)) else none) with
      | some a => rw [frN_up e many (by omega)]
      | none =>
        have h0 := (frN_none _).mp e
        refine ((frN_none _).mpr (fun n hn => ?_)).symm
        by_cases hnu : n < min (u + 1) many
        · exact h0 n hnu
        · by_cases hf : fre sil h c n = true
          · rw [if_pos hf]
            cases e2 : dS sil al false many r (h + 1) (max u (n + 1)) (cup c h (n + 1)) with
            | none => rfl
            | some y =>
              exfalso
              have s1 := (dF_iff r (h + 1) (max u (n + 1)) (cup c h (n + 1))).mp ⟨y, e2⟩
              have s2 := Sol_swap hc (show u < n by omega) hn s1
              obtain ⟨z, hz⟩ := (dF_iff r (h + 1) (max u (u + 1)) (cup c h (u + 1))).mpr s2
              have hfu : fre sil h c u = true := fre_iff.mpr (fun g hg _ q => by have := hc g hg; omega)
              have := h0 u (by omega)
              simp only [hfu, if_true] at this
              rw [hz] at this; cases this
          · rw [if_neg hf]
/-- as many nights as hands are enough -/
theorem dF_9 {sil : Nat → Nat → Bool} {al : Nat → Bool} {H : Nat} (hH : H ≤ 9) (hirr : ∀ h, sil h h = false) : ∃ x, dS sil al false 9 H 0 0 (fun _ => 0) = some x := by
  rw [dF_iff, Nat.zero_add]
  let e : Nat → Nat := fun k => if al k = true then k + 1 else 0
  refine ⟨e, fun g hg => absurd hg (Nat.not_lt_zero _), fun k _ hk => ⟨fun ha => ?_, fun ha => ?_⟩⟩
  · have ek : e k = k + 1 := if_pos ha
    refine ⟨by rw [ek]; omega, by rw [ek]; omega, fun g hg hs q => ?_⟩
    have eg : e g ≤ g + 1 := by
      show (if al g = true then g + 1 else 0) ≤ _
      split <;> omega
    rw [ek] at q; omega
  · show (if al k = true then k + 1 else 0) = 0
    rw [ha]; rfl
def aNf (p : Nat → Bool) : Nat → Nat → Nat
  | 0, m => m
  | r + 1, m => if p m = true then m else aNf p r (m + 1)
def dN (F : qFam) (S : qSt) (m : Nat) : Option (Nat → Nat) := dS (F.2 2) (aAlv F S) true m (F.1 0 0) 0 0 (fun _ => 0)
/-- NIGHTS, and who is on which (and 1) -/
def aNt (F : qFam) (S : qSt) : Nat := aNf (fun m => (dN F S m).isSome) 9 0
def aNg (F : qFam) (S : qSt) : Nat → Nat := (dN F S (aNt F S)).getD (fun _ => 0)
theorem aNf_at {p : Nat → Bool} : ∀ r m, (∀ k, k < m → p k = false) → p (m + r) = true → p (aNf p r m) = true ∧ (∀ k, k < aNf p r m → p k = false) ∧ aNf p r m ≤ m + r
  | 0, m, h, h2 => ⟨h2, h, by rw [aNf]; omega⟩
  | r + 1, m, h, h2 => by
    rw [aNf]
    cases e : p m with
    | true => rw [if_pos rfl]; exact ⟨e, h, by omega⟩
    | false =>
      rw [if_neg Bool.false_ne_true]
      obtain ⟨k1, k2, k3⟩ := aNf_at r (m + 1) (fun k hk => by
        by_cases ek : k = m
        · subst ek; exact e
        · exact h k (by omega)) (by rw [show m + 1 + r = m + (r + 1) by omega]; exact h2)
      exact ⟨k1, k2, by omega⟩
theorem aNt_at {F : qFam} {S : qSt} (W : qWF F) : (dN F S (aNt F S)).isSome = true ∧ (∀ k, k < aNt F S → (dN F S k).isSome = false) ∧ aNt F S ≤ 9 := by
  have h9 : (dN F S 9).isSome = true := by
    unfold dN
    rw [dS_eq _ _ _ _ (fun g hg => absurd hg (Nat.not_lt_zero _))]
    obtain ⟨x, hx⟩ := dF_9 (sil := F.2 2) (al := aAlv F S) W.1 (fun h => by
      cases e : F.2 2 h h with
      | false => rfl
      | true => exact absurd rfl (W.2.2.2.2.2.2.2.2.2.2.1 h h e).2.2.1)
    rw [hx]; rfl
  have := aNf_at (p := fun m => (dN F S m).isSome) 9 0 (fun k hk => absurd hk (Nat.not_lt_zero _)) h9
  exact ⟨this.1, this.2.1, by have := this.2.2; unfold aNt; omega⟩
