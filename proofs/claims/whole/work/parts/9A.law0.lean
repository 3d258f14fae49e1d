/-! ===== the text of the law ===== -/
abbrev qLR : Type := (Nat × Nat) ⊕ (qLw × Nat)
def ladd (L : qLw) (w : Nat) : qLw := (L.1 + 1, iup L.2 L.1 w)
/-- a word of the law's -/
def aLwd (T : Nat → Nat) (b e : Nat) : Option Nat := if aIs T b e 9 = true then some 1000 else if aIs T b e 10 = true then some 1001 else if aIs T b e 11 = true then some 1002 else if aIs T b e 12 = true then some 1003 else if aIs T b e 13 = true then some 1004 else if aIs T b e 14 = true then some 1005 else if aIs T b e 15 = true then some 1006 else if aIs T b e 16 = true then some 1007 else if aIs T b e 17 = true then some 1008 else if aIs T b e 18 = true then some 2000 else if aIs T b e 19 = true then some 2001 else none
/-- sum 0 and its tail 1, product 2 and its tail 3, unit 4; fuel, how many are open -/
def aLw (T : Nat → Nat) (n : Nat) : Nat → Nat → Nat → qLw → Nat → qLR
  | 0, _, _, _, _ => .inl (0, 0)
  | r + 1, m, o, L, i =>
    if m = 0 then
      match aLw T n r 2 o L i with
      | .inl e => .inl e
      | .inr q => aLw T n r 1 o q.1 q.2
    else if m = 1 then
      if tBl T n i < n ∧ (T (tBl T n i) = 43 ∨ T (tBl T n i) = 45) then
        match aLw T n r 2 o L (tBl T n i + 1) with
        | .inl e => .inl e
        | .inr q => aLw T n r 1 o (ladd q.1 (if T (tBl T n i) = 43 then 2002 else 2003)) q.2
      else .inr (L, tBl T n i)
    else if m = 2 then
      match aLw T n r 4 o L i with
      | .inl e => .inl e
      | .inr q => aLw T n r 3 o q.1 q.2
    else if m = 3 then
      if tBl T n i < n ∧ (T (tBl T n i) = 42 ∨ T (tBl T n i) = 47 ∨ T (tBl T n i) = 37) then
        match aLw T n r 4 o L (tBl T n i + 1) with
        | .inl e => .inl e
        | .inr q => aLw T n r 3 o (ladd q.1 (if T (tBl T n i) = 42 then 2004 else if T (tBl T n i) = 47 then 2005 else 2006)) q.2
      else .inr (L, tBl T n i)
    else if tBl T n i < n ∧ dg (T (tBl T n i)) = true then
      match aNum T n i 0 999 with
      | .inl e => .inl e
      | .inr q => .inr (ladd L q.1, q.2)
    else if tBl T n i < n ∧ T (tBl T n i) = 40 then
      if 6 ≤ o then .inl (3, tBl T n i) else
      match aLw T n r 0 (o + 1) L (tBl T n i + 1) with
      | .inl e => .inl e
      | .inr q => match aSgn T n q.2 41 with
        | .inl e => .inl e
        | .inr j => .inr (q.1, j)
    else match aWrd T n i with
      | .inl e => .inl e
      | .inr w => match aLwd T w.1 w.2 with
        | none => .inl (1, w.1)
        | some c =>
          if c < 2000 then .inr (ladd L c, w.2)
          else if 6 ≤ o then .inl (3, w.1) else
          match aSgn T n w.2 91 with
          | .inl e => .inl e
          | .inr j1 => match aLw T n r 0 (o + 1) L j1 with
            | .inl e => .inl e
            | .inr q1 => match aSgn T n q1.2 44 with
              | .inl e => .inl e
              | .inr j2 => match aLw T n r 0 (o + 1) q1.1 j2 with
                | .inl e => .inl e
                | .inr q2 => match aSgn T n q2.2 93 with
                  | .inl e => .inl e
                  | .inr j3 => .inr (ladd q2.1 c, j3)
/-- a law's text, read whole -/
def aLawT (T : Nat → Nat) (n : Nat) : (Nat × Nat) ⊕ qLw :=
  match aLw T n (3 * n + 3) 0 0 (0, fun _ => 0) 0 with
  | .inl e => .inl e
  | .inr q => if n ≤ tBl T n q.2 then .inr q.1 else .inl (1, tBl T n q.2)
section LAW0
variable {T : Nat → Nat} {n : Nat}
theorem aSgn_s {i s e : Nat} (h : aSgn T n i s = .inr e) (hi : i ≤ n) : i < e ∧ e ≤ n := by
  unfold aSgn at h
  have hb := tBl_b (T := T) hi
  split at h
  · injection h with h; omega
  · exact inl_inr h
theorem aWrd_s {i : Nat} {w : Nat × Nat} (h : aWrd T n i = .inr w) (hi : i ≤ n) : w.1 = tBl T n i ∧ w.2 = tLt T n (tBl T n i) ∧ i ≤ w.1 ∧ w.1 < w.2 ∧ w.2 ≤ n := by
  have hb := tBl_b (T := T) hi
  unfold aWrd at h
  split at h
  · rename_i c
    injection h with h
    subst h
    refine ⟨rfl, rfl, hb.1, ?_, (tLt_b hb.2).2⟩
    have e : tLt T n (tBl T n i) = tLt T n (tBl T n i + 1) := aLd_st (p := fun k => ltr (T k)) c.1 c.2
    show tBl T n i < tLt T n (tBl T n i)
    rw [e]
    exact (tLt_b (show tBl T n i + 1 ≤ n by omega)).1
  · exact inl_inr h
theorem aLwd_b {b e c : Nat} (h : aLwd T b e = some c) : (1000 ≤ c ∧ c ≤ 1008) ∨ c = 2000 ∨ c = 2001 := by
  unfold aLwd at h
  split at h
  · injection h; omega
  · split at h
    · injection h; omega
    · split at h
      · injection h; omega
      · split at h
        · injection h; omega
        · split at h
          · injection h; omega
          · split at h
            · injection h; omega
            · split at h
              · injection h; omega
              · split at h
                · injection h; omega
                · split at h
                  · injection h; omega
                  · split at h
                    · injection h; omega
                    · split at h
                      · injection h; omega
                      · cases h
/-- reading goes on, and a word of the law takes a byte at least -/
theorem aLw_b : ∀ r m o L i q, aLw T n r m o L i = .inr q → i ≤ n → q.2 ≤ n ∧ q.1.1 + i ≤ L.1 + q.2 ∧ ((m = 1 ∨ m = 3) → i ≤ q.2) ∧ (¬ (m = 1 ∨ m = 3) → i < q.2)
  | 0, m, o, L, i, q, h, _ => inl_inr h
  | r + 1, m, o, L, i, q, h, hi => by
    have hb := tBl_b (T := T) hi
    rw [aLw] at h
    split at h
    · rename_i hm
      cases h1 : aLw T n r 2 o L i with
      | inl e => simp only [h1] at h; exact inl_inr h
      | inr q1 =>
        simp only [h1] at h
        have b1 := aLw_b r 2 o L i q1 h1 hi
        have b2 := aLw_b r 1 o q1.1 q1.2 q h b1.1
        omega
    · split at h
      · rename_i hm
        split at h
        · cases h1 : aLw T n r 2 o L (tBl T n i + 1) with
          | inl e => simp only [h1] at h; exact inl_inr h
          | inr q1 =>
            simp only [h1] at h
            have b1 := aLw_b r 2 o L (tBl T n i + 1) q1 h1 (by omega)
            have b2 := aLw_b r 1 o _ q1.2 q h b1.1
            have e : (ladd q1.1 (if T (tBl T n i) = 43 then 2002 else 2003)).1 = q1.1.1 + 1 := rfl
            omega
        · injection h with h
          subst h
          refine ⟨hb.2, ?_, fun _ => hb.1, fun x => absurd (Or.inl hm) x⟩
          show L.1 + i ≤ L.1 + tBl T n i
          omega
      · split at h
        · rename_i hm
          cases h1 : aLw T n r 4 o L i with
          | inl e => simp only [h1] at h; exact inl_inr h
          | inr q1 =>
            simp only [h1] at h
            have b1 := aLw_b r 4 o L i q1 h1 hi
            have b2 := aLw_b r 3 o q1.1 q1.2 q h b1.1
            omega
        · split at h
          · rename_i hm
            split at h
            · cases h1 : aLw T n r 4 o L (tBl T n i + 1) with
              | inl e => simp only [h1] at h; exact inl_inr h
              | inr q1 =>
                simp only [h1] at h
                have b1 := aLw_b r 4 o L (tBl T n i + 1) q1 h1 (by omega)
                have b2 := aLw_b r 3 o _ q1.2 q h b1.1
                have e : (ladd q1.1 (if T (tBl T n i) = 42 then 2004 else if T (tBl T n i) = 47 then 2005 else 2006)).1 = q1.1.1 + 1 := rfl
                omega
            · injection h with h
              subst h
              refine ⟨hb.2, ?_, fun _ => hb.1, fun x => absurd (Or.inr hm) x⟩
              show L.1 + i ≤ L.1 + tBl T n i
              omega
          · rename_i m0 m1 m2 m3
            have hm : ¬ (m = 1 ∨ m = 3) := by omega
            have add1 : ∀ (L' : qLw) (c : Nat), (ladd L' c).1 = L'.1 + 1 := fun _ _ => rfl
            split at h
            · cases h1 : aNum T n i 0 999 with
              | inl e => simp only [h1] at h; exact inl_inr h
              | inr q1 =>
                simp only [h1] at h
                have b1 := aNum_b h1 hi
                injection h with h
                subst h
                have e := add1 L q1.1
                refine ⟨b1.2.2.1, ?_, fun x => absurd x hm, fun _ => ?_⟩
                · show (ladd L q1.1).1 + i ≤ L.1 + q1.2
                  omega
                · show i < q1.2
                  omega
            · split at h
              · split at h
                · exact inl_inr h
                · cases h1 : aLw T n r 0 (o + 1) L (tBl T n i + 1) with
                  | inl e => simp only [h1] at h; exact inl_inr h
                  | inr q1 =>
                    simp only [h1] at h
                    have b1 := aLw_b r 0 (o + 1) L (tBl T n i + 1) q1 h1 (by omega)
                    cases h2 : aSgn T n q1.2 41 with
                    | inl e => simp only [h2] at h; exact inl_inr h
                    | inr j =>
                      simp only [h2] at h
                      have b2 := aSgn_s h2 b1.1
                      injection h with h
                      subst h
                      refine ⟨b2.2, ?_, fun x => absurd x hm, fun _ => ?_⟩
                      · show q1.1.1 + i ≤ L.1 + j
                        omega
                      · show i < j
                        omega
              · cases h1 : aWrd T n i with
                | inl e => simp only [h1] at h; exact inl_inr h
                | inr w =>
                  simp only [h1] at h
                  have b1 := aWrd_s h1 hi
                  cases h2 : aLwd T w.1 w.2 with
                  | none => simp only [h2] at h; exact inl_inr h
                  | some c =>
                    simp only [h2] at h
                    split at h
                    · injection h with h
                      subst h
                      have e := add1 L c
                      refine ⟨b1.2.2.2.2, ?_, fun x => absurd x hm, fun _ => ?_⟩
                      · show (ladd L c).1 + i ≤ L.1 + w.2
                        omega
                      · show i < w.2
                        omega
                    · split at h
                      · exact inl_inr h
                      · cases h3 : aSgn T n w.2 91 with
                        | inl e => simp only [h3] at h; exact inl_inr h
                        | inr j1 =>
                          simp only [h3] at h
                          have b3 := aSgn_s h3 b1.2.2.2.2
                          cases h4 : aLw T n r 0 (o + 1) L j1 with
                          | inl e => simp only [h4] at h; exact inl_inr h
                          | inr q1 =>
                            simp only [h4] at h
                            have b4 := aLw_b r 0 (o + 1) L j1 q1 h4 b3.2
                            cases h5 : aSgn T n q1.2 44 with
                            | inl e => simp only [h5] at h; exact inl_inr h
                            | inr j2 =>
                              simp only [h5] at h
                              have b5 := aSgn_s h5 b4.1
                              cases h6 : aLw T n r 0 (o + 1) q1.1 j2 with
                              | inl e => simp only [h6] at h; exact inl_inr h
                              | inr q2 =>
                                simp only [h6] at h
                                have b6 := aLw_b r 0 (o + 1) q1.1 j2 q2 h6 b5.2
                                cases h7 : aSgn T n q2.2 93 with
                                | inl e => simp only [h7] at h; exact inl_inr h
                                | inr j3 =>
                                  simp only [h7] at h
                                  have b7 := aSgn_s h7 b6.1
                                  injection h with h
                                  subst h
                                  have e := add1 q2.1 c
                                  refine ⟨b7.2, ?_, fun x => absurd x hm, fun _ => ?_⟩
                                  · show (ladd q2.1 c).1 + i ≤ L.1 + j3
                                    omega
                                  · show i < j3
                                    omega
/-- what can be reckoned up to here, and leaves so many values -/
def lOk (L : qLw) (k : Nat) : Prop := aHg L.2 L.1 = k ∧ ∀ i, i < L.1 → (L.2 i ≤ 1008 ∧ ¬ (L.2 i = 1000 ∧ False) ∨ (2000 ≤ L.2 i ∧ L.2 i ≤ 2006 ∧ 2 ≤ aHg L.2 i))
theorem aHg_iup {c : Nat → Nat} {m w : Nat} : ∀ i, i ≤ m → aHg (iup c m w) i = aHg c i
  | 0, _ => rfl
  | i + 1, h => by
    rw [aHg, aHg, aHg_iup i (by omega)]
    have e : iup c m w i = c i := by unfold iup; rw [if_neg (by omega)]
    rw [e]
theorem lOk_v {L : qLw} {k w : Nat} (h : lOk L k) (hw : w ≤ 1008) : lOk (ladd L w) (k + 1) := by
  obtain ⟨h1, h2⟩ := h
  have e : iup L.2 L.1 w L.1 = w := by unfold iup; rw [if_pos rfl]
  refine ⟨?_, fun i hi => ?_⟩
  · show aHg (iup L.2 L.1 w) (L.1 + 1) = k + 1
    rw [aHg, aHg_iup _ (Nat.le_refl _), e, if_pos (by omega), h1]
  · show (iup L.2 L.1 w i ≤ 1008 ∧ _) ∨ (2000 ≤ iup L.2 L.1 w i ∧ iup L.2 L.1 w i ≤ 2006 ∧ 2 ≤ aHg (iup L.2 L.1 w) i)
    have hi : i < L.1 + 1 := hi
    by_cases c : i = L.1
    · rw [c, e]; exact Or.inl ⟨hw, fun x => x.2⟩
    · have e2 : iup L.2 L.1 w i = L.2 i := by unfold iup; rw [if_neg c]
      rw [aHg_iup i (by omega), e2]
      rcases h2 i (by omega) with q | q
      · exact Or.inl ⟨q.1, fun x => x.2⟩
      · exact Or.inr q
theorem lOk_o {L : qLw} {k w : Nat} (h : lOk L (k + 2)) (hw : 2000 ≤ w) (hw2 : w ≤ 2006) : lOk (ladd L w) (k + 1) := by
  obtain ⟨h1, h2⟩ := h
  have e : iup L.2 L.1 w L.1 = w := by unfold iup; rw [if_pos rfl]
  refine ⟨?_, fun i hi => ?_⟩
  · show aHg (iup L.2 L.1 w) (L.1 + 1) = k + 1
    rw [aHg, aHg_iup _ (Nat.le_refl _), e, if_neg (by omega), h1]; rfl
  · show (iup L.2 L.1 w i ≤ 1008 ∧ _) ∨ (2000 ≤ iup L.2 L.1 w i ∧ iup L.2 L.1 w i ≤ 2006 ∧ 2 ≤ aHg (iup L.2 L.1 w) i)
    have hi : i < L.1 + 1 := hi
    by_cases c : i = L.1
    · rw [aHg_iup i (by omega), c, e, h1]; exact Or.inr ⟨hw, hw2, by omega⟩
    · have e2 : iup L.2 L.1 w i = L.2 i := by unfold iup; rw [if_neg c]
      rw [aHg_iup i (by omega), e2]
      rcases h2 i (by omega) with q | q
      · exact Or.inl ⟨q.1, fun x => x.2⟩
      · exact Or.inr q
end LAW0
