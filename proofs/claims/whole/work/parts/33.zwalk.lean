/-! ===== the walker of the reasoning layer: pure callees by value (U), small ones walked through (N), the others by a run that is asked for ===== -/
/-- a call of method k with these arguments ends so -/
def qRun (d k : Nat) (as : List Value) (M : qM) (R : qR) : Prop := qwp d k as M (fun r => r = R)
theorem qRun_of {d k : Nat} {as : List Value} {M : qM} {R : qR} (h : ∀ Q : qR → Prop, Q R → qwp d k as M Q) : qRun d k as M R := h _ rfl
theorem qRun_to {d k : Nat} {as : List Value} {M : qM} {R : qR} (h : qRun d k as M R) {Q : qR → Prop} (hQ : Q R) : qwp d k as M Q := qwp_mono (fun r hr => by subst hr; exact hQ) h
/-- what a call leaves to be shown, by its answer's type -/
def qCr (rt : Option FieldType) (d k : Nat) (as : List Value) (M : qM) (Q : qR → Prop) : Prop := match rt with
  | none => ∃ M2, qRun d k as M (.inl (none, M2)) ∧ Q (.inl (none, M2))
  | some .long => ∃ (v : Int64) (M2 : qM), qRun d k as M (.inl (some (.long v), M2)) ∧ Q (.inl (some (.long v), M2))
  | some _ => ∃ (v : Int32) (M2 : qM), qRun d k as M (.inl (some (.int v), M2)) ∧ Q (.inl (some (.int v), M2))
theorem qCr_to {rt : Option FieldType} {d k : Nat} {as : List Value} {M : qM} {Q : qR → Prop} (h : qCr rt d k as M Q) : ∃ R, qRun d k as M R ∧ Q R := by
  unfold qCr at h
  split at h
  · obtain ⟨M2, h1, h2⟩ := h; exact ⟨_, h1, h2⟩
  · obtain ⟨v, M2, h1, h2⟩ := h; exact ⟨_, h1, h2⟩
  · obtain ⟨v, M2, h1, h2⟩ := h; exact ⟨_, h1, h2⟩
def qZ (U : Nat → List Value → Option Int32) (N : Nat → Bool) (S : Nat → Nat → Option (List Nat)) : Nat → Bool → Nat → Nat → Nat → qV → List Value → qM → (qR → Prop) → Prop
  | 0, _, d, k, pc, lv, st, M, Q => qwq d k pc lv st M Q
  | n + 1, true, d, k, pc, lv, st, M, Q => qG (fun pc' lv' st' M' => qZ U N S n false d k pc' lv' st' M' Q) (fun _ _ _ _ => True)
      (fun k' as M' Q1 _ => match U k' as with
        | some v => Q1 (.inl (some (.int v), M'))
        | none => bif N k' then qZ U N S n true (d - 1) k' 0 (lv_args 0 as) [] M' Q1 else qCr (qrt k') (d - 1) k' as M' Q1) d k pc lv st M Q
  | n + 1, false, d, k, pc, lv, st, M, Q => match S k pc with
    | some ks => qwq d k pc (qkp ks lv) st M Q
    | none => qG (fun pc' lv' st' M' => qZ U N S n false d k pc' lv' st' M' Q) (fun _ _ _ _ => True)
      (fun k' as M' Q1 _ => match U k' as with
        | some v => Q1 (.inl (some (.int v), M'))
        | none => bif N k' then qZ U N S n true (d - 1) k' 0 (lv_args 0 as) [] M' Q1 else qCr (qrt k') (d - 1) k' as M' Q1) d k pc lv st M Q
theorem qZ_sound {U : Nat → List Value → Option Int32} (hU : qUok U) {N : Nat → Bool} {S : Nat → Nat → Option (List Nat)} : ∀ (n : Nat) (f : Bool) {d k pc : Nat} {lv : qV} {st : List Value} {M : qM} {Q : qR → Prop}, qZ U N S n f d k pc lv st M Q → qwq d k pc lv st M Q
  | 0, true, _, _, _, _, _, _, _, h => h
  | 0, false, _, _, _, _, _, _, _, h => h
  | n + 1, f, d, k, pc, lv, st, M, Q, h => by
    have key : qG (fun pc' lv' st' M' => qZ U N S n false d k pc' lv' st' M' Q) (fun _ _ _ _ => True)
      (fun k' as M' Q1 _ => match U k' as with
        | some v => Q1 (.inl (some (.int v), M'))
        | none => bif N k' then qZ U N S n true (d - 1) k' 0 (lv_args 0 as) [] M' Q1 else qCr (qrt k') (d - 1) k' as M' Q1) d k pc lv st M Q → qwq d k pc lv st M Q := by
      intro h
      rcases qG_next h with ⟨a, b, c, e, h1, h2⟩ | ⟨R, h1, h2⟩ | ⟨k', as, nx, rest, h1, h2⟩
      · obtain ⟨n2, h3⟩ := qZ_sound hU n false h1
        exact ⟨n2 + 1, h2 _ _ _ _ h3⟩
      · exact ⟨1, h2 _ _ _ _ h1⟩
      · have gen : qwp (d - 1) k' as M (qbk k pc nx lv rest (fun pc' lv' st' M' => qZ U N S n false d k pc' lv' st' M' Q) Q) → qwq d k pc lv st M Q := by
          rintro ⟨n1, h1⟩
          obtain ⟨R, h3, h4⟩ := qX_det n1 h1
          rcases qbk_det h3 with ⟨a, b, c, e, g1, g2⟩ | ⟨R', g1, g2⟩
          · obtain ⟨n2, h5⟩ := qZ_sound hU n false g1
            refine ⟨n1 + n2 + 1, h2 _ _ _ _ (qX_mono n1 (n1 + n2) (by omega) (fun r hr => ?_) h4)⟩
            subst hr
            exact g2 _ _ (qX_mono n2 (n1 + n2) (by omega) (fun _ h => h) h5)
          · exact ⟨n1 + 1, h2 _ _ _ _ (qX_mono n1 n1 (Nat.le_refl _) (fun r hr => by subst hr; exact g2 _ _ g1) h4)⟩
        cases hu : U k' as with
        | some v =>
          rw [hu] at h1
          exact gen (hU k' as v hu (d - 1) M _ h1)
        | none =>
          rw [hu] at h1
          cases hn : N k' with
          | true =>
            rw [hn] at h1
            exact gen (qZ_sound hU n true h1)
          | false =>
            rw [hn] at h1
            obtain ⟨R, h3, h4⟩ := qCr_to h1
            exact gen (qRun_to h3 h4)
    cases f with
    | true => exact key h
    | false =>
      unfold qZ at h
      cases hs : S k pc with
      | some ks => rw [hs] at h; exact qwq_kp pc ks h
      | none => rw [hs] at h; exact key h
