/-! ===== monotony, and the symbolic walk ===== -/
theorem qsw_mono {x : Int32} {F F' : Nat → Prop} {d : Nat} (hF : ∀ t, F t → F' t) : ∀ l : List (Int × Nat), qsw x F d l → qsw x F' d l
  | [], h => hF d h
  | (c, t) :: r, h => ⟨fun e => hF t (h.1 e), fun e => qsw_mono hF r (h.2 e)⟩
theorem qbk_mono {k pc nx : Nat} {lv : qV} {rest : List Value} {F F' : Nat → qV → List Value → qM → Prop} {Q Q' : qR → Prop} (hF : ∀ a b c e, F a b c e → F' a b c e) (hQ : ∀ R, Q R → Q' R) : ∀ R, qbk k pc nx lv rest F Q R → qbk k pc nx lv rest F' Q' R := by
  intro R h
  unfold qbk at h ⊢
  split at h
  · exact hF _ _ _ _ h
  · exact hF _ _ _ _ h
  · split at h
    · exact hQ _ h
    · split at h
      · exact h.elim
      · split at h
        · exact hF _ _ _ _ h
        · exact hF _ _ _ _ h
        · exact h.elim
set_option maxHeartbeats 4000000 in
theorem qG_mono {F F' : Nat → qV → List Value → qM → Prop} {C C' : Nat → List Value → qM → (qR → Prop) → Prop} {d k pc : Nat} {lv : qV} {st : List Value} {M : qM} {Q Q' : qR → Prop}
    (hF : ∀ a b c e, F a b c e → F' a b c e) (hC : ∀ k' as M' Q1 Q2, (∀ R, Q1 R → Q2 R) → C k' as M' Q1 → C' k' as M' Q2) (hQ : ∀ R, Q R → Q' R)
    (h : qG F C d k pc lv st M Q) : qG F' C' d k pc lv st M Q' := by
  have hb : ∀ {pc nx : Nat} {rest : List Value}, ∀ R, qbk k pc nx lv rest F Q R → qbk k pc nx lv rest F' Q' R := fun R h => qbk_mono hF hQ R h
  unfold qG at h ⊢
  generalize qcd k pc = o at h ⊢
  match o with
  | none => exact h
  | some (ins, nx, tg) =>
    dsimp only at h ⊢
    split at h
    · exact hF _ _ _ _ h
    · split at h
      · exact ⟨fun e => hF _ _ _ _ (h.1 e), fun e => hF _ _ _ _ (h.2 e)⟩
      · exact h.elim
    · split at h
      · exact ⟨fun e => hF _ _ _ _ (h.1 e), fun e => hF _ _ _ _ (h.2 e)⟩
      · exact h.elim
    · split at h
      · exact ⟨fun e => hF _ _ _ _ (h.1 e), fun e => hF _ _ _ _ (h.2 e)⟩
      · exact h.elim
    · split at h
      · exact qsw_mono (fun t => hF _ _ _ _) _ h
      · exact h.elim
    · split at h
      · exact qsw_mono (fun t => hF _ _ _ _) _ h
      · exact h.elim
    · split at h
      · exact ⟨h.1, hQ _ h.2⟩
      · exact h.elim
    · split at h
      · exact ⟨h.1, hQ _ h.2⟩
      · exact h.elim
    · split at h
      · exact ⟨h.1, hQ _ h.2⟩
      · exact h.elim
    · split at h
      · exact ⟨h.1, h.2.1, h.2.2.1, h.2.2.2.1, hQ _ h.2.2.2.2⟩
      · exact ⟨h.1, h.2.1, h.2.2.1, h.2.2.2.1, hQ _ h.2.2.2.2⟩
      · split at h
        · exact ⟨h.1, hF _ _ _ _ h.2⟩
        · exact h.elim
    · exact ⟨h.1, h.2.1, h.2.2.1, h.2.2.2.1, hC _ _ _ _ _ hb h.2.2.2.2⟩
    · exact ⟨h.1, h.2.1, h.2.2.1, hC _ _ _ _ _ hb h.2.2.2⟩
    · split at h
      · split at h
        · exact ⟨h.1, h.2.1, hF _ _ _ _ h.2.2⟩
        · exact h.elim
      · exact ⟨h.1, h.2.1, h.2.2.1, h.2.2.2.1, hC _ _ _ _ _ hb h.2.2.2.2⟩
    · split at h
      · exact ⟨h.1, hF _ _ _ _ h.2⟩
      · exact h.elim
theorem qX_mono : ∀ (n m : Nat) {d k pc : Nat} {lv : qV} {st : List Value} {M : qM} {Q Q' : qR → Prop}, n ≤ m → (∀ R, Q R → Q' R) → qX n d k pc lv st M Q → qX m d k pc lv st M Q'
  | 0, _, _, _, _, _, _, _, _, _, _, _, h => h.elim
  | n + 1, 0, _, _, _, _, _, _, _, _, hm, _, _ => absurd hm (by omega)
  | n + 1, m + 1, _, _, _, _, _, _, _, _, hm, hQ, h => qG_mono (fun _ _ _ _ h => qX_mono n m (by omega) hQ h) (fun _ _ _ _ _ hq h => qX_mono n m (by omega) hq h) hQ h
theorem qwq_mono {d k pc : Nat} {lv : qV} {st : List Value} {M : qM} {Q Q' : qR → Prop} (hQ : ∀ R, Q R → Q' R) (h : qwq d k pc lv st M Q) : qwq d k pc lv st M Q' := h.elim fun n h => ⟨n, qX_mono n n (Nat.le_refl n) hQ h⟩
theorem qwp_mono {d k : Nat} {as : List Value} {M : qM} {Q Q' : qR → Prop} (hQ : ∀ R, Q R → Q' R) (h : qwp d k as M Q) : qwp d k as M Q' := qwq_mono hQ h
theorem qsw_det {x : Int32} {F : Nat → Prop} {d : Nat} : ∀ l : List (Int × Nat), qsw x F d l → ∃ t, F t ∧ ∀ F' : Nat → Prop, F' t → qsw x F' d l
  | [], h => ⟨d, h, fun _ h => h⟩
  | (c, t) :: r, h => by
    by_cases e : x = Int32.ofInt c
    · exact ⟨t, h.1 e, fun F' h' => ⟨fun _ => h', fun q => absurd e q⟩⟩
    · obtain ⟨t', h1, h2⟩ := qsw_det r (h.2 e)
      exact ⟨t', h1, fun F' h' => ⟨fun q => absurd q e, fun _ => h2 F' h'⟩⟩
theorem qbk_det {k pc nx : Nat} {lv : qV} {rest : List Value} {F : Nat → qV → List Value → qM → Prop} {Q : qR → Prop} {R : qR} (h : qbk k pc nx lv rest F Q R) :
    (∃ a b c e, F a b c e ∧ ∀ (F' : Nat → qV → List Value → qM → Prop) (Q' : qR → Prop), F' a b c e → qbk k pc nx lv rest F' Q' R) ∨ (∃ R', Q R' ∧ ∀ (F' : Nat → qV → List Value → qM → Prop) (Q' : qR → Prop), Q' R' → qbk k pc nx lv rest F' Q' R) := by
  match R with
  | .inl (some v, M) => exact Or.inl ⟨_, _, _, _, h, fun _ _ h => h⟩
  | .inl (none, M) => exact Or.inl ⟨_, _, _, _, h, fun _ _ h => h⟩
  | .inr (e, M) =>
    unfold qbk at h ⊢
    dsimp only at h ⊢
    generalize qha k = t at h ⊢
    match t with
    | [] => exact Or.inr ⟨_, h, fun _ _ h => h⟩
    | t :: ts =>
      dsimp only at h ⊢
      generalize qcat (qcl k) pc e (t :: ts) = o at h ⊢
      match o with
      | none => exact h.elim
      | some hh =>
        dsimp only at h ⊢
        generalize qcd k hh = o2 at h ⊢
        split at h
        · exact Or.inl ⟨_, _, _, _, h, fun _ _ h => h⟩
        · exact Or.inl ⟨_, _, _, _, h, fun _ _ h => h⟩
        · exact h.elim
set_option maxHeartbeats 4000000 in
theorem qG_next {F : Nat → qV → List Value → qM → Prop} {C : Nat → List Value → qM → (qR → Prop) → Prop} {d k pc : Nat} {lv : qV} {st : List Value} {M : qM} {Q : qR → Prop} (h : qG F C d k pc lv st M Q) :
    (∃ a b c e, F a b c e ∧ ∀ (F' : Nat → qV → List Value → qM → Prop) (C' : Nat → List Value → qM → (qR → Prop) → Prop) (Q' : qR → Prop), F' a b c e → qG F' C' d k pc lv st M Q') ∨
    (∃ R, Q R ∧ ∀ (F' : Nat → qV → List Value → qM → Prop) (C' : Nat → List Value → qM → (qR → Prop) → Prop) (Q' : qR → Prop), Q' R → qG F' C' d k pc lv st M Q') ∨
    (∃ k' as nx rest, C k' as M (qbk k pc nx lv rest F Q) ∧ ∀ (F' : Nat → qV → List Value → qM → Prop) (C' : Nat → List Value → qM → (qR → Prop) → Prop) (Q' : qR → Prop), C' k' as M (qbk k pc nx lv rest F' Q') → qG F' C' d k pc lv st M Q') := by
  unfold qG at h ⊢
  generalize qcd k pc = o at h ⊢
  match o with
  | none => exact h.elim
  | some (ins, nx, tg) =>
    dsimp only at h ⊢
    split at h
    · exact Or.inl ⟨_, _, _, _, h, fun _ _ _ h => h⟩
    · rename_i c _
      split at h
      · rename_i x r
        by_cases e : qc0 c x
        · exact Or.inl ⟨_, _, _, _, h.1 e, fun _ _ _ h => ⟨fun _ => h, fun q => absurd e q⟩⟩
        · exact Or.inl ⟨_, _, _, _, h.2 e, fun _ _ _ h => ⟨fun q => absurd q e, fun _ => h⟩⟩
      · exact h.elim
    · rename_i c _
      split at h
      · rename_i y x r
        by_cases e : qc2 c x y
        · exact Or.inl ⟨_, _, _, _, h.1 e, fun _ _ _ h => ⟨fun _ => h, fun q => absurd e q⟩⟩
        · exact Or.inl ⟨_, _, _, _, h.2 e, fun _ _ _ h => ⟨fun q => absurd q e, fun _ => h⟩⟩
      · exact h.elim
    · split at h
      · rename_i a r
        by_cases e : a = 0
        · exact Or.inl ⟨_, _, _, _, h.1 e, fun _ _ _ h => ⟨fun _ => h, fun q => absurd e q⟩⟩
        · exact Or.inl ⟨_, _, _, _, h.2 e, fun _ _ _ h => ⟨fun q => absurd q e, fun _ => h⟩⟩
      · exact h.elim
    · split at h
      · obtain ⟨t, h1, h2⟩ := qsw_det _ h
        exact Or.inl ⟨_, _, _, _, h1, fun _ _ _ h => h2 _ h⟩
      · exact h.elim
    · split at h
      · obtain ⟨t, h1, h2⟩ := qsw_det _ h
        exact Or.inl ⟨_, _, _, _, h1, fun _ _ _ h => h2 _ h⟩
      · exact h.elim
    · split at h
      · exact Or.inr (Or.inl ⟨_, h.2, fun _ _ _ q => ⟨h.1, q⟩⟩)
      · exact h.elim
    · split at h
      · exact Or.inr (Or.inl ⟨_, h.2, fun _ _ _ q => ⟨h.1, q⟩⟩)
      · exact h.elim
    · split at h
      · exact Or.inr (Or.inl ⟨_, h.2, fun _ _ _ q => ⟨h.1, q⟩⟩)
      · exact h.elim
    · split at h
      · exact Or.inr (Or.inl ⟨_, h.2.2.2.2, fun _ _ _ q => ⟨h.1, h.2.1, h.2.2.1, h.2.2.2.1, q⟩⟩)
      · exact Or.inr (Or.inl ⟨_, h.2.2.2.2, fun _ _ _ q => ⟨h.1, h.2.1, h.2.2.1, h.2.2.2.1, q⟩⟩)
      · split at h
        · exact Or.inl ⟨_, _, _, _, h.2, fun _ _ _ q => ⟨h.1, q⟩⟩
        · exact h.elim
    · exact Or.inr (Or.inr ⟨_, _, _, _, h.2.2.2.2, fun _ _ _ q => ⟨h.1, h.2.1, h.2.2.1, h.2.2.2.1, q⟩⟩)
    · exact Or.inr (Or.inr ⟨_, _, _, _, h.2.2.2, fun _ _ _ q => ⟨h.1, h.2.1, h.2.2.1, q⟩⟩)
    · split at h
      · split at h
        · exact Or.inl ⟨_, _, _, _, h.2.2, fun _ _ _ q => ⟨h.1, h.2.1, q⟩⟩
        · exact h.elim
      · exact Or.inr (Or.inr ⟨_, _, _, _, h.2.2.2.2, fun _ _ _ q => ⟨h.1, h.2.1, h.2.2.1, h.2.2.2.1, q⟩⟩)
    · split at h
      · exact Or.inl ⟨_, _, _, _, h.2, fun _ _ _ q => ⟨h.1, q⟩⟩
      · exact h.elim
/-- a run that ends with Q ends in one way -/
theorem qX_det : ∀ (n : Nat) {d k pc : Nat} {lv : qV} {st : List Value} {M : qM} {Q : qR → Prop}, qX n d k pc lv st M Q → ∃ R, Q R ∧ qX n d k pc lv st M (fun r => r = R)
  | 0, _, _, _, _, _, _, _, h => h.elim
  | n + 1, d, k, pc, lv, st, M, Q, h => by
    rcases qG_next h with ⟨a, b, c, e, h1, h2⟩ | ⟨R, h1, h2⟩ | ⟨k', as, nx, rest, h1, h2⟩
    · obtain ⟨R, h3, h4⟩ := qX_det n h1
      exact ⟨R, h3, h2 _ _ _ h4⟩
    · exact ⟨R, h1, h2 _ _ _ rfl⟩
    · obtain ⟨R1, h3, h4⟩ := qX_det n h1
      rcases qbk_det h3 with ⟨a, b, c, e, g1, g2⟩ | ⟨R', g1, g2⟩
      · obtain ⟨R, h5, h6⟩ := qX_det n g1
        exact ⟨R, h5, h2 _ _ _ (qX_mono n n (Nat.le_refl n) (fun r hr => by subst hr; exact g2 _ _ h6) h4)⟩
      · exact ⟨R', g1, h2 _ _ _ (qX_mono n n (Nat.le_refl n) (fun r hr => by subst hr; exact g2 _ _ rfl) h4)⟩
theorem qY_sound (S : Nat → Bool) : ∀ (n : Nat) (f : Bool) {d k pc : Nat} {lv : qV} {st : List Value} {M : qM} {Q : qR → Prop}, qY S f n d k pc lv st M Q → qwq d k pc lv st M Q
  | 0, _, _, _, _, _, _, _, _, h => h
  | n + 1, f, d, k, pc, lv, st, M, Q, h => by
    unfold qY at h
    cases hs : (S pc && !f) with
    | true => rw [hs] at h; exact h
    | false =>
      rw [hs] at h
      have h : qG (fun pc' lv' st' M' => qY S false n d k pc' lv' st' M' Q) (fun k' as M' Q' => qwp (d - 1) k' as M' Q') d k pc lv st M Q := h
      rcases qG_next h with ⟨a, b, c, e, h1, h2⟩ | ⟨R, h1, h2⟩ | ⟨k', as, nx, rest, ⟨n1, h1⟩, h2⟩
      · obtain ⟨n2, h3⟩ := qY_sound S n false h1
        exact ⟨n2 + 1, h2 _ _ _ h3⟩
      · exact ⟨1, h2 _ _ _ h1⟩
      · obtain ⟨R, h3, h4⟩ := qX_det n1 h1
        rcases qbk_det h3 with ⟨a, b, c, e, g1, g2⟩ | ⟨R', g1, g2⟩
        · obtain ⟨n2, h5⟩ := qY_sound S n false g1
          refine ⟨n1 + n2 + 1, h2 _ _ _ (qX_mono n1 (n1 + n2) (by omega) (fun r hr => ?_) h4)⟩
          subst hr
          exact g2 _ _ (qX_mono n2 (n1 + n2) (by omega) (fun _ h => h) h5)
        · exact ⟨n1 + 1, h2 _ _ _ (qX_mono n1 n1 (Nat.le_refl _) (fun r hr => by subst hr; exact g2 _ _ g1) h4)⟩
/-- what is called, then what follows -/
theorem qwp_bind {d k : Nat} {as : List Value} {M : qM} {Q Q' : qR → Prop} (h : qwp d k as M Q) (hQ : ∀ R, Q R → Q' R) : qwp d k as M Q' := qwp_mono hQ h
