/-! ===== monotony, and the symbolic walk ===== -/
theorem qsw_mono {x : Int32} {F F' : Nat → Prop} {d : Nat} (hF : ∀ t, F t → F' t) : ∀ l : List (Int × Nat), qsw x F d l → qsw x F' d l
  | [], h => hF d h
  | (c, t) :: r, h => ⟨fun e => hF t (h.1 e), fun e => qsw_mono hF r (h.2 e)⟩
theorem qand_mono {P : Option Prop} {p q : Prop} (hF : p → q) (h : qand P p) : qand P q := match P, h with
  | none, h => hF h
  | some _, h => ⟨h.1, hF h.2⟩
theorem qand_det {P : Option Prop} {p : Prop} (h : qand P p) : p ∧ ∀ q : Prop, q → qand P q := match P, h with
  | none, h => ⟨h, fun _ q => q⟩
  | some _, h => ⟨h.2, fun _ q => ⟨h.1, q⟩⟩
theorem qbk_mono {k pc nx : Nat} {lv : qV} {rest : List Value} {F F' : Nat → qV → List Value → qM → Prop} {Q Q' : qR → Prop} (hF : ∀ a b c e, F a b c e → F' a b c e) (hQ : ∀ R, Q R → Q' R) : ∀ R, qbk k pc nx lv rest F Q R → qbk k pc nx lv rest F' Q' R := by
  intro R h
  unfold qbk at h ⊢
  split at h
  · exact hF _ _ _ _ h
  · exact hF _ _ _ _ h
  · split at h
    · exact hQ _ h
    · split at h
      · exact h.elim
      · split at h
        · exact hF _ _ _ _ h
        · exact hF _ _ _ _ h
        · exact h.elim
set_option maxHeartbeats 4000000 in
theorem qG_mono {F F' FB FB' : Nat → qV → List Value → qM → Prop} {C C' : Nat → List Value → qM → (qR → Prop) → (qR → Prop) → Prop} {d k pc : Nat} {lv : qV} {st : List Value} {M : qM} {Q Q' : qR → Prop}
    (hF : ∀ a b c e, F a b c e → F' a b c e) (hC : ∀ k' as M' Q1 Q2 Q3 Q4, (∀ R, Q1 R → Q2 R) → C k' as M' Q1 Q3 → C' k' as M' Q2 Q4) (hQ : ∀ R, Q R → Q' R)
    (h : qG F FB C d k pc lv st M Q) : qG F' FB' C' d k pc lv st M Q' := by
  have hb : ∀ {pc nx : Nat} {rest : List Value}, ∀ R, qbk k pc nx lv rest F Q R → qbk k pc nx lv rest F' Q' R := fun R h => qbk_mono hF hQ R h
  unfold qG at h ⊢
  generalize qcd k pc = o at h ⊢
  match o with
  | none => exact h
  | some (ins, nx, tg) =>
    dsimp only at h ⊢
    split at h
    · exact hF _ _ _ _ h
    · split at h
      · exact ⟨fun e => hF _ _ _ _ (h.1 e), fun e => hF _ _ _ _ (h.2 e)⟩
      · exact h.elim
    · split at h
      · exact ⟨fun e => hF _ _ _ _ (h.1 e), fun e => hF _ _ _ _ (h.2 e)⟩
      · exact h.elim
    · split at h
      · exact ⟨fun e => hF _ _ _ _ (h.1 e), fun e => hF _ _ _ _ (h.2 e)⟩
      · exact h.elim
    · split at h
      · exact qsw_mono (fun t => hF _ _ _ _) _ h
      · exact h.elim
    · split at h
      · exact qsw_mono (fun t => hF _ _ _ _) _ h
      · exact h.elim
    · split at h
      · exact ⟨h.1, hQ _ h.2⟩
      · exact h.elim
    · split at h
      · exact ⟨h.1, hQ _ h.2⟩
      · exact h.elim
    · split at h
      · exact ⟨h.1, hQ _ h.2⟩
      · exact h.elim
    · split at h
      · split at h
        · exact ⟨h.1, hQ _ h.2⟩
        · exact h.elim
      · split at h
        · exact ⟨h.1, hQ _ h.2⟩
        · exact h.elim
      · split at h
        · exact qand_mono (hF _ _ _ _) h
        · exact h.elim
    · split at h
      · exact ⟨h.1, h.2.1, hC _ _ _ _ _ _ _ hb h.2.2⟩
      · exact h.elim
    · split at h
      · exact ⟨h.1, hC _ _ _ _ _ _ _ hb h.2⟩
      · exact h.elim
    · split at h
      · split at h
        · split at h
          · exact ⟨h.1, hF _ _ _ _ h.2⟩
          · exact h.elim
        · exact h.elim
      · split at h
        · exact ⟨h.1, h.2.1, hC _ _ _ _ _ _ _ hb h.2.2⟩
        · exact h.elim
    · split at h
      · exact qand_mono (hF _ _ _ _) h
      · exact h.elim
theorem qX_mono : ∀ (n m : Nat) {d k pc : Nat} {lv : qV} {st : List Value} {M : qM} {Q Q' : qR → Prop}, n ≤ m → (∀ R, Q R → Q' R) → qX n d k pc lv st M Q → qX m d k pc lv st M Q'
  | 0, _, _, _, _, _, _, _, _, _, _, _, h => h.elim
  | n + 1, 0, _, _, _, _, _, _, _, _, hm, _, _ => absurd hm (by omega)
  | n + 1, m + 1, _, _, _, _, _, _, _, _, hm, hQ, h => qG_mono (fun _ _ _ _ h => qX_mono n m (by omega) hQ h) (fun _ _ _ _ _ _ _ hq h => qX_mono n m (by omega) hq h) hQ h
theorem qwq_mono {d k pc : Nat} {lv : qV} {st : List Value} {M : qM} {Q Q' : qR → Prop} (hQ : ∀ R, Q R → Q' R) (h : qwq d k pc lv st M Q) : qwq d k pc lv st M Q' := h.elim fun n h => ⟨n, qX_mono n n (Nat.le_refl n) hQ h⟩
theorem qwp_mono {d k : Nat} {as : List Value} {M : qM} {Q Q' : qR → Prop} (hQ : ∀ R, Q R → Q' R) (h : qwp d k as M Q) : qwp d k as M Q' := qwq_mono hQ h
theorem qsw_det {x : Int32} {F : Nat → Prop} {d : Nat} : ∀ l : List (Int × Nat), qsw x F d l → ∃ t, F t ∧ ∀ F' : Nat → Prop, F' t → qsw x F' d l
  | [], h => ⟨d, h, fun _ h => h⟩
  | (c, t) :: r, h => by
    by_cases e : x = Int32.ofInt c
    · exact ⟨t, h.1 e, fun F' h' => ⟨fun _ => h', fun q => absurd e q⟩⟩
    · obtain ⟨t', h1, h2⟩ := qsw_det r (h.2 e)
      exact ⟨t', h1, fun F' h' => ⟨fun q => absurd q e, fun _ => h2 F' h'⟩⟩
theorem qbk_det {k pc nx : Nat} {lv : qV} {rest : List Value} {F : Nat → qV → List Value → qM → Prop} {Q : qR → Prop} {R : qR} (h : qbk k pc nx lv rest F Q R) :
    (∃ a b c e, F a b c e ∧ ∀ (F' : Nat → qV → List Value → qM → Prop) (Q' : qR → Prop), F' a b c e → qbk k pc nx lv rest F' Q' R) ∨ (∃ R', Q R' ∧ ∀ (F' : Nat → qV → List Value → qM → Prop) (Q' : qR → Prop), Q' R' → qbk k pc nx lv rest F' Q' R) := by
  match R with
  | .inl (some v, M) => exact Or.inl ⟨_, _, _, _, h, fun _ _ h => h⟩
  | .inl (none, M) => exact Or.inl ⟨_, _, _, _, h, fun _ _ h => h⟩
  | .inr (e, M) =>
    unfold qbk at h ⊢
    dsimp only at h ⊢
    generalize qha k = t at h ⊢
    match t with
    | [] => exact Or.inr ⟨_, h, fun _ _ h => h⟩
    | t :: ts =>
      dsimp only at h ⊢
      generalize qcat (qcl k) pc e (t :: ts) = o at h ⊢
      match o with
      | none => exact h.elim
      | some hh =>
        dsimp only at h ⊢
        generalize qcd k hh = o2 at h ⊢
        split at h
        · exact Or.inl ⟨_, _, _, _, h, fun _ _ h => h⟩
        · exact Or.inl ⟨_, _, _, _, h, fun _ _ h => h⟩
        · exact h.elim
set_option maxHeartbeats 4000000 in
theorem qG_next {F FB : Nat → qV → List Value → qM → Prop} {C : Nat → List Value → qM → (qR → Prop) → (qR → Prop) → Prop} {d k pc : Nat} {lv : qV} {st : List Value} {M : qM} {Q : qR → Prop} (h : qG F FB C d k pc lv st M Q) :
    (∃ a b c e, F a b c e ∧ ∀ (F' FB' : Nat → qV → List Value → qM → Prop) (C' : Nat → List Value → qM → (qR → Prop) → (qR → Prop) → Prop) (Q' : qR → Prop), F' a b c e → qG F' FB' C' d k pc lv st M Q') ∨
    (∃ R, Q R ∧ ∀ (F' FB' : Nat → qV → List Value → qM → Prop) (C' : Nat → List Value → qM → (qR → Prop) → (qR → Prop) → Prop) (Q' : qR → Prop), Q' R → qG F' FB' C' d k pc lv st M Q') ∨
    (∃ k' as nx rest, C k' as M (qbk k pc nx lv rest F Q) (qbk k pc nx lv rest FB Q) ∧ ∀ (F' FB' : Nat → qV → List Value → qM → Prop) (C' : Nat → List Value → qM → (qR → Prop) → (qR → Prop) → Prop) (Q' : qR → Prop), C' k' as M (qbk k pc nx lv rest F' Q') (qbk k pc nx lv rest FB' Q') → qG F' FB' C' d k pc lv st M Q') := by
  unfold qG at h ⊢
  generalize qcd k pc = o at h ⊢
  match o with
  | none => exact h.elim
  | some (ins, nx, tg) =>
    dsimp only at h ⊢
    split at h
    · exact Or.inl ⟨_, _, _, _, h, fun _ _ _ _ h => h⟩
    · rename_i c _
      split at h
      · rename_i x r
        by_cases e : qc0 c x
        · exact Or.inl ⟨_, _, _, _, h.1 e, fun _ _ _ _ h => ⟨fun _ => h, fun q => absurd e q⟩⟩
        · exact Or.inl ⟨_, _, _, _, h.2 e, fun _ _ _ _ h => ⟨fun q => absurd q e, fun _ => h⟩⟩
      · exact h.elim
    · rename_i c _
      split at h
      · rename_i y x r
        by_cases e : qc2 c x y
        · exact Or.inl ⟨_, _, _, _, h.1 e, fun _ _ _ _ h => ⟨fun _ => h, fun q => absurd e q⟩⟩
        · exact Or.inl ⟨_, _, _, _, h.2 e, fun _ _ _ _ h => ⟨fun q => absurd q e, fun _ => h⟩⟩
      · exact h.elim
    · split at h
      · rename_i a r
        by_cases e : a = 0
        · exact Or.inl ⟨_, _, _, _, h.1 e, fun _ _ _ _ h => ⟨fun _ => h, fun q => absurd e q⟩⟩
        · exact Or.inl ⟨_, _, _, _, h.2 e, fun _ _ _ _ h => ⟨fun q => absurd q e, fun _ => h⟩⟩
      · exact h.elim
    · split at h
      · obtain ⟨t, h1, h2⟩ := qsw_det _ h
        exact Or.inl ⟨_, _, _, _, h1, fun _ _ _ _ h => h2 _ h⟩
      · exact h.elim
    · split at h
      · obtain ⟨t, h1, h2⟩ := qsw_det _ h
        exact Or.inl ⟨_, _, _, _, h1, fun _ _ _ _ h => h2 _ h⟩
      · exact h.elim
    · split at h
      · exact Or.inr (Or.inl ⟨_, h.2, fun _ _ _ _ q => ⟨h.1, q⟩⟩)
      · exact h.elim
    · split at h
      · exact Or.inr (Or.inl ⟨_, h.2, fun _ _ _ _ q => ⟨h.1, q⟩⟩)
      · exact h.elim
    · split at h
      · exact Or.inr (Or.inl ⟨_, h.2, fun _ _ _ _ q => ⟨h.1, q⟩⟩)
      · exact h.elim
    · split at h
      · split at h
        · exact Or.inr (Or.inl ⟨_, h.2, fun _ _ _ _ q => ⟨h.1, q⟩⟩)
        · exact h.elim
      · split at h
        · exact Or.inr (Or.inl ⟨_, h.2, fun _ _ _ _ q => ⟨h.1, q⟩⟩)
        · exact h.elim
      · split at h
        · exact Or.inl ⟨_, _, _, _, (qand_det h).1, fun _ _ _ _ q => (qand_det h).2 _ q⟩
        · exact h.elim
    · split at h
      · exact Or.inr (Or.inr ⟨_, _, _, _, h.2.2, fun _ _ _ _ q => ⟨h.1, h.2.1, q⟩⟩)
      · exact h.elim
    · split at h
      · exact Or.inr (Or.inr ⟨_, _, _, _, h.2, fun _ _ _ _ q => ⟨h.1, q⟩⟩)
      · exact h.elim
    · split at h
      · split at h
        · split at h
          · exact Or.inl ⟨_, _, _, _, h.2, fun _ _ _ _ q => ⟨h.1, q⟩⟩
          · exact h.elim
        · exact h.elim
      · split at h
        · exact Or.inr (Or.inr ⟨_, _, _, _, h.2.2, fun _ _ _ _ q => ⟨h.1, h.2.1, q⟩⟩)
        · exact h.elim
    · split at h
      · exact Or.inl ⟨_, _, _, _, (qand_det h).1, fun _ _ _ _ q => (qand_det h).2 _ q⟩
      · exact h.elim
/-- a run that ends with Q ends in one way -/
theorem qX_det : ∀ (n : Nat) {d k pc : Nat} {lv : qV} {st : List Value} {M : qM} {Q : qR → Prop}, qX n d k pc lv st M Q → ∃ R, Q R ∧ qX n d k pc lv st M (fun r => r = R)
  | 0, _, _, _, _, _, _, _, h => h.elim
  | n + 1, d, k, pc, lv, st, M, Q, h => by
    rcases qG_next h with ⟨a, b, c, e, h1, h2⟩ | ⟨R, h1, h2⟩ | ⟨k', as, nx, rest, h1, h2⟩
    · obtain ⟨R, h3, h4⟩ := qX_det n h1
      exact ⟨R, h3, h2 _ _ _ _ h4⟩
    · exact ⟨R, h1, h2 _ _ _ _ rfl⟩
    · obtain ⟨R1, h3, h4⟩ := qX_det n h1
      rcases qbk_det h3 with ⟨a, b, c, e, g1, g2⟩ | ⟨R', g1, g2⟩
      · obtain ⟨R, h5, h6⟩ := qX_det n g1
        exact ⟨R, h5, h2 _ _ _ _ (qX_mono n n (Nat.le_refl n) (fun r hr => by subst hr; exact g2 _ _ h6) h4)⟩
      · exact ⟨R', g1, h2 _ _ _ _ (qX_mono n n (Nat.le_refl n) (fun r hr => by subst hr; exact g2 _ _ rfl) h4)⟩
theorem qbT : ∀ a : Nat, Nat.beq a a = true
  | 0 => rfl
  | a + 1 => qbT a
theorem qbF {a b : Nat} (h : ¬ a = b) : Nat.beq a b = false := by
  cases e : Nat.beq a b with
  | false => rfl
  | true => exact absurd (Nat.eq_of_beq_eq_true e) h
theorem qlT {a b : Nat} (h : a < b) : Nat.blt a b = true := Nat.ble_eq.mpr h
theorem qlF {a b : Nat} (h : ¬ a < b) : Nat.blt a b = false := by
  cases e : Nat.blt a b with
  | false => rfl
  | true => exact absurd (Nat.ble_eq.mp e) h
theorem qlk_c (a : Nat) (w : Value) (r : qV) (j : Nat) : qlk ((a, w) :: r) j = if a = j then w else qlk r j := by
  by_cases h : a = j
  · subst h
    rw [if_pos rfl, qlk, qbT]
    rfl
  · rw [if_neg h, qlk, qbF h]
    rfl
theorem qlk_ins (i : Nat) (v : Value) (j : Nat) : ∀ l : qV, qlk (qins l i v) j = if i = j then v else qlk l j
  | [] => by rw [qins, qlk_c]
  | (a, w) :: r => by
    have ih := qlk_ins i v j r
    rw [qins]
    by_cases h1 : a = i
    · subst h1
      rw [qbT, cond_true, qlk_c, qlk_c]
      split <;> rfl
    · rw [qbF h1, cond_false]
      by_cases h2 : i < a
      · rw [qlT h2, cond_true, qlk_c]
      · rw [qlF h2, cond_false, qlk_c, qlk_c, ih]
        by_cases h : a = j
        · subst h
          rw [if_pos rfl, if_neg (fun q => h1 q.symm), if_pos rfl]
        · rw [if_neg h, if_neg h]
theorem qlk_map (g : Nat → Value → Value) (j : Nat) (hg : g j (.retAddr 0) = .retAddr 0) : ∀ l : qV, qlk (l.map (fun q => (q.1, g q.1 q.2))) j = g j (qlk l j)
  | [] => by rw [List.map_nil, qlk, hg]
  | (a, w) :: r => by
    rw [List.map_cons, qlk_c, qlk_c, qlk_map g j hg r]
    by_cases h : a = j
    · subst h
      rw [if_pos rfl, if_pos rfl]
    · rw [if_neg h, if_neg h]
theorem qlk_cut (i j : Nat) (l : qV) : qlk (qcut l i) j = if j + 1 = i ∧ (qlk l j).category = 2 then .retAddr 0 else qlk l j := by
  have h : qcut l i = l.map (fun q => (q.1, bif (Nat.beq (q.1 + 1) i && Nat.beq q.2.category 2) then .retAddr 0 else q.2)) := by
    unfold qcut
    refine List.map_congr_left (fun q _ => ?_)
    cases (Nat.beq (q.1 + 1) i && Nat.beq q.2.category 2) <;> rfl
  rw [h, qlk_map (fun a v => bif (Nat.beq (a + 1) i && Nat.beq v.category 2) then .retAddr 0 else v)]
  · by_cases h1 : j + 1 = i
    · subst h1
      rw [qbT, Bool.true_and]
      by_cases h2 : (qlk l j).category = 2
      · rw [h2, qbT, cond_true, if_pos ⟨rfl, rfl⟩]
      · rw [qbF h2, cond_false, if_neg (fun q => h2 q.2)]
    · rw [qbF h1, Bool.false_and, cond_false, if_neg (fun q => h1 q.1)]
  · cases (Nat.beq (j + 1) i && Nat.beq (Value.retAddr 0).category 2) <;> rfl
theorem qlk_clr (i j : Nat) (l : qV) : qlk (qclr l i) j = if i = j then .retAddr 0 else qlk l j := by
  have h : qclr l i = l.map (fun q => (q.1, bif Nat.beq q.1 i then .retAddr 0 else q.2)) := by
    unfold qclr
    refine List.map_congr_left (fun q _ => ?_)
    cases Nat.beq q.1 i <;> rfl
  rw [h, qlk_map (fun a v => bif Nat.beq a i then .retAddr 0 else v)]
  · by_cases h1 : j = i
    · subst h1
      rw [qbT, cond_true, if_pos rfl]
    · rw [qbF h1, cond_false, if_neg (fun q => h1 q.symm)]
  · cases Nat.beq j i <;> rfl
theorem qlk_kp (ks : List Nat) (j : Nat) : ∀ l : qV, qlk (qkp ks l) j = if j ∈ ks then qlk l j else .retAddr 0
  | [] => by
    show Value.retAddr 0 = _
    split <;> rfl
  | (a, w) :: r => by
    have ih := qlk_kp ks j r
    have hm : (ks.any (fun k => Nat.beq k a)) = true ↔ a ∈ ks := by
      rw [List.any_eq_true]
      exact ⟨fun ⟨x, h1, h2⟩ => by rw [← Nat.eq_of_beq_eq_true h2]; exact h1, fun h => ⟨a, h, qbT a⟩⟩
    unfold qkp at ih ⊢
    by_cases h1 : a ∈ ks
    · rw [List.filter_cons_of_pos (p := fun q : Nat × Value => ks.any (fun k => Nat.beq k q.1)) (hm.mpr h1), qlk_c, qlk_c, ih]
      by_cases h : a = j
      · subst h
        rw [if_pos rfl, if_pos h1, if_pos rfl]
      · rw [if_neg h, if_neg h]
    · rw [List.filter_cons_of_neg (p := fun q : Nat × Value => ks.any (fun k => Nat.beq k q.1)) (fun q => h1 (hm.mp q)), ih, qlk_c]
      by_cases h : a = j
      · subst h
        rw [if_neg h1, if_neg h1]
      · rw [if_neg h]
/-- what a value of the locals is asked for, another list gives too -/
def qle (l1 l2 : qV) : Prop := ∀ i v, qlk l1 i = v → v ≠ .retAddr 0 → qlk l2 i = v
theorem qle_rf (l : qV) : qle l l := fun _ _ h _ => h
theorem qle_kp (ks : List Nat) (l : qV) : qle (qkp ks l) l := fun i v h hv => by
  rw [qlk_kp] at h
  split at h
  · exact h
  · exact absurd h.symm hv
theorem qle_st1 {l1 l2 : qV} (h : qle l1 l2) (i : Nat) (v : Value) : qle (qst1 l1 i v) (qst1 l2 i v) := fun j w hw hn => by
  unfold qst1 at hw ⊢
  rw [qlk_ins, qlk_cut] at hw ⊢
  split at hw
  · rename_i e
    rw [if_pos e]
    exact hw
  · rename_i e
    rw [if_neg e]
    split at hw
    · exact absurd hw.symm hn
    · rename_i e2
      have h1 := h j w hw hn
      rw [h1, if_neg (by rw [← hw]; exact e2)]
theorem qle_clr {l1 l2 : qV} (h : qle l1 l2) (i : Nat) : qle (qclr l1 i) (qclr l2 i) := fun j w hw hn => by
  rw [qlk_clr] at hw ⊢
  split at hw
  · exact absurd hw.symm hn
  · rename_i e
    rw [if_neg e]
    exact h j w hw hn
theorem qle_cut {l1 l2 : qV} (h : qle l1 l2) (i : Nat) : qle (qcut l1 i) (qcut l2 i) := fun j w hw hn => by
  rw [qlk_cut] at hw ⊢
  split at hw
  · exact absurd hw.symm hn
  · rename_i e
    have h1 := h j w hw hn
    rw [h1, if_neg (by rw [← hw]; exact e)]
theorem qle_st2 {l1 l2 : qV} (h : qle l1 l2) (i : Nat) (v : Value) : qle (qst2 l1 i v) (qst2 l2 i v) := fun j w hw hn => by
  unfold qst2 at hw ⊢
  rw [qlk_ins] at hw ⊢
  split at hw
  · rename_i e
    rw [if_pos e]
    exact hw
  · rename_i e
    rw [if_neg e]
    exact qle_clr (qle_cut h i) (i + 1) j w hw hn
set_option maxHeartbeats 4000000 in
theorem qlo_more {cl : Nat} {ins : Jvm.ClassFile.Instr} {l1 l2 : qV} {st : List Value} {M : qM} (hl : qle l1 l2) {P : Option Prop} {l1' : qV} {st' : List Value} {M' : qM} (h : qlo cl ins l1 st M = some (P, l1', st', M')) :
    ∃ l2', qlo cl ins l2 st M = some (P, l2', st', M') ∧ qle l1' l2' := by
  have hI : ∀ i v, qlk l1 i = .int v → qlk l2 i = .int v := fun i v e => hl i _ e (fun q => by cases q)
  have hJ : ∀ i v, qlk l1 i = .long v → qlk l2 i = .long v := fun i v e => hl i _ e (fun q => by cases q)
  have hR : ∀ i v, qlk l1 i = .ref v → qlk l2 i = .ref v := fun i v e => hl i _ e (fun q => by cases q)
  unfold qlo at h ⊢
  split at h <;> (try dsimp only at h ⊢) <;> (try split at h) <;> (try split at h) <;>
    first
    | (cases h; done)
    | (cases h; exact ⟨_, rfl, hl⟩)
    | (rename_i e; cases h; rw [hI _ _ e]; exact ⟨_, rfl, hl⟩)
    | (rename_i e; cases h; rw [hJ _ _ e]; exact ⟨_, rfl, hl⟩)
    | (rename_i e; cases h; rw [hR _ _ e]; exact ⟨_, rfl, hl⟩)
    | (rename_i e; cases h; rw [hI _ _ e]; exact ⟨_, rfl, qle_st1 hl _ _⟩)
    | (cases h; exact ⟨_, rfl, qle_st1 hl _ _⟩)
    | (cases h; exact ⟨_, rfl, qle_st2 hl _ _⟩)
    | (rename_i e; rw [e] at *; cases h; exact ⟨_, rfl, hl⟩)
theorem qbk_more {k pc nx : Nat} {l1 l2 : qV} {rest : List Value} {F F' : Nat → qV → List Value → qM → Prop} {Q : qR → Prop} (hl : qle l1 l2) (hF : ∀ a b1 b2 c e, qle b1 b2 → F a b1 c e → F' a b2 c e) : ∀ R, qbk k pc nx l1 rest F Q R → qbk k pc nx l2 rest F' Q R := by
  intro R h
  unfold qbk at h ⊢
  split at h
  · exact hF _ _ _ _ _ hl h
  · exact hF _ _ _ _ _ hl h
  · split at h
    · exact h
    · split at h
      · exact h.elim
      · split at h
        · exact hF _ _ _ _ _ (qle_clr (qle_cut hl _) _) h
        · exact hF _ _ _ _ _ (qle_clr (qle_cut hl _) _) h
        · exact h.elim
set_option maxHeartbeats 4000000 in
theorem qG_more {F F' FB FB' : Nat → qV → List Value → qM → Prop} {C C' : Nat → List Value → qM → (qR → Prop) → (qR → Prop) → Prop} {d k pc : Nat} {l1 l2 : qV} {st : List Value} {M : qM} {Q : qR → Prop} (hl : qle l1 l2)
    (hF : ∀ a b1 b2 c e, qle b1 b2 → F a b1 c e → F' a b2 c e) (hC : ∀ k' as M' Q1 Q2 Q3 Q4, (∀ R, Q1 R → Q2 R) → C k' as M' Q1 Q3 → C' k' as M' Q2 Q4)
    (h : qG F FB C d k pc l1 st M Q) : qG F' FB' C' d k pc l2 st M Q := by
  have hb : ∀ {pc nx : Nat} {rest : List Value}, ∀ R, qbk k pc nx l1 rest F Q R → qbk k pc nx l2 rest F' Q R := fun R h => qbk_more hl hF R h
  unfold qG at h ⊢
  generalize qcd k pc = o at h ⊢
  match o with
  | none => exact h
  | some (ins, nx, tg) =>
    dsimp only at h ⊢
    split at h
    · exact hF _ _ _ _ _ hl h
    · split at h
      · exact ⟨fun e => hF _ _ _ _ _ hl (h.1 e), fun e => hF _ _ _ _ _ hl (h.2 e)⟩
      · exact h.elim
    · split at h
      · exact ⟨fun e => hF _ _ _ _ _ hl (h.1 e), fun e => hF _ _ _ _ _ hl (h.2 e)⟩
      · exact h.elim
    · split at h
      · exact ⟨fun e => hF _ _ _ _ _ hl (h.1 e), fun e => hF _ _ _ _ _ hl (h.2 e)⟩
      · exact h.elim
    · split at h
      · exact qsw_mono (fun t => hF _ _ _ _ _ hl) _ h
      · exact h.elim
    · split at h
      · exact qsw_mono (fun t => hF _ _ _ _ _ hl) _ h
      · exact h.elim
    · exact h
    · exact h
    · exact h
    · split at h
      · exact h
      · exact h
      · generalize hq : qlo (qcl k) _ l1 st M = q at h
        match q with
        | none => exact h.elim
        | some (P, l1', st', M') =>
          obtain ⟨l2', h1, h2⟩ := qlo_more hl hq
          rw [h1]
          exact qand_mono (hF _ _ _ _ _ h2) h
    · split at h
      · exact ⟨h.1, h.2.1, hC _ _ _ _ _ _ _ hb h.2.2⟩
      · exact h.elim
    · split at h
      · exact ⟨h.1, hC _ _ _ _ _ _ _ hb h.2⟩
      · exact h.elim
    · split at h
      · split at h
        · split at h
          · exact ⟨h.1, hF _ _ _ _ _ hl h.2⟩
          · exact h.elim
        · exact h.elim
      · split at h
        · exact ⟨h.1, h.2.1, hC _ _ _ _ _ _ _ hb h.2.2⟩
        · exact h.elim
    · generalize hq : qlo (qcl k) _ l1 st M = q at h
      match q with
      | none => exact h.elim
      | some (P, l1', st', M') =>
        obtain ⟨l2', h1, h2⟩ := qlo_more hl hq
        rw [h1]
        exact qand_mono (hF _ _ _ _ _ h2) h
theorem qX_more : ∀ (n : Nat) {d k pc : Nat} {l1 l2 : qV} {st : List Value} {M : qM} {Q : qR → Prop}, qle l1 l2 → qX n d k pc l1 st M Q → qX n d k pc l2 st M Q
  | 0, _, _, _, _, _, _, _, _, _, h => h.elim
  | n + 1, _, _, _, _, _, _, _, _, hl, h => qG_more hl (fun _ _ _ _ _ hl h => qX_more n hl h) (fun _ _ _ _ _ _ _ hq h => qX_mono n n (Nat.le_refl n) hq h) h
theorem qwq_kp (pc : Nat) (ks : List Nat) {d k : Nat} {lv : qV} {st : List Value} {M : qM} {Q : qR → Prop} (h : qwq d k pc (qkp ks lv) st M Q) : qwq d k pc lv st M Q := h.elim fun n h => ⟨n, qX_more n (qle_kp ks lv) h⟩
theorem qwq_le {d k pc : Nat} {l1 l2 : qV} {st : List Value} {M : qM} {Q : qR → Prop} (hl : qle l1 l2) (h : qwq d k pc l1 st M Q) : qwq d k pc l2 st M Q := h.elim fun n h => ⟨n, qX_more n hl h⟩
def qUok (U : Nat → List Value → Option Int32) : Prop := ∀ (k : Nat) (as : List Value) (v : Int32), U k as = some v → ∀ (d : Nat) (M : qM) (Q : qR → Prop), Q (.inl (some (.int v), M)) → qwp d k as M Q
theorem qY_sound {U : Nat → List Value → Option Int32} (hU : qUok U) (S : Nat → Option (List Nat)) : ∀ (n : Nat) (f : Bool) {d k pc : Nat} {lv : qV} {st : List Value} {M : qM} {Q : qR → Prop}, qY U S f n d k pc lv st M Q → qwq d k pc lv st M Q
  | 0, true, _, _, _, _, _, _, _, h => h
  | 0, false, _, _, _, _, _, _, _, h => h
  | n + 1, f, d, k, pc, lv, st, M, Q, h => by
    have key : qG (fun pc' lv' st' M' => qY U S false n d k pc' lv' st' M' Q) (fun pc' lv' st' M' => qwq d k pc' lv' st' M' Q)
      (fun k' as M' Q1 Q2 => match U k' as with | some v => Q1 (.inl (some (.int v), M')) | none => qwp (d - 1) k' as M' Q2) d k pc lv st M Q → qwq d k pc lv st M Q := by
      intro h
      rcases qG_next h with ⟨a, b, c, e, h1, h2⟩ | ⟨R, h1, h2⟩ | ⟨k', as, nx, rest, h1, h2⟩
      · obtain ⟨n2, h3⟩ := qY_sound hU S n false h1
        exact ⟨n2 + 1, h2 _ _ _ _ h3⟩
      · exact ⟨1, h2 _ _ _ _ h1⟩
      · have gen : ∀ F : Nat → qV → List Value → qM → Prop, (∀ a b c e, F a b c e → qwq d k a b c e Q) → qwp (d - 1) k' as M (qbk k pc nx lv rest F Q) → qwq d k pc lv st M Q := by
          rintro F hF ⟨n1, h1⟩
          obtain ⟨R, h3, h4⟩ := qX_det n1 h1
          rcases qbk_det h3 with ⟨a, b, c, e, g1, g2⟩ | ⟨R', g1, g2⟩
          · obtain ⟨n2, h5⟩ := hF _ _ _ _ g1
            refine ⟨n1 + n2 + 1, h2 _ _ _ _ (qX_mono n1 (n1 + n2) (by omega) (fun r hr => ?_) h4)⟩
            subst hr
            exact g2 _ _ (qX_mono n2 (n1 + n2) (by omega) (fun _ h => h) h5)
          · exact ⟨n1 + 1, h2 _ _ _ _ (qX_mono n1 n1 (Nat.le_refl _) (fun r hr => by subst hr; exact g2 _ _ g1) h4)⟩
        cases hu : U k' as with
        | some v =>
          rw [hu] at h1
          exact gen _ (fun a b c e h => qY_sound hU S n false h) (hU k' as v hu (d - 1) M _ h1)
        | none =>
          rw [hu] at h1
          exact gen _ (fun _ _ _ _ h => h) h1
    cases f with
    | true => exact key h
    | false =>
      unfold qY at h
      cases hs : S pc with
      | some ks => rw [hs] at h; exact qwq_kp pc ks h
      | none => rw [hs] at h; exact key h
