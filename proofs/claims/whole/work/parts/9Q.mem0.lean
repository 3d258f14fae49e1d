/-! ===== memory while the constructors run ===== -/
def qW0 (r6 k : Nat) : Nat := if k = 1 then 67 else if k = 2 then 96 else if k = 3 then 125 else if k = 4 then 128 else if k = 5 then 131 else if k = 6 then 135 else if k = 1000 then r6 else 0
def qShm (L m a : Nat) : qS := if a < m then qSH L a else (0, 0)
def mc (m ce us L : Nat) (I : Nat → Nat → Int32) (P : Nat → Nat → Nat) : qM := ((m, true, ce, us), qShm L m, I, P, fun _ _ => 0)
def opn (l : List (Nat × Nat)) (a b : Nat) : Prop := ∃ q ∈ l, a = q.1 ∧ q.2 ≤ b
def qPk (W : Nat → Nat) (m : Nat) (l : List (Nat × Nat)) (P : Nat → Nat → Nat) : Prop := (∀ a b, a < m → ¬ opn l a b → P a b = qPf W a b) ∧ ∀ a b, (m ≤ a ∨ opn l a b) → P a b = 0
def qMc (W : Nat → Nat) (m : Nat) (l : List (Nat × Nat)) (I : Nat → Nat → Int32) (P : Nat → Nat → Nat) : Prop := qPk W m l P ∧ ∀ a, m ≤ a → I a = fun _ => 0
theorem opn_c {o i : Nat} {l : List (Nat × Nat)} {a b : Nat} : opn ((o, i) :: l) a b ↔ (a = o ∧ i ≤ b) ∨ opn l a b := by
  constructor
  · rintro ⟨q, hq, h⟩
    rcases List.mem_cons.mp hq with rfl | hq
    · exact Or.inl h
    · exact Or.inr ⟨q, hq, h⟩
  · rintro (h | ⟨q, hq, h⟩)
    · exact ⟨_, List.mem_cons_self, h⟩
    · exact ⟨q, List.mem_cons_of_mem _ hq, h⟩
theorem opn_n {a b : Nat} : ¬ opn [] a b := fun ⟨q, hq, _⟩ => nomatch hq
section MEM0
variable {W : Nat → Nat} {m m2 ce ce2 us us2 L t n k : Nat} {l : List (Nat × Nat)} {I : Nat → Nat → Int32} {P : Nat → Nat → Nat}
theorem mc_mk (H : qMc W m l I P) (hs : qSH L m = (t, n)) (hm : m2 = m + 1) (hc : ce2 = ce + 1) (hu : us2 = us + n) : qmk (mc m ce us L I P) t n = mc m2 ce2 us2 L I P := by
  subst hm; subst hc; subst hu
  have e1 : (fun a => if a = m then (t, n) else qShm L m a) = qShm L (m + 1) := by
    funext a
    unfold qShm
    by_cases c : a = m
    · rw [if_pos c, if_pos (by omega), c, hs]
    · rw [if_neg c]
      by_cases c2 : a < m
      · rw [if_pos c2, if_pos (by omega)]
      · rw [if_neg c2, if_neg (by omega)]
  have e2 : (fun a j => if a = m then (0 : Int32) else I a j) = I := by
    funext a j
    by_cases c : a = m
    · rw [if_pos c, c, H.2 m (Nat.le_refl _)]
    · rw [if_neg c]
  have e3 : (fun a j => if a = m then 0 else P a j) = P := by
    funext a j
    by_cases c : a = m
    · rw [if_pos c, c, H.1.2 m j (Or.inl (Nat.le_refl _))]
    · rw [if_neg c]
  have e4 : (fun (a _j : Nat) => if a = m then (0 : Int64) else 0) = fun _ _ => 0 := by
    funext a j; split <;> rfl
  show ((m + 1, true, ce + 1, us + n), (fun a => if a = m then (t, n) else qShm L m a), (fun a j => if a = m then (0 : Int32) else I a j), (fun a j => if a = m then 0 else P a j), (fun (a _j : Nat) => if a = m then (0 : Int64) else 0)) = _
  rw [e1, e2, e3, e4]; rfl
def mmP (m n : Nat) (P : Nat → Nat → Nat) (a j : Nat) : Nat := if a = m then (if j < n then m + 1 + j else 0) else if m < a ∧ a ≤ m + n then 0 else P a j
theorem mc_mm (H : qMc W m l I P) (hs : qSH L m = (4, n)) (hs2 : ∀ i, i < n → qSH L (m + 1 + i) = (1, k)) (hm : m2 = m + 1 + n) (hc : ce2 = ce + (1 + n)) (hu : us2 = us + (n + n * k)) : qmm (mc m ce us L I P) n k = mc m2 ce2 us2 L I (mmP m n P) := by
  subst hm; subst hc; subst hu
  have e1 : (fun a => if a = m then (4, n) else if m < a ∧ a ≤ m + n then (1, k) else qShm L m a) = qShm L (m + 1 + n) := by
    funext a
    unfold qShm
    by_cases c : a = m
    · rw [if_pos c, if_pos (by omega), c, hs]
    · rw [if_neg c]
      by_cases c1 : m < a ∧ a ≤ m + n
      · rw [if_pos c1, if_pos (by omega)]
        have := hs2 (a - (m + 1)) (by omega)
        rw [show m + 1 + (a - (m + 1)) = a by omega] at this
        exact this.symm
      · rw [if_neg c1]
        by_cases c2 : a < m
        · rw [if_pos c2, if_pos (by omega)]
        · rw [if_neg c2, if_neg (by omega)]
  have e2 : (fun a j => if m ≤ a ∧ a ≤ m + n then (0 : Int32) else I a j) = I := by
    funext a j
    by_cases c : m ≤ a ∧ a ≤ m + n
    · rw [if_pos c, H.2 a c.1]
    · rw [if_neg c]
  have e4 : (fun (a _j : Nat) => if m ≤ a ∧ a ≤ m + n then (0 : Int64) else 0) = fun _ _ => 0 := by
    funext a j; split <;> rfl
  show ((m + 1 + n, true, ce + (1 + n), us + (n + n * k)), (fun a => if a = m then (4, n) else if m < a ∧ a ≤ m + n then (1, k) else qShm L m a), (fun a j => if m ≤ a ∧ a ≤ m + n then (0 : Int32) else I a j), mmP m n P, (fun (a _j : Nat) => if m ≤ a ∧ a ≤ m + n then (0 : Int64) else 0)) = _
  rw [e1, e2, e4]; rfl
theorem pk_leaf (H : qMc W m l I P) (hz : ∀ b, qPf W m b = 0) (hm : m2 = m + 1) : qMc W m2 l I P := by
  subst hm
  refine ⟨⟨fun a b ha ho => ?_, fun a b h => H.1.2 a b (h.imp (fun q => by omega) id)⟩, fun a ha => H.2 a (by omega)⟩
  by_cases c : a = m
  · rw [c, hz b]; exact H.1.2 m b (Or.inl (Nat.le_refl _))
  · exact H.1.1 a b (by omega) ho
theorem pk_new (H : qMc W m l I P) (hm : m2 = m + 1) : qMc W m2 ((m, 0) :: l) I P := by
  subst hm
  refine ⟨⟨fun a b ha ho => ?_, fun a b h => ?_⟩, fun a ha => H.2 a (by omega)⟩
  · have c : ¬ a = m := fun c => ho (opn_c.mpr (Or.inl ⟨c, Nat.zero_le _⟩))
    exact H.1.1 a b (by omega) (fun q => ho (opn_c.mpr (Or.inr q)))
  · rcases h with h | h
    · exact H.1.2 a b (Or.inl (by omega))
    · rcases opn_c.mp h with ⟨c, -⟩ | h
      · exact H.1.2 a b (Or.inl (by omega))
      · exact H.1.2 a b (Or.inr h)
theorem pk_put {o i f f2 v : Nat} (H : qMc W m ((o, i) :: l) I P) (ho : o < m) (hi : i ≤ f) (hz : ∀ b, i ≤ b → b < f → qPf W o b = 0) (hv : qPf W o f = v) (hl : ∀ q ∈ l, ¬ q.1 = o) (hf : f2 = f + 1) : qMc W m ((o, f2) :: l) I (qup P o f v) := by
  subst hf
  refine ⟨⟨fun a b ha hn => ?_, fun a b h => ?_⟩, H.2⟩
  · by_cases c : a = o
    · have hb : ¬ f + 1 ≤ b := fun q => hn (opn_c.mpr (Or.inl ⟨c, q⟩))
      rw [c, qup_at]
      by_cases c2 : b = f
      · rw [if_pos c2, c2, hv]
      · rw [if_neg c2]
        by_cases c3 : i ≤ b
        · rw [H.1.2 o b (Or.inr (opn_c.mpr (Or.inl ⟨rfl, c3⟩))), hz b c3 (by omega)]
        · refine H.1.1 o b ho (fun q => ?_)
          rcases opn_c.mp q with ⟨-, q⟩ | ⟨q, hq, e, -⟩
          · exact c3 q
          · exact hl q hq e.symm
    · rw [qup_ne c]
      refine H.1.1 a b ha (fun q => ?_)
      rcases opn_c.mp q with ⟨q, -⟩ | q
      · exact c q
      · exact hn (opn_c.mpr (Or.inr q))
  · by_cases c : a = o
    · rw [c, qup_at]
      have hb : f + 1 ≤ b := by
        rcases h with h | h
        · omega
        · rcases opn_c.mp h with ⟨-, h⟩ | ⟨q, hq, e, -⟩
          · exact h
          · exact absurd (e.symm.trans c) (hl q hq)
      rw [if_neg (by omega)]
      exact H.1.2 o b (Or.inr (opn_c.mpr (Or.inl ⟨rfl, by omega⟩)))
    · rw [qup_ne c]
      rcases h with h | h
      · exact H.1.2 a b (Or.inl h)
      · rcases opn_c.mp h with ⟨q, -⟩ | h
        · exact absurd q c
        · exact H.1.2 a b (Or.inr (opn_c.mpr (Or.inr h)))
theorem pk_int {a j : Nat} {v : Int32} (H : qMc W m l I P) (ha : a < m) : qMc W m l (qup I a j v) P := ⟨H.1, fun b hb => by rw [qup_ne (by omega)]; exact H.2 b hb⟩
theorem pk_close {o i : Nat} (H : qMc W m ((o, i) :: l) I P) (hz : ∀ b, i ≤ b → qPf W o b = 0) : qMc W m l I P := by
  refine ⟨⟨fun a b ha hn => ?_, fun a b h => H.1.2 a b (h.imp id (fun q => opn_c.mpr (Or.inr q)))⟩, H.2⟩
  by_cases c : a = o ∧ i ≤ b
  · rw [H.1.2 a b (Or.inr (opn_c.mpr (Or.inl c))), c.1, hz b c.2]
  · refine H.1.1 a b ha (fun q => ?_)
    rcases opn_c.mp q with q | q
    · exact c q
    · exact hn q
theorem pk_mm (H : qMc W m l I P) (hv : ∀ b, qPf W m b = if b < n then m + 1 + b else 0) (hz : ∀ i, i < n → ∀ b, qPf W (m + 1 + i) b = 0) (hl : ∀ q ∈ l, q.1 < m) (hm : m2 = m + 1 + n) : qMc W m2 l I (mmP m n P) := by
  subst hm
  refine ⟨⟨fun a b ha hn => ?_, fun a b h => ?_⟩, fun a ha => H.2 a (by omega)⟩
  · unfold mmP
    by_cases c : a = m
    · rw [if_pos c, c, hv b]
    · rw [if_neg c]
      by_cases c2 : m < a ∧ a ≤ m + n
      · rw [if_pos c2]
        have := hz (a - (m + 1)) (by omega) b
        rw [show m + 1 + (a - (m + 1)) = a by omega] at this
        exact this.symm
      · rw [if_neg c2]
        exact H.1.1 a b (by omega) hn
  · unfold mmP
    have c : ¬ a = m := by
      rcases h with h | ⟨q, hq, e, -⟩
      · omega
      · have := hl q hq; omega
    rw [if_neg c]
    split
    · rfl
    · refine H.1.2 a b ?_
      rcases h with h | h
      · exact Or.inl (by omega)
      · exact Or.inr h
theorem mc_to {d k pc : Nat} {lv : qV} {st : List Value} {M M' : qM} {Q : qR → Prop} (e : M = M') (h : qwq d k pc lv st M' Q) : qwq d k pc lv st M Q := by rw [e]; exact h
theorem q2_if (n o j : Nat) : q2 n o j = if j < n then o + 1 + j else 0 := by
  unfold q2
  cases h : Nat.blt j n with
  | true => rw [if_pos (show j < n from Nat.le_of_ble_eq_true h), cond_true]
  | false =>
    have : ¬ j < n := fun c => by
      have : Nat.blt j n = true := Nat.ble_eq_true_of_le c
      rw [this] at h; exact Bool.noConfusion h
    rw [if_neg this, cond_false]
/-- the whole memory, cut -/
theorem mc_r {g : qG1} (H : qMc g.2.2.1 m [] I P) (hL : g.2.1 = L) : mc m ce us L I P = qrM m (m, true, ce, us) (qw g I) := by
  subst hL
  have e2 : (fun a => if a < m then I a else fun _ => 0) = I := by
    funext a
    by_cases c : a < m
    · rw [if_pos c]
    · rw [if_neg c, H.2 a (by omega)]
  have e3 : (fun a => if a < m then qPf g.2.2.1 a else fun _ => 0) = P := by
    funext a b
    by_cases c : a < m
    · rw [if_pos c, H.1.1 a b c opn_n]
    · rw [if_neg c, H.1.2 a b (Or.inl (by omega))]
  show ((m, true, ce, us), qShm g.2.1 m, I, P, fun _ _ => 0) = ((m, true, ce, us), qShm g.2.1 m, (fun a => if a < m then I a else fun _ => 0), (fun a => if a < m then qPf g.2.2.1 a else fun _ => 0), fun _ _ => 0)
  rw [e2, e3]
/-- the ints that are kept -/
def qIm (m : Nat) (J : Nat → Nat → Int32) (a : Nat) : Nat → Int32 := if a < m then J a else fun _ => 0
theorem mc_b {g : qG1} {J : Nat → Nat → Int32} (H : qPk g.2.2.1 m [] P) (hL : g.2.1 = L) : qrM m (m, true, ce, us) (qw g J) = mc m ce us L (qIm m J) P := by
  have H2 : qMc g.2.2.1 m [] (qIm m J) P := ⟨H, fun a ha => if_neg (by omega)⟩
  rw [mc_r H2 hL]
  have e : (fun a => if a < m then J a else fun _ => 0) = fun a => if a < m then qIm m J a else fun _ => 0 := by
    funext a
    unfold qIm
    by_cases c : a < m
    · rw [if_pos c, if_pos c]
    · rw [if_neg c, if_neg c]
  show ((m, true, ce, us), _, (fun a => if a < m then J a else fun _ => 0), _, _) = ((m, true, ce, us), _, (fun a => if a < m then qIm m J a else fun _ => 0), _, _)
  rw [e]; rfl
/-- a call within the cells that are there -/
theorem mc_run {K : Nat → Bool} (hK : ∀ k, K k = true → qha k = [] ∧ ∀ pc ins nx tg, qcd k pc = some (ins, nx, tg) → qri K (qcl k) ins = true) {d k2 : Nat} {as : List Value} {g : qG1} {J : Nat → Nat → Int32} (hm : 64 ≤ m) (hk : K k2 = true) (has : qrs m as) (hc : ∀ a j, a < m → ¬ (qSH g.2.1 a).1 = 0 → qPf g.2.2.1 a j < m) (H : qMc g.2.2.1 m [] I P) (hL : g.2.1 = L)
    (h : qRun d k2 as (qw g I) (.inl (none, qw g J))) : qRun d k2 as (mc m ce us L I P) (.inl (none, mc m ce us L (qIm m J) P)) := by
  obtain ⟨n, hn⟩ := h
  have := qres (m := m) (h0 := (m, true, ce, us)) hm hK n hk (qrl_args as 0 has) (fun v hv => absurd hv List.not_mem_nil) (M := qw g I) hc hn
  rw [mc_r H hL]
  refine qwp_mono (fun R hR => ?_) ⟨n, this⟩
  obtain ⟨R', rfl, -, rfl⟩ := hR
  show (Sum.inl (none, qrM m (m, true, ce, us) (qw g J)) : qR) = _
  rw [mc_b H.1 hL]
end MEM0
