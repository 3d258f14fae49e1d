/-! ===== casting: all ways, by sets as numbers below 512 ===== -/
def p9 (m : Nat) : Nat := cn 9 (fun k => m.testBit k)
def cQt (sil : Nat → Nat → Bool) (m : Nat) : Bool := !(anb 9 (fun h => m.testBit h && anb 9 (fun g => m.testBit g && sil h g)))
def cOk (sil : Nat → Nat → Bool) (k A t s : Nat) : Bool := (p9 s == k) && (s &&& A == s) && (s &&& t == 0) && cQt sil (t ||| s)
/-- all ways for the puppets i, i+1 .. (r of them) when the hands t are taken -/
def cE (sil : Nat → Nat → Bool) (K A : Nat → Nat) (b : Nat → Bool) : Nat → Nat → Nat → List (List Nat)
  | 0, _, _ => [[]]
  | r + 1, i, t => if b i = true then (List.range 512).flatMap (fun s => if cOk sil (K i) (A i) t s = true then (cE sil K A b r (i + 1) (t ||| s)).map (s :: ·) else []) else []
def cSg : List Nat := [1, 2, 4, 8, 16, 32, 64, 128, 256]
def cPr : List Nat := [3, 5, 6, 9, 10, 12, 17, 18, 20, 24, 33, 34, 36, 40, 48, 65, 66, 68, 72, 80, 96, 129, 130, 132, 136, 144, 160, 192, 257, 258, 260, 264, 272, 288, 320, 384]
def cSt (k : Nat) : List Nat := if k = 1 then cSg else cPr
theorem cSg_eq : cSg = (List.range 512).filter (fun s => p9 s == 1) := by decide +kernel
theorem cPr_eq : cPr = (List.range 512).filter (fun s => p9 s == 2) := by decide +kernel
theorem cSt_eq {k : Nat} (h : k = 1 ∨ k = 2) : cSt k = (List.range 512).filter (fun s => p9 s == k) := by
  rcases h with rfl | rfl
  · exact cSg_eq
  · exact cPr_eq
theorem cSg_at : ∀ j : Fin 9, p9 (cSg.getD j.val 0) = 1 ∧ 0 < cSg.getD j.val 0 ∧ cSg.getD j.val 0 < 512 ∧ ∀ i : Fin 9, i.val < j.val → cSg.getD i.val 0 < cSg.getD j.val 0 := by decide +kernel
theorem cPr_at : ∀ j : Fin 36, p9 (cPr.getD j.val 0) = 2 ∧ 0 < cPr.getD j.val 0 ∧ cPr.getD j.val 0 < 512 ∧ ∀ i : Fin 36, i.val < j.val → cPr.getD i.val 0 < cPr.getD j.val 0 := by decide +kernel
theorem cSt_len {k : Nat} (h : k = 1 ∨ k = 2) : (cSt k).length ≤ 36 := by
  rcases h with rfl | rfl <;> decide
theorem cSt_at {k j : Nat} (h : k = 1 ∨ k = 2) (hj : j < (cSt k).length) : p9 ((cSt k).getD j 0) = k ∧ 0 < (cSt k).getD j 0 ∧ (cSt k).getD j 0 < 512 ∧ ∀ i, i < j → (cSt k).getD i 0 < (cSt k).getD j 0 := by
  rcases h with rfl | rfl
  · have hj : j < 9 := hj
    obtain ⟨h1, h2, h3, h4⟩ := cSg_at ⟨j, hj⟩
    exact ⟨h1, h2, h3, fun i hi => h4 ⟨i, by omega⟩ hi⟩
  · have hj : j < 36 := hj
    obtain ⟨h1, h2, h3, h4⟩ := cPr_at ⟨j, hj⟩
    exact ⟨h1, h2, h3, fun i hi => h4 ⟨i, by omega⟩ hi⟩
theorem gD {l : List Nat} {j : Nat} (hj : j < l.length) : l.getD j 0 = l[j] := by rw [List.getD_eq_getElem?_getD, List.getElem?_eq_getElem hj]; rfl
theorem cSt_in {k s : Nat} (h : k = 1 ∨ k = 2) (hs : s < 512) (hp : p9 s = k) : ∃ j, j < (cSt k).length ∧ (cSt k).getD j 0 = s := by
  have : s ∈ cSt k := by
    rw [cSt_eq h, List.mem_filter, List.mem_range]
    exact ⟨hs, beq_iff_eq.mpr hp⟩
  obtain ⟨j, hj, e⟩ := List.getElem_of_mem this
  exact ⟨j, hj, by rw [gD hj, e]⟩
theorem sm_list (f : Nat → Nat) : ∀ l : List Nat, ∀ g : Nat → Nat, (∀ j, j < l.length → g j = f (l.getD j 0)) → sm l.length g = (l.map f).sum := by
  intro l
  have key : ∀ n, n ≤ l.length → ∀ g : Nat → Nat, (∀ j, j < n → g j = f (l.getD j 0)) → sm n g = ((l.take n).map f).sum := by
    intro n
    induction n with
    | zero => intro _ g _; rfl
    | succ n ih =>
      intro hn g hg
      rw [sm, ih (by omega) g (fun j hj => hg j (by omega)), hg n (by omega), List.take_succ_eq_append_getElem (by omega), List.map_append, List.sum_append, gD (show n < l.length by omega)]
      simp
  intro g hg
  have := key l.length (Nat.le_refl _) g hg
  rwa [List.take_length] at this
theorem filt_sum (f : Nat → Nat) (p : Nat → Bool) : ∀ l : List Nat, ((l.filter p).map f).sum = (l.map (fun s => if p s = true then f s else 0)).sum
  | [] => rfl
  | a :: l => by
    rw [List.filter_cons, List.map_cons, List.sum_cons, ← filt_sum f p l]
    cases p a
    · simp
    · simp
/-- the class' sum over the sets of a size -/
theorem cE_len (sil : Nat → Nat → Bool) (K A : Nat → Nat) (b : Nat → Bool) {r i t : Nat} (hb : b i = true) (hk : K i = 1 ∨ K i = 2) :
    (cE sil K A b (r + 1) i t).length = sm (cSt (K i)).length (fun j => if (((cSt (K i)).getD j 0 &&& A i == (cSt (K i)).getD j 0) && ((cSt (K i)).getD j 0 &&& t == 0) && cQt sil (t ||| (cSt (K i)).getD j 0)) = true then (cE sil K A b r (i + 1) (t ||| (cSt (K i)).getD j 0)).length else 0) := by
  rw [sm_list (fun s => if ((s &&& A i == s) && (s &&& t == 0) && cQt sil (t ||| s)) = true then (cE sil K A b r (i + 1) (t ||| s)).length else 0) _ _ (fun j hj => rfl), cSt_eq hk, filt_sum]
  rw [cE, if_pos hb, List.length_flatMap]
  refine congrArg List.sum (List.map_congr_left (fun s _ => ?_))
  unfold cOk
  cases (p9 s == K i) with
  | false => simp
  | true =>
    simp only [Bool.true_and, if_true]
    split
    · rw [List.length_map]
    · rfl
/-- a puppet without strings: no way -/
theorem cE_nob (sil : Nat → Nat → Bool) (K A : Nat → Nat) (b : Nat → Bool) {j : Nat} (hb : b j = false) : ∀ r i t, i ≤ j → j < i + r → cE sil K A b r i t = []
  | 0, i, t, h1, h2 => by omega
  | r + 1, i, t, h1, h2 => by
    rw [cE]
    split
    · rename_i hi
      have hij : i ≠ j := fun e => by rw [e, hb] at hi; cases hi
      rw [List.flatMap_eq_nil_iff]
      intro s _
      split
      · rw [cE_nob sil K A b hb r (i + 1) _ (by omega) (by omega)]; rfl
      · rfl
    · rfl
def sumK (K : Nat → Nat) : Nat → Nat → Nat
  | 0, _ => 0
  | r + 1, i => K i + sumK K r (i + 1)
theorem p9_or {s t : Nat} (h : s &&& t = 0) : p9 (t ||| s) = p9 t + p9 s := by
  have hb : ∀ k, ¬ (s.testBit k = true ∧ t.testBit k = true) := fun k q => by
    have := congrArg (fun m => Nat.testBit m k) h
    simp only [Nat.testBit_and, Nat.zero_testBit] at this
    rw [q.1, q.2] at this; cases this
  unfold p9
  have : ∀ n, cn n (fun k => (t ||| s).testBit k) = cn n (fun k => t.testBit k) + cn n (fun k => s.testBit k) := by
    intro n
    induction n with
    | zero => rfl
    | succ n ih =>
      rw [cn, cn, cn, ih, Nat.testBit_or]
      have := hb n
      cases h1 : t.testBit n <;> cases h2 : s.testBit n <;> simp only [Bool.or_false, Bool.or_true, cond_true, cond_false, Bool.or_self] <;> first | omega | exact absurd ⟨h2, h1⟩ this
  exact this 9
theorem p9_sub {s t : Nat} (h : s &&& t = s) : p9 s ≤ p9 t := by
  unfold p9
  have hb : ∀ k, s.testBit k = true → t.testBit k = true := fun k q => by
    have := congrArg (fun m => Nat.testBit m k) h
    simp only [Nat.testBit_and] at this
    rw [q] at this; simpa using this
  have : ∀ n, cn n (fun k => s.testBit k) ≤ cn n (fun k => t.testBit k) := by
    intro n
    induction n with
    | zero => exact Nat.le_refl _
    | succ n ih =>
      rw [cn, cn]
      have := hb n
      cases h1 : s.testBit n <;> cases h2 : t.testBit n <;> simp only [cond_true, cond_false] <;> first | omega | (rw [h1, h2] at this; exact absurd (this rfl) (by decide))
  exact this 9
theorem sub_or {s t m : Nat} (h1 : s &&& m = s) (h2 : t &&& m = t) : (t ||| s) &&& m = t ||| s := by rw [Nat.and_or_distrib_right, h1, h2]
theorem sub_tr {s t m : Nat} (h1 : s &&& t = s) (h2 : t &&& m = t) : s &&& m = s := by rw [← h1, Nat.and_assoc, h2]
/-- hands that don't suffice: no way -/
theorem cE_few (sil : Nat → Nat → Bool) (K A : Nat → Nat) (b : Nat → Bool) {m : Nat} (hA : ∀ i, A i &&& m = A i) : ∀ r i t, t &&& m = t → p9 m < p9 t + sumK K r i → cE sil K A b r i t = []
  | 0, i, t, h1, h2 => by
    have := p9_sub h1
    rw [sumK] at h2; omega
  | r + 1, i, t, h1, h2 => by
    rw [cE]
    split
    · rw [List.flatMap_eq_nil_iff]
      intro s _
      split
      · rename_i hok
        unfold cOk at hok
        rw [Bool.and_eq_true, Bool.and_eq_true, Bool.and_eq_true, beq_iff_eq, beq_iff_eq, beq_iff_eq] at hok
        obtain ⟨⟨⟨o1, o2⟩, o3⟩, o4⟩ := hok
        rw [cE_few sil K A b hA r (i + 1) _ (sub_or (sub_tr o2 (hA i)) h1) (by rw [p9_or o3, o1]; rw [sumK] at h2; omega)]; rfl
      · rfl
    · rfl
theorem cE_mem {sil : Nat → Nat → Bool} {K A : Nat → Nat} {b : Nat → Bool} {r i t : Nat} {c : List Nat} : c ∈ cE sil K A b (r + 1) i t ↔ b i = true ∧ ∃ s c', c = s :: c' ∧ s < 512 ∧ cOk sil (K i) (A i) t s = true ∧ c' ∈ cE sil K A b r (i + 1) (t ||| s) := by
  rw [cE]
  constructor
  · intro h
    split at h
    · rename_i hb
      rw [List.mem_flatMap] at h
      obtain ⟨s, h1, h2⟩ := h
      split at h2
      · rename_i ho
        rw [List.mem_map] at h2
        obtain ⟨c', h3, rfl⟩ := h2
        exact ⟨hb, s, c', rfl, List.mem_range.mp h1, ho, h3⟩
      · cases h2
    · cases h
  · rintro ⟨hb, s, c', rfl, h1, h2, h3⟩
    rw [if_pos hb, List.mem_flatMap]
    exact ⟨s, List.mem_range.mpr h1, by rw [if_pos h2]; exact List.mem_map.mpr ⟨c', h3, rfl⟩⟩
/-- the first way: the least set that leaves a way, then the first way of the rest -/
theorem cE_head {sil : Nat → Nat → Bool} {K A : Nat → Nat} {b : Nat → Bool} {r i t : Nat} {c : List Nat} {l : List (List Nat)} (h : cE sil K A b (r + 1) i t = c :: l) :
    ∃ s c' l', c = s :: c' ∧ s < 512 ∧ cOk sil (K i) (A i) t s = true ∧ cE sil K A b r (i + 1) (t ||| s) = c' :: l' ∧ ∀ u, u < s → cOk sil (K i) (A i) t u = true → cE sil K A b r (i + 1) (t ||| u) = [] := by
  have hb : b i = true := by
    cases e : b i with
    | true => rfl
    | false => rw [cE, e] at h; cases h
  rw [cE, if_pos hb] at h
  have key : ∀ n, (List.range n).flatMap (fun s => if cOk sil (K i) (A i) t s = true then (cE sil K A b r (i + 1) (t ||| s)).map (s :: ·) else []) = [] ∨
      ∃ s c' l' l2, (List.range n).flatMap (fun s => if cOk sil (K i) (A i) t s = true then (cE sil K A b r (i + 1) (t ||| s)).map (s :: ·) else []) = (s :: c') :: l2 ∧ s < n ∧ cOk sil (K i) (A i) t s = true ∧ cE sil K A b r (i + 1) (t ||| s) = c' :: l' ∧ ∀ u, u < s → cOk sil (K i) (A i) t u = true → cE sil K A b r (i + 1) (t ||| u) = [] := by
    intro n
    induction n with
    | zero => exact Or.inl rfl
    | succ n ih =>
      rw [List.range_succ, List.flatMap_append]
      rcases ih with ih | ⟨s, c', l', l2, e, h1, h2, h3, h4⟩
      · rw [ih, List.nil_append]
        have hn : ∀ u, u < n → cOk sil (K i) (A i) t u = true → cE sil K A b r (i + 1) (t ||| u) = [] := fun u hu ho => by
          have := List.flatMap_eq_nil_iff.mp ih u (List.mem_range.mpr hu)
          rw [if_pos ho] at this
          exact List.map_eq_nil_iff.mp this
        by_cases ho : cOk sil (K i) (A i) t n = true
        · cases e : cE sil K A b r (i + 1) (t ||| n) with
          | nil => left; simp [ho, e]
          | cons c' l' =>
            right
            exact ⟨n, c', l', l'.map (n :: ·), by simp [ho, e], by omega, ho, e, hn⟩
        · left; simp [ho]
      · right
        exact ⟨s, c', l', _, by rw [e]; rfl, by omega, h2, h3, h4⟩
  rcases key 512 with e | ⟨s, c', l', l2, e, h1, h2, h3, h4⟩
  · rw [e] at h; cases h
  · rw [e] at h
    injection h with h5 h6
    exact ⟨s, c', l', h5.symm, h1, h2, h3, h4⟩
