/-! ===== the text of the family ===== -/
def hnd (F : qFam) (l b x : Nat) : qFam := (fun r j => if r = 0 then (if j = 0 then F.1 0 0 + 1 else F.1 0 j) else if r = 1 then (if j = F.1 0 0 then l else F.1 1 j) else if r = 2 then (if j = F.1 0 0 then b else F.1 2 j) else if r = 3 then (if j = F.1 0 0 then x else F.1 3 j) else F.1 r j, F.2)
def pup (F : qFam) (a b c : Nat) : qFam := (fun r j => if r = 0 then (if j = 1 then F.1 0 1 + 1 else F.1 0 j) else if r = 4 then (if j = F.1 0 1 then a else F.1 4 j) else if r = 5 then (if j = F.1 0 1 then b else F.1 5 j) else if r = 6 then (if j = F.1 0 1 then c else F.1 6 j) else F.1 r j, F.2)
def wrk (F : qFam) (h p : Nat) : qFam := (F.1, fun r => if r = 0 then (fun a b => if a = h ∧ b = p then true else F.2 0 a b) else F.2 r)
def qua (F : qFam) (h p : Nat) : qFam := (F.1, fun r => if r = 1 then (fun a b => if a = h ∧ b = p then true else F.2 1 a b) else F.2 r)
def sil (F : qFam) (h g : Nat) : qFam := (F.1, fun r => if r = 2 then (fun a b => if (a = h ∧ b = g) ∨ (a = g ∧ b = h) then true else F.2 2 a b) else F.2 r)
/-- an act that is being told: its laughs, so many puppets, these -/
def acl (F : qFam) (l k : Nat) (o : Nat → Nat) : qFam := (fun r j => if r < 10 then (if r = 7 then (if j = F.1 0 2 then l else F.1 7 j) else if r = 8 then (if j = F.1 0 2 then k else F.1 8 j) else F.1 r j) else if r = 10 + F.1 0 2 then o j else F.1 r j, F.2)
def acd (F : qFam) : qFam := (fun r j => if r = 0 then (if j = 2 then F.1 0 2 + 1 else F.1 0 j) else F.1 r j, F.2)
def ows (F : qFam) (h g v : Nat) : qFam := (fun r j => if r = 20 + h then (if j = g then min 999 (F.1 (20 + h) g + v) else F.1 r j) else F.1 r j, F.2)
def wea (F : qFam) (v : Nat) : qFam := (fun r j => if r = 0 then (if j = 3 then v else F.1 0 j) else F.1 r j, F.2)
def fam0 : qFam := (fun r j => if r = 0 then (if j = 3 then 1 else 0) else 0, fun _ _ _ => false)
abbrev qPR : Type := (Nat × Nat) ⊕ (qFam × Nat)
section FAM0
variable (T : Nat → Nat) (n : Nat)
def aHand (F : qFam) (i : Nat) : qPR := match aNum T n i 0 9 with
  | .inl e => .inl e
  | .inr r1 => match aNum T n r1.2 0 40 with
    | .inl e => .inl e
    | .inr r2 => match aNum T n r2.2 0 60 with
      | .inl e => .inl e
      | .inr r3 => if ¬ r3.1 = 0 ∧ r3.1 ≤ r2.1 then .inl (2, tBl T n r2.2) else .inr (hnd F r1.1 r2.1 r3.1, r3.2)
def aPup (F : qFam) (i : Nat) : qPR := match aNum T n i 0 15 with
  | .inl e => .inl e
  | .inr r1 => match aNum T n r1.2 1 2 with
    | .inl e => .inl e
    | .inr r2 => match aNum T n r2.2 0 30 with
      | .inl e => .inl e
      | .inr r3 => .inr (pup F r1.1 r2.1 r3.1, r3.2)
/-- a hand and a number below a bound -/
def aHan (F : qFam) (m i : Nat) : (Nat × Nat) ⊕ ((Nat × Nat) × Nat × Nat) := match aNum T n i 0 ((F.1 0 0 : Int) - 1) with
  | .inl e => .inl e
  | .inr r1 => match aNum T n r1.2 0 ((m : Int) - 1) with
    | .inl e => .inl e
    | .inr r2 => .inr ((r1.1, r2.1), tBl T n r1.2, r2.2)
def aWks (F : qFam) (i : Nat) : qPR := match aHan T n F (F.1 0 1) i with
  | .inl e => .inl e
  | .inr r => if ¬ F.1 2 r.1.1 = 0 ∨ F.2 0 r.1.1 r.1.2 = true ∨ F.2 1 r.1.1 r.1.2 = true ∨ F.1 5 r.1.2 ≤ cn 9 (fun h => F.2 0 h r.1.2) then .inl (2, r.2.1) else .inr (wrk F r.1.1 r.1.2, r.2.2)
def aQua (F : qFam) (i : Nat) : qPR := match aHan T n F (F.1 0 1) i with
  | .inl e => .inl e
  | .inr r => if F.2 0 r.1.1 r.1.2 = true then .inl (2, r.2.1) else .inr (qua F r.1.1 r.1.2, r.2.2)
def aSil (F : qFam) (i : Nat) : qPR := match aHan T n F (F.1 0 0) i with
  | .inl e => .inl e
  | .inr r => if r.1.1 = r.1.2 then .inl (2, r.2.1) else .inr (sil F r.1.1 r.1.2, r.2.2)
def aPps (F : qFam) : Nat → Nat → Nat → (Nat → Nat) → (Nat × Nat) ⊕ ((Nat × (Nat → Nat)) × Nat)
  | 0, _, _, _ => .inl (0, 0)
  | r + 1, k, i, o =>
    if tBl T n i < n ∧ dg (T (tBl T n i)) = true then
      match aNum T n i 0 ((F.1 0 1 : Int) - 1) with
      | .inl e => .inl e
      | .inr q => if anb k (fun j => o j == q.1) = true then .inl (2, tBl T n i) else if 6 ≤ k then .inl (3, tBl T n i) else aPps F r (k + 1) q.2 (iup o k q.1)
    else if k = 0 then .inl (1, tBl T n i)
    else match aWrd T n i with
      | .inl e => .inl e
      | .inr w => if aIs T w.1 w.2 8 = true then .inr ((k, o), w.2) else .inl (1, w.1)
def aActs (F : qFam) (i : Nat) : qPR := match aNum T n i 0 9 with
  | .inl e => .inl e
  | .inr r => match aPps T n F 7 0 r.2 (F.1 (10 + F.1 0 2)) with
    | .inl e => .inl e
    | .inr q => .inr (acd (acl F r.1 q.1.1 q.1.2), q.2)
def aOws (F : qFam) (i : Nat) : qPR := match aHan T n F (F.1 0 0) i with
  | .inl e => .inl e
  | .inr r => if r.1.1 = r.1.2 then .inl (2, r.2.1) else match aNum T n r.2.2 1 99 with
    | .inl e => .inl e
    | .inr q => .inr (ows F r.1.1 r.1.2 q.1, q.2)
def aWea (F : qFam) (i : Nat) : qPR := match aNum T n i 0 9 with
  | .inl e => .inl e
  | .inr r => .inr (wea F r.1, r.2)
def aKnd (b e : Nat) : Option Nat := if aIs T b e 0 = true then some 0 else if aIs T b e 1 = true then some 1 else if aIs T b e 2 = true then some 2 else if aIs T b e 3 = true then some 3 else if aIs T b e 4 = true then some 4 else if aIs T b e 5 = true then some 5 else if aIs T b e 6 = true then some 6 else if aIs T b e 7 = true then some 7 else none
def aBdy (F : qFam) (k i : Nat) : qPR := if k = 0 then aHand T n F i else if k = 1 then aPup T n F i else if k = 2 then aWks T n F i else if k = 3 then aQua T n F i else if k = 4 then aSil T n F i else if k = 5 then aActs T n F i else if k = 6 then aOws T n F i else aWea T n F i
abbrev aFul (F : qFam) (c k : Nat) : Prop := 60 ≤ c ∨ (k = 0 ∧ 9 ≤ F.1 0 0) ∨ (k = 1 ∧ 8 ≤ F.1 0 1) ∨ (k = 5 ∧ 6 ≤ F.1 0 2)
def aClu (F : qFam) (c i : Nat) : qPR := match aWrd T n i with
  | .inl e => .inl e
  | .inr w => match aKnd T w.1 w.2 with
    | none => .inl (1, w.1)
    | some k => if aFul F c k then .inl (3, w.1) else match aBdy T n F k w.2 with
      | .inl e => .inl e
      | .inr r => match aSgn T n r.2 59 with
        | .inl e => .inl e
        | .inr i' => .inr (r.1, i')
def aFamT : Nat → Nat → qFam → Nat → (Nat × Nat) ⊕ qFam
  | 0, _, F, _ => .inr F
  | r + 1, c, F, i => if n ≤ tBl T n i then .inr F else match aClu T n F c i with
    | .inl e => .inl e
    | .inr q => aFamT r (c + 1) q.1 q.2
end FAM0
theorem inl_inr {α β : Type} {a : α} {b : β} {P : Prop} (h : (Sum.inl a : α ⊕ β) = Sum.inr b) : P := nomatch h
/-! what is told stays a family -/
/-- beside a family's bounds: nothing is told of acts to come -/
def qWP (F : qFam) : Prop := qWF F ∧ (∀ a, F.1 0 2 ≤ a → F.1 8 a = 0)
theorem aNum_b {T : Nat → Nat} {n i : Nat} {lo hi : Int} {r : Nat × Nat} (h : aNum T n i lo hi = .inr r) (hi' : i ≤ n) : lo ≤ r.1 ∧ (r.1 : Int) ≤ hi ∧ r.2 ≤ n ∧ tBl T n i < r.2 := by
  unfold aNum at h
  have hb := tBl_b (T := T) hi'
  split at h
  · rename_i c
    split at h
    · rename_i c2
      injection h with h
      subst h
      refine ⟨c2.1, c2.2, (tDg_b hb.2).2, ?_⟩
      have : tDg T n (tBl T n i) = tDg T n (tBl T n i + 1) := aLd_st (p := fun k => dg (T k)) c.1 c.2
      show tBl T n i < tDg T n (tBl T n i)
      rw [this]
      exact (tDg_b (show tBl T n i + 1 ≤ n by omega)).1
    · exact inl_inr h
  · exact inl_inr h
theorem aNum_i {T : Nat → Nat} {n i : Nat} {lo hi : Int} (h : i ≤ n) : aNum T n (tBl T n i) lo hi = aNum T n i lo hi := by
  unfold aNum
  rw [tBl_i h]
theorem aWrd_i {T : Nat → Nat} {n i : Nat} (h : i ≤ n) : aWrd T n (tBl T n i) = aWrd T n i := by
  unfold aWrd
  rw [tBl_i h]
theorem aSgn_i {T : Nat → Nat} {n i s : Nat} (h : i ≤ n) : aSgn T n (tBl T n i) s = aSgn T n i s := by
  unfold aSgn
  rw [tBl_i h]
theorem aHan_b {T : Nat → Nat} {n m i : Nat} {F : qFam} {r : (Nat × Nat) × Nat × Nat} (h : aHan T n F m i = .inr r) (hi : i ≤ n) : r.1.1 < F.1 0 0 ∧ r.1.2 < m ∧ r.2.2 ≤ n := by
  unfold aHan at h
  cases h1 : aNum T n i 0 ((F.1 0 0 : Int) - 1) with
  | inl e => rw [h1] at h; exact inl_inr h
  | inr r1 =>
    rw [h1] at h
    have b1 := aNum_b h1 hi
    cases h2 : aNum T n r1.2 0 ((m : Int) - 1) with
    | inl e => simp only [h2] at h; exact inl_inr h
    | inr r2 =>
      simp only [h2] at h
      have b2 := aNum_b h2 b1.2.2.1
      injection h with h
      subst h
      exact ⟨by show r1.1 < _; omega, by show r2.1 < _; omega, b2.2.2.1⟩
theorem hnd_r {F : qFam} {l b x r : Nat} (h : 4 ≤ r) : (hnd F l b x).1 r = F.1 r := by
  funext j
  show (if r = 0 then _ else if r = 1 then _ else if r = 2 then _ else if r = 3 then _ else F.1 r j) = _
  rw [if_neg (by omega), if_neg (by omega), if_neg (by omega), if_neg (by omega)]
theorem pup_r {F : qFam} {a b c r : Nat} (h : 7 ≤ r) : (pup F a b c).1 r = F.1 r := by
  funext j
  show (if r = 0 then _ else if r = 4 then _ else if r = 5 then _ else if r = 6 then _ else F.1 r j) = _
  rw [if_neg (by omega), if_neg (by omega), if_neg (by omega), if_neg (by omega)]
theorem acl_r {F : qFam} {l k r : Nat} {o : Nat → Nat} (h : ¬ r = 7) (h2 : ¬ r = 8) (h3 : ¬ r = 10 + F.1 0 2) : (acl F l k o).1 r = F.1 r := by
  funext j
  show (if r < 10 then (if r = 7 then _ else if r = 8 then _ else F.1 r j) else if r = 10 + F.1 0 2 then _ else F.1 r j) = _
  by_cases c : r < 10
  · rw [if_pos c, if_neg h, if_neg h2]
  · rw [if_neg c, if_neg h3]
theorem acl_o {F : qFam} {l k : Nat} {o : Nat → Nat} : (acl F l k o).1 (10 + F.1 0 2) = o := by
  funext j
  show (if 10 + F.1 0 2 < 10 then _ else if 10 + F.1 0 2 = 10 + F.1 0 2 then o j else F.1 _ j) = _
  rw [if_neg (by omega), if_pos rfl]
theorem acd_r {F : qFam} {r : Nat} (h : ¬ r = 0) : (acd F).1 r = F.1 r := by
  funext j
  show (if r = 0 then _ else F.1 r j) = _
  rw [if_neg h]
theorem wea_r {F : qFam} {v r : Nat} (h : ¬ r = 0) : (wea F v).1 r = F.1 r := by
  funext j
  show (if r = 0 then _ else F.1 r j) = _
  rw [if_neg h]
theorem ows_r {F : qFam} {h g v r : Nat} (c : ¬ r = 20 + h) : (ows F h g v).1 r = F.1 r := by
  funext j
  show (if r = 20 + h then _ else F.1 r j) = _
  rw [if_neg c]
theorem ows_o {F : qFam} {h g v j : Nat} : (ows F h g v).1 (20 + h) j = if j = g then min 999 (F.1 (20 + h) g + v) else F.1 (20 + h) j := by
  show (if 20 + h = 20 + h then _ else F.1 (20 + h) j) = _
  rw [if_pos rfl]
theorem hnd_ok {F : qFam} (W : qWP F) {l b x : Nat} (hl : l ≤ 9) (hb : b ≤ 40) (hx : x ≤ 60) (h9 : F.1 0 0 < 9) : qWP (hnd F l b x) := by
  obtain ⟨⟨w1, w2, w3, w4, w5, w6, w7, w8, w9, w10, w11, w12⟩, v⟩ := W
  refine ⟨⟨h9, w2, w3, w4, fun h hh => ?_, w6, fun a ha => ?_, fun h g => ?_, fun h p e => ?_, fun h p e => ?_, fun h g e => ?_, w12⟩, v⟩
  · have hh : h < F.1 0 0 + 1 := hh
    show (if h = F.1 0 0 then l else F.1 1 h) ≤ 9 ∧ (if h = F.1 0 0 then b else F.1 2 h) ≤ 40 ∧ (if h = F.1 0 0 then x else F.1 3 h) ≤ 60
    by_cases c : h = F.1 0 0
    · rw [if_pos c, if_pos c, if_pos c]; exact ⟨hl, hb, hx⟩
    · rw [if_neg c, if_neg c, if_neg c]; exact w5 h (by omega)
  · rw [hnd_r (r := 10 + a) (by omega)]; exact w7 a ha
  · rw [hnd_r (by omega)]; exact w8 h g
  · obtain ⟨q1, q2, q3, q4⟩ := w9 h p e
    refine ⟨Nat.lt_succ_of_lt q1, q2, ?_, q4⟩
    show (if h = F.1 0 0 then b else F.1 2 h) = 0
    rw [if_neg (by omega)]; exact q3
  · obtain ⟨q1, q2⟩ := w10 h p e
    exact ⟨Nat.lt_succ_of_lt q1, q2⟩
  · obtain ⟨q1, q2, q3, q4⟩ := w11 h g e
    exact ⟨Nat.lt_succ_of_lt q1, Nat.lt_succ_of_lt q2, q3, q4⟩
theorem pup_ok {F : qFam} (W : qWP F) {a b c : Nat} (ha : a ≤ 15) (hb : 1 ≤ b) (hb2 : b ≤ 2) (hc : c ≤ 30) (h8 : F.1 0 1 < 8) : qWP (pup F a b c) := by
  obtain ⟨⟨w1, w2, w3, w4, w5, w6, w7, w8, w9, w10, w11, w12⟩, v⟩ := W
  refine ⟨⟨w1, h8, w3, w4, w5, fun p hp => ?_, fun a ha => ?_, fun h g => ?_, fun h p e => ?_, fun h p e => ?_, w11, fun p hp => ?_⟩, v⟩
  · have hp : p < F.1 0 1 + 1 := hp
    show (if p = F.1 0 1 then a else F.1 4 p) ≤ 15 ∧ 1 ≤ (if p = F.1 0 1 then b else F.1 5 p) ∧ (if p = F.1 0 1 then b else F.1 5 p) ≤ 2 ∧ (if p = F.1 0 1 then c else F.1 6 p) ≤ 30
    by_cases e : p = F.1 0 1
    · rw [if_pos e, if_pos e, if_pos e]; exact ⟨ha, hb, hb2, hc⟩
    · rw [if_neg e, if_neg e, if_neg e]; exact w6 p (by omega)
  · rw [pup_r (r := 10 + a) (by omega)]
    obtain ⟨q1, q2, q3, q4, q5⟩ := w7 a ha
    exact ⟨q1, q2, q3, fun i hi => Nat.lt_succ_of_lt (q4 i hi), q5⟩
  · rw [pup_r (by omega)]; exact w8 h g
  · obtain ⟨q1, q2, q3, q4⟩ := w9 h p e
    exact ⟨q1, Nat.lt_succ_of_lt q2, q3, q4⟩
  · obtain ⟨q1, q2⟩ := w10 h p e
    exact ⟨q1, Nat.lt_succ_of_lt q2⟩
  · have hp : p < F.1 0 1 + 1 := hp
    show cn 9 (fun h => F.2 0 h p) ≤ (if p = F.1 0 1 then b else F.1 5 p)
    by_cases e : p = F.1 0 1
    · have : cn 9 (fun h => F.2 0 h p) = 0 := by
        have : ∀ m, cn m (fun h => F.2 0 h p) = 0 := by
          intro m
          induction m with
          | zero => rfl
          | succ m ih =>
            rw [cn, ih]
            cases hq : F.2 0 m p with
            | false => rfl
            | true => have := (w9 m p hq).2.1; omega
        exact this 9
      omega
    · rw [if_neg e]; exact w12 p (by omega)
theorem cn_st1 {p : Nat → Bool} {h : Nat} : ∀ m, cn m (fun k => if k = h then true else p k) ≤ cn m p + 1
  | 0 => Nat.zero_le _
  | m + 1 => by
    have ih := cn_st1 (p := p) (h := h) m
    rw [cn, cn]
    by_cases e : m = h
    · have e2 : cn m (fun k => if k = h then true else p k) = cn m p := cn_ext (fun k hk => by rw [if_neg (by omega)])
      rw [e2, if_pos e]
      cases p m <;> simp only [cond_true, cond_false] <;> omega
    · rw [if_neg e]
      cases p m <;> simp only [cond_true, cond_false] <;> omega
theorem wrk_ok {F : qFam} (W : qWP F) {h p : Nat} (hh : h < F.1 0 0) (hp : p < F.1 0 1) (c : ¬ (¬ F.1 2 h = 0 ∨ F.2 0 h p = true ∨ F.2 1 h p = true ∨ F.1 5 p ≤ cn 9 (fun h => F.2 0 h p))) : qWP (wrk F h p) := by
  obtain ⟨⟨w1, w2, w3, w4, w5, w6, w7, w8, w9, w10, w11, w12⟩, v⟩ := W
  have c1 : F.1 2 h = 0 := by
    rcases Nat.eq_zero_or_pos (F.1 2 h) with q | q
    · exact q
    · exact absurd (Or.inl (by omega)) c
  have c3 : F.2 1 h p = false := by
    cases hq : F.2 1 h p with
    | false => rfl
    | true => exact absurd (Or.inr (Or.inr (Or.inl hq))) c
  have c4 : cn 9 (fun h => F.2 0 h p) < F.1 5 p := by
    rcases Nat.lt_or_ge (cn 9 (fun h => F.2 0 h p)) (F.1 5 p) with q | q
    · exact q
    · exact absurd (Or.inr (Or.inr (Or.inr q))) c
  refine ⟨⟨w1, w2, w3, w4, w5, w6, w7, w8, fun a b e => ?_, w10, w11, fun q hq => ?_⟩, v⟩
  · have e : (if a = h ∧ b = p then true else F.2 0 a b) = true := e
    by_cases q : a = h ∧ b = p
    · rw [q.1, q.2]; exact ⟨hh, hp, c1, c3⟩
    · rw [if_neg q] at e; exact w9 a b e
  · show cn 9 (fun a => if a = h ∧ q = p then true else F.2 0 a q) ≤ F.1 5 q
    by_cases e : q = p
    · subst e
      have := cn_st1 (p := fun a => F.2 0 a q) (h := h) 9
      have e2 : cn 9 (fun a => if a = h ∧ q = q then true else F.2 0 a q) = cn 9 (fun a => if a = h then true else F.2 0 a q) := cn_ext (fun k _ => by
        by_cases ek : k = h
        · rw [if_pos ⟨ek, rfl⟩, if_pos ek]
        · rw [if_neg (fun x => ek x.1), if_neg ek])
      omega
    · have e2 : cn 9 (fun a => if a = h ∧ q = p then true else F.2 0 a q) = cn 9 (fun a => F.2 0 a q) := cn_ext (fun k _ => by rw [if_neg (fun x => e x.2)])
      rw [e2]; exact w12 q hq
theorem qua_ok {F : qFam} (W : qWP F) {h p : Nat} (hh : h < F.1 0 0) (hp : p < F.1 0 1) (c : ¬ F.2 0 h p = true) : qWP (qua F h p) := by
  obtain ⟨⟨w1, w2, w3, w4, w5, w6, w7, w8, w9, w10, w11, w12⟩, v⟩ := W
  refine ⟨⟨w1, w2, w3, w4, w5, w6, w7, w8, fun a b e => ?_, fun a b e => ?_, w11, w12⟩, v⟩
  · obtain ⟨q1, q2, q3, q4⟩ := w9 a b e
    refine ⟨q1, q2, q3, ?_⟩
    show (if a = h ∧ b = p then true else F.2 1 a b) = false
    rw [if_neg (fun q => c (by rw [← q.1, ← q.2]; exact e))]; exact q4
  · have e : (if a = h ∧ b = p then true else F.2 1 a b) = true := e
    by_cases q : a = h ∧ b = p
    · rw [q.1, q.2]; exact ⟨hh, hp⟩
    · rw [if_neg q] at e; exact w10 a b e
theorem sil_ok {F : qFam} (W : qWP F) {h g : Nat} (hh : h < F.1 0 0) (hg : g < F.1 0 0) (c : ¬ h = g) : qWP (sil F h g) := by
  obtain ⟨⟨w1, w2, w3, w4, w5, w6, w7, w8, w9, w10, w11, w12⟩, v⟩ := W
  refine ⟨⟨w1, w2, w3, w4, w5, w6, w7, w8, w9, w10, fun a b e => ?_, w12⟩, v⟩
  have e : (if (a = h ∧ b = g) ∨ (a = g ∧ b = h) then true else F.2 2 a b) = true := e
  show a < F.1 0 0 ∧ b < F.1 0 0 ∧ a ≠ b ∧ (if (b = h ∧ a = g) ∨ (b = g ∧ a = h) then true else F.2 2 b a) = true
  by_cases q : (a = h ∧ b = g) ∨ (a = g ∧ b = h)
  · rcases q with ⟨q1, q2⟩ | ⟨q1, q2⟩
    · subst q1; subst q2; exact ⟨hh, hg, c, by rw [if_pos (Or.inr ⟨rfl, rfl⟩)]⟩
    · subst q1; subst q2; exact ⟨hg, hh, fun x => c x.symm, by rw [if_pos (Or.inl ⟨rfl, rfl⟩)]⟩
  · rw [if_neg q] at e
    obtain ⟨q1, q2, q3, q4⟩ := w11 a b e
    refine ⟨q1, q2, q3, ?_⟩
    rw [if_neg (fun x => q (by
      rcases x with x | x
      · exact Or.inr ⟨x.2, x.1⟩
      · exact Or.inl ⟨x.2, x.1⟩))]
    exact q4
theorem ows_ok {F : qFam} (W : qWP F) {h g v : Nat} : qWP (ows F h g v) := by
  obtain ⟨⟨w1, w2, w3, w4, w5, w6, w7, w8, w9, w10, w11, w12⟩, v'⟩ := W
  have r : ∀ r, r < 20 → (ows F h g v).1 r = F.1 r := fun r hr => ows_r (by omega)
  refine ⟨⟨by rw [r 0 (by omega)]; exact w1, by rw [r 0 (by omega)]; exact w2, by rw [r 0 (by omega)]; exact w3, by rw [r 0 (by omega)]; exact w4, ?_, ?_, ?_, fun a b => ?_, ?_, ?_, ?_, ?_⟩, ?_⟩
  · rw [r 0 (by omega), r 1 (by omega), r 2 (by omega), r 3 (by omega)]; exact w5
  · rw [r 0 (by omega), r 4 (by omega), r 5 (by omega), r 6 (by omega)]; exact w6
  · intro a ha
    rw [r 0 (by omega)] at ha ⊢
    rw [r 7 (by omega), r 8 (by omega), r (10 + a) (by omega)]; exact w7 a ha
  · by_cases e : 20 + a = 20 + h
    · have e' : a = h := by omega
      subst e'
      rw [ows_o]
      split
      · exact Nat.min_le_left _ _
      · exact w8 a b
    · rw [ows_r e]; exact w8 a b
  · rw [r 0 (by omega), r 2 (by omega)]; exact w9
  · rw [r 0 (by omega)]; exact w10
  · rw [r 0 (by omega)]; exact w11
  · rw [r 0 (by omega), r 5 (by omega)]; exact w12
  · rw [r 0 (by omega), r 8 (by omega)]; exact v'
theorem wea_ok {F : qFam} (W : qWP F) {v : Nat} (hv : v ≤ 9) : qWP (wea F v) := by
  obtain ⟨⟨w1, w2, w3, w4, w5, w6, w7, w8, w9, w10, w11, w12⟩, v'⟩ := W
  refine ⟨⟨w1, w2, w3, hv, w5, w6, fun a ha => ?_, fun h g => ?_, w9, w10, w11, w12⟩, v'⟩
  · rw [wea_r (r := 10 + a) (by omega)]; exact w7 a ha
  · rw [wea_r (by omega)]; exact w8 h g
theorem act_ok {F : qFam} (W : qWP F) {l k : Nat} {o : Nat → Nat} (hl : l ≤ 9) (hk : 1 ≤ k) (hk6 : k ≤ 6) (ho : ∀ i, i < k → o i < F.1 0 1) (hd : ∀ i, i < k → ∀ j, j < i → o i ≠ o j) (h6 : F.1 0 2 < 6) : qWP (acd (acl F l k o)) := by
  obtain ⟨⟨w1, w2, w3, w4, w5, w6, w7, w8, w9, w10, w11, w12⟩, v⟩ := W
  refine ⟨⟨w1, w2, h6, w4, w5, w6, fun a ha => ?_, fun h g => ?_, w9, w10, w11, w12⟩, fun a ha => ?_⟩
  · have ha : a < F.1 0 2 + 1 := ha
    rw [acd_r (r := 10 + a) (by omega)]
    show (if a = F.1 0 2 then l else F.1 7 a) ≤ 9 ∧ 1 ≤ (if a = F.1 0 2 then k else F.1 8 a) ∧ (if a = F.1 0 2 then k else F.1 8 a) ≤ 6 ∧ (∀ i, i < (if a = F.1 0 2 then k else F.1 8 a) → (acl F l k o).1 (10 + a) i < F.1 0 1) ∧ ∀ i, i < (if a = F.1 0 2 then k else F.1 8 a) → ∀ j, j < i → (acl F l k o).1 (10 + a) i ≠ (acl F l k o).1 (10 + a) j
    by_cases e : a = F.1 0 2
    · rw [if_pos e, if_pos e, e, acl_o]; exact ⟨hl, hk, hk6, ho, hd⟩
    · rw [if_neg e, if_neg e, acl_r (by omega) (by omega) (by omega)]; exact w7 a (by omega)
  · rw [acd_r (by omega), acl_r (by omega) (by omega) (by omega)]; exact w8 h g
  · have ha : F.1 0 2 + 1 ≤ a := ha
    show (if a = F.1 0 2 then k else F.1 8 a) = 0
    rw [if_neg (by omega)]; exact v a (by omega)
theorem fam0_ok : qWP fam0 := by
  refine ⟨⟨by decide, by decide, by decide, by decide, fun h hh => absurd hh (Nat.not_lt_zero h), fun p hp => absurd hp (Nat.not_lt_zero p), fun a ha => absurd ha (Nat.not_lt_zero a), fun h g => ?_, fun h p e => Bool.noConfusion e, fun h p e => Bool.noConfusion e, fun h g e => Bool.noConfusion e, fun p hp => absurd hp (Nat.not_lt_zero p)⟩, fun a _ => rfl⟩
  show (if 20 + h = 0 then _ else 0) ≤ 999
  rw [if_neg (by omega)]; exact Nat.zero_le _
theorem aWrd_b {T : Nat → Nat} {n i : Nat} {w : Nat × Nat} (h : aWrd T n i = .inr w) (hi : i ≤ n) : w.1 = tBl T n i ∧ w.2 = tLt T n (tBl T n i) ∧ w.1 ≤ w.2 ∧ w.2 ≤ n := by
  unfold aWrd at h
  have hb := tBl_b (T := T) hi
  split at h
  · injection h with h
    subst h
    exact ⟨rfl, rfl, (tLt_b hb.2).1, (tLt_b hb.2).2⟩
  · exact inl_inr h
theorem aSgn_b {T : Nat → Nat} {n i s e : Nat} (h : aSgn T n i s = .inr e) (hi : i ≤ n) : e ≤ n := by
  unfold aSgn at h
  split at h
  · injection h with h; omega
  · exact inl_inr h
theorem aPps_ok {T : Nat → Nat} {n : Nat} {F : qFam} : ∀ r k i o q, aPps T n F r k i o = .inr q → i ≤ n → k ≤ 6 → (∀ j, j < k → o j < F.1 0 1) → (∀ a, a < k → ∀ b, b < a → o a ≠ o b) →
    1 ≤ q.1.1 ∧ q.1.1 ≤ 6 ∧ (∀ j, j < q.1.1 → q.1.2 j < F.1 0 1) ∧ (∀ a, a < q.1.1 → ∀ b, b < a → q.1.2 a ≠ q.1.2 b) ∧ q.2 ≤ n
  | 0, _, _, _, _, h, _, _, _, _ => inl_inr h
  | r + 1, k, i, o, q, h, hi, hk, ho, hd => by
    rw [aPps] at h
    split at h
    · cases h1 : aNum T n i 0 ((F.1 0 1 : Int) - 1) with
      | inl e => simp only [h1] at h; exact inl_inr h
      | inr q1 =>
        simp only [h1] at h
        have b1 := aNum_b h1 hi
        split at h
        · exact inl_inr h
        · rename_i c
          split at h
          · exact inl_inr h
          · have hc : anb k (fun j => o j == q1.1) = false := by
              cases hq : anb k (fun j => o j == q1.1) with
              | false => rfl
              | true => exact absurd hq c
            refine aPps_ok r (k + 1) q1.2 (iup o k q1.1) q h b1.2.2.1 (by omega) (fun j hj => ?_) (fun a ha b hb => ?_)
            · unfold iup
              split
              · omega
              · exact ho j (by omega)
            · unfold iup
              by_cases ea : a = k
              · rw [if_pos ea, if_neg (by omega)]
                have := (anb_false _ _).mp hc b (by omega)
                rw [beq_eq_false_iff_ne] at this
                exact fun e => this e.symm
              · rw [if_neg ea, if_neg (by omega)]
                exact hd a (by omega) b hb
    · split at h
      · exact inl_inr h
      · cases h1 : aWrd T n i with
        | inl e => simp only [h1] at h; exact inl_inr h
        | inr w =>
          simp only [h1] at h
          split at h
          · injection h with h
            subst h
            exact ⟨by show 1 ≤ k; omega, hk, ho, hd, (aWrd_b h1 hi).2.2.2⟩
          · exact inl_inr h
theorem aHand_ok {T : Nat → Nat} {n i : Nat} {F : qFam} {r : qFam × Nat} (h : aHand T n F i = .inr r) (W : qWP F) (hi : i ≤ n) (h9 : F.1 0 0 < 9) : qWP r.1 ∧ r.2 ≤ n := by
  unfold aHand at h
  cases h1 : aNum T n i 0 9 with
  | inl e => rw [h1] at h; exact inl_inr h
  | inr r1 =>
    rw [h1] at h
    have b1 := aNum_b h1 hi
    simp only [] at h
    cases h2 : aNum T n r1.2 0 40 with
    | inl e => rw [h2] at h; exact inl_inr h
    | inr r2 =>
      rw [h2] at h
      have b2 := aNum_b h2 b1.2.2.1
      simp only [] at h
      cases h3 : aNum T n r2.2 0 60 with
      | inl e => rw [h3] at h; exact inl_inr h
      | inr r3 =>
        rw [h3] at h
        have b3 := aNum_b h3 b2.2.2.1
        simp only [] at h
        split at h
        · exact inl_inr h
        · injection h with h
          subst h
          exact ⟨hnd_ok W (by omega) (by omega) (by omega) h9, b3.2.2.1⟩
theorem aPup_ok {T : Nat → Nat} {n i : Nat} {F : qFam} {r : qFam × Nat} (h : aPup T n F i = .inr r) (W : qWP F) (hi : i ≤ n) (h8 : F.1 0 1 < 8) : qWP r.1 ∧ r.2 ≤ n := by
  unfold aPup at h
  cases h1 : aNum T n i 0 15 with
  | inl e => rw [h1] at h; exact inl_inr h
  | inr r1 =>
    rw [h1] at h
    have b1 := aNum_b h1 hi
    simp only [] at h
    cases h2 : aNum T n r1.2 1 2 with
    | inl e => rw [h2] at h; exact inl_inr h
    | inr r2 =>
      rw [h2] at h
      have b2 := aNum_b h2 b1.2.2.1
      simp only [] at h
      cases h3 : aNum T n r2.2 0 30 with
      | inl e => rw [h3] at h; exact inl_inr h
      | inr r3 =>
        rw [h3] at h
        have b3 := aNum_b h3 b2.2.2.1
        injection h with h
        subst h
        exact ⟨pup_ok W (by omega) (by omega) (by omega) (by omega) h8, b3.2.2.1⟩
theorem aBdy_ok {T : Nat → Nat} {n i k : Nat} {F : qFam} {r : qFam × Nat} (h : aBdy T n F k i = .inr r) (W : qWP F) (hi : i ≤ n) {c : Nat} (hc : ¬ aFul F c k) : qWP r.1 ∧ r.2 ≤ n := by
  unfold aFul at hc
  unfold aBdy at h
  split at h
  · exact aHand_ok h W hi (by omega)
  · split at h
    · exact aPup_ok h W hi (by omega)
    · split at h
      · unfold aWks at h
        cases h1 : aHan T n F (F.1 0 1) i with
        | inl e => rw [h1] at h; exact inl_inr h
        | inr q =>
          rw [h1] at h
          obtain ⟨b1, b2, b3⟩ := aHan_b h1 hi
          simp only [] at h
          split at h
          · exact inl_inr h
          · rename_i cc
            injection h with h
            subst h
            exact ⟨wrk_ok W b1 b2 cc, b3⟩
      · split at h
        · unfold aQua at h
          cases h1 : aHan T n F (F.1 0 1) i with
          | inl e => rw [h1] at h; exact inl_inr h
          | inr q =>
            rw [h1] at h
            obtain ⟨b1, b2, b3⟩ := aHan_b h1 hi
            simp only [] at h
            split at h
            · exact inl_inr h
            · rename_i cc
              injection h with h
              subst h
              exact ⟨qua_ok W b1 b2 cc, b3⟩
        · split at h
          · unfold aSil at h
            cases h1 : aHan T n F (F.1 0 0) i with
            | inl e => rw [h1] at h; exact inl_inr h
            | inr q =>
              rw [h1] at h
              obtain ⟨b1, b2, b3⟩ := aHan_b h1 hi
              simp only [] at h
              split at h
              · exact inl_inr h
              · rename_i cc
                injection h with h
                subst h
                exact ⟨sil_ok W b1 b2 cc, b3⟩
          · split at h
            · unfold aActs at h
              cases h1 : aNum T n i 0 9 with
              | inl e => rw [h1] at h; exact inl_inr h
              | inr r1 =>
                rw [h1] at h
                have b1 := aNum_b h1 hi
                simp only [] at h
                cases h2 : aPps T n F 7 0 r1.2 (F.1 (10 + F.1 0 2)) with
                | inl e => rw [h2] at h; exact inl_inr h
                | inr q =>
                  rw [h2] at h
                  obtain ⟨p1, p2, p3, p4, p5⟩ := aPps_ok _ _ _ _ _ h2 b1.2.2.1 (by omega) (fun j hj => absurd hj (Nat.not_lt_zero j)) (fun a ha => absurd ha (Nat.not_lt_zero a))
                  injection h with h
                  subst h
                  exact ⟨act_ok W (by omega) p1 p2 p3 p4 (by omega), p5⟩
            · split at h
              · unfold aOws at h
                cases h1 : aHan T n F (F.1 0 0) i with
                | inl e => rw [h1] at h; exact inl_inr h
                | inr q =>
                  rw [h1] at h
                  obtain ⟨b1, b2, b3⟩ := aHan_b h1 hi
                  simp only [] at h
                  split at h
                  · exact inl_inr h
                  · cases h2 : aNum T n q.2.2 1 99 with
                    | inl e => rw [h2] at h; exact inl_inr h
                    | inr q2 =>
                      rw [h2] at h
                      have b4 := aNum_b h2 b3
                      injection h with h
                      subst h
                      exact ⟨ows_ok W, b4.2.2.1⟩
              · unfold aWea at h
                cases h1 : aNum T n i 0 9 with
                | inl e => rw [h1] at h; exact inl_inr h
                | inr r1 =>
                  rw [h1] at h
                  have b1 := aNum_b h1 hi
                  injection h with h
                  subst h
                  exact ⟨wea_ok W (by omega), b1.2.2.1⟩
theorem aClu_ok {T : Nat → Nat} {n i c : Nat} {F : qFam} {r : qFam × Nat} (h : aClu T n F c i = .inr r) (W : qWP F) (hi : i ≤ n) : qWP r.1 ∧ r.2 ≤ n ∧ c < 60 := by
  unfold aClu at h
  cases h1 : aWrd T n i with
  | inl e => rw [h1] at h; exact inl_inr h
  | inr w =>
    rw [h1] at h
    have b1 := aWrd_b h1 hi
    simp only [] at h
    cases h2 : aKnd T w.1 w.2 with
    | none => rw [h2] at h; exact inl_inr h
    | some k =>
      rw [h2] at h
      simp only [] at h
      split at h
      · exact inl_inr h
      · rename_i hc
        cases h3 : aBdy T n F k w.2 with
        | inl e => rw [h3] at h; exact inl_inr h
        | inr q =>
          rw [h3] at h
          obtain ⟨p1, p2⟩ := aBdy_ok h3 W b1.2.2.2 hc
          simp only [] at h
          cases h4 : aSgn T n q.2 59 with
          | inl e => rw [h4] at h; exact inl_inr h
          | inr i' =>
            rw [h4] at h
            injection h with h
            subst h
            refine ⟨p1, aSgn_b h4 p2, ?_⟩
            unfold aFul at hc
            omega
theorem aClu_i {T : Nat → Nat} {n i c : Nat} {F : qFam} (h : i ≤ n) : aClu T n F c (tBl T n i) = aClu T n F c i := by
  unfold aClu
  rw [aWrd_i h]
theorem aFamT_ok {T : Nat → Nat} {n : Nat} : ∀ r c F i F', aFamT T n r c F i = .inr F' → qWP F → i ≤ n → qWP F'
  | 0, c, F, i, F', h, W, _ => by
    rw [aFamT] at h
    injection h with h
    subst h; exact W
  | r + 1, c, F, i, F', h, W, hi => by
    rw [aFamT] at h
    split at h
    · injection h with h
      subst h; exact W
    · cases h1 : aClu T n F c i with
      | inl e => rw [h1] at h; exact inl_inr h
      | inr q =>
        rw [h1] at h
        obtain ⟨p1, p2, -⟩ := aClu_ok h1 W hi
        exact aFamT_ok r (c + 1) q.1 q.2 F' h p1 p2
