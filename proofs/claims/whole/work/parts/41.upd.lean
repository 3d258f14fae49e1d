/-! ===== what changes a state; the class' state behind a write ===== -/
def aBeg (S : qSt) (h p : Nat) : qSt := (qup S.1 (5 + h) p (S.1 0 0 + 1), qup S.2.1 h p true, S.2.2)
def aCea (S : qSt) (h p : Nat) : qSt := (qup S.1 4 p (h + 1), qup S.2.1 h p false, S.2.2)
def aBuN (S : qSt) (h : Nat) : Nat → qSt
  | 0 => S
  | n + 1 => if (aBuN S h n).2.1 h n = true then aCea (aBuN S h n) h n else aBuN S h n
def aDie (S : qSt) (h : Nat) : qSt := (S.1, S.2.1, fun k => if k = h then true else S.2.2 k)
def aBur (S : qSt) (h : Nat) : qSt := aDie (aBuN S h 8) h
def aCho (S : qSt) (p h : Nat) : qSt := if S.1 2 h = 0 then (qup (aBeg S h p).1 2 h (p + 1), (aBeg S h p).2) else aBeg S h p
def aYr (S : qSt) : qSt := (qup S.1 0 0 (S.1 0 0 + 1), S.2)
def itr {α : Type} (f : α → α) : Nat → α → α
  | 0, a => a
  | n + 1, a => f (itr f n a)
theorem bm_set {n p : Nat} {P : Nat → Bool} (hp : p < n) (hn : n ≤ 30) : qj (bm n P : Nat) ||| (qj 1 <<< (qj (p : Int) &&& 31)) = qj (bm n (fun q => if q = p then true else P q) : Nat) := by
  rw [qshl1b n hp (by omega), qbm_or]
  congr 2
  refine bm_ext (fun k _ => ?_)
  by_cases e : k = p
  · subst e; simp
  · simp [e]
theorem bm_clr {n p : Nat} {P : Nat → Bool} (hp : p < n) (hn : n ≤ 30) : qj (bm n P : Nat) &&& ((qj 1 <<< (qj (p : Int) &&& 31)) ^^^ qj (-1)) = qj (bm n (fun q => if q = p then false else P q) : Nat) := by
  rw [qshl1b n hp (by omega), qj_clr]
  congr 2
  refine bm_ext (fun k hk => ?_)
  by_cases e : k = p
  · subst e; simp [hk]
  · simp [e]
theorem qup_row {α : Type} {f : Nat → Nat → α} {a i : Nat} {v : α} : qup f a i v a = fun j => if j = i then v else f a j := by funext j; exact qup_at
theorem qRS_u1 {F : qFam} {S : qSt} {I : Nat → Nat → Int32} {s : Nat} (R : qRS F I s S) {n : Nat} {v : Int32} (hv : v = qj (n : Int)) : qRS F (qup I s 0 v) s (qup S.1 0 0 n, S.2) := by
  obtain ⟨r1, r2, r3, r4, r5, r6, r7, r8⟩ := R
  refine ⟨?_, ?_, ?_, ?_, ?_, ?_, ?_, ?_⟩
  · rw [qup_at, if_pos rfl, hv]; show qj n = qj ((qup S.1 0 0 n 0 0 : Nat) : Int); rw [qup_at, if_pos rfl]
  · rw [qup_at, if_neg (by decide)]; exact r2 
  · intro h hh; rw [qup_ne (f := I) (by omega)]; show _ = qj ((qup S.1 (0) 0 n 1 h : Nat) : Int); rw [qup_ne (f := S.1) (by omega)]; exact r3 h hh
  · intro h hh; rw [qup_ne (f := I) (by omega)]; exact r4 h hh
  · intro h hh; rw [qup_ne (f := I) (by omega)]; show _ = qj (((qup S.1 (0) 0 n 2 h : Nat) : Int) - 1); rw [qup_ne (f := S.1) (by omega)]; exact r5 h hh
  · intro h p hh hp; rw [qup_ne (f := I) (by omega)]; show _ = qj (((qup S.1 (0) 0 n (5 + h) p : Nat) : Int) - 1); rw [qup_ne (f := S.1) (by omega)]; exact r6 h p hh hp
  · intro p hp; rw [qup_ne (f := I) (by omega)]; show _ = qj ((qup S.1 (0) 0 n 3 p : Nat) : Int); rw [qup_ne (f := S.1) (by omega)]; exact r7 p hp
  · intro p hp; rw [qup_ne (f := I) (by omega)]; show _ = qj (((qup S.1 (0) 0 n 4 p : Nat) : Int) - 1); rw [qup_ne (f := S.1) (by omega)]; exact r8 p hp
theorem qRS_u2 {F : qFam} {S : qSt} {I : Nat → Nat → Int32} {s : Nat} (R : qRS F I s S) {D : Nat → Bool} {v : Int32} (hv : v = qj (bm 9 D : Nat)) : qRS F (qup I s 1 v) s (S.1, S.2.1, D) := by
  obtain ⟨r1, r2, r3, r4, r5, r6, r7, r8⟩ := R
  refine ⟨?_, ?_, ?_, ?_, ?_, ?_, ?_, ?_⟩
  · rw [qup_at, if_neg (by decide)]; exact r1 
  · rw [qup_at, if_pos rfl, hv]
  · intro h hh; rw [qup_ne (f := I) (by omega)]; exact r3 h hh
  · intro h hh; rw [qup_ne (f := I) (by omega)]; exact r4 h hh
  · intro h hh; rw [qup_ne (f := I) (by omega)]; exact r5 h hh
  · intro h p hh hp; rw [qup_ne (f := I) (by omega)]; exact r6 h p hh hp
  · intro p hp; rw [qup_ne (f := I) (by omega)]; exact r7 p hp
  · intro p hp; rw [qup_ne (f := I) (by omega)]; exact r8 p hp
theorem qRS_u3 {F : qFam} {S : qSt} {I : Nat → Nat → Int32} {s : Nat} (R : qRS F I s S) {i n : Nat} {v : Int32} (hv : v = qj (n : Int)) : qRS F (qup I (s + 1) i v) s (qup S.1 1 i n, S.2) := by
  obtain ⟨r1, r2, r3, r4, r5, r6, r7, r8⟩ := R
  refine ⟨?_, ?_, ?_, ?_, ?_, ?_, ?_, ?_⟩
  · rw [qup_ne (f := I) (by omega)]; show _ = qj ((qup S.1 (1) i n 0 0 : Nat) : Int); rw [qup_ne (f := S.1) (by omega)]; exact r1 
  · rw [qup_ne (f := I) (by omega)]; exact r2 
  · intro h hh; rw [qup_at]; show _ = qj ((qup S.1 1 i n 1 h : Nat) : Int); rw [qup_at]; by_cases e : h = i
    · rw [if_pos e, if_pos e, hv]
    · rw [if_neg e, if_neg e]; exact r3 h hh
  · intro h hh; rw [qup_ne (f := I) (by omega)]; exact r4 h hh
  · intro h hh; rw [qup_ne (f := I) (by omega)]; show _ = qj (((qup S.1 (1) i n 2 h : Nat) : Int) - 1); rw [qup_ne (f := S.1) (by omega)]; exact r5 h hh
  · intro h p hh hp; rw [qup_ne (f := I) (by omega)]; show _ = qj (((qup S.1 (1) i n (5 + h) p : Nat) : Int) - 1); rw [qup_ne (f := S.1) (by omega)]; exact r6 h p hh hp
  · intro p hp; rw [qup_ne (f := I) (by omega)]; show _ = qj ((qup S.1 (1) i n 3 p : Nat) : Int); rw [qup_ne (f := S.1) (by omega)]; exact r7 p hp
  · intro p hp; rw [qup_ne (f := I) (by omega)]; show _ = qj (((qup S.1 (1) i n 4 p : Nat) : Int) - 1); rw [qup_ne (f := S.1) (by omega)]; exact r8 p hp
theorem qRS_u4 {F : qFam} {S : qSt} {I : Nat → Nat → Int32} {s : Nat} (R : qRS F I s S) {i : Nat} {X : Nat → Nat → Bool} {v : Int32} (hX : ∀ k, ¬ k = i → X k = S.2.1 k) (hv : v = qj (bm 8 (X i) : Nat)) : qRS F (qup I (s + 2) i v) s (S.1, X, S.2.2) := by
  obtain ⟨r1, r2, r3, r4, r5, r6, r7, r8⟩ := R
  refine ⟨?_, ?_, ?_, ?_, ?_, ?_, ?_, ?_⟩
  · rw [qup_ne (f := I) (by omega)]; exact r1 
  · rw [qup_ne (f := I) (by omega)]; exact r2 
  · intro h hh; rw [qup_ne (f := I) (by omega)]; exact r3 h hh
  · intro h hh; rw [qup_at]; show _ = qj ((bm 8 (X h) : Nat) : Int); by_cases e : h = i
    · rw [if_pos e, e, hv]
    · rw [if_neg e, hX h e]; exact r4 h hh
  · intro h hh; rw [qup_ne (f := I) (by omega)]; exact r5 h hh
  · intro h p hh hp; rw [qup_ne (f := I) (by omega)]; exact r6 h p hh hp
  · intro p hp; rw [qup_ne (f := I) (by omega)]; exact r7 p hp
  · intro p hp; rw [qup_ne (f := I) (by omega)]; exact r8 p hp
theorem qRS_u5 {F : qFam} {S : qSt} {I : Nat → Nat → Int32} {s : Nat} (R : qRS F I s S) {i n : Nat} {v : Int32} (hv : v = qj ((n : Int) - 1)) : qRS F (qup I (s + 3) i v) s (qup S.1 2 i n, S.2) := by
  obtain ⟨r1, r2, r3, r4, r5, r6, r7, r8⟩ := R
  refine ⟨?_, ?_, ?_, ?_, ?_, ?_, ?_, ?_⟩
  · rw [qup_ne (f := I) (by omega)]; show _ = qj ((qup S.1 (2) i n 0 0 : Nat) : Int); rw [qup_ne (f := S.1) (by omega)]; exact r1 
  · rw [qup_ne (f := I) (by omega)]; exact r2 
  · intro h hh; rw [qup_ne (f := I) (by omega)]; show _ = qj ((qup S.1 (2) i n 1 h : Nat) : Int); rw [qup_ne (f := S.1) (by omega)]; exact r3 h hh
  · intro h hh; rw [qup_ne (f := I) (by omega)]; exact r4 h hh
  · intro h hh; rw [qup_at]; show _ = qj (((qup S.1 2 i n 2 h : Nat) : Int) - 1); rw [qup_at]; by_cases e : h = i
    · rw [if_pos e, if_pos e, hv]
    · rw [if_neg e, if_neg e]; exact r5 h hh
  · intro h p hh hp; rw [qup_ne (f := I) (by omega)]; show _ = qj (((qup S.1 (2) i n (5 + h) p : Nat) : Int) - 1); rw [qup_ne (f := S.1) (by omega)]; exact r6 h p hh hp
  · intro p hp; rw [qup_ne (f := I) (by omega)]; show _ = qj ((qup S.1 (2) i n 3 p : Nat) : Int); rw [qup_ne (f := S.1) (by omega)]; exact r7 p hp
  · intro p hp; rw [qup_ne (f := I) (by omega)]; show _ = qj (((qup S.1 (2) i n 4 p : Nat) : Int) - 1); rw [qup_ne (f := S.1) (by omega)]; exact r8 p hp
theorem qRS_u6 {F : qFam} {S : qSt} {I : Nat → Nat → Int32} {s : Nat} (R : qRS F I s S) {i j n : Nat} {v : Int32} (hi : i < 9) (hv : v = qj ((n : Int) - 1)) : qRS F (qup I (s + 4 + 1 + i) j v) s (qup S.1 (5 + i) j n, S.2) := by
  obtain ⟨r1, r2, r3, r4, r5, r6, r7, r8⟩ := R
  refine ⟨?_, ?_, ?_, ?_, ?_, ?_, ?_, ?_⟩
  · rw [qup_ne (f := I) (by omega)]; show _ = qj ((qup S.1 (5 + i) j n 0 0 : Nat) : Int); rw [qup_ne (f := S.1) (by omega)]; exact r1 
  · rw [qup_ne (f := I) (by omega)]; exact r2 
  · intro h hh; rw [qup_ne (f := I) (by omega)]; show _ = qj ((qup S.1 (5 + i) j n 1 h : Nat) : Int); rw [qup_ne (f := S.1) (by omega)]; exact r3 h hh
  · intro h hh; rw [qup_ne (f := I) (by omega)]; exact r4 h hh
  · intro h hh; rw [qup_ne (f := I) (by omega)]; show _ = qj (((qup S.1 (5 + i) j n 2 h : Nat) : Int) - 1); rw [qup_ne (f := S.1) (by omega)]; exact r5 h hh
  · intro h p hh hp; show _ = qj (((qup S.1 (5 + i) j n (5 + h) p : Nat) : Int) - 1); by_cases e : h = i
    · subst e; rw [qup_at, qup_at]; by_cases e2 : p = j
      · rw [if_pos e2, if_pos e2, hv]
      · rw [if_neg e2, if_neg e2]; exact r6 h p hh hp
    · rw [qup_ne (by omega), qup_ne (by omega)]; exact r6 h p hh hp
  · intro p hp; rw [qup_ne (f := I) (by omega)]; show _ = qj ((qup S.1 (5 + i) j n 3 p : Nat) : Int); rw [qup_ne (f := S.1) (by omega)]; exact r7 p hp
  · intro p hp; rw [qup_ne (f := I) (by omega)]; show _ = qj (((qup S.1 (5 + i) j n 4 p : Nat) : Int) - 1); rw [qup_ne (f := S.1) (by omega)]; exact r8 p hp
theorem qRS_u7 {F : qFam} {S : qSt} {I : Nat → Nat → Int32} {s : Nat} (R : qRS F I s S) {i n : Nat} {v : Int32} (hv : v = qj (n : Int)) : qRS F (qup I (s + 14) i v) s (qup S.1 3 i n, S.2) := by
  obtain ⟨r1, r2, r3, r4, r5, r6, r7, r8⟩ := R
  refine ⟨?_, ?_, ?_, ?_, ?_, ?_, ?_, ?_⟩
  · rw [qup_ne (f := I) (by omega)]; show _ = qj ((qup S.1 (3) i n 0 0 : Nat) : Int); rw [qup_ne (f := S.1) (by omega)]; exact r1 
  · rw [qup_ne (f := I) (by omega)]; exact r2 
  · intro h hh; rw [qup_ne (f := I) (by omega)]; show _ = qj ((qup S.1 (3) i n 1 h : Nat) : Int); rw [qup_ne (f := S.1) (by omega)]; exact r3 h hh
  · intro h hh; rw [qup_ne (f := I) (by omega)]; exact r4 h hh
  · intro h hh; rw [qup_ne (f := I) (by omega)]; show _ = qj (((qup S.1 (3) i n 2 h : Nat) : Int) - 1); rw [qup_ne (f := S.1) (by omega)]; exact r5 h hh
  · intro h p hh hp; rw [qup_ne (f := I) (by omega)]; show _ = qj (((qup S.1 (3) i n (5 + h) p : Nat) : Int) - 1); rw [qup_ne (f := S.1) (by omega)]; exact r6 h p hh hp
  · intro p hp; rw [qup_at]; show _ = qj ((qup S.1 3 i n 3 p : Nat) : Int); rw [qup_at]; by_cases e : p = i
    · rw [if_pos e, if_pos e, hv]
    · rw [if_neg e, if_neg e]; exact r7 p hp
  · intro p hp; rw [qup_ne (f := I) (by omega)]; show _ = qj (((qup S.1 (3) i n 4 p : Nat) : Int) - 1); rw [qup_ne (f := S.1) (by omega)]; exact r8 p hp
theorem qRS_u8 {F : qFam} {S : qSt} {I : Nat → Nat → Int32} {s : Nat} (R : qRS F I s S) {i n : Nat} {v : Int32} (hv : v = qj ((n : Int) - 1)) : qRS F (qup I (s + 15) i v) s (qup S.1 4 i n, S.2) := by
  obtain ⟨r1, r2, r3, r4, r5, r6, r7, r8⟩ := R
  refine ⟨?_, ?_, ?_, ?_, ?_, ?_, ?_, ?_⟩
  · rw [qup_ne (f := I) (by omega)]; show _ = qj ((qup S.1 (4) i n 0 0 : Nat) : Int); rw [qup_ne (f := S.1) (by omega)]; exact r1 
  · rw [qup_ne (f := I) (by omega)]; exact r2 
  · intro h hh; rw [qup_ne (f := I) (by omega)]; show _ = qj ((qup S.1 (4) i n 1 h : Nat) : Int); rw [qup_ne (f := S.1) (by omega)]; exact r3 h hh
  · intro h hh; rw [qup_ne (f := I) (by omega)]; exact r4 h hh
  · intro h hh; rw [qup_ne (f := I) (by omega)]; show _ = qj (((qup S.1 (4) i n 2 h : Nat) : Int) - 1); rw [qup_ne (f := S.1) (by omega)]; exact r5 h hh
  · intro h p hh hp; rw [qup_ne (f := I) (by omega)]; show _ = qj (((qup S.1 (4) i n (5 + h) p : Nat) : Int) - 1); rw [qup_ne (f := S.1) (by omega)]; exact r6 h p hh hp
  · intro p hp; rw [qup_ne (f := I) (by omega)]; show _ = qj ((qup S.1 (4) i n 3 p : Nat) : Int); rw [qup_ne (f := S.1) (by omega)]; exact r7 p hp
  · intro p hp; rw [qup_at]; show _ = qj (((qup S.1 4 i n 4 p : Nat) : Int) - 1); rw [qup_at]; by_cases e : p = i
    · rw [if_pos e, if_pos e, hv]
    · rw [if_neg e, if_neg e]; exact r8 p hp
theorem q2_e {n o j : Nat} (h : j < n) : q2 n o j = o + 1 + j := q2_in h
