/-! ===== ints of the reasoning layer, pure callees ===== -/
def qj (z : Int) : Int32 := Int32.ofInt z
def qb (b : Bool) : Int32 := bif b then qj 1 else qj 0
def qhas (x y : Int32) : Bool := decide ((x >>> (y &&& 31)) &&& 1 = 1)
def qinB (v a b : Int32) : Bool := decide (a ≤ v) && decide (v ≤ b)
def qmin (a b : Int32) : Int32 := if a < b then a else b
def qmax (a b : Int32) : Int32 := if b < a then a else b
def qdig (c : Int32) : Bool := qinB c (qj 48) (qj 57)
def qlet (c : Int32) : Bool := qinB c (qj 97) (qj 122)
def qIx (y : Int32) (n : Nat) : Prop := 0 ≤ y.toInt ∧ y.toInt < n
theorem qb_eq0 {b : Bool} (h : qb b = 0) : b = false := by
  cases b
  · rfl
  · exact absurd h (by decide)
theorem qb_ne0 {b : Bool} (h : ¬ qb b = 0) : b = true := by
  cases b
  · exact absurd (by decide) h
  · rfl
theorem qb_nne0 {b : Bool} (h : ¬ ¬ qb b = 0) : b = false := qb_eq0 (Classical.byContradiction h)
theorem qb_ok (b : Bool) : qok (some .boolean) (qb b) := by
  cases b
  · exact Or.inl (by decide)
  · exact Or.inr (by decide)
theorem qj_ne0 {z : Int} (h : ¬ qj z = 0) : ¬ qj z = 0 := h
theorem qob_mk {M : qM} {a c n : Nat} (h : qsh M a = (20 + c, n)) : qob M a c := by unfold qob; rw [h]
theorem qIx_c {z : Int} {n : Nat} (h : 0 ≤ (qj z).toInt) (h2 : (qj z).toInt < n) : qIx (qj z) n := ⟨h, h2⟩
theorem qinR_mk {M : qM} {a n : Nat} {y : Int32} (h : qsh M a = (1, n)) (hy : qIx y n) : qinR M a y := by unfold qinR; rw [h]; exact ⟨Or.inl rfl, hy.1, hy.2⟩
theorem qinR_mk11 {M : qM} {a n : Nat} {y : Int32} (h : qsh M a = (11, n)) (hy : qIx y n) : qinR M a y := by unfold qinR; rw [h]; exact ⟨Or.inr rfl, hy.1, hy.2⟩
theorem qinW_mk {M : qM} {a n : Nat} {y : Int32} (h : qsh M a = (1, n)) (hy : qIx y n) : qin M 1 a y := by unfold qin; rw [h]; exact ⟨rfl, hy.1, hy.2⟩
theorem qinB_mk {M : qM} {a n : Nat} {y : Int32} (h : qsh M a = (2, n)) (hy : qIx y n) : qin M 2 a y ∨ qin M 12 a y := by unfold qin; rw [h]; exact Or.inl ⟨rfl, hy.1, hy.2⟩
theorem qinS_mk {M : qM} {a n : Nat} {y : Int32} (h : qsh M a = (2, n)) (hy : qIx y n) : qin M 2 a y := by unfold qin; rw [h]; exact ⟨rfl, hy.1, hy.2⟩
theorem qinJ_mk {M : qM} {a n : Nat} {y : Int32} (h : qsh M a = (3, n)) (hy : qIx y n) : qin M 3 a y := by unfold qin; rw [h]; exact ⟨rfl, hy.1, hy.2⟩
theorem qinA_mk {M : qM} {a n : Nat} {y : Int32} (h : qsh M a = (4, n)) (hy : qIx y n) : qin M 4 a y ∨ qin M 5 a y := by unfold qin; rw [h]; exact Or.inl ⟨rfl, hy.1, hy.2⟩
theorem qinA_mk5 {M : qM} {a n : Nat} {y : Int32} (h : qsh M a = (5, n)) (hy : qIx y n) : qin M 4 a y ∨ qin M 5 a y := by unfold qin; rw [h]; exact Or.inr ⟨rfl, hy.1, hy.2⟩
theorem qarr_mk {M : qM} {a n : Nat} (h : qsh M a = (1, n)) : qarr M a := by unfold qarr; rw [h]; exact Or.inl rfl
theorem qarr_mk4 {M : qM} {a n : Nat} (h : qsh M a = (4, n)) : qarr M a := by unfold qarr; rw [h]; exact Or.inr (Or.inr (Or.inr (Or.inl rfl)))
theorem qarr_mk11 {M : qM} {a n : Nat} (h : qsh M a = (11, n)) : qarr M a := by unfold qarr; rw [h]; exact Or.inr (Or.inr (Or.inr (Or.inr (Or.inr (Or.inl rfl)))))
/-- how many bits: as the library reckons it -/
def qpc (x : Int32) : Int32 :=
  let sh := fun (x : Int32) (y : Int32) => (x.toUInt32 >>> (y.toUInt32 &&& Int32.toUInt32 31)).toInt32
  let a := x - (sh x (qj 1) &&& Int32.ofNat 1431655765)
  let b := (a &&& Int32.ofNat 858993459) + (sh a (qj 2) &&& Int32.ofNat 858993459)
  let c := (b + sh b (qj 4)) &&& Int32.ofNat 252645135
  let e := c + sh c (qj 8)
  let f := e + sh e (qj 16)
  f &&& qj 63
def qU1 (k : Nat) (x : Int32) : Option Int32 := bif Nat.beq k 82 then some (qb (qdig x)) else bif Nat.beq k 177 then some (qb (qdig x)) else bif Nat.beq k 83 then some (qb (qlet x)) else bif Nat.beq k 178 then some (qb (qlet x)) else bif Nat.beq k 297 then some (qpc x) else none
def qU2 (k : Nat) (x y : Int32) : Option Int32 := bif Nat.beq k 145 then some (qb (qhas x y)) else bif Nat.beq k 171 then some (qb (qhas x y)) else bif Nat.beq k 169 then some (qmin x y) else bif Nat.beq k 299 then some (qmin x y) else bif Nat.beq k 170 then some (qmax x y) else bif Nat.beq k 298 then some (qmax x y) else none
def qU3 (k : Nat) (x y z : Int32) : Option Int32 := bif Nat.beq k 168 then some (qb (qinB x y z)) else none
def qU (k : Nat) : List Value → Option Int32
  | [.int x] => qU1 k x
  | [.int x, .int y] => qU2 k x y
  | [.int x, .int y, .int z] => qU3 k x y z
  | _ => none
theorem qU_none : qUok (fun _ _ => none) := fun _ _ _ h => by cases h
theorem qbv_has (x y : Int32) : ((x >>> (y &&& 31)) &&& qj 1 = 0) ↔ qhas x y = false := by
  have e : ∀ t : Int32, (t &&& qj 1 = 0) ↔ ¬ (t &&& 1 = 1) := by
    intro t
    have : ∀ b : BitVec 32, (b &&& 1#32 = 0#32) ↔ ¬ (b &&& 1#32 = 1#32) := by
      intro b
      have h : b &&& 1#32 = 0#32 ∨ b &&& 1#32 = 1#32 := by
        rcases Nat.mod_two_eq_zero_or_one b.toNat with h | h
        · left; apply BitVec.eq_of_toNat_eq; rw [BitVec.toNat_and]; show b.toNat &&& 1 = 0; rw [Nat.and_one_is_mod]; exact h
        · right; apply BitVec.eq_of_toNat_eq; rw [BitVec.toNat_and]; show b.toNat &&& 1 = 1; rw [Nat.and_one_is_mod]; exact h
      rcases h with h | h <;> rw [h] <;> decide
    have h2 := this t.toBitVec
    rw [← Int32.toBitVec_inj, ← Int32.toBitVec_inj, Int32.toBitVec_and, Int32.toBitVec_and]
    exact h2
  unfold qhas
  rw [e, decide_eq_false_iff_not]
theorem qlt_nle (x y : Int32) : ¬ x < y ↔ y ≤ x := by rw [Int32.lt_iff_toInt_lt, Int32.le_iff_toInt_le]; omega
theorem qle_nlt (x y : Int32) : ¬ x ≤ y ↔ y < x := by rw [Int32.lt_iff_toInt_lt, Int32.le_iff_toInt_le]; omega
theorem qle_as (x y : Int32) (h1 : x ≤ y) (h2 : y ≤ x) : x = y := by
  rw [Int32.le_iff_toInt_le] at h1 h2
  exact Int32.toInt_inj.mp (by omega)
section QUS
variable {d : Nat} {M : qM} {Q : qR → Prop}
set_option maxHeartbeats 1000000
theorem u145 (x y : Int32) (h : Q (.inl (some (.int (qb (qhas x y))), M))) : qwp d 145 [.int x, .int y] M Q := by
  refine qY_sound qU_none (fun _ => none) 20 true (?_ : (((x >>> (y &&& 31)) &&& (qj 1)) = 0 → qok (some .boolean) (qj 0) ∧ Q (.inl (some (.int (qj 0)), M))) ∧ (¬ ((x >>> (y &&& 31)) &&& (qj 1)) = 0 → qok (some .boolean) (qj 1) ∧ Q (.inl (some (.int (qj 1)), M))))
  rw [qbv_has]
  refine ⟨fun e => ?_, fun e => ?_⟩
  · rw [e] at h; exact ⟨qb_ok false, h⟩
  · rw [Bool.not_eq_false] at e; rw [e] at h; exact ⟨qb_ok true, h⟩
theorem u171 (x y : Int32) (h : Q (.inl (some (.int (qb (qhas x y))), M))) : qwp d 171 [.int x, .int y] M Q := by
  refine qY_sound qU_none (fun _ => none) 20 true (?_ : (¬ ((x >>> (y &&& 31)) &&& (qj 1)) = (qj 1) → qok (some .boolean) (qj 0) ∧ Q (.inl (some (.int (qj 0)), M))) ∧ (¬ ¬ ((x >>> (y &&& 31)) &&& (qj 1)) = (qj 1) → qok (some .boolean) (qj 1) ∧ Q (.inl (some (.int (qj 1)), M))))
  have e1 : ((x >>> (y &&& 31)) &&& (qj 1)) = (qj 1) ↔ qhas x y = true := by unfold qhas; rw [decide_eq_true_iff]; exact Iff.rfl
  rw [e1]
  refine ⟨fun e => ?_, fun e => ?_⟩
  · rw [Bool.not_eq_true] at e; rw [e] at h; exact ⟨qb_ok false, h⟩
  · rw [Classical.not_not] at e; rw [e] at h; exact ⟨qb_ok true, h⟩
theorem uInB (k : Nat) {as : List Value} (x y z : Int32) (h : Q (.inl (some (.int (qb (qinB x y z))), M)))
    (hw : ((x < y → qok (some .boolean) (qj 0) ∧ Q (.inl (some (.int (qj 0)), M))) ∧ (¬ x < y → (z < x → qok (some .boolean) (qj 0) ∧ Q (.inl (some (.int (qj 0)), M))) ∧ (¬ z < x → qok (some .boolean) (qj 1) ∧ Q (.inl (some (.int (qj 1)), M))))) → qwp d k as M Q) : qwp d k as M Q := by
  refine hw ⟨fun e => ?_, fun e => ⟨fun e2 => ?_, fun e2 => ?_⟩⟩
  · have : qinB x y z = false := by unfold qinB; rw [decide_eq_false (by rw [qle_nlt]; exact e)]; rfl
    rw [this] at h; exact ⟨qb_ok false, h⟩
  · have : qinB x y z = false := by unfold qinB; rw [decide_eq_false (p := x ≤ z) (by rw [qle_nlt]; exact e2), Bool.and_false]
    rw [this] at h; exact ⟨qb_ok false, h⟩
  · have : qinB x y z = true := by unfold qinB; rw [decide_eq_true (p := y ≤ x) ((qlt_nle _ _).mp e), decide_eq_true (p := x ≤ z) ((qlt_nle _ _).mp e2)]; rfl
    rw [this] at h; exact ⟨qb_ok true, h⟩
theorem u168 (x y z : Int32) (h : Q (.inl (some (.int (qb (qinB x y z))), M))) : qwp d 168 [.int x, .int y, .int z] M Q := uInB 168 x y z h (fun h => qY_sound qU_none (fun _ => none) 20 true h)
theorem u82 (x : Int32) (h : Q (.inl (some (.int (qb (qdig x))), M))) : qwp d 82 [.int x] M Q := uInB 82 x (qj 48) (qj 57) h (fun h => qY_sound qU_none (fun _ => none) 20 true h)
theorem u177 (x : Int32) (h : Q (.inl (some (.int (qb (qdig x))), M))) : qwp d 177 [.int x] M Q := uInB 177 x (qj 48) (qj 57) h (fun h => qY_sound qU_none (fun _ => none) 20 true h)
theorem u83 (x : Int32) (h : Q (.inl (some (.int (qb (qlet x))), M))) : qwp d 83 [.int x] M Q := uInB 83 x (qj 97) (qj 122) h (fun h => qY_sound qU_none (fun _ => none) 20 true h)
theorem u178 (x : Int32) (h : Q (.inl (some (.int (qb (qlet x))), M))) : qwp d 178 [.int x] M Q := uInB 178 x (qj 97) (qj 122) h (fun h => qY_sound qU_none (fun _ => none) 20 true h)
theorem u169 (x y : Int32) (h : Q (.inl (some (.int (qmin x y)), M))) : qwp d 169 [.int x, .int y] M Q := by
  refine qY_sound qU_none (fun _ => none) 20 true (?_ : (y ≤ x → True ∧ Q (.inl (some (.int y), M))) ∧ (¬ y ≤ x → True ∧ Q (.inl (some (.int x), M))))
  unfold qmin at h
  refine ⟨fun e => ⟨trivial, ?_⟩, fun e => ⟨trivial, ?_⟩⟩
  · rwa [if_neg ((qlt_nle _ _).mpr e)] at h
  · rwa [if_pos ((qle_nlt _ _).mp e)] at h
theorem u170 (x y : Int32) (h : Q (.inl (some (.int (qmax x y)), M))) : qwp d 170 [.int x, .int y] M Q := by
  refine qY_sound qU_none (fun _ => none) 20 true (?_ : (x ≤ y → True ∧ Q (.inl (some (.int y), M))) ∧ (¬ x ≤ y → True ∧ Q (.inl (some (.int x), M))))
  unfold qmax at h
  refine ⟨fun e => ⟨trivial, ?_⟩, fun e => ⟨trivial, ?_⟩⟩
  · rwa [if_neg ((qlt_nle _ _).mpr e)] at h
  · rwa [if_pos ((qle_nlt _ _).mp e)] at h
theorem u299 (x y : Int32) (h : Q (.inl (some (.int (qmin x y)), M))) : qwp d 299 [.int x, .int y] M Q := by
  refine qY_sound qU_none (fun _ => none) 20 true (?_ : (y < x → True ∧ Q (.inl (some (.int y), M))) ∧ (¬ y < x → True ∧ Q (.inl (some (.int x), M))))
  unfold qmin at h
  refine ⟨fun e => ⟨trivial, ?_⟩, fun e => ⟨trivial, ?_⟩⟩
  · rwa [if_neg ((qlt_nle _ _).mpr (by rw [Int32.lt_iff_toInt_lt] at e; rw [Int32.le_iff_toInt_le]; omega))] at h
  · by_cases e2 : x < y
    · rwa [if_pos e2] at h
    · rw [if_neg e2] at h; rw [qle_as x y ((qlt_nle _ _).mp e) ((qlt_nle _ _).mp e2)]; exact h
theorem u298 (x y : Int32) (h : Q (.inl (some (.int (qmax x y)), M))) : qwp d 298 [.int x, .int y] M Q := by
  refine qY_sound qU_none (fun _ => none) 20 true (?_ : (x < y → True ∧ Q (.inl (some (.int y), M))) ∧ (¬ x < y → True ∧ Q (.inl (some (.int x), M))))
  unfold qmax at h
  refine ⟨fun e => ⟨trivial, ?_⟩, fun e => ⟨trivial, ?_⟩⟩
  · rwa [if_neg ((qlt_nle _ _).mpr (by rw [Int32.lt_iff_toInt_lt] at e; rw [Int32.le_iff_toInt_le]; omega))] at h
  · by_cases e2 : y < x
    · rwa [if_pos e2] at h
    · rw [if_neg e2] at h; rw [qle_as x y ((qlt_nle _ _).mp e2) ((qlt_nle _ _).mp e)]; exact h
theorem u297 (x : Int32) (h : Q (.inl (some (.int (qpc x)), M))) : qwp d 297 [.int x] M Q := qY_sound qU_none (fun _ => none) 60 true (⟨trivial, h⟩ : True ∧ Q (.inl (some (.int (qpc x)), M)))
end QUS
theorem qbif {α : Type} {c : Bool} {a b v : Option α} (h : (bif c then a else b) = v) : (c = true ∧ a = v) ∨ (c = false ∧ b = v) := by
  cases c
  · exact Or.inr ⟨rfl, h⟩
  · exact Or.inl ⟨rfl, h⟩
theorem qU_ok : qUok qU := by
  intro k as v h d M Q hQ
  unfold qU at h
  split at h
  · rename_i x
    unfold qU1 at h
    rcases qbif h with ⟨e, h⟩ | ⟨-, h⟩
    · cases Nat.eq_of_beq_eq_true e; cases h; exact u82 _ hQ
    rcases qbif h with ⟨e, h⟩ | ⟨-, h⟩
    · cases Nat.eq_of_beq_eq_true e; cases h; exact u177 _ hQ
    rcases qbif h with ⟨e, h⟩ | ⟨-, h⟩
    · cases Nat.eq_of_beq_eq_true e; cases h; exact u83 _ hQ
    rcases qbif h with ⟨e, h⟩ | ⟨-, h⟩
    · cases Nat.eq_of_beq_eq_true e; cases h; exact u178 _ hQ
    rcases qbif h with ⟨e, h⟩ | ⟨-, h⟩
    · cases Nat.eq_of_beq_eq_true e; cases h; exact u297 _ hQ
    cases h
  · rename_i x y
    unfold qU2 at h
    rcases qbif h with ⟨e, h⟩ | ⟨-, h⟩
    · cases Nat.eq_of_beq_eq_true e; cases h; exact u145 _ _ hQ
    rcases qbif h with ⟨e, h⟩ | ⟨-, h⟩
    · cases Nat.eq_of_beq_eq_true e; cases h; exact u171 _ _ hQ
    rcases qbif h with ⟨e, h⟩ | ⟨-, h⟩
    · cases Nat.eq_of_beq_eq_true e; cases h; exact u169 _ _ hQ
    rcases qbif h with ⟨e, h⟩ | ⟨-, h⟩
    · cases Nat.eq_of_beq_eq_true e; cases h; exact u299 _ _ hQ
    rcases qbif h with ⟨e, h⟩ | ⟨-, h⟩
    · cases Nat.eq_of_beq_eq_true e; cases h; exact u170 _ _ hQ
    rcases qbif h with ⟨e, h⟩ | ⟨-, h⟩
    · cases Nat.eq_of_beq_eq_true e; cases h; exact u298 _ _ hQ
    cases h
  · rename_i x y z
    unfold qU3 at h
    rcases qbif h with ⟨e, h⟩ | ⟨-, h⟩
    · cases Nat.eq_of_beq_eq_true e; cases h; exact u168 _ _ _ hQ
    cases h
  · cases h
def qN (k : Nat) : Bool := Nat.beq k 73 || Nat.beq k 140 || Nat.beq k 141 || Nat.beq k 142 || Nat.beq k 143 || Nat.beq k 144 || Nat.beq k 166 || Nat.beq k 180 || Nat.beq k 189 || Nat.beq k 191 || Nat.beq k 192 || Nat.beq k 215 || Nat.beq k 216 || Nat.beq k 217
/-! ===== the fixed heap behind the constructors, by program (wip/whole/gen): shapes, references; facts of the objects that come in more than one piece ===== -/
def q2 (n o j : Nat) : Nat := bif Nat.blt j n then o + 1 + j else 0
def qSH (L a : Nat) : qS := (bif Nat.blt a 175 then (bif Nat.blt a 75 then (bif Nat.blt a 41 then (bif Nat.blt a 31 then (bif Nat.blt a 4 then (bif Nat.blt a 1 then (0, 0) else (bif Nat.blt a 2 then (11, L) else (11, 9))) else (bif Nat.blt a 10 then (bif Nat.blt a 5 then (11, 36) else (0, 0)) else (bif Nat.blt a 30 then (29, 2) else (12, 4)))) else (bif Nat.blt a 35 then (bif Nat.blt a 33 then (bif Nat.blt a 32 then (12, 6) else (12, 5)) else (bif Nat.blt a 34 then (12, 7) else (12, 6))) else (bif Nat.blt a 38 then (bif Nat.blt a 36 then (12, 3) else (12, 4)) else (bif Nat.blt a 39 then (12, 3) else (12, 4))))) else (bif Nat.blt a 49 then (bif Nat.blt a 44 then (bif Nat.blt a 42 then (12, 3) else (bif Nat.blt a 43 then (12, 5) else (12, 7))) else (bif Nat.blt a 47 then (bif Nat.blt a 45 then (12, 4) else (12, 6)) else (bif Nat.blt a 48 then (12, 3) else (12, 5)))) else (bif Nat.blt a 66 then (bif Nat.blt a 64 then (bif Nat.blt a 50 then (12, 4) else (0, 0)) else (bif Nat.blt a 65 then (27, 18) else (26, 9))) else (bif Nat.blt a 68 then (bif Nat.blt a 67 then (1, 600) else (22, 17)) else (bif Nat.blt a 74 then (1, 9) else (4, 9)))))) else (bif Nat.blt a 128 then (bif Nat.blt a 103 then (bif Nat.blt a 89 then (bif Nat.blt a 84 then (1, 9) else (bif Nat.blt a 87 then (1, 8) else (1, 6))) else (bif Nat.blt a 96 then (bif Nat.blt a 90 then (4, 6) else (1, 6)) else (bif Nat.blt a 97 then (22, 17) else (1, 9)))) else (bif Nat.blt a 118 then (bif Nat.blt a 113 then (bif Nat.blt a 104 then (4, 9) else (1, 9)) else (bif Nat.blt a 116 then (1, 8) else (1, 6))) else (bif Nat.blt a 125 then (bif Nat.blt a 119 then (4, 6) else (1, 6)) else (bif Nat.blt a 126 then (23, 3) else (1, 150))))) else (bif Nat.blt a 143 then (bif Nat.blt a 135 then (bif Nat.blt a 131 then (bif Nat.blt a 129 then (23, 3) else (1, 150)) else (bif Nat.blt a 132 then (20, 4) else (1, 12))) else (bif Nat.blt a 139 then (bif Nat.blt a 136 then (20, 4) else (1, 12)) else (bif Nat.blt a 140 then (25, 8) else (1, 9)))) else (bif Nat.blt a 159 then (bif Nat.blt a 155 then (bif Nat.blt a 144 then (4, 9) else (1, 8)) else (bif Nat.blt a 156 then (25, 8) else (1, 9))) else (bif Nat.blt a 171 then (bif Nat.blt a 160 then (4, 9) else (1, 8)) else (bif Nat.blt a 172 then (25, 8) else (1, 9))))))) else (bif Nat.blt a 267 then (bif Nat.blt a 236 then (bif Nat.blt a 204 then (bif Nat.blt a 188 then (bif Nat.blt a 176 then (4, 9) else (bif Nat.blt a 187 then (1, 8) else (5, 3))) else (bif Nat.blt a 192 then (bif Nat.blt a 189 then (25, 8) else (1, 9)) else (bif Nat.blt a 193 then (4, 9) else (1, 8)))) else (bif Nat.blt a 220 then (bif Nat.blt a 208 then (bif Nat.blt a 205 then (25, 8) else (1, 9)) else (bif Nat.blt a 209 then (4, 9) else (1, 8))) else (bif Nat.blt a 224 then (bif Nat.blt a 221 then (25, 8) else (1, 9)) else (bif Nat.blt a 225 then (4, 9) else (1, 8))))) else (bif Nat.blt a 246 then (bif Nat.blt a 242 then (bif Nat.blt a 240 then (bif Nat.blt a 237 then (21, 11) else (1, 8)) else (bif Nat.blt a 241 then (1, 10) else (1, 512))) else (bif Nat.blt a 244 then (bif Nat.blt a 243 then (2, 512) else (1, 9)) else (bif Nat.blt a 245 then (24, 1) else (28, 56)))) else (bif Nat.blt a 254 then (bif Nat.blt a 248 then (bif Nat.blt a 247 then (1, 600) else (1, 2)) else (bif Nat.blt a 250 then (1, 4) else (1, 8))) else (bif Nat.blt a 257 then (bif Nat.blt a 256 then (1, 9) else (4, 9)) else (bif Nat.blt a 266 then (1, 3) else (4, 9)))))) else (bif Nat.blt a 489 then (bif Nat.blt a 301 then (bif Nat.blt a 285 then (bif Nat.blt a 276 then (1, 3) else (bif Nat.blt a 277 then (4, 8) else (1, 3))) else (bif Nat.blt a 294 then (bif Nat.blt a 286 then (4, 8) else (1, 3)) else (bif Nat.blt a 295 then (4, 6) else (1, 8)))) else (bif Nat.blt a 318 then (bif Nat.blt a 308 then (bif Nat.blt a 302 then (4, 6) else (1, 8)) else (bif Nat.blt a 309 then (4, 9) else (1, 9))) else (bif Nat.blt a 328 then (bif Nat.blt a 319 then (4, 9) else (1, 9)) else (bif Nat.blt a 329 then (4, 160) else (1, 2))))) else (bif Nat.blt a 680 then (bif Nat.blt a 663 then (bif Nat.blt a 650 then (bif Nat.blt a 490 then (4, 160) else (1, 2)) else (bif Nat.blt a 651 then (4, 12) else (1, 3))) else (bif Nat.blt a 676 then (bif Nat.blt a 664 then (4, 12) else (1, 3)) else (bif Nat.blt a 677 then (4, 3) else (1, 107)))) else (bif Nat.blt a 692 then (bif Nat.blt a 682 then (bif Nat.blt a 681 then (1, 160) else (1, 9)) else (bif Nat.blt a 687 then (1, 107) else (1, 12))) else (bif Nat.blt a 694 then (bif Nat.blt a 693 then (2, 12) else (1, 9)) else (bif Nat.blt a 695 then (3, 1) else (0, 0))))))))
def qPf (W : Nat → Nat) (a j : Nat) : Nat := (bif Nat.blt a 188 then (bif Nat.blt a 125 then (bif Nat.blt a 74 then (bif Nat.blt a 64 then (bif Nat.blt a 7 then (bif Nat.blt a 6 then 0 else (bif Nat.beq j 0 then W 1000 else 0)) else (bif Nat.blt a 10 then 0 else (bif Nat.blt a 30 then (bif Nat.beq j 0 then a + 20 else 0) else 0))) else (bif Nat.blt a 66 then (bif Nat.blt a 65 then (bif Nat.blt j 8 then (bif Nat.blt j 4 then (bif Nat.blt j 2 then (bif Nat.blt j 1 then 65 else W 1) else (bif Nat.blt j 3 then W 2 else W 3)) else (bif Nat.blt j 6 then (bif Nat.blt j 5 then W 4 else W 5) else (bif Nat.blt j 7 then W 6 else 139))) else (bif Nat.blt j 12 then (bif Nat.blt j 10 then (bif Nat.blt j 9 then 155 else 0) else (bif Nat.blt j 11 then 171 else 187)) else (bif Nat.blt j 14 then (bif Nat.blt j 13 then 0 else 236) else (bif Nat.blt j 15 then 243 else (bif Nat.blt j 16 then 244 else 0))))) else (bif Nat.blt j 1 then 66 else 0)) else (bif Nat.blt a 67 then 0 else (bif Nat.blt a 68 then (bif Nat.blt j 8 then (bif Nat.blt j 4 then (bif Nat.blt j 2 then (bif Nat.blt j 1 then 0 else 68) else (bif Nat.blt j 3 then 69 else 70)) else (bif Nat.blt j 6 then (bif Nat.blt j 5 then 71 else 72) else (bif Nat.blt j 7 then 73 else 74))) else (bif Nat.blt j 12 then (bif Nat.blt j 10 then (bif Nat.blt j 9 then 0 else 84) else (bif Nat.blt j 11 then 85 else 86)) else (bif Nat.blt j 14 then (bif Nat.blt j 13 then 0 else 87) else (bif Nat.blt j 15 then 88 else (bif Nat.blt j 16 then 89 else 0))))) else 0)))) else (bif Nat.blt a 97 then (bif Nat.blt a 89 then (bif Nat.blt a 75 then (q2 9 a j) else 0) else (bif Nat.blt a 90 then (q2 6 a j) else (bif Nat.blt a 96 then 0 else (bif Nat.blt j 8 then (bif Nat.blt j 4 then (bif Nat.blt j 2 then (bif Nat.blt j 1 then 0 else 97) else (bif Nat.blt j 3 then 98 else 99)) else (bif Nat.blt j 6 then (bif Nat.blt j 5 then 100 else 101) else (bif Nat.blt j 7 then 102 else 103))) else (bif Nat.blt j 12 then (bif Nat.blt j 10 then (bif Nat.blt j 9 then 0 else 113) else (bif Nat.blt j 11 then 114 else 115)) else (bif Nat.blt j 14 then (bif Nat.blt j 13 then 0 else 116) else (bif Nat.blt j 15 then 117 else (bif Nat.blt j 16 then 118 else 0)))))))) else (bif Nat.blt a 104 then (bif Nat.blt a 103 then 0 else (q2 9 a j)) else (bif Nat.blt a 118 then 0 else (bif Nat.blt a 119 then (q2 6 a j) else 0))))) else (bif Nat.blt a 143 then (bif Nat.blt a 132 then (bif Nat.blt a 128 then (bif Nat.blt a 126 then (bif Nat.blt j 2 then (bif Nat.blt j 1 then 126 else 0) else (bif Nat.blt j 3 then 127 else 0)) else 0) else (bif Nat.blt a 129 then (bif Nat.blt j 2 then (bif Nat.blt j 1 then 129 else 0) else (bif Nat.blt j 3 then 130 else 0)) else (bif Nat.blt a 131 then 0 else (bif Nat.blt j 2 then (bif Nat.blt j 1 then 0 else 132) else (bif Nat.blt j 3 then 133 else (bif Nat.blt j 4 then 134 else 0)))))) else (bif Nat.blt a 136 then (bif Nat.blt a 135 then 0 else (bif Nat.blt j 2 then (bif Nat.blt j 1 then 0 else 136) else (bif Nat.blt j 3 then 137 else (bif Nat.blt j 4 then 138 else 0)))) else (bif Nat.blt a 139 then 0 else (bif Nat.blt a 140 then (bif Nat.blt j 5 then (bif Nat.blt j 3 then (bif Nat.blt j 2 then 0 else 140) else (bif Nat.blt j 4 then 141 else 142)) else (bif Nat.blt j 7 then (bif Nat.blt j 6 then 143 else 153) else (bif Nat.blt j 8 then 154 else 0))) else 0)))) else (bif Nat.blt a 160 then (bif Nat.blt a 155 then (bif Nat.blt a 144 then (q2 9 a j) else 0) else (bif Nat.blt a 156 then (bif Nat.blt j 5 then (bif Nat.blt j 3 then (bif Nat.blt j 2 then 0 else 156) else (bif Nat.blt j 4 then 157 else 158)) else (bif Nat.blt j 7 then (bif Nat.blt j 6 then 159 else 169) else (bif Nat.blt j 8 then 170 else 0))) else (bif Nat.blt a 159 then 0 else (q2 9 a j)))) else (bif Nat.blt a 175 then (bif Nat.blt a 171 then 0 else (bif Nat.blt a 172 then (bif Nat.blt j 5 then (bif Nat.blt j 3 then (bif Nat.blt j 2 then 0 else 172) else (bif Nat.blt j 4 then 173 else 174)) else (bif Nat.blt j 7 then (bif Nat.blt j 6 then 175 else 185) else (bif Nat.blt j 8 then 186 else 0))) else 0)) else (bif Nat.blt a 176 then (q2 9 a j) else (bif Nat.blt a 187 then 0 else (bif Nat.blt j 2 then (bif Nat.blt j 1 then 188 else 204) else (bif Nat.blt j 3 then 220 else 0)))))))) else (bif Nat.blt a 277 then (bif Nat.blt a 224 then (bif Nat.blt a 205 then (bif Nat.blt a 192 then (bif Nat.blt a 189 then (bif Nat.blt j 5 then (bif Nat.blt j 3 then (bif Nat.blt j 2 then 0 else 189) else (bif Nat.blt j 4 then 190 else 191)) else (bif Nat.blt j 7 then (bif Nat.blt j 6 then 192 else 202) else (bif Nat.blt j 8 then 203 else 0))) else 0) else (bif Nat.blt a 193 then (q2 9 a j) else (bif Nat.blt a 204 then 0 else (bif Nat.blt j 5 then (bif Nat.blt j 3 then (bif Nat.blt j 2 then 0 else 205) else (bif Nat.blt j 4 then 206 else 207)) else (bif Nat.blt j 7 then (bif Nat.blt j 6 then 208 else 218) else (bif Nat.blt j 8 then 219 else 0)))))) else (bif Nat.blt a 209 then (bif Nat.blt a 208 then 0 else (q2 9 a j)) else (bif Nat.blt a 220 then 0 else (bif Nat.blt a 221 then (bif Nat.blt j 5 then (bif Nat.blt j 3 then (bif Nat.blt j 2 then 0 else 221) else (bif Nat.blt j 4 then 222 else 223)) else (bif Nat.blt j 7 then (bif Nat.blt j 6 then 224 else 234) else (bif Nat.blt j 8 then 235 else 0))) else 0)))) else (bif Nat.blt a 246 then (bif Nat.blt a 236 then (bif Nat.blt a 225 then (q2 9 a j) else 0) else (bif Nat.blt a 237 then (bif Nat.blt j 6 then (bif Nat.blt j 4 then (bif Nat.blt j 3 then 0 else 237) else (bif Nat.blt j 5 then 238 else 239)) else (bif Nat.blt j 8 then (bif Nat.blt j 7 then 240 else 241) else (bif Nat.blt j 9 then 242 else 0))) else (bif Nat.blt a 245 then 0 else (bif Nat.blt j 30 then (bif Nat.blt j 18 then (bif Nat.blt j 13 then (bif Nat.blt j 10 then (bif Nat.blt j 9 then 0 else 246) else (bif Nat.blt j 11 then 247 else (bif Nat.blt j 12 then 248 else 249))) else (bif Nat.blt j 15 then (bif Nat.blt j 14 then 250 else 251) else (bif Nat.blt j 16 then 252 else (bif Nat.blt j 17 then 253 else 254)))) else (bif Nat.blt j 23 then (bif Nat.blt j 20 then (bif Nat.blt j 19 then 255 else 256) else (bif Nat.blt j 21 then 266 else (bif Nat.blt j 22 then 276 else 285))) else (bif Nat.blt j 26 then (bif Nat.blt j 24 then 294 else (bif Nat.blt j 25 then 301 else 308)) else (bif Nat.blt j 27 then 318 else (bif Nat.blt j 29 then 0 else 328))))) else (bif Nat.blt j 40 then (bif Nat.blt j 35 then (bif Nat.blt j 32 then (bif Nat.blt j 31 then 489 else 650) else (bif Nat.blt j 33 then 663 else (bif Nat.blt j 34 then 676 else 680))) else (bif Nat.blt j 37 then (bif Nat.blt j 36 then 681 else 682) else (bif Nat.blt j 38 then 683 else (bif Nat.blt j 39 then 684 else 685)))) else (bif Nat.blt j 49 then (bif Nat.blt j 46 then (bif Nat.blt j 41 then 686 else 0) else (bif Nat.blt j 47 then 687 else (bif Nat.blt j 48 then 688 else 689))) else (bif Nat.blt j 54 then (bif Nat.blt j 50 then 690 else (bif Nat.blt j 51 then 691 else 0)) else (bif Nat.blt j 55 then 692 else (bif Nat.blt j 56 then 693 else 0))))))))) else (bif Nat.blt a 266 then (bif Nat.blt a 256 then 0 else (bif Nat.blt a 257 then (q2 9 a j) else 0)) else (bif Nat.blt a 267 then (q2 9 a j) else (bif Nat.blt a 276 then 0 else (q2 8 a j)))))) else (bif Nat.blt a 319 then (bif Nat.blt a 301 then (bif Nat.blt a 286 then (bif Nat.blt a 285 then 0 else (q2 8 a j)) else (bif Nat.blt a 294 then 0 else (bif Nat.blt a 295 then (q2 6 a j) else 0))) else (bif Nat.blt a 308 then (bif Nat.blt a 302 then (q2 6 a j) else 0) else (bif Nat.blt a 309 then (q2 9 a j) else (bif Nat.blt a 318 then 0 else (q2 9 a j))))) else (bif Nat.blt a 650 then (bif Nat.blt a 329 then (bif Nat.blt a 328 then 0 else (q2 160 a j)) else (bif Nat.blt a 489 then 0 else (bif Nat.blt a 490 then (q2 160 a j) else 0))) else (bif Nat.blt a 664 then (bif Nat.blt a 651 then (q2 12 a j) else (bif Nat.blt a 663 then 0 else (q2 12 a j))) else (bif Nat.blt a 676 then 0 else (bif Nat.blt a 677 then (q2 3 a j) else 0)))))))
abbrev qG1 : Type := (Nat × Bool × Nat × Nat) × Nat × (Nat → Nat) × (Nat → Nat → Int64)
def qw (g : qG1) (I : Nat → Nat → Int32) : qM := (g.1, qSH g.2.1, I, qPf g.2.2.1, g.2.2.2)
def qgT (g : qG1) : qG1 := ((g.1.1, false, g.1.2.2.1 + 1, g.1.2.2.2 + 6), g.2)
def qgL (g : qG1) (a i : Nat) (v : Int64) : qG1 := (g.1, g.2.1, g.2.2.1, qup g.2.2.2 a i v)
def q2a (P : Nat → Prop) : Nat → Nat → Prop
  | 0, _ => True
  | n + 1, i => P i ∧ q2a P n (i + 1)
theorem q2b (P : Nat → Prop) : ∀ n i, q2a P n i → ∀ j, i ≤ j → j < i + n → P j
  | 0, i, _, j, h1, h2 => by omega
  | n + 1, i, h, j, h1, h2 => by
    by_cases e : i = j
    · subst e; exact h.1
    · exact q2b P n (i + 1) h.2 j (by omega) (by omega)
theorem q2c (P : Nat → Prop) {n : Nat} (h : q2a P n 0) (i : Nat) (hi : i < n) : P i := q2b P n 0 h i (Nat.zero_le _) (by omega)
theorem q2_in {n o j : Nat} (h : j < n) : q2 n o j = o + 1 + j := by unfold q2; rw [qlT h, cond_true]
theorem qIx_nat {y : Int32} {n : Nat} (h : qIx y n) : y.toNatClampNeg < n := by
  have := h.1; have := h.2
  rw [Int32.toNatClampNeg]; omega
theorem qSH_2 {L n o : Nat} {q : qS} (h : ∀ i, i < n → qSH L (o + 1 + i) = q) {y : Int32} (hy : qIx y n) : qSH L (q2 n o y.toNatClampNeg) = q := by rw [q2_in (qIx_nat hy)]; exact h _ (qIx_nat hy)
def qisS (s : Nat) : Prop := s = 139 ∨ s = 155 ∨ s = 171 ∨ s = 188 ∨ s = 204 ∨ s = 220
theorem qisS_nz {s : Nat} (h : qisS s) : ¬ s = 0 := by unfold qisS at h; omega
theorem qisS_sh {L s : Nat} (h : qisS s) : qSH L s = (25, 8) := by rcases h with rfl | rfl | rfl | rfl | rfl | rfl <;> rfl
theorem qisS_p2 {W : Nat → Nat} {s : Nat} (h : qisS s) : qPf W s 2 = s + 1 := by rcases h with rfl | rfl | rfl | rfl | rfl | rfl <;> rfl
theorem qisS_s2 {L s : Nat} (h : qisS s) : qSH L (s + 1) = (1, 9) := by rcases h with rfl | rfl | rfl | rfl | rfl | rfl <;> rfl
theorem qisS_r2 {L s : Nat} {W : Nat → Nat} (h : qisS s) : qSH L (qPf W s 2) = (1, 9) := by rcases h with rfl | rfl | rfl | rfl | rfl | rfl <;> rfl
theorem qisS_p3 {W : Nat → Nat} {s : Nat} (h : qisS s) : qPf W s 3 = s + 2 := by rcases h with rfl | rfl | rfl | rfl | rfl | rfl <;> rfl
theorem qisS_s3 {L s : Nat} (h : qisS s) : qSH L (s + 2) = (1, 9) := by rcases h with rfl | rfl | rfl | rfl | rfl | rfl <;> rfl
theorem qisS_r3 {L s : Nat} {W : Nat → Nat} (h : qisS s) : qSH L (qPf W s 3) = (1, 9) := by rcases h with rfl | rfl | rfl | rfl | rfl | rfl <;> rfl
theorem qisS_p4 {W : Nat → Nat} {s : Nat} (h : qisS s) : qPf W s 4 = s + 3 := by rcases h with rfl | rfl | rfl | rfl | rfl | rfl <;> rfl
theorem qisS_s4 {L s : Nat} (h : qisS s) : qSH L (s + 3) = (1, 9) := by rcases h with rfl | rfl | rfl | rfl | rfl | rfl <;> rfl
theorem qisS_r4 {L s : Nat} {W : Nat → Nat} (h : qisS s) : qSH L (qPf W s 4) = (1, 9) := by rcases h with rfl | rfl | rfl | rfl | rfl | rfl <;> rfl
theorem qisS_p5 {W : Nat → Nat} {s : Nat} (h : qisS s) : qPf W s 5 = s + 4 := by rcases h with rfl | rfl | rfl | rfl | rfl | rfl <;> rfl
theorem qisS_s5 {L s : Nat} (h : qisS s) : qSH L (s + 4) = (4, 9) := by rcases h with rfl | rfl | rfl | rfl | rfl | rfl <;> rfl
theorem qisS_r5 {L s : Nat} {W : Nat → Nat} (h : qisS s) : qSH L (qPf W s 5) = (4, 9) := by rcases h with rfl | rfl | rfl | rfl | rfl | rfl <;> rfl
theorem qisS_q5 {W : Nat → Nat} {s : Nat} (h : qisS s) : qPf W (s + 4) = q2 9 (s + 4) := by rcases h with rfl | rfl | rfl | rfl | rfl | rfl <;> (funext j; rfl)
theorem qisS_t5 {L s : Nat} (h : qisS s) (y : Int32) (hy : qIx y 9) : qSH L (q2 9 (s + 4) y.toNatClampNeg) = (1, 8) := qSH_2 (fun i hi => by rcases h with rfl | rfl | rfl | rfl | rfl | rfl; exact q2c (n := 9) (fun i => qSH L (139 + 4 + 1 + i) = (1, 8)) ⟨rfl, rfl, rfl, rfl, rfl, rfl, rfl, rfl, rfl, trivial⟩ i hi; exact q2c (n := 9) (fun i => qSH L (155 + 4 + 1 + i) = (1, 8)) ⟨rfl, rfl, rfl, rfl, rfl, rfl, rfl, rfl, rfl, trivial⟩ i hi; exact q2c (n := 9) (fun i => qSH L (171 + 4 + 1 + i) = (1, 8)) ⟨rfl, rfl, rfl, rfl, rfl, rfl, rfl, rfl, rfl, trivial⟩ i hi; exact q2c (n := 9) (fun i => qSH L (188 + 4 + 1 + i) = (1, 8)) ⟨rfl, rfl, rfl, rfl, rfl, rfl, rfl, rfl, rfl, trivial⟩ i hi; exact q2c (n := 9) (fun i => qSH L (204 + 4 + 1 + i) = (1, 8)) ⟨rfl, rfl, rfl, rfl, rfl, rfl, rfl, rfl, rfl, trivial⟩ i hi; exact q2c (n := 9) (fun i => qSH L (220 + 4 + 1 + i) = (1, 8)) ⟨rfl, rfl, rfl, rfl, rfl, rfl, rfl, rfl, rfl, trivial⟩ i hi) hy
theorem qisS_u5 {L s : Nat} {W : Nat → Nat} (h : qisS s) (y : Int32) (hy : qIx y 9) : qSH L (qPf W (qPf W s 5) y.toNatClampNeg) = (1, 8) := by rw [qisS_p5 h, qisS_q5 h]; exact qisS_t5 h y hy
theorem qisS_p6 {W : Nat → Nat} {s : Nat} (h : qisS s) : qPf W s 6 = s + 14 := by rcases h with rfl | rfl | rfl | rfl | rfl | rfl <;> rfl
theorem qisS_s6 {L s : Nat} (h : qisS s) : qSH L (s + 14) = (1, 8) := by rcases h with rfl | rfl | rfl | rfl | rfl | rfl <;> rfl
theorem qisS_r6 {L s : Nat} {W : Nat → Nat} (h : qisS s) : qSH L (qPf W s 6) = (1, 8) := by rcases h with rfl | rfl | rfl | rfl | rfl | rfl <;> rfl
theorem qisS_p7 {W : Nat → Nat} {s : Nat} (h : qisS s) : qPf W s 7 = s + 15 := by rcases h with rfl | rfl | rfl | rfl | rfl | rfl <;> rfl
theorem qisS_s7 {L s : Nat} (h : qisS s) : qSH L (s + 15) = (1, 8) := by rcases h with rfl | rfl | rfl | rfl | rfl | rfl <;> rfl
theorem qisS_r7 {L s : Nat} {W : Nat → Nat} (h : qisS s) : qSH L (qPf W s 7) = (1, 8) := by rcases h with rfl | rfl | rfl | rfl | rfl | rfl <;> rfl
def qisF (s : Nat) : Prop := s = 67 ∨ s = 96
theorem qisF_nz {s : Nat} (h : qisF s) : ¬ s = 0 := by unfold qisF at h; omega
theorem qisF_sh {L s : Nat} (h : qisF s) : qSH L s = (22, 17) := by rcases h with rfl | rfl <;> rfl
theorem qisF_p1 {W : Nat → Nat} {s : Nat} (h : qisF s) : qPf W s 1 = s + 1 := by rcases h with rfl | rfl <;> rfl
theorem qisF_s1 {L s : Nat} (h : qisF s) : qSH L (s + 1) = (1, 9) := by rcases h with rfl | rfl <;> rfl
theorem qisF_r1 {L s : Nat} {W : Nat → Nat} (h : qisF s) : qSH L (qPf W s 1) = (1, 9) := by rcases h with rfl | rfl <;> rfl
theorem qisF_p2 {W : Nat → Nat} {s : Nat} (h : qisF s) : qPf W s 2 = s + 2 := by rcases h with rfl | rfl <;> rfl
theorem qisF_s2 {L s : Nat} (h : qisF s) : qSH L (s + 2) = (1, 9) := by rcases h with rfl | rfl <;> rfl
theorem qisF_r2 {L s : Nat} {W : Nat → Nat} (h : qisF s) : qSH L (qPf W s 2) = (1, 9) := by rcases h with rfl | rfl <;> rfl
theorem qisF_p3 {W : Nat → Nat} {s : Nat} (h : qisF s) : qPf W s 3 = s + 3 := by rcases h with rfl | rfl <;> rfl
theorem qisF_s3 {L s : Nat} (h : qisF s) : qSH L (s + 3) = (1, 9) := by rcases h with rfl | rfl <;> rfl
theorem qisF_r3 {L s : Nat} {W : Nat → Nat} (h : qisF s) : qSH L (qPf W s 3) = (1, 9) := by rcases h with rfl | rfl <;> rfl
theorem qisF_p4 {W : Nat → Nat} {s : Nat} (h : qisF s) : qPf W s 4 = s + 4 := by rcases h with rfl | rfl <;> rfl
theorem qisF_s4 {L s : Nat} (h : qisF s) : qSH L (s + 4) = (1, 9) := by rcases h with rfl | rfl <;> rfl
theorem qisF_r4 {L s : Nat} {W : Nat → Nat} (h : qisF s) : qSH L (qPf W s 4) = (1, 9) := by rcases h with rfl | rfl <;> rfl
theorem qisF_p5 {W : Nat → Nat} {s : Nat} (h : qisF s) : qPf W s 5 = s + 5 := by rcases h with rfl | rfl <;> rfl
theorem qisF_s5 {L s : Nat} (h : qisF s) : qSH L (s + 5) = (1, 9) := by rcases h with rfl | rfl <;> rfl
theorem qisF_r5 {L s : Nat} {W : Nat → Nat} (h : qisF s) : qSH L (qPf W s 5) = (1, 9) := by rcases h with rfl | rfl <;> rfl
theorem qisF_p6 {W : Nat → Nat} {s : Nat} (h : qisF s) : qPf W s 6 = s + 6 := by rcases h with rfl | rfl <;> rfl
theorem qisF_s6 {L s : Nat} (h : qisF s) : qSH L (s + 6) = (1, 9) := by rcases h with rfl | rfl <;> rfl
theorem qisF_r6 {L s : Nat} {W : Nat → Nat} (h : qisF s) : qSH L (qPf W s 6) = (1, 9) := by rcases h with rfl | rfl <;> rfl
theorem qisF_p7 {W : Nat → Nat} {s : Nat} (h : qisF s) : qPf W s 7 = s + 7 := by rcases h with rfl | rfl <;> rfl
theorem qisF_s7 {L s : Nat} (h : qisF s) : qSH L (s + 7) = (4, 9) := by rcases h with rfl | rfl <;> rfl
theorem qisF_r7 {L s : Nat} {W : Nat → Nat} (h : qisF s) : qSH L (qPf W s 7) = (4, 9) := by rcases h with rfl | rfl <;> rfl
theorem qisF_q7 {W : Nat → Nat} {s : Nat} (h : qisF s) : qPf W (s + 7) = q2 9 (s + 7) := by rcases h with rfl | rfl <;> (funext j; rfl)
theorem qisF_t7 {L s : Nat} (h : qisF s) (y : Int32) (hy : qIx y 9) : qSH L (q2 9 (s + 7) y.toNatClampNeg) = (1, 9) := qSH_2 (fun i hi => by rcases h with rfl | rfl; exact q2c (n := 9) (fun i => qSH L (67 + 7 + 1 + i) = (1, 9)) ⟨rfl, rfl, rfl, rfl, rfl, rfl, rfl, rfl, rfl, trivial⟩ i hi; exact q2c (n := 9) (fun i => qSH L (96 + 7 + 1 + i) = (1, 9)) ⟨rfl, rfl, rfl, rfl, rfl, rfl, rfl, rfl, rfl, trivial⟩ i hi) hy
theorem qisF_u7 {L s : Nat} {W : Nat → Nat} (h : qisF s) (y : Int32) (hy : qIx y 9) : qSH L (qPf W (qPf W s 7) y.toNatClampNeg) = (1, 9) := by rw [qisF_p7 h, qisF_q7 h]; exact qisF_t7 h y hy
theorem qisF_p9 {W : Nat → Nat} {s : Nat} (h : qisF s) : qPf W s 9 = s + 17 := by rcases h with rfl | rfl <;> rfl
theorem qisF_s9 {L s : Nat} (h : qisF s) : qSH L (s + 17) = (1, 8) := by rcases h with rfl | rfl <;> rfl
theorem qisF_r9 {L s : Nat} {W : Nat → Nat} (h : qisF s) : qSH L (qPf W s 9) = (1, 8) := by rcases h with rfl | rfl <;> rfl
theorem qisF_p10 {W : Nat → Nat} {s : Nat} (h : qisF s) : qPf W s 10 = s + 18 := by rcases h with rfl | rfl <;> rfl
theorem qisF_s10 {L s : Nat} (h : qisF s) : qSH L (s + 18) = (1, 8) := by rcases h with rfl | rfl <;> rfl
theorem qisF_r10 {L s : Nat} {W : Nat → Nat} (h : qisF s) : qSH L (qPf W s 10) = (1, 8) := by rcases h with rfl | rfl <;> rfl
theorem qisF_p11 {W : Nat → Nat} {s : Nat} (h : qisF s) : qPf W s 11 = s + 19 := by rcases h with rfl | rfl <;> rfl
theorem qisF_s11 {L s : Nat} (h : qisF s) : qSH L (s + 19) = (1, 8) := by rcases h with rfl | rfl <;> rfl
theorem qisF_r11 {L s : Nat} {W : Nat → Nat} (h : qisF s) : qSH L (qPf W s 11) = (1, 8) := by rcases h with rfl | rfl <;> rfl
theorem qisF_p13 {W : Nat → Nat} {s : Nat} (h : qisF s) : qPf W s 13 = s + 20 := by rcases h with rfl | rfl <;> rfl
theorem qisF_s13 {L s : Nat} (h : qisF s) : qSH L (s + 20) = (1, 6) := by rcases h with rfl | rfl <;> rfl
theorem qisF_r13 {L s : Nat} {W : Nat → Nat} (h : qisF s) : qSH L (qPf W s 13) = (1, 6) := by rcases h with rfl | rfl <;> rfl
theorem qisF_p14 {W : Nat → Nat} {s : Nat} (h : qisF s) : qPf W s 14 = s + 21 := by rcases h with rfl | rfl <;> rfl
theorem qisF_s14 {L s : Nat} (h : qisF s) : qSH L (s + 21) = (1, 6) := by rcases h with rfl | rfl <;> rfl
theorem qisF_r14 {L s : Nat} {W : Nat → Nat} (h : qisF s) : qSH L (qPf W s 14) = (1, 6) := by rcases h with rfl | rfl <;> rfl
theorem qisF_p15 {W : Nat → Nat} {s : Nat} (h : qisF s) : qPf W s 15 = s + 22 := by rcases h with rfl | rfl <;> rfl
theorem qisF_s15 {L s : Nat} (h : qisF s) : qSH L (s + 22) = (4, 6) := by rcases h with rfl | rfl <;> rfl
theorem qisF_r15 {L s : Nat} {W : Nat → Nat} (h : qisF s) : qSH L (qPf W s 15) = (4, 6) := by rcases h with rfl | rfl <;> rfl
theorem qisF_q15 {W : Nat → Nat} {s : Nat} (h : qisF s) : qPf W (s + 22) = q2 6 (s + 22) := by rcases h with rfl | rfl <;> (funext j; rfl)
theorem qisF_t15 {L s : Nat} (h : qisF s) (y : Int32) (hy : qIx y 6) : qSH L (q2 6 (s + 22) y.toNatClampNeg) = (1, 6) := qSH_2 (fun i hi => by rcases h with rfl | rfl; exact q2c (n := 6) (fun i => qSH L (67 + 22 + 1 + i) = (1, 6)) ⟨rfl, rfl, rfl, rfl, rfl, rfl, trivial⟩ i hi; exact q2c (n := 6) (fun i => qSH L (96 + 22 + 1 + i) = (1, 6)) ⟨rfl, rfl, rfl, rfl, rfl, rfl, trivial⟩ i hi) hy
theorem qisF_u15 {L s : Nat} {W : Nat → Nat} (h : qisF s) (y : Int32) (hy : qIx y 6) : qSH L (qPf W (qPf W s 15) y.toNatClampNeg) = (1, 6) := by rw [qisF_p15 h, qisF_q15 h]; exact qisF_t15 h y hy
def qisL (s : Nat) : Prop := s = 125 ∨ s = 128
theorem qisL_nz {s : Nat} (h : qisL s) : ¬ s = 0 := by unfold qisL at h; omega
theorem qisL_sh {L s : Nat} (h : qisL s) : qSH L s = (23, 3) := by rcases h with rfl | rfl <;> rfl
theorem qisL_p0 {W : Nat → Nat} {s : Nat} (h : qisL s) : qPf W s 0 = s + 1 := by rcases h with rfl | rfl <;> rfl
theorem qisL_s0 {L s : Nat} (h : qisL s) : qSH L (s + 1) = (1, 150) := by rcases h with rfl | rfl <;> rfl
theorem qisL_r0 {L s : Nat} {W : Nat → Nat} (h : qisL s) : qSH L (qPf W s 0) = (1, 150) := by rcases h with rfl | rfl <;> rfl
theorem qisL_p2 {W : Nat → Nat} {s : Nat} (h : qisL s) : qPf W s 2 = s + 2 := by rcases h with rfl | rfl <;> rfl
theorem qisL_s2 {L s : Nat} (h : qisL s) : qSH L (s + 2) = (1, 150) := by rcases h with rfl | rfl <;> rfl
theorem qisL_r2 {L s : Nat} {W : Nat → Nat} (h : qisL s) : qSH L (qPf W s 2) = (1, 150) := by rcases h with rfl | rfl <;> rfl
def qisB (s : Nat) : Prop := s = 131 ∨ s = 135
theorem qisB_nz {s : Nat} (h : qisB s) : ¬ s = 0 := by unfold qisB at h; omega
theorem qisB_sh {L s : Nat} (h : qisB s) : qSH L s = (20, 4) := by rcases h with rfl | rfl <;> rfl
theorem qisB_p1 {W : Nat → Nat} {s : Nat} (h : qisB s) : qPf W s 1 = s + 1 := by rcases h with rfl | rfl <;> rfl
theorem qisB_s1 {L s : Nat} (h : qisB s) : qSH L (s + 1) = (1, 12) := by rcases h with rfl | rfl <;> rfl
theorem qisB_r1 {L s : Nat} {W : Nat → Nat} (h : qisB s) : qSH L (qPf W s 1) = (1, 12) := by rcases h with rfl | rfl <;> rfl
theorem qisB_p2 {W : Nat → Nat} {s : Nat} (h : qisB s) : qPf W s 2 = s + 2 := by rcases h with rfl | rfl <;> rfl
theorem qisB_s2 {L s : Nat} (h : qisB s) : qSH L (s + 2) = (1, 12) := by rcases h with rfl | rfl <;> rfl
theorem qisB_r2 {L s : Nat} {W : Nat → Nat} (h : qisB s) : qSH L (qPf W s 2) = (1, 12) := by rcases h with rfl | rfl <;> rfl
theorem qisB_p3 {W : Nat → Nat} {s : Nat} (h : qisB s) : qPf W s 3 = s + 3 := by rcases h with rfl | rfl <;> rfl
theorem qisB_s3 {L s : Nat} (h : qisB s) : qSH L (s + 3) = (1, 12) := by rcases h with rfl | rfl <;> rfl
theorem qisB_r3 {L s : Nat} {W : Nat → Nat} (h : qisB s) : qSH L (qPf W s 3) = (1, 12) := by rcases h with rfl | rfl <;> rfl
def qisW (s : Nat) : Prop := s = 10 ∨ s = 11 ∨ s = 12 ∨ s = 13 ∨ s = 14 ∨ s = 15 ∨ s = 16 ∨ s = 17 ∨ s = 18 ∨ s = 19 ∨ s = 20 ∨ s = 21 ∨ s = 22 ∨ s = 23 ∨ s = 24 ∨ s = 25 ∨ s = 26 ∨ s = 27 ∨ s = 28 ∨ s = 29
theorem qisW_nz {s : Nat} (h : qisW s) : ¬ s = 0 := by unfold qisW at h; omega
theorem qisW_sh {L s : Nat} (h : qisW s) : qSH L s = (29, 2) := by rcases h with rfl | rfl | rfl | rfl | rfl | rfl | rfl | rfl | rfl | rfl | rfl | rfl | rfl | rfl | rfl | rfl | rfl | rfl | rfl | rfl <;> rfl
theorem q2s_74 {L : Nat} {y : Int32} (hy : qIx y 9) : qSH L (q2 9 74 y.toNatClampNeg) = (1, 9) := qSH_2 (fun i hi => q2c (n := 9) (fun i => qSH L (74 + 1 + i) = (1, 9)) ⟨rfl, rfl, rfl, rfl, rfl, rfl, rfl, rfl, rfl, trivial⟩ i hi) hy
theorem q2s_89 {L : Nat} {y : Int32} (hy : qIx y 6) : qSH L (q2 6 89 y.toNatClampNeg) = (1, 6) := qSH_2 (fun i hi => q2c (n := 6) (fun i => qSH L (89 + 1 + i) = (1, 6)) ⟨rfl, rfl, rfl, rfl, rfl, rfl, trivial⟩ i hi) hy
theorem q2s_103 {L : Nat} {y : Int32} (hy : qIx y 9) : qSH L (q2 9 103 y.toNatClampNeg) = (1, 9) := qSH_2 (fun i hi => q2c (n := 9) (fun i => qSH L (103 + 1 + i) = (1, 9)) ⟨rfl, rfl, rfl, rfl, rfl, rfl, rfl, rfl, rfl, trivial⟩ i hi) hy
theorem q2s_118 {L : Nat} {y : Int32} (hy : qIx y 6) : qSH L (q2 6 118 y.toNatClampNeg) = (1, 6) := qSH_2 (fun i hi => q2c (n := 6) (fun i => qSH L (118 + 1 + i) = (1, 6)) ⟨rfl, rfl, rfl, rfl, rfl, rfl, trivial⟩ i hi) hy
theorem q2s_143 {L : Nat} {y : Int32} (hy : qIx y 9) : qSH L (q2 9 143 y.toNatClampNeg) = (1, 8) := qSH_2 (fun i hi => q2c (n := 9) (fun i => qSH L (143 + 1 + i) = (1, 8)) ⟨rfl, rfl, rfl, rfl, rfl, rfl, rfl, rfl, rfl, trivial⟩ i hi) hy
theorem q2s_159 {L : Nat} {y : Int32} (hy : qIx y 9) : qSH L (q2 9 159 y.toNatClampNeg) = (1, 8) := qSH_2 (fun i hi => q2c (n := 9) (fun i => qSH L (159 + 1 + i) = (1, 8)) ⟨rfl, rfl, rfl, rfl, rfl, rfl, rfl, rfl, rfl, trivial⟩ i hi) hy
theorem q2s_175 {L : Nat} {y : Int32} (hy : qIx y 9) : qSH L (q2 9 175 y.toNatClampNeg) = (1, 8) := qSH_2 (fun i hi => q2c (n := 9) (fun i => qSH L (175 + 1 + i) = (1, 8)) ⟨rfl, rfl, rfl, rfl, rfl, rfl, rfl, rfl, rfl, trivial⟩ i hi) hy
theorem q2s_192 {L : Nat} {y : Int32} (hy : qIx y 9) : qSH L (q2 9 192 y.toNatClampNeg) = (1, 8) := qSH_2 (fun i hi => q2c (n := 9) (fun i => qSH L (192 + 1 + i) = (1, 8)) ⟨rfl, rfl, rfl, rfl, rfl, rfl, rfl, rfl, rfl, trivial⟩ i hi) hy
theorem q2s_208 {L : Nat} {y : Int32} (hy : qIx y 9) : qSH L (q2 9 208 y.toNatClampNeg) = (1, 8) := qSH_2 (fun i hi => q2c (n := 9) (fun i => qSH L (208 + 1 + i) = (1, 8)) ⟨rfl, rfl, rfl, rfl, rfl, rfl, rfl, rfl, rfl, trivial⟩ i hi) hy
theorem q2s_224 {L : Nat} {y : Int32} (hy : qIx y 9) : qSH L (q2 9 224 y.toNatClampNeg) = (1, 8) := qSH_2 (fun i hi => q2c (n := 9) (fun i => qSH L (224 + 1 + i) = (1, 8)) ⟨rfl, rfl, rfl, rfl, rfl, rfl, rfl, rfl, rfl, trivial⟩ i hi) hy
theorem q2s_256 {L : Nat} {y : Int32} (hy : qIx y 9) : qSH L (q2 9 256 y.toNatClampNeg) = (1, 3) := qSH_2 (fun i hi => q2c (n := 9) (fun i => qSH L (256 + 1 + i) = (1, 3)) ⟨rfl, rfl, rfl, rfl, rfl, rfl, rfl, rfl, rfl, trivial⟩ i hi) hy
theorem q2s_266 {L : Nat} {y : Int32} (hy : qIx y 9) : qSH L (q2 9 266 y.toNatClampNeg) = (1, 3) := qSH_2 (fun i hi => q2c (n := 9) (fun i => qSH L (266 + 1 + i) = (1, 3)) ⟨rfl, rfl, rfl, rfl, rfl, rfl, rfl, rfl, rfl, trivial⟩ i hi) hy
theorem q2s_276 {L : Nat} {y : Int32} (hy : qIx y 8) : qSH L (q2 8 276 y.toNatClampNeg) = (1, 3) := qSH_2 (fun i hi => q2c (n := 8) (fun i => qSH L (276 + 1 + i) = (1, 3)) ⟨rfl, rfl, rfl, rfl, rfl, rfl, rfl, rfl, trivial⟩ i hi) hy
theorem q2s_285 {L : Nat} {y : Int32} (hy : qIx y 8) : qSH L (q2 8 285 y.toNatClampNeg) = (1, 3) := qSH_2 (fun i hi => q2c (n := 8) (fun i => qSH L (285 + 1 + i) = (1, 3)) ⟨rfl, rfl, rfl, rfl, rfl, rfl, rfl, rfl, trivial⟩ i hi) hy
theorem q2s_294 {L : Nat} {y : Int32} (hy : qIx y 6) : qSH L (q2 6 294 y.toNatClampNeg) = (1, 8) := qSH_2 (fun i hi => q2c (n := 6) (fun i => qSH L (294 + 1 + i) = (1, 8)) ⟨rfl, rfl, rfl, rfl, rfl, rfl, trivial⟩ i hi) hy
theorem q2s_301 {L : Nat} {y : Int32} (hy : qIx y 6) : qSH L (q2 6 301 y.toNatClampNeg) = (1, 8) := qSH_2 (fun i hi => q2c (n := 6) (fun i => qSH L (301 + 1 + i) = (1, 8)) ⟨rfl, rfl, rfl, rfl, rfl, rfl, trivial⟩ i hi) hy
theorem q2s_308 {L : Nat} {y : Int32} (hy : qIx y 9) : qSH L (q2 9 308 y.toNatClampNeg) = (1, 9) := qSH_2 (fun i hi => q2c (n := 9) (fun i => qSH L (308 + 1 + i) = (1, 9)) ⟨rfl, rfl, rfl, rfl, rfl, rfl, rfl, rfl, rfl, trivial⟩ i hi) hy
theorem q2s_318 {L : Nat} {y : Int32} (hy : qIx y 9) : qSH L (q2 9 318 y.toNatClampNeg) = (1, 9) := qSH_2 (fun i hi => q2c (n := 9) (fun i => qSH L (318 + 1 + i) = (1, 9)) ⟨rfl, rfl, rfl, rfl, rfl, rfl, rfl, rfl, rfl, trivial⟩ i hi) hy
theorem q2s_328 {L : Nat} {y : Int32} (hy : qIx y 160) : qSH L (q2 160 328 y.toNatClampNeg) = (1, 2) := qSH_2 (fun i hi => q2c (n := 160) (fun i => qSH L (328 + 1 + i) = (1, 2)) ⟨rfl, rfl, rfl, rfl, rfl, rfl, rfl, rfl, rfl, rfl, rfl, rfl, rfl, rfl, rfl, rfl, rfl, rfl, rfl, rfl, rfl, rfl, rfl, rfl, rfl, rfl, rfl, rfl, rfl, rfl, rfl, rfl, rfl, rfl, rfl, rfl, rfl, rfl, rfl, rfl, rfl, rfl, rfl, rfl, rfl, rfl, rfl, rfl, rfl, rfl, rfl, rfl, rfl, rfl, rfl, rfl, rfl, rfl, rfl, rfl, rfl, rfl, rfl, rfl, rfl, rfl, rfl, rfl, rfl, rfl, rfl, rfl, rfl, rfl, rfl, rfl, rfl, rfl, rfl, rfl, rfl, rfl, rfl, rfl, rfl, rfl, rfl, rfl, rfl, rfl, rfl, rfl, rfl, rfl, rfl, rfl, rfl, rfl, rfl, rfl, rfl, rfl, rfl, rfl, rfl, rfl, rfl, rfl, rfl, rfl, rfl, rfl, rfl, rfl, rfl, rfl, rfl, rfl, rfl, rfl, rfl, rfl, rfl, rfl, rfl, rfl, rfl, rfl, rfl, rfl, rfl, rfl, rfl, rfl, rfl, rfl, rfl, rfl, rfl, rfl, rfl, rfl, rfl, rfl, rfl, rfl, rfl, rfl, rfl, rfl, rfl, rfl, rfl, rfl, rfl, rfl, rfl, rfl, rfl, rfl, trivial⟩ i hi) hy
theorem q2s_489 {L : Nat} {y : Int32} (hy : qIx y 160) : qSH L (q2 160 489 y.toNatClampNeg) = (1, 2) := qSH_2 (fun i hi => q2c (n := 160) (fun i => qSH L (489 + 1 + i) = (1, 2)) ⟨rfl, rfl, rfl, rfl, rfl, rfl, rfl, rfl, rfl, rfl, rfl, rfl, rfl, rfl, rfl, rfl, rfl, rfl, rfl, rfl, rfl, rfl, rfl, rfl, rfl, rfl, rfl, rfl, rfl, rfl, rfl, rfl, rfl, rfl, rfl, rfl, rfl, rfl, rfl, rfl, rfl, rfl, rfl, rfl, rfl, rfl, rfl, rfl, rfl, rfl, rfl, rfl, rfl, rfl, rfl, rfl, rfl, rfl, rfl, rfl, rfl, rfl, rfl, rfl, rfl, rfl, rfl, rfl, rfl, rfl, rfl, rfl, rfl, rfl, rfl, rfl, rfl, rfl, rfl, rfl, rfl, rfl, rfl, rfl, rfl, rfl, rfl, rfl, rfl, rfl, rfl, rfl, rfl, rfl, rfl, rfl, rfl, rfl, rfl, rfl, rfl, rfl, rfl, rfl, rfl, rfl, rfl, rfl, rfl, rfl, rfl, rfl, rfl, rfl, rfl, rfl, rfl, rfl, rfl, rfl, rfl, rfl, rfl, rfl, rfl, rfl, rfl, rfl, rfl, rfl, rfl, rfl, rfl, rfl, rfl, rfl, rfl, rfl, rfl, rfl, rfl, rfl, rfl, rfl, rfl, rfl, rfl, rfl, rfl, rfl, rfl, rfl, rfl, rfl, rfl, rfl, rfl, rfl, rfl, rfl, trivial⟩ i hi) hy
theorem q2s_650 {L : Nat} {y : Int32} (hy : qIx y 12) : qSH L (q2 12 650 y.toNatClampNeg) = (1, 3) := qSH_2 (fun i hi => q2c (n := 12) (fun i => qSH L (650 + 1 + i) = (1, 3)) ⟨rfl, rfl, rfl, rfl, rfl, rfl, rfl, rfl, rfl, rfl, rfl, rfl, trivial⟩ i hi) hy
theorem q2s_663 {L : Nat} {y : Int32} (hy : qIx y 12) : qSH L (q2 12 663 y.toNatClampNeg) = (1, 3) := qSH_2 (fun i hi => q2c (n := 12) (fun i => qSH L (663 + 1 + i) = (1, 3)) ⟨rfl, rfl, rfl, rfl, rfl, rfl, rfl, rfl, rfl, rfl, rfl, rfl, trivial⟩ i hi) hy
theorem q2s_676 {L : Nat} {y : Int32} (hy : qIx y 3) : qSH L (q2 3 676 y.toNatClampNeg) = (1, 107) := qSH_2 (fun i hi => q2c (n := 3) (fun i => qSH L (676 + 1 + i) = (1, 107)) ⟨rfl, rfl, rfl, trivial⟩ i hi) hy
