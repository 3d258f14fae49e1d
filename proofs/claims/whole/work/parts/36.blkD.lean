/-! ===== blocks, further ones by program (wip/whole/gen/mk36.py): the constants' texts, the swaps, the images ===== -/
/- 81 PuppetHeirs$Tape.isWord (Ljava/lang/String;)Z -/
def qS81 (k pc : Nat) : Option (List Nat) := bif Nat.beq k 81 then (bif Nat.beq pc 24 then some [0, 1, 2] else none) else none
theorem b81_0 {d : Nat} {g : qG1} {I : Nat → Nat → Int32} {Q : qR → Prop} {w : Nat} (hw : qisW w) (hd : 5 ≤ d)
    (h : ∃ (v2 : Int32) (J1 : _), qRun (d - 1) 300 [.ref w] (qw g I) (.inl (some (.int v2), (qw g J1))) ∧ (((((I 65 3) - (I 65 6)) = v2 → qwq d 81 24 [(0, .ref 65), (1, .ref w), (2, .int (qj 0))] [] (qw g J1) Q) ∧ (¬ (((I 65 3) - (I 65 6)) = v2) → Q (.inl (some (.int (qb false)), (qw g J1))))))) :
    qwq d 81 0 [(0, .ref 65), (1, .ref w)] [] (qw g I) Q := by
  exact qZ_sound qU_ok (N := qN) (S := qS81) 55 true (⟨fun q => absurd q (qisW_nz hw), fun _ => ⟨rfl, ⟨rfl, ⟨by omega, (qob_mk (qisW_sh hw)), (h).elim (fun v2 h => h.elim (fun J1 h => ⟨_, _, h.1, ⟨fun q3 => (h.2.1 q3), fun q3 => ⟨(qb_ok false), (h.2.2 q3)⟩⟩⟩))⟩⟩⟩⟩)
theorem b81_24 {d : Nat} {g : qG1} {I : Nat → Nat → Int32} {Q : qR → Prop} {w : Nat} {x2 : Int32} (hw : qisW w) (hd : 5 ≤ d)
    (h : ∃ (v2 : Int32) (J1 : _), qRun (d - 1) 300 [.ref w] (qw g I) (.inl (some (.int v2), (qw g J1))) ∧ (((v2 ≤ x2 → Q (.inl (some (.int (qb true)), (qw g J1)))) ∧ (¬ (v2 ≤ x2) → ∃ (v4 : Int32) (J3 : _), qRun (d - 1) 74 [.ref 65, .int ((J1 65 6) + x2)] (qw g J1) (.inl (some (.int v4), (qw g J3))) ∧ (∃ (v6 : Int32) (J5 : _), qRun (d - 1) 301 [.ref w, .int x2] (qw g J3) (.inl (some (.int v6), (qw g J5))) ∧ (((v4 = v6 → qwq d 81 24 [(0, .ref 65), (1, .ref w), (2, .int (x2 + qj 1))] [] (qw g J5) Q) ∧ (¬ (v4 = v6) → Q (.inl (some (.int (qb false)), (qw g J5))))))))))) :
    qwq d 81 24 [(0, .ref 65), (1, .ref w), (2, .int x2)] [] (qw g I) Q := by
  exact qZ_sound qU_ok (N := qN) (S := qS81) 61 true (⟨by omega, (qob_mk (qisW_sh hw)), (h).elim (fun v2 h => h.elim (fun J1 h => ⟨_, _, h.1, ⟨fun q8 => ⟨(qb_ok true), (h.2.1 q8)⟩, fun q8 => ⟨rfl, ⟨by omega, rfl, ((h.2.2 q8)).elim (fun v4 h => h.elim (fun J3 h => ⟨_, _, h.1, ⟨by omega, (qob_mk (qisW_sh hw)), (h.2).elim (fun v6 h => h.elim (fun J5 h => ⟨_, _, h.1, ⟨fun q7 => (h.2.1 q7), fun q7 => ⟨(qb_ok false), (h.2.2 q7)⟩⟩⟩))⟩⟩))⟩⟩⟩⟩))⟩)
/- 86 PuppetHeirs.family (I)I -/
def qS86 (k pc : Nat) : Option (List Nat) := bif Nat.beq k 86 then (bif Nat.beq pc 75 then some [0] else none) else none
theorem b86_0 {d : Nat} {g : qG1} {I : Nat → Nat → Int32} {Q : qR → Prop} {f f2 : Nat} {x1 : Int32} (hf : qisF f) (hf2 : qisF f2) (wf : g.2.2.1 1 = f) (wf2 : g.2.2.1 2 = f2) (hd : 9 ≤ d)
    (h : ((x1 < 0 → Q (.inr (1, (qw (qgT g) (qup I 64 17 ((I 64 17) + (qj 1))))))) ∧ (¬ (x1 < 0) → (((I 65 1) < x1 → Q (.inr (1, (qw (qgT g) (qup I 64 17 ((I 64 17) + (qj 1))))))) ∧ (¬ ((I 65 1) < x1) → ∃ J1, qRun (d - 1) 72 [.ref 65, .int x1] (qw g I) (.inl (none, (qw g J1))) ∧ (∃ (v3 : Bool) (J2 : _), qRun (d - 1) 17 [.ref f2, .ref 65] (qw g J1) (.inl (some (.int (qb v3)), (qw g J2))) ∧ (((v3 = true → qwq d 86 75 [(0, .ref 64)] [] (qsP (qsP (qw g J2) 64 2 f) 64 1 f2) Q) ∧ (v3 = false → Q (.inl (some (.int ((J2 65 4) - (qj 10))), (qw g J2)))))))))))) :
    qwq d 86 0 [(0, .ref 64), (1, .int x1)] [] (qw g I) Q := by
  subst wf
  subst wf2
  exact qZ_sound qU_ok (N := qN) (S := qS86) 103 true (⟨fun q6 => ⟨by omega, rfl, ⟨fun q => absurd q (by decide : ¬ (¬ (qj 0) = 0)), fun _ => ⟨rfl, ⟨rfl, ⟨by omega, (h.1 q6)⟩⟩⟩⟩⟩, fun q6 => ⟨rfl, ⟨rfl, ⟨fun q5 => ⟨by omega, rfl, ⟨fun q => absurd q (by decide : ¬ (¬ (qj 0) = 0)), fun _ => ⟨rfl, ⟨rfl, ⟨by omega, ((h.2 q6).1 q5)⟩⟩⟩⟩⟩, fun q5 => ⟨by omega, rfl, ⟨fun _ => ⟨rfl, ⟨rfl, ⟨by omega, rfl, (((h.2 q6).2 q5)).elim (fun J1 h => ⟨_, h.1, ⟨rfl, ⟨rfl, ⟨by omega, (qob_mk (qisF_sh hf2)), (h.2).elim (fun v3 h => h.elim (fun J2 h => ⟨_, _, h.1, ⟨fun q4 => ⟨rfl, ⟨rfl, ⟨rfl, ⟨rfl, (h.2.1 (qb_ne0 q4))⟩⟩⟩⟩, fun q4 => ⟨rfl, ⟨rfl, ⟨trivial, (h.2.2 (qb_nne0 q4))⟩⟩⟩⟩⟩))⟩⟩⟩⟩)⟩⟩⟩, fun q => absurd (by decide : ¬ (qj 1) = 0) q⟩⟩⟩⟩⟩⟩)
theorem b86_75 {d : Nat} {g : qG1} {I : Nat → Nat → Int32} {Q : qR → Prop} {f : Nat} (hf : qisF f) (wf : g.2.2.1 1 = f) (hd : 9 ≤ d)
    (h : ∃ J1, qRun (d - 1) 146 [.ref 64] (qw g I) (.inl (none, (qw g J1))) ∧ (Q (.inl (some (.int (J1 f 8)), (qw g J1))))) :
    qwq d 86 75 [(0, .ref 64)] [] (qw g I) Q := by
  subst wf
  exact qZ_sound qU_ok (N := qN) (S := qS86) 46 true (⟨by omega, rfl, (h).elim (fun J1 h => ⟨_, h.1, ⟨rfl, ⟨(qob_mk (qisF_sh hf)), ⟨trivial, h.2⟩⟩⟩⟩)⟩)
/- 87 PuppetHeirs.law (I)I -/
def qS87 (k pc : Nat) : Option (List Nat) := bif Nat.beq k 87 then (bif Nat.beq pc 82 then some [0] else none) else none
theorem b87_0 {d : Nat} {g : qG1} {I : Nat → Nat → Int32} {Q : qR → Prop} {l l2 : Nat} {x1 : Int32} (hl : qisL l) (hl2 : qisL l2) (wl : g.2.2.1 3 = l) (wl2 : g.2.2.1 4 = l2) (hd : 62 ≤ d)
    (h : ((x1 < 0 → Q (.inr (1, (qw (qgT g) (qup I 64 17 ((I 64 17) + (qj 1))))))) ∧ (¬ (x1 < 0) → (((I 65 1) < x1 → Q (.inr (1, (qw (qgT g) (qup I 64 17 ((I 64 17) + (qj 1))))))) ∧ (¬ ((I 65 1) < x1) → (((qj 150) < x1 → Q (.inr (1, (qw (qgT g) (qup I 64 17 ((I 64 17) + (qj 1))))))) ∧ (¬ ((qj 150) < x1) → ∃ J1, qRun (d - 1) 72 [.ref 65, .int x1] (qw g I) (.inl (none, (qw g J1))) ∧ (∃ (v3 : Bool) (J2 : _), qRun (d - 1) 39 [.ref l2, .ref 65] (qw g J1) (.inl (some (.int (qb v3)), (qw g J2))) ∧ (((v3 = true → qwq d 87 82 [(0, .ref 64)] [] (qsP (qsP (qw g J2) 64 4 l) 64 3 l2) Q) ∧ (v3 = false → Q (.inl (some (.int ((J2 65 4) - (qj 10))), (qw g J2)))))))))))))) :
    qwq d 87 0 [(0, .ref 64), (1, .int x1)] [] (qw g I) Q := by
  subst wl
  subst wl2
  exact qZ_sound qU_ok (N := qN) (S := qS87) 117 true (⟨fun q7 => ⟨by omega, rfl, ⟨fun q => absurd q (by decide : ¬ (¬ (qj 0) = 0)), fun _ => ⟨rfl, ⟨rfl, ⟨by omega, (h.1 q7)⟩⟩⟩⟩⟩, fun q7 => ⟨rfl, ⟨rfl, ⟨fun q6 => ⟨by omega, rfl, ⟨fun q => absurd q (by decide : ¬ (¬ (qj 0) = 0)), fun _ => ⟨rfl, ⟨rfl, ⟨by omega, ((h.2 q7).1 q6)⟩⟩⟩⟩⟩, fun q6 => ⟨fun q5 => ⟨by omega, rfl, ⟨fun q => absurd q (by decide : ¬ (¬ (qj 0) = 0)), fun _ => ⟨rfl, ⟨rfl, ⟨by omega, (((h.2 q7).2 q6).1 q5)⟩⟩⟩⟩⟩, fun q5 => ⟨by omega, rfl, ⟨fun _ => ⟨rfl, ⟨rfl, ⟨by omega, rfl, ((((h.2 q7).2 q6).2 q5)).elim (fun J1 h => ⟨_, h.1, ⟨rfl, ⟨rfl, ⟨by omega, (qob_mk (qisL_sh hl2)), (h.2).elim (fun v3 h => h.elim (fun J2 h => ⟨_, _, h.1, ⟨fun q4 => ⟨rfl, ⟨rfl, ⟨rfl, ⟨rfl, (h.2.1 (qb_ne0 q4))⟩⟩⟩⟩, fun q4 => ⟨rfl, ⟨rfl, ⟨trivial, (h.2.2 (qb_nne0 q4))⟩⟩⟩⟩⟩))⟩⟩⟩⟩)⟩⟩⟩, fun q => absurd (by decide : ¬ (qj 1) = 0) q⟩⟩⟩⟩⟩⟩⟩)
theorem b87_82 {d : Nat} {g : qG1} {I : Nat → Nat → Int32} {Q : qR → Prop} (hd : 62 ≤ d)
    (h : ∃ J1, qRun (d - 1) 147 [.ref 64] (qw g I) (.inl (none, (qw g J1))) ∧ (Q (.inl (some (.int (qj 1)), (qw g J1))))) :
    qwq d 87 82 [(0, .ref 64)] [] (qw g I) Q := qZ_sound qU_ok (N := qN) (S := qS87) 44 true (⟨by omega, rfl, (h).elim (fun J1 h => ⟨_, h.1, ⟨trivial, h.2⟩⟩)⟩)
/- 88 PuppetHeirs.book (I)I -/
def qS88 (k pc : Nat) : Option (List Nat) := bif Nat.beq k 88 then (bif Nat.beq pc 86 then some [0] else none) else none
theorem b88_0 {d : Nat} {g : qG1} {I : Nat → Nat → Int32} {Q : qR → Prop} {b b2 f : Nat} {x1 : Int32} (hb : qisB b) (hb2 : qisB b2) (hf : qisF f) (wf : g.2.2.1 1 = f) (wb : g.2.2.1 5 = b) (wb2 : g.2.2.1 6 = b2) (hd : 8 ≤ d)
    (h : ((x1 < 0 → Q (.inr (1, (qw (qgT g) (qup I 64 17 ((I 64 17) + (qj 1))))))) ∧ (¬ (x1 < 0) → (((I 65 1) < x1 → Q (.inr (1, (qw (qgT g) (qup I 64 17 ((I 64 17) + (qj 1))))))) ∧ (¬ ((I 65 1) < x1) → (((qj 150) < x1 → Q (.inr (1, (qw (qgT g) (qup I 64 17 ((I 64 17) + (qj 1))))))) ∧ (¬ ((qj 150) < x1) → ∃ J1, qRun (d - 1) 72 [.ref 65, .int x1] (qw g I) (.inl (none, (qw g J1))) ∧ (∃ (v3 : Bool) (J2 : _), qRun (d - 1) 1 [.ref b2, .ref 65, .ref f] (qw g J1) (.inl (some (.int (qb v3)), (qw g J2))) ∧ (((v3 = true → qwq d 88 86 [(0, .ref 64)] [] (qsP (qsP (qw g J2) 64 6 b) 64 5 b2) Q) ∧ (v3 = false → Q (.inl (some (.int ((J2 65 4) - (qj 10))), (qw g J2)))))))))))))) :
    qwq d 88 0 [(0, .ref 64), (1, .int x1)] [] (qw g I) Q := by
  subst wf
  subst wb
  subst wb2
  exact qZ_sound qU_ok (N := qN) (S := qS88) 119 true (⟨fun q7 => ⟨by omega, rfl, ⟨fun q => absurd q (by decide : ¬ (¬ (qj 0) = 0)), fun _ => ⟨rfl, ⟨rfl, ⟨by omega, (h.1 q7)⟩⟩⟩⟩⟩, fun q7 => ⟨rfl, ⟨rfl, ⟨fun q6 => ⟨by omega, rfl, ⟨fun q => absurd q (by decide : ¬ (¬ (qj 0) = 0)), fun _ => ⟨rfl, ⟨rfl, ⟨by omega, ((h.2 q7).1 q6)⟩⟩⟩⟩⟩, fun q6 => ⟨fun q5 => ⟨by omega, rfl, ⟨fun q => absurd q (by decide : ¬ (¬ (qj 0) = 0)), fun _ => ⟨rfl, ⟨rfl, ⟨by omega, (((h.2 q7).2 q6).1 q5)⟩⟩⟩⟩⟩, fun q5 => ⟨by omega, rfl, ⟨fun _ => ⟨rfl, ⟨rfl, ⟨by omega, rfl, ((((h.2 q7).2 q6).2 q5)).elim (fun J1 h => ⟨_, h.1, ⟨rfl, ⟨rfl, ⟨rfl, ⟨by omega, (qob_mk (qisB_sh hb2)), (h.2).elim (fun v3 h => h.elim (fun J2 h => ⟨_, _, h.1, ⟨fun q4 => ⟨rfl, ⟨rfl, ⟨rfl, ⟨rfl, (h.2.1 (qb_ne0 q4))⟩⟩⟩⟩, fun q4 => ⟨rfl, ⟨rfl, ⟨trivial, (h.2.2 (qb_nne0 q4))⟩⟩⟩⟩⟩))⟩⟩⟩⟩⟩)⟩⟩⟩, fun q => absurd (by decide : ¬ (qj 1) = 0) q⟩⟩⟩⟩⟩⟩⟩)
theorem b88_86 {d : Nat} {g : qG1} {I : Nat → Nat → Int32} {Q : qR → Prop} {b : Nat} (hb : qisB b) (wb : g.2.2.1 5 = b) (hd : 8 ≤ d)
    (h : Q (.inl (some (.int (I b 0)), (qw g I)))) :
    qwq d 88 86 [(0, .ref 64)] [] (qw g I) Q := by
  subst wb
  exact qZ_sound qU_ok (N := qN) (S := qS88) 44 true (⟨rfl, ⟨(qob_mk (qisB_sh hb)), ⟨trivial, h⟩⟩⟩)
/- 136 PuppetHeirs.image ()I -/
def qS136 (_ _ : Nat) : Option (List Nat) := none
theorem b136_0 {d : Nat} {g : qG1} {I : Nat → Nat → Int32} {Q : qR → Prop} (hd : 2 ≤ d)
    (h : (((I 64 12) < 0 → Q (.inl (some (.int (qj (-1))), (qw g I)))) ∧ (¬ ((I 64 12) < 0) → (((I 64 12) < (qj 3) → qIx (I 64 12) 3 ∧ (qisS (qPf g.2.2.1 187 (I 64 12).toNatClampNeg) ∧ (∃ J2, qRun (d - 1) 53 [.ref (qPf g.2.2.1 187 (I 64 12).toNatClampNeg), .ref 139] (qw g I) (.inl (none, (qw g J2))) ∧ (Q (.inl (some (.int ((J2 64 12) + (qj 1))), (qw g (qup J2 64 12 ((J2 64 12) + (qj 1)))))))))) ∧ (¬ ((I 64 12) < (qj 3)) → Q (.inl (some (.int (qj (-1))), (qw g I)))))))) :
    qwq d 136 0 [(0, .ref 64)] [] (qw g I) Q := qZ_sound qU_ok (N := qN) (S := qS136) 68 true (⟨rfl, ⟨fun q4 => ⟨trivial, (h.1 q4)⟩, fun q4 => ⟨rfl, ⟨fun q3 => ⟨rfl, ⟨rfl, (((h.2 q4).1 q3)).elim (fun c1 h => ⟨(qinA_mk5 rfl c1), ⟨rfl, ⟨by omega, (h).elim (fun co h => ⟨(qob_mk (qisS_sh co)), (h).elim (fun J2 h => ⟨_, h.1, ⟨rfl, ⟨rfl, ⟨rfl, ⟨trivial, h.2⟩⟩⟩⟩⟩)⟩)⟩⟩⟩)⟩⟩, fun q3 => ⟨trivial, ((h.2 q4).2 q3)⟩⟩⟩⟩⟩)
/- 137 PuppetHeirs.restore ()I -/
def qS137 (_ _ : Nat) : Option (List Nat) := none
theorem b137_0 {d : Nat} {g : qG1} {I : Nat → Nat → Int32} {Q : qR → Prop} (hd : 3 ≤ d)
    (h : (((I 64 12) ≤ 0 → Q (.inl (some (.int (qj (-1))), (qw g I)))) ∧ (¬ ((I 64 12) ≤ 0) → (((I 64 12) ≤ (qj 3) → qIx ((I 64 12) - (qj 1)) 3 ∧ (∃ J2, qRun (d - 1) 53 [.ref 139, .ref (qPf g.2.2.1 187 ((I 64 12) - (qj 1)).toNatClampNeg)] (qw g (qup I 64 12 ((I 64 12) - (qj 1)))) (.inl (none, (qw g J2))) ∧ (∃ J3, qRun (d - 1) 147 [.ref 64] (qw g J2) (.inl (none, (qw g J3))) ∧ (Q (.inl (some (.int (J3 64 12)), (qw g J3))))))) ∧ (¬ ((I 64 12) ≤ (qj 3)) → Q (.inl (some (.int (qj (-1))), (qw g I)))))))) :
    qwq d 137 0 [(0, .ref 64)] [] (qw g I) Q := qZ_sound qU_ok (N := qN) (S := qS137) 70 true (⟨rfl, ⟨fun q5 => ⟨trivial, (h.1 q5)⟩, fun q5 => ⟨rfl, ⟨fun q4 => ⟨rfl, ⟨rfl, ⟨rfl, ⟨rfl, ⟨rfl, (((h.2 q5).1 q4)).elim (fun c1 h => ⟨(qinA_mk5 rfl c1), ⟨by omega, rfl, (h).elim (fun J2 h => ⟨_, h.1, ⟨by omega, rfl, (h.2).elim (fun J3 h => ⟨_, h.1, ⟨rfl, ⟨trivial, h.2⟩⟩⟩)⟩⟩)⟩⟩)⟩⟩⟩⟩⟩, fun q4 => ⟨trivial, ((h.2 q5).2 q4)⟩⟩⟩⟩⟩)
