/-! ===== blocks, by program (wip/whole/gen/mkS.py): the constants' texts, their lengths and characters ===== -/
theorem qarr_mk12 {M : qM} {a n : Nat} (h : qsh M a = (12, n)) : qarr M a := by unfold qarr; rw [h]; exact Or.inr (Or.inr (Or.inr (Or.inr (Or.inr (Or.inr rfl)))))
theorem qinB_mk12 {M : qM} {a n : Nat} {y : Int32} (h : qsh M a = (12, n)) (hy : qIx y n) : qin M 2 a y ∨ qin M 12 a y := by unfold qin; rw [h]; exact Or.inr ⟨rfl, hy.1, hy.2⟩
/- 302 java/lang/String.coder ()B -/
def qS302 (_ _ : Nat) : Option (List Nat) := none
theorem b302_0 {d : Nat} {g : qG1} {I : Nat → Nat → Int32} {Q : qR → Prop} {w : Nat} (hw : qisW w) (hd : 1 ≤ d)
    (h : qok (some .byte) (I w 1) ∧ (Q (.inl (some (.int (I w 1)), (qw g I))))) :
    qwq d 302 0 [(0, .ref w)] [] (qw g I) Q := by
  exact qZ_sound qU_ok (N := qN) (S := qS302) 46 true (⟨fun q => absurd q (by decide : ¬ ((qj 1) = 0)), fun _ => ⟨(qob_mk (qisW_sh hw)), (h).elim (fun c1 h => ⟨c1, h⟩)⟩⟩)
/- 303 java/lang/String.isLatin1 ()Z -/
def qS303 (_ _ : Nat) : Option (List Nat) := none
theorem b303_0 {d : Nat} {g : qG1} {I : Nat → Nat → Int32} {Q : qR → Prop} {w : Nat} (hw : qisW w) (hd : 1 ≤ d)
    (h : ((¬ (I w 1) = 0 → Q (.inl (some (.int (qb false)), (qw g I)))) ∧ (¬ (¬ (I w 1) = 0) → Q (.inl (some (.int (qb true)), (qw g I)))))) :
    qwq d 303 0 [(0, .ref w)] [] (qw g I) Q := by
  exact qZ_sound qU_ok (N := qN) (S := qS303) 50 true (⟨fun q => absurd q (by decide : ¬ ((qj 1) = 0)), fun _ => ⟨(qob_mk (qisW_sh hw)), ⟨fun q1 => ⟨(qb_ok false), (h.1 q1)⟩, fun q1 => ⟨(qb_ok true), (h.2 q1)⟩⟩⟩⟩)
/- 306 jdk/internal/util/Preconditions.checkIndex (IILjava/util/function/BiFunction;)I -/
def qS306 (_ _ : Nat) : Option (List Nat) := none
theorem b306_0 {d : Nat} {g : qG1} {I : Nat → Nat → Int32} {Q : qR → Prop} {x0 x1 : Int32} (hd : 1 ≤ d)
    (h : ((x0 < 0 → False) ∧ (¬ (x0 < 0) → ((x0 < x1 → Q (.inl (some (.int x0), (qw g I)))) ∧ (¬ (x0 < x1) → False))))) :
    qwq d 306 0 [(0, .int x0), (1, .int x1), (2, .ref (g.2.2.1 1000))] [] (qw g I) Q := qZ_sound qU_ok (N := qN) (S := qS306) 55 true (⟨fun q2 => ((h.1 q2)).elim, fun q2 => ⟨fun q1 => ⟨trivial, ((h.2 q2).1 q1)⟩, fun q1 => (((h.2 q2).2 q1)).elim⟩⟩)
/- 304 java/lang/String.checkIndex (II)V -/
def qS304 (_ _ : Nat) : Option (List Nat) := none
theorem b304_0 {d : Nat} {g : qG1} {I : Nat → Nat → Int32} {Q : qR → Prop} {x0 x1 : Int32} (hd : 2 ≤ d)
    (h : ∃ (v2 : Int32) (J1 : _), qRun (d - 1) 306 [.int x0, .int x1, .ref (g.2.2.1 1000)] (qw g I) (.inl (some (.int v2), (qw g J1))) ∧ (Q (.inl (none, (qw g J1))))) :
    qwq d 304 0 [(0, .int x0), (1, .int x1)] [] (qw g I) Q := qZ_sound qU_ok (N := qN) (S := qS304) 46 true (⟨by omega, (h).elim (fun v2 h => h.elim (fun J1 h => ⟨_, _, h.1, ⟨rfl, h.2⟩⟩))⟩)
/- 300 java/lang/String.length ()I -/
def qS300 (_ _ : Nat) : Option (List Nat) := none
theorem b300w0_0 {d : Nat} {g : qG1} {I : Nat → Nat → Int32} {Q : qR → Prop} (hd : 2 ≤ d)
    (h : ∃ (v2 : Int32) (J1 : _), qRun (d - 1) 302 [.ref 10] (qw g I) (.inl (some (.int v2), (qw g J1))) ∧ (Q (.inl (some (.int ((qj 4) >>> (v2 &&& 31))), (qw g J1))))) :
    qwq d 300 0 [(0, .ref 10)] [] (qw g I) Q := qZ_sound qU_ok (N := qN) (S := qS300) 47 true (⟨rfl, ⟨(qarr_mk12 rfl), ⟨by omega, rfl, (h).elim (fun v2 h => h.elim (fun J1 h => ⟨_, _, h.1, ⟨trivial, h.2⟩⟩))⟩⟩⟩)
/- 301 java/lang/String.charAt (I)C -/
def qS301 (_ _ : Nat) : Option (List Nat) := none
theorem b301w0_0 {d : Nat} {g : qG1} {I : Nat → Nat → Int32} {Q : qR → Prop} {x1 : Int32} (hd : 4 ≤ d)
    (h : ∃ (v2 : Bool) (J1 : _), qRun (d - 1) 303 [.ref 10] (qw g I) (.inl (some (.int (qb v2)), (qw g J1))) ∧ (((v2 = false → False) ∧ (v2 = true → ∃ (v4 : Int32) (J3 : _), qRun (d - 1) 305 [.ref 30, .int x1] (qw g J1) (.inl (some (.int v4), (qw g J3))) ∧ (qok (some .char) v4 ∧ (Q (.inl (some (.int v4), (qw g J3))))))))) :
    qwq d 301 0 [(0, .ref 10), (1, .int x1)] [] (qw g I) Q := qZ_sound qU_ok (N := qN) (S := qS301) 52 true (⟨by omega, rfl, (h).elim (fun v2 h => h.elim (fun J1 h => ⟨_, _, h.1, ⟨fun q6 => ⟨rfl, ((h.2.1 (qb_eq0 q6))).elim⟩, fun q6 => ⟨rfl, ⟨by omega, ((h.2.2 (qb_ne0 q6))).elim (fun v4 h => h.elim (fun J3 h => ⟨_, _, h.1, (h.2).elim (fun c5 h => ⟨c5, h⟩)⟩))⟩⟩⟩⟩))⟩)
/- 305 java/lang/StringLatin1.charAt ([BI)C -/
def qS305 (_ _ : Nat) : Option (List Nat) := none
theorem b305w0_0 {d : Nat} {g : qG1} {I : Nat → Nat → Int32} {Q : qR → Prop} {x1 : Int32} (hd : 3 ≤ d)
    (h : ∃ J1, qRun (d - 1) 304 [.int x1, .int (qj 4)] (qw g I) (.inl (none, (qw g J1))) ∧ (qIx x1 4 ∧ (qok (some .char) (((J1 30 x1.toNatClampNeg) &&& (qj 255)).toUInt32 % 65536).toInt32 ∧ (Q (.inl (some (.int (((J1 30 x1.toNatClampNeg) &&& (qj 255)).toUInt32 % 65536).toInt32), (qw g J1))))))) :
    qwq d 305 0 [(0, .ref 30), (1, .int x1)] [] (qw g I) Q := qZ_sound qU_ok (N := qN) (S := qS305) 51 true (⟨(qarr_mk12 rfl), ⟨by omega, (h).elim (fun J1 h => ⟨_, h.1, (h.2).elim (fun c2 h => ⟨(qinB_mk12 rfl c2), (h).elim (fun c3 h => ⟨c3, h⟩)⟩)⟩)⟩⟩)
/- 300 java/lang/String.length ()I -/
theorem b300w1_0 {d : Nat} {g : qG1} {I : Nat → Nat → Int32} {Q : qR → Prop} (hd : 2 ≤ d)
    (h : ∃ (v2 : Int32) (J1 : _), qRun (d - 1) 302 [.ref 11] (qw g I) (.inl (some (.int v2), (qw g J1))) ∧ (Q (.inl (some (.int ((qj 6) >>> (v2 &&& 31))), (qw g J1))))) :
    qwq d 300 0 [(0, .ref 11)] [] (qw g I) Q := qZ_sound qU_ok (N := qN) (S := qS300) 47 true (⟨rfl, ⟨(qarr_mk12 rfl), ⟨by omega, rfl, (h).elim (fun v2 h => h.elim (fun J1 h => ⟨_, _, h.1, ⟨trivial, h.2⟩⟩))⟩⟩⟩)
/- 301 java/lang/String.charAt (I)C -/
theorem b301w1_0 {d : Nat} {g : qG1} {I : Nat → Nat → Int32} {Q : qR → Prop} {x1 : Int32} (hd : 4 ≤ d)
    (h : ∃ (v2 : Bool) (J1 : _), qRun (d - 1) 303 [.ref 11] (qw g I) (.inl (some (.int (qb v2)), (qw g J1))) ∧ (((v2 = false → False) ∧ (v2 = true → ∃ (v4 : Int32) (J3 : _), qRun (d - 1) 305 [.ref 31, .int x1] (qw g J1) (.inl (some (.int v4), (qw g J3))) ∧ (qok (some .char) v4 ∧ (Q (.inl (some (.int v4), (qw g J3))))))))) :
    qwq d 301 0 [(0, .ref 11), (1, .int x1)] [] (qw g I) Q := qZ_sound qU_ok (N := qN) (S := qS301) 52 true (⟨by omega, rfl, (h).elim (fun v2 h => h.elim (fun J1 h => ⟨_, _, h.1, ⟨fun q6 => ⟨rfl, ((h.2.1 (qb_eq0 q6))).elim⟩, fun q6 => ⟨rfl, ⟨by omega, ((h.2.2 (qb_ne0 q6))).elim (fun v4 h => h.elim (fun J3 h => ⟨_, _, h.1, (h.2).elim (fun c5 h => ⟨c5, h⟩)⟩))⟩⟩⟩⟩))⟩)
/- 305 java/lang/StringLatin1.charAt ([BI)C -/
theorem b305w1_0 {d : Nat} {g : qG1} {I : Nat → Nat → Int32} {Q : qR → Prop} {x1 : Int32} (hd : 3 ≤ d)
    (h : ∃ J1, qRun (d - 1) 304 [.int x1, .int (qj 6)] (qw g I) (.inl (none, (qw g J1))) ∧ (qIx x1 6 ∧ (qok (some .char) (((J1 31 x1.toNatClampNeg) &&& (qj 255)).toUInt32 % 65536).toInt32 ∧ (Q (.inl (some (.int (((J1 31 x1.toNatClampNeg) &&& (qj 255)).toUInt32 % 65536).toInt32), (qw g J1))))))) :
    qwq d 305 0 [(0, .ref 31), (1, .int x1)] [] (qw g I) Q := qZ_sound qU_ok (N := qN) (S := qS305) 51 true (⟨(qarr_mk12 rfl), ⟨by omega, (h).elim (fun J1 h => ⟨_, h.1, (h.2).elim (fun c2 h => ⟨(qinB_mk12 rfl c2), (h).elim (fun c3 h => ⟨c3, h⟩)⟩)⟩)⟩⟩)
/- 300 java/lang/String.length ()I -/
theorem b300w2_0 {d : Nat} {g : qG1} {I : Nat → Nat → Int32} {Q : qR → Prop} (hd : 2 ≤ d)
    (h : ∃ (v2 : Int32) (J1 : _), qRun (d - 1) 302 [.ref 12] (qw g I) (.inl (some (.int v2), (qw g J1))) ∧ (Q (.inl (some (.int ((qj 5) >>> (v2 &&& 31))), (qw g J1))))) :
    qwq d 300 0 [(0, .ref 12)] [] (qw g I) Q := qZ_sound qU_ok (N := qN) (S := qS300) 47 true (⟨rfl, ⟨(qarr_mk12 rfl), ⟨by omega, rfl, (h).elim (fun v2 h => h.elim (fun J1 h => ⟨_, _, h.1, ⟨trivial, h.2⟩⟩))⟩⟩⟩)
/- 301 java/lang/String.charAt (I)C -/
theorem b301w2_0 {d : Nat} {g : qG1} {I : Nat → Nat → Int32} {Q : qR → Prop} {x1 : Int32} (hd : 4 ≤ d)
    (h : ∃ (v2 : Bool) (J1 : _), qRun (d - 1) 303 [.ref 12] (qw g I) (.inl (some (.int (qb v2)), (qw g J1))) ∧ (((v2 = false → False) ∧ (v2 = true → ∃ (v4 : Int32) (J3 : _), qRun (d - 1) 305 [.ref 32, .int x1] (qw g J1) (.inl (some (.int v4), (qw g J3))) ∧ (qok (some .char) v4 ∧ (Q (.inl (some (.int v4), (qw g J3))))))))) :
    qwq d 301 0 [(0, .ref 12), (1, .int x1)] [] (qw g I) Q := qZ_sound qU_ok (N := qN) (S := qS301) 52 true (⟨by omega, rfl, (h).elim (fun v2 h => h.elim (fun J1 h => ⟨_, _, h.1, ⟨fun q6 => ⟨rfl, ((h.2.1 (qb_eq0 q6))).elim⟩, fun q6 => ⟨rfl, ⟨by omega, ((h.2.2 (qb_ne0 q6))).elim (fun v4 h => h.elim (fun J3 h => ⟨_, _, h.1, (h.2).elim (fun c5 h => ⟨c5, h⟩)⟩))⟩⟩⟩⟩))⟩)
/- 305 java/lang/StringLatin1.charAt ([BI)C -/
theorem b305w2_0 {d : Nat} {g : qG1} {I : Nat → Nat → Int32} {Q : qR → Prop} {x1 : Int32} (hd : 3 ≤ d)
    (h : ∃ J1, qRun (d - 1) 304 [.int x1, .int (qj 5)] (qw g I) (.inl (none, (qw g J1))) ∧ (qIx x1 5 ∧ (qok (some .char) (((J1 32 x1.toNatClampNeg) &&& (qj 255)).toUInt32 % 65536).toInt32 ∧ (Q (.inl (some (.int (((J1 32 x1.toNatClampNeg) &&& (qj 255)).toUInt32 % 65536).toInt32), (qw g J1))))))) :
    qwq d 305 0 [(0, .ref 32), (1, .int x1)] [] (qw g I) Q := qZ_sound qU_ok (N := qN) (S := qS305) 51 true (⟨(qarr_mk12 rfl), ⟨by omega, (h).elim (fun J1 h => ⟨_, h.1, (h.2).elim (fun c2 h => ⟨(qinB_mk12 rfl c2), (h).elim (fun c3 h => ⟨c3, h⟩)⟩)⟩)⟩⟩)
/- 300 java/lang/String.length ()I -/
theorem b300w3_0 {d : Nat} {g : qG1} {I : Nat → Nat → Int32} {Q : qR → Prop} (hd : 2 ≤ d)
    (h : ∃ (v2 : Int32) (J1 : _), qRun (d - 1) 302 [.ref 13] (qw g I) (.inl (some (.int v2), (qw g J1))) ∧ (Q (.inl (some (.int ((qj 7) >>> (v2 &&& 31))), (qw g J1))))) :
    qwq d 300 0 [(0, .ref 13)] [] (qw g I) Q := qZ_sound qU_ok (N := qN) (S := qS300) 47 true (⟨rfl, ⟨(qarr_mk12 rfl), ⟨by omega, rfl, (h).elim (fun v2 h => h.elim (fun J1 h => ⟨_, _, h.1, ⟨trivial, h.2⟩⟩))⟩⟩⟩)
/- 301 java/lang/String.charAt (I)C -/
theorem b301w3_0 {d : Nat} {g : qG1} {I : Nat → Nat → Int32} {Q : qR → Prop} {x1 : Int32} (hd : 4 ≤ d)
    (h : ∃ (v2 : Bool) (J1 : _), qRun (d - 1) 303 [.ref 13] (qw g I) (.inl (some (.int (qb v2)), (qw g J1))) ∧ (((v2 = false → False) ∧ (v2 = true → ∃ (v4 : Int32) (J3 : _), qRun (d - 1) 305 [.ref 33, .int x1] (qw g J1) (.inl (some (.int v4), (qw g J3))) ∧ (qok (some .char) v4 ∧ (Q (.inl (some (.int v4), (qw g J3))))))))) :
    qwq d 301 0 [(0, .ref 13), (1, .int x1)] [] (qw g I) Q := qZ_sound qU_ok (N := qN) (S := qS301) 52 true (⟨by omega, rfl, (h).elim (fun v2 h => h.elim (fun J1 h => ⟨_, _, h.1, ⟨fun q6 => ⟨rfl, ((h.2.1 (qb_eq0 q6))).elim⟩, fun q6 => ⟨rfl, ⟨by omega, ((h.2.2 (qb_ne0 q6))).elim (fun v4 h => h.elim (fun J3 h => ⟨_, _, h.1, (h.2).elim (fun c5 h => ⟨c5, h⟩)⟩))⟩⟩⟩⟩))⟩)
/- 305 java/lang/StringLatin1.charAt ([BI)C -/
theorem b305w3_0 {d : Nat} {g : qG1} {I : Nat → Nat → Int32} {Q : qR → Prop} {x1 : Int32} (hd : 3 ≤ d)
    (h : ∃ J1, qRun (d - 1) 304 [.int x1, .int (qj 7)] (qw g I) (.inl (none, (qw g J1))) ∧ (qIx x1 7 ∧ (qok (some .char) (((J1 33 x1.toNatClampNeg) &&& (qj 255)).toUInt32 % 65536).toInt32 ∧ (Q (.inl (some (.int (((J1 33 x1.toNatClampNeg) &&& (qj 255)).toUInt32 % 65536).toInt32), (qw g J1))))))) :
    qwq d 305 0 [(0, .ref 33), (1, .int x1)] [] (qw g I) Q := qZ_sound qU_ok (N := qN) (S := qS305) 51 true (⟨(qarr_mk12 rfl), ⟨by omega, (h).elim (fun J1 h => ⟨_, h.1, (h.2).elim (fun c2 h => ⟨(qinB_mk12 rfl c2), (h).elim (fun c3 h => ⟨c3, h⟩)⟩)⟩)⟩⟩)
/- 300 java/lang/String.length ()I -/
theorem b300w4_0 {d : Nat} {g : qG1} {I : Nat → Nat → Int32} {Q : qR → Prop} (hd : 2 ≤ d)
    (h : ∃ (v2 : Int32) (J1 : _), qRun (d - 1) 302 [.ref 14] (qw g I) (.inl (some (.int v2), (qw g J1))) ∧ (Q (.inl (some (.int ((qj 6) >>> (v2 &&& 31))), (qw g J1))))) :
    qwq d 300 0 [(0, .ref 14)] [] (qw g I) Q := qZ_sound qU_ok (N := qN) (S := qS300) 47 true (⟨rfl, ⟨(qarr_mk12 rfl), ⟨by omega, rfl, (h).elim (fun v2 h => h.elim (fun J1 h => ⟨_, _, h.1, ⟨trivial, h.2⟩⟩))⟩⟩⟩)
/- 301 java/lang/String.charAt (I)C -/
theorem b301w4_0 {d : Nat} {g : qG1} {I : Nat → Nat → Int32} {Q : qR → Prop} {x1 : Int32} (hd : 4 ≤ d)
    (h : ∃ (v2 : Bool) (J1 : _), qRun (d - 1) 303 [.ref 14] (qw g I) (.inl (some (.int (qb v2)), (qw g J1))) ∧ (((v2 = false → False) ∧ (v2 = true → ∃ (v4 : Int32) (J3 : _), qRun (d - 1) 305 [.ref 34, .int x1] (qw g J1) (.inl (some (.int v4), (qw g J3))) ∧ (qok (some .char) v4 ∧ (Q (.inl (some (.int v4), (qw g J3))))))))) :
    qwq d 301 0 [(0, .ref 14), (1, .int x1)] [] (qw g I) Q := qZ_sound qU_ok (N := qN) (S := qS301) 52 true (⟨by omega, rfl, (h).elim (fun v2 h => h.elim (fun J1 h => ⟨_, _, h.1, ⟨fun q6 => ⟨rfl, ((h.2.1 (qb_eq0 q6))).elim⟩, fun q6 => ⟨rfl, ⟨by omega, ((h.2.2 (qb_ne0 q6))).elim (fun v4 h => h.elim (fun J3 h => ⟨_, _, h.1, (h.2).elim (fun c5 h => ⟨c5, h⟩)⟩))⟩⟩⟩⟩))⟩)
/- 305 java/lang/StringLatin1.charAt ([BI)C -/
theorem b305w4_0 {d : Nat} {g : qG1} {I : Nat → Nat → Int32} {Q : qR → Prop} {x1 : Int32} (hd : 3 ≤ d)
    (h : ∃ J1, qRun (d - 1) 304 [.int x1, .int (qj 6)] (qw g I) (.inl (none, (qw g J1))) ∧ (qIx x1 6 ∧ (qok (some .char) (((J1 34 x1.toNatClampNeg) &&& (qj 255)).toUInt32 % 65536).toInt32 ∧ (Q (.inl (some (.int (((J1 34 x1.toNatClampNeg) &&& (qj 255)).toUInt32 % 65536).toInt32), (qw g J1))))))) :
    qwq d 305 0 [(0, .ref 34), (1, .int x1)] [] (qw g I) Q := qZ_sound qU_ok (N := qN) (S := qS305) 51 true (⟨(qarr_mk12 rfl), ⟨by omega, (h).elim (fun J1 h => ⟨_, h.1, (h.2).elim (fun c2 h => ⟨(qinB_mk12 rfl c2), (h).elim (fun c3 h => ⟨c3, h⟩)⟩)⟩)⟩⟩)
/- 300 java/lang/String.length ()I -/
theorem b300w5_0 {d : Nat} {g : qG1} {I : Nat → Nat → Int32} {Q : qR → Prop} (hd : 2 ≤ d)
    (h : ∃ (v2 : Int32) (J1 : _), qRun (d - 1) 302 [.ref 15] (qw g I) (.inl (some (.int v2), (qw g J1))) ∧ (Q (.inl (some (.int ((qj 3) >>> (v2 &&& 31))), (qw g J1))))) :
    qwq d 300 0 [(0, .ref 15)] [] (qw g I) Q := qZ_sound qU_ok (N := qN) (S := qS300) 47 true (⟨rfl, ⟨(qarr_mk12 rfl), ⟨by omega, rfl, (h).elim (fun v2 h => h.elim (fun J1 h => ⟨_, _, h.1, ⟨trivial, h.2⟩⟩))⟩⟩⟩)
/- 301 java/lang/String.charAt (I)C -/
theorem b301w5_0 {d : Nat} {g : qG1} {I : Nat → Nat → Int32} {Q : qR → Prop} {x1 : Int32} (hd : 4 ≤ d)
    (h : ∃ (v2 : Bool) (J1 : _), qRun (d - 1) 303 [.ref 15] (qw g I) (.inl (some (.int (qb v2)), (qw g J1))) ∧ (((v2 = false → False) ∧ (v2 = true → ∃ (v4 : Int32) (J3 : _), qRun (d - 1) 305 [.ref 35, .int x1] (qw g J1) (.inl (some (.int v4), (qw g J3))) ∧ (qok (some .char) v4 ∧ (Q (.inl (some (.int v4), (qw g J3))))))))) :
    qwq d 301 0 [(0, .ref 15), (1, .int x1)] [] (qw g I) Q := qZ_sound qU_ok (N := qN) (S := qS301) 52 true (⟨by omega, rfl, (h).elim (fun v2 h => h.elim (fun J1 h => ⟨_, _, h.1, ⟨fun q6 => ⟨rfl, ((h.2.1 (qb_eq0 q6))).elim⟩, fun q6 => ⟨rfl, ⟨by omega, ((h.2.2 (qb_ne0 q6))).elim (fun v4 h => h.elim (fun J3 h => ⟨_, _, h.1, (h.2).elim (fun c5 h => ⟨c5, h⟩)⟩))⟩⟩⟩⟩))⟩)
/- 305 java/lang/StringLatin1.charAt ([BI)C -/
theorem b305w5_0 {d : Nat} {g : qG1} {I : Nat → Nat → Int32} {Q : qR → Prop} {x1 : Int32} (hd : 3 ≤ d)
    (h : ∃ J1, qRun (d - 1) 304 [.int x1, .int (qj 3)] (qw g I) (.inl (none, (qw g J1))) ∧ (qIx x1 3 ∧ (qok (some .char) (((J1 35 x1.toNatClampNeg) &&& (qj 255)).toUInt32 % 65536).toInt32 ∧ (Q (.inl (some (.int (((J1 35 x1.toNatClampNeg) &&& (qj 255)).toUInt32 % 65536).toInt32), (qw g J1))))))) :
    qwq d 305 0 [(0, .ref 35), (1, .int x1)] [] (qw g I) Q := qZ_sound qU_ok (N := qN) (S := qS305) 51 true (⟨(qarr_mk12 rfl), ⟨by omega, (h).elim (fun J1 h => ⟨_, h.1, (h.2).elim (fun c2 h => ⟨(qinB_mk12 rfl c2), (h).elim (fun c3 h => ⟨c3, h⟩)⟩)⟩)⟩⟩)
/- 300 java/lang/String.length ()I -/
theorem b300w6_0 {d : Nat} {g : qG1} {I : Nat → Nat → Int32} {Q : qR → Prop} (hd : 2 ≤ d)
    (h : ∃ (v2 : Int32) (J1 : _), qRun (d - 1) 302 [.ref 16] (qw g I) (.inl (some (.int v2), (qw g J1))) ∧ (Q (.inl (some (.int ((qj 4) >>> (v2 &&& 31))), (qw g J1))))) :
    qwq d 300 0 [(0, .ref 16)] [] (qw g I) Q := qZ_sound qU_ok (N := qN) (S := qS300) 47 true (⟨rfl, ⟨(qarr_mk12 rfl), ⟨by omega, rfl, (h).elim (fun v2 h => h.elim (fun J1 h => ⟨_, _, h.1, ⟨trivial, h.2⟩⟩))⟩⟩⟩)
/- 301 java/lang/String.charAt (I)C -/
theorem b301w6_0 {d : Nat} {g : qG1} {I : Nat → Nat → Int32} {Q : qR → Prop} {x1 : Int32} (hd : 4 ≤ d)
    (h : ∃ (v2 : Bool) (J1 : _), qRun (d - 1) 303 [.ref 16] (qw g I) (.inl (some (.int (qb v2)), (qw g J1))) ∧ (((v2 = false → False) ∧ (v2 = true → ∃ (v4 : Int32) (J3 : _), qRun (d - 1) 305 [.ref 36, .int x1] (qw g J1) (.inl (some (.int v4), (qw g J3))) ∧ (qok (some .char) v4 ∧ (Q (.inl (some (.int v4), (qw g J3))))))))) :
    qwq d 301 0 [(0, .ref 16), (1, .int x1)] [] (qw g I) Q := qZ_sound qU_ok (N := qN) (S := qS301) 52 true (⟨by omega, rfl, (h).elim (fun v2 h => h.elim (fun J1 h => ⟨_, _, h.1, ⟨fun q6 => ⟨rfl, ((h.2.1 (qb_eq0 q6))).elim⟩, fun q6 => ⟨rfl, ⟨by omega, ((h.2.2 (qb_ne0 q6))).elim (fun v4 h => h.elim (fun J3 h => ⟨_, _, h.1, (h.2).elim (fun c5 h => ⟨c5, h⟩)⟩))⟩⟩⟩⟩))⟩)
/- 305 java/lang/StringLatin1.charAt ([BI)C -/
theorem b305w6_0 {d : Nat} {g : qG1} {I : Nat → Nat → Int32} {Q : qR → Prop} {x1 : Int32} (hd : 3 ≤ d)
    (h : ∃ J1, qRun (d - 1) 304 [.int x1, .int (qj 4)] (qw g I) (.inl (none, (qw g J1))) ∧ (qIx x1 4 ∧ (qok (some .char) (((J1 36 x1.toNatClampNeg) &&& (qj 255)).toUInt32 % 65536).toInt32 ∧ (Q (.inl (some (.int (((J1 36 x1.toNatClampNeg) &&& (qj 255)).toUInt32 % 65536).toInt32), (qw g J1))))))) :
    qwq d 305 0 [(0, .ref 36), (1, .int x1)] [] (qw g I) Q := qZ_sound qU_ok (N := qN) (S := qS305) 51 true (⟨(qarr_mk12 rfl), ⟨by omega, (h).elim (fun J1 h => ⟨_, h.1, (h.2).elim (fun c2 h => ⟨(qinB_mk12 rfl c2), (h).elim (fun c3 h => ⟨c3, h⟩)⟩)⟩)⟩⟩)
/- 300 java/lang/String.length ()I -/
theorem b300w7_0 {d : Nat} {g : qG1} {I : Nat → Nat → Int32} {Q : qR → Prop} (hd : 2 ≤ d)
    (h : ∃ (v2 : Int32) (J1 : _), qRun (d - 1) 302 [.ref 17] (qw g I) (.inl (some (.int v2), (qw g J1))) ∧ (Q (.inl (some (.int ((qj 4) >>> (v2 &&& 31))), (qw g J1))))) :
    qwq d 300 0 [(0, .ref 17)] [] (qw g I) Q := qZ_sound qU_ok (N := qN) (S := qS300) 47 true (⟨rfl, ⟨(qarr_mk12 rfl), ⟨by omega, rfl, (h).elim (fun v2 h => h.elim (fun J1 h => ⟨_, _, h.1, ⟨trivial, h.2⟩⟩))⟩⟩⟩)
/- 301 java/lang/String.charAt (I)C -/
theorem b301w7_0 {d : Nat} {g : qG1} {I : Nat → Nat → Int32} {Q : qR → Prop} {x1 : Int32} (hd : 4 ≤ d)
    (h : ∃ (v2 : Bool) (J1 : _), qRun (d - 1) 303 [.ref 17] (qw g I) (.inl (some (.int (qb v2)), (qw g J1))) ∧ (((v2 = false → False) ∧ (v2 = true → ∃ (v4 : Int32) (J3 : _), qRun (d - 1) 305 [.ref 37, .int x1] (qw g J1) (.inl (some (.int v4), (qw g J3))) ∧ (qok (some .char) v4 ∧ (Q (.inl (some (.int v4), (qw g J3))))))))) :
    qwq d 301 0 [(0, .ref 17), (1, .int x1)] [] (qw g I) Q := qZ_sound qU_ok (N := qN) (S := qS301) 52 true (⟨by omega, rfl, (h).elim (fun v2 h => h.elim (fun J1 h => ⟨_, _, h.1, ⟨fun q6 => ⟨rfl, ((h.2.1 (qb_eq0 q6))).elim⟩, fun q6 => ⟨rfl, ⟨by omega, ((h.2.2 (qb_ne0 q6))).elim (fun v4 h => h.elim (fun J3 h => ⟨_, _, h.1, (h.2).elim (fun c5 h => ⟨c5, h⟩)⟩))⟩⟩⟩⟩))⟩)
/- 305 java/lang/StringLatin1.charAt ([BI)C -/
theorem b305w7_0 {d : Nat} {g : qG1} {I : Nat → Nat → Int32} {Q : qR → Prop} {x1 : Int32} (hd : 3 ≤ d)
    (h : ∃ J1, qRun (d - 1) 304 [.int x1, .int (qj 4)] (qw g I) (.inl (none, (qw g J1))) ∧ (qIx x1 4 ∧ (qok (some .char) (((J1 37 x1.toNatClampNeg) &&& (qj 255)).toUInt32 % 65536).toInt32 ∧ (Q (.inl (some (.int (((J1 37 x1.toNatClampNeg) &&& (qj 255)).toUInt32 % 65536).toInt32), (qw g J1))))))) :
    qwq d 305 0 [(0, .ref 37), (1, .int x1)] [] (qw g I) Q := qZ_sound qU_ok (N := qN) (S := qS305) 51 true (⟨(qarr_mk12 rfl), ⟨by omega, (h).elim (fun J1 h => ⟨_, h.1, (h.2).elim (fun c2 h => ⟨(qinB_mk12 rfl c2), (h).elim (fun c3 h => ⟨c3, h⟩)⟩)⟩)⟩⟩)
/- 300 java/lang/String.length ()I -/
theorem b300w8_0 {d : Nat} {g : qG1} {I : Nat → Nat → Int32} {Q : qR → Prop} (hd : 2 ≤ d)
    (h : ∃ (v2 : Int32) (J1 : _), qRun (d - 1) 302 [.ref 18] (qw g I) (.inl (some (.int v2), (qw g J1))) ∧ (Q (.inl (some (.int ((qj 3) >>> (v2 &&& 31))), (qw g J1))))) :
    qwq d 300 0 [(0, .ref 18)] [] (qw g I) Q := qZ_sound qU_ok (N := qN) (S := qS300) 47 true (⟨rfl, ⟨(qarr_mk12 rfl), ⟨by omega, rfl, (h).elim (fun v2 h => h.elim (fun J1 h => ⟨_, _, h.1, ⟨trivial, h.2⟩⟩))⟩⟩⟩)
/- 301 java/lang/String.charAt (I)C -/
theorem b301w8_0 {d : Nat} {g : qG1} {I : Nat → Nat → Int32} {Q : qR → Prop} {x1 : Int32} (hd : 4 ≤ d)
    (h : ∃ (v2 : Bool) (J1 : _), qRun (d - 1) 303 [.ref 18] (qw g I) (.inl (some (.int (qb v2)), (qw g J1))) ∧ (((v2 = false → False) ∧ (v2 = true → ∃ (v4 : Int32) (J3 : _), qRun (d - 1) 305 [.ref 38, .int x1] (qw g J1) (.inl (some (.int v4), (qw g J3))) ∧ (qok (some .char) v4 ∧ (Q (.inl (some (.int v4), (qw g J3))))))))) :
    qwq d 301 0 [(0, .ref 18), (1, .int x1)] [] (qw g I) Q := qZ_sound qU_ok (N := qN) (S := qS301) 52 true (⟨by omega, rfl, (h).elim (fun v2 h => h.elim (fun J1 h => ⟨_, _, h.1, ⟨fun q6 => ⟨rfl, ((h.2.1 (qb_eq0 q6))).elim⟩, fun q6 => ⟨rfl, ⟨by omega, ((h.2.2 (qb_ne0 q6))).elim (fun v4 h => h.elim (fun J3 h => ⟨_, _, h.1, (h.2).elim (fun c5 h => ⟨c5, h⟩)⟩))⟩⟩⟩⟩))⟩)
/- 305 java/lang/StringLatin1.charAt ([BI)C -/
theorem b305w8_0 {d : Nat} {g : qG1} {I : Nat → Nat → Int32} {Q : qR → Prop} {x1 : Int32} (hd : 3 ≤ d)
    (h : ∃ J1, qRun (d - 1) 304 [.int x1, .int (qj 3)] (qw g I) (.inl (none, (qw g J1))) ∧ (qIx x1 3 ∧ (qok (some .char) (((J1 38 x1.toNatClampNeg) &&& (qj 255)).toUInt32 % 65536).toInt32 ∧ (Q (.inl (some (.int (((J1 38 x1.toNatClampNeg) &&& (qj 255)).toUInt32 % 65536).toInt32), (qw g J1))))))) :
    qwq d 305 0 [(0, .ref 38), (1, .int x1)] [] (qw g I) Q := qZ_sound qU_ok (N := qN) (S := qS305) 51 true (⟨(qarr_mk12 rfl), ⟨by omega, (h).elim (fun J1 h => ⟨_, h.1, (h.2).elim (fun c2 h => ⟨(qinB_mk12 rfl c2), (h).elim (fun c3 h => ⟨c3, h⟩)⟩)⟩)⟩⟩)
/- 300 java/lang/String.length ()I -/
theorem b300w9_0 {d : Nat} {g : qG1} {I : Nat → Nat → Int32} {Q : qR → Prop} (hd : 2 ≤ d)
    (h : ∃ (v2 : Int32) (J1 : _), qRun (d - 1) 302 [.ref 19] (qw g I) (.inl (some (.int v2), (qw g J1))) ∧ (Q (.inl (some (.int ((qj 4) >>> (v2 &&& 31))), (qw g J1))))) :
    qwq d 300 0 [(0, .ref 19)] [] (qw g I) Q := qZ_sound qU_ok (N := qN) (S := qS300) 47 true (⟨rfl, ⟨(qarr_mk12 rfl), ⟨by omega, rfl, (h).elim (fun v2 h => h.elim (fun J1 h => ⟨_, _, h.1, ⟨trivial, h.2⟩⟩))⟩⟩⟩)
/- 301 java/lang/String.charAt (I)C -/
theorem b301w9_0 {d : Nat} {g : qG1} {I : Nat → Nat → Int32} {Q : qR → Prop} {x1 : Int32} (hd : 4 ≤ d)
    (h : ∃ (v2 : Bool) (J1 : _), qRun (d - 1) 303 [.ref 19] (qw g I) (.inl (some (.int (qb v2)), (qw g J1))) ∧ (((v2 = false → False) ∧ (v2 = true → ∃ (v4 : Int32) (J3 : _), qRun (d - 1) 305 [.ref 39, .int x1] (qw g J1) (.inl (some (.int v4), (qw g J3))) ∧ (qok (some .char) v4 ∧ (Q (.inl (some (.int v4), (qw g J3))))))))) :
    qwq d 301 0 [(0, .ref 19), (1, .int x1)] [] (qw g I) Q := qZ_sound qU_ok (N := qN) (S := qS301) 52 true (⟨by omega, rfl, (h).elim (fun v2 h => h.elim (fun J1 h => ⟨_, _, h.1, ⟨fun q6 => ⟨rfl, ((h.2.1 (qb_eq0 q6))).elim⟩, fun q6 => ⟨rfl, ⟨by omega, ((h.2.2 (qb_ne0 q6))).elim (fun v4 h => h.elim (fun J3 h => ⟨_, _, h.1, (h.2).elim (fun c5 h => ⟨c5, h⟩)⟩))⟩⟩⟩⟩))⟩)
/- 305 java/lang/StringLatin1.charAt ([BI)C -/
theorem b305w9_0 {d : Nat} {g : qG1} {I : Nat → Nat → Int32} {Q : qR → Prop} {x1 : Int32} (hd : 3 ≤ d)
    (h : ∃ J1, qRun (d - 1) 304 [.int x1, .int (qj 4)] (qw g I) (.inl (none, (qw g J1))) ∧ (qIx x1 4 ∧ (qok (some .char) (((J1 39 x1.toNatClampNeg) &&& (qj 255)).toUInt32 % 65536).toInt32 ∧ (Q (.inl (some (.int (((J1 39 x1.toNatClampNeg) &&& (qj 255)).toUInt32 % 65536).toInt32), (qw g J1))))))) :
    qwq d 305 0 [(0, .ref 39), (1, .int x1)] [] (qw g I) Q := qZ_sound qU_ok (N := qN) (S := qS305) 51 true (⟨(qarr_mk12 rfl), ⟨by omega, (h).elim (fun J1 h => ⟨_, h.1, (h.2).elim (fun c2 h => ⟨(qinB_mk12 rfl c2), (h).elim (fun c3 h => ⟨c3, h⟩)⟩)⟩)⟩⟩)
/- 300 java/lang/String.length ()I -/
theorem b300w10_0 {d : Nat} {g : qG1} {I : Nat → Nat → Int32} {Q : qR → Prop} (hd : 2 ≤ d)
    (h : ∃ (v2 : Int32) (J1 : _), qRun (d - 1) 302 [.ref 20] (qw g I) (.inl (some (.int v2), (qw g J1))) ∧ (Q (.inl (some (.int ((qj 4) >>> (v2 &&& 31))), (qw g J1))))) :
    qwq d 300 0 [(0, .ref 20)] [] (qw g I) Q := qZ_sound qU_ok (N := qN) (S := qS300) 47 true (⟨rfl, ⟨(qarr_mk12 rfl), ⟨by omega, rfl, (h).elim (fun v2 h => h.elim (fun J1 h => ⟨_, _, h.1, ⟨trivial, h.2⟩⟩))⟩⟩⟩)
/- 301 java/lang/String.charAt (I)C -/
theorem b301w10_0 {d : Nat} {g : qG1} {I : Nat → Nat → Int32} {Q : qR → Prop} {x1 : Int32} (hd : 4 ≤ d)
    (h : ∃ (v2 : Bool) (J1 : _), qRun (d - 1) 303 [.ref 20] (qw g I) (.inl (some (.int (qb v2)), (qw g J1))) ∧ (((v2 = false → False) ∧ (v2 = true → ∃ (v4 : Int32) (J3 : _), qRun (d - 1) 305 [.ref 40, .int x1] (qw g J1) (.inl (some (.int v4), (qw g J3))) ∧ (qok (some .char) v4 ∧ (Q (.inl (some (.int v4), (qw g J3))))))))) :
    qwq d 301 0 [(0, .ref 20), (1, .int x1)] [] (qw g I) Q := qZ_sound qU_ok (N := qN) (S := qS301) 52 true (⟨by omega, rfl, (h).elim (fun v2 h => h.elim (fun J1 h => ⟨_, _, h.1, ⟨fun q6 => ⟨rfl, ((h.2.1 (qb_eq0 q6))).elim⟩, fun q6 => ⟨rfl, ⟨by omega, ((h.2.2 (qb_ne0 q6))).elim (fun v4 h => h.elim (fun J3 h => ⟨_, _, h.1, (h.2).elim (fun c5 h => ⟨c5, h⟩)⟩))⟩⟩⟩⟩))⟩)
/- 305 java/lang/StringLatin1.charAt ([BI)C -/
theorem b305w10_0 {d : Nat} {g : qG1} {I : Nat → Nat → Int32} {Q : qR → Prop} {x1 : Int32} (hd : 3 ≤ d)
    (h : ∃ J1, qRun (d - 1) 304 [.int x1, .int (qj 4)] (qw g I) (.inl (none, (qw g J1))) ∧ (qIx x1 4 ∧ (qok (some .char) (((J1 40 x1.toNatClampNeg) &&& (qj 255)).toUInt32 % 65536).toInt32 ∧ (Q (.inl (some (.int (((J1 40 x1.toNatClampNeg) &&& (qj 255)).toUInt32 % 65536).toInt32), (qw g J1))))))) :
    qwq d 305 0 [(0, .ref 40), (1, .int x1)] [] (qw g I) Q := qZ_sound qU_ok (N := qN) (S := qS305) 51 true (⟨(qarr_mk12 rfl), ⟨by omega, (h).elim (fun J1 h => ⟨_, h.1, (h.2).elim (fun c2 h => ⟨(qinB_mk12 rfl c2), (h).elim (fun c3 h => ⟨c3, h⟩)⟩)⟩)⟩⟩)
/- 300 java/lang/String.length ()I -/
theorem b300w11_0 {d : Nat} {g : qG1} {I : Nat → Nat → Int32} {Q : qR → Prop} (hd : 2 ≤ d)
    (h : ∃ (v2 : Int32) (J1 : _), qRun (d - 1) 302 [.ref 21] (qw g I) (.inl (some (.int v2), (qw g J1))) ∧ (Q (.inl (some (.int ((qj 3) >>> (v2 &&& 31))), (qw g J1))))) :
    qwq d 300 0 [(0, .ref 21)] [] (qw g I) Q := qZ_sound qU_ok (N := qN) (S := qS300) 47 true (⟨rfl, ⟨(qarr_mk12 rfl), ⟨by omega, rfl, (h).elim (fun v2 h => h.elim (fun J1 h => ⟨_, _, h.1, ⟨trivial, h.2⟩⟩))⟩⟩⟩)
/- 301 java/lang/String.charAt (I)C -/
theorem b301w11_0 {d : Nat} {g : qG1} {I : Nat → Nat → Int32} {Q : qR → Prop} {x1 : Int32} (hd : 4 ≤ d)
    (h : ∃ (v2 : Bool) (J1 : _), qRun (d - 1) 303 [.ref 21] (qw g I) (.inl (some (.int (qb v2)), (qw g J1))) ∧ (((v2 = false → False) ∧ (v2 = true → ∃ (v4 : Int32) (J3 : _), qRun (d - 1) 305 [.ref 41, .int x1] (qw g J1) (.inl (some (.int v4), (qw g J3))) ∧ (qok (some .char) v4 ∧ (Q (.inl (some (.int v4), (qw g J3))))))))) :
    qwq d 301 0 [(0, .ref 21), (1, .int x1)] [] (qw g I) Q := qZ_sound qU_ok (N := qN) (S := qS301) 52 true (⟨by omega, rfl, (h).elim (fun v2 h => h.elim (fun J1 h => ⟨_, _, h.1, ⟨fun q6 => ⟨rfl, ((h.2.1 (qb_eq0 q6))).elim⟩, fun q6 => ⟨rfl, ⟨by omega, ((h.2.2 (qb_ne0 q6))).elim (fun v4 h => h.elim (fun J3 h => ⟨_, _, h.1, (h.2).elim (fun c5 h => ⟨c5, h⟩)⟩))⟩⟩⟩⟩))⟩)
/- 305 java/lang/StringLatin1.charAt ([BI)C -/
theorem b305w11_0 {d : Nat} {g : qG1} {I : Nat → Nat → Int32} {Q : qR → Prop} {x1 : Int32} (hd : 3 ≤ d)
    (h : ∃ J1, qRun (d - 1) 304 [.int x1, .int (qj 3)] (qw g I) (.inl (none, (qw g J1))) ∧ (qIx x1 3 ∧ (qok (some .char) (((J1 41 x1.toNatClampNeg) &&& (qj 255)).toUInt32 % 65536).toInt32 ∧ (Q (.inl (some (.int (((J1 41 x1.toNatClampNeg) &&& (qj 255)).toUInt32 % 65536).toInt32), (qw g J1))))))) :
    qwq d 305 0 [(0, .ref 41), (1, .int x1)] [] (qw g I) Q := qZ_sound qU_ok (N := qN) (S := qS305) 51 true (⟨(qarr_mk12 rfl), ⟨by omega, (h).elim (fun J1 h => ⟨_, h.1, (h.2).elim (fun c2 h => ⟨(qinB_mk12 rfl c2), (h).elim (fun c3 h => ⟨c3, h⟩)⟩)⟩)⟩⟩)
/- 300 java/lang/String.length ()I -/
theorem b300w12_0 {d : Nat} {g : qG1} {I : Nat → Nat → Int32} {Q : qR → Prop} (hd : 2 ≤ d)
    (h : ∃ (v2 : Int32) (J1 : _), qRun (d - 1) 302 [.ref 22] (qw g I) (.inl (some (.int v2), (qw g J1))) ∧ (Q (.inl (some (.int ((qj 5) >>> (v2 &&& 31))), (qw g J1))))) :
    qwq d 300 0 [(0, .ref 22)] [] (qw g I) Q := qZ_sound qU_ok (N := qN) (S := qS300) 47 true (⟨rfl, ⟨(qarr_mk12 rfl), ⟨by omega, rfl, (h).elim (fun v2 h => h.elim (fun J1 h => ⟨_, _, h.1, ⟨trivial, h.2⟩⟩))⟩⟩⟩)
/- 301 java/lang/String.charAt (I)C -/
theorem b301w12_0 {d : Nat} {g : qG1} {I : Nat → Nat → Int32} {Q : qR → Prop} {x1 : Int32} (hd : 4 ≤ d)
    (h : ∃ (v2 : Bool) (J1 : _), qRun (d - 1) 303 [.ref 22] (qw g I) (.inl (some (.int (qb v2)), (qw g J1))) ∧ (((v2 = false → False) ∧ (v2 = true → ∃ (v4 : Int32) (J3 : _), qRun (d - 1) 305 [.ref 42, .int x1] (qw g J1) (.inl (some (.int v4), (qw g J3))) ∧ (qok (some .char) v4 ∧ (Q (.inl (some (.int v4), (qw g J3))))))))) :
    qwq d 301 0 [(0, .ref 22), (1, .int x1)] [] (qw g I) Q := qZ_sound qU_ok (N := qN) (S := qS301) 52 true (⟨by omega, rfl, (h).elim (fun v2 h => h.elim (fun J1 h => ⟨_, _, h.1, ⟨fun q6 => ⟨rfl, ((h.2.1 (qb_eq0 q6))).elim⟩, fun q6 => ⟨rfl, ⟨by omega, ((h.2.2 (qb_ne0 q6))).elim (fun v4 h => h.elim (fun J3 h => ⟨_, _, h.1, (h.2).elim (fun c5 h => ⟨c5, h⟩)⟩))⟩⟩⟩⟩))⟩)
/- 305 java/lang/StringLatin1.charAt ([BI)C -/
theorem b305w12_0 {d : Nat} {g : qG1} {I : Nat → Nat → Int32} {Q : qR → Prop} {x1 : Int32} (hd : 3 ≤ d)
    (h : ∃ J1, qRun (d - 1) 304 [.int x1, .int (qj 5)] (qw g I) (.inl (none, (qw g J1))) ∧ (qIx x1 5 ∧ (qok (some .char) (((J1 42 x1.toNatClampNeg) &&& (qj 255)).toUInt32 % 65536).toInt32 ∧ (Q (.inl (some (.int (((J1 42 x1.toNatClampNeg) &&& (qj 255)).toUInt32 % 65536).toInt32), (qw g J1))))))) :
    qwq d 305 0 [(0, .ref 42), (1, .int x1)] [] (qw g I) Q := qZ_sound qU_ok (N := qN) (S := qS305) 51 true (⟨(qarr_mk12 rfl), ⟨by omega, (h).elim (fun J1 h => ⟨_, h.1, (h.2).elim (fun c2 h => ⟨(qinB_mk12 rfl c2), (h).elim (fun c3 h => ⟨c3, h⟩)⟩)⟩)⟩⟩)
/- 300 java/lang/String.length ()I -/
theorem b300w13_0 {d : Nat} {g : qG1} {I : Nat → Nat → Int32} {Q : qR → Prop} (hd : 2 ≤ d)
    (h : ∃ (v2 : Int32) (J1 : _), qRun (d - 1) 302 [.ref 23] (qw g I) (.inl (some (.int v2), (qw g J1))) ∧ (Q (.inl (some (.int ((qj 7) >>> (v2 &&& 31))), (qw g J1))))) :
    qwq d 300 0 [(0, .ref 23)] [] (qw g I) Q := qZ_sound qU_ok (N := qN) (S := qS300) 47 true (⟨rfl, ⟨(qarr_mk12 rfl), ⟨by omega, rfl, (h).elim (fun v2 h => h.elim (fun J1 h => ⟨_, _, h.1, ⟨trivial, h.2⟩⟩))⟩⟩⟩)
/- 301 java/lang/String.charAt (I)C -/
theorem b301w13_0 {d : Nat} {g : qG1} {I : Nat → Nat → Int32} {Q : qR → Prop} {x1 : Int32} (hd : 4 ≤ d)
    (h : ∃ (v2 : Bool) (J1 : _), qRun (d - 1) 303 [.ref 23] (qw g I) (.inl (some (.int (qb v2)), (qw g J1))) ∧ (((v2 = false → False) ∧ (v2 = true → ∃ (v4 : Int32) (J3 : _), qRun (d - 1) 305 [.ref 43, .int x1] (qw g J1) (.inl (some (.int v4), (qw g J3))) ∧ (qok (some .char) v4 ∧ (Q (.inl (some (.int v4), (qw g J3))))))))) :
    qwq d 301 0 [(0, .ref 23), (1, .int x1)] [] (qw g I) Q := qZ_sound qU_ok (N := qN) (S := qS301) 52 true (⟨by omega, rfl, (h).elim (fun v2 h => h.elim (fun J1 h => ⟨_, _, h.1, ⟨fun q6 => ⟨rfl, ((h.2.1 (qb_eq0 q6))).elim⟩, fun q6 => ⟨rfl, ⟨by omega, ((h.2.2 (qb_ne0 q6))).elim (fun v4 h => h.elim (fun J3 h => ⟨_, _, h.1, (h.2).elim (fun c5 h => ⟨c5, h⟩)⟩))⟩⟩⟩⟩))⟩)
/- 305 java/lang/StringLatin1.charAt ([BI)C -/
theorem b305w13_0 {d : Nat} {g : qG1} {I : Nat → Nat → Int32} {Q : qR → Prop} {x1 : Int32} (hd : 3 ≤ d)
    (h : ∃ J1, qRun (d - 1) 304 [.int x1, .int (qj 7)] (qw g I) (.inl (none, (qw g J1))) ∧ (qIx x1 7 ∧ (qok (some .char) (((J1 43 x1.toNatClampNeg) &&& (qj 255)).toUInt32 % 65536).toInt32 ∧ (Q (.inl (some (.int (((J1 43 x1.toNatClampNeg) &&& (qj 255)).toUInt32 % 65536).toInt32), (qw g J1))))))) :
    qwq d 305 0 [(0, .ref 43), (1, .int x1)] [] (qw g I) Q := qZ_sound qU_ok (N := qN) (S := qS305) 51 true (⟨(qarr_mk12 rfl), ⟨by omega, (h).elim (fun J1 h => ⟨_, h.1, (h.2).elim (fun c2 h => ⟨(qinB_mk12 rfl c2), (h).elim (fun c3 h => ⟨c3, h⟩)⟩)⟩)⟩⟩)
/- 300 java/lang/String.length ()I -/
theorem b300w14_0 {d : Nat} {g : qG1} {I : Nat → Nat → Int32} {Q : qR → Prop} (hd : 2 ≤ d)
    (h : ∃ (v2 : Int32) (J1 : _), qRun (d - 1) 302 [.ref 24] (qw g I) (.inl (some (.int v2), (qw g J1))) ∧ (Q (.inl (some (.int ((qj 4) >>> (v2 &&& 31))), (qw g J1))))) :
    qwq d 300 0 [(0, .ref 24)] [] (qw g I) Q := qZ_sound qU_ok (N := qN) (S := qS300) 47 true (⟨rfl, ⟨(qarr_mk12 rfl), ⟨by omega, rfl, (h).elim (fun v2 h => h.elim (fun J1 h => ⟨_, _, h.1, ⟨trivial, h.2⟩⟩))⟩⟩⟩)
/- 301 java/lang/String.charAt (I)C -/
theorem b301w14_0 {d : Nat} {g : qG1} {I : Nat → Nat → Int32} {Q : qR → Prop} {x1 : Int32} (hd : 4 ≤ d)
    (h : ∃ (v2 : Bool) (J1 : _), qRun (d - 1) 303 [.ref 24] (qw g I) (.inl (some (.int (qb v2)), (qw g J1))) ∧ (((v2 = false → False) ∧ (v2 = true → ∃ (v4 : Int32) (J3 : _), qRun (d - 1) 305 [.ref 44, .int x1] (qw g J1) (.inl (some (.int v4), (qw g J3))) ∧ (qok (some .char) v4 ∧ (Q (.inl (some (.int v4), (qw g J3))))))))) :
    qwq d 301 0 [(0, .ref 24), (1, .int x1)] [] (qw g I) Q := qZ_sound qU_ok (N := qN) (S := qS301) 52 true (⟨by omega, rfl, (h).elim (fun v2 h => h.elim (fun J1 h => ⟨_, _, h.1, ⟨fun q6 => ⟨rfl, ((h.2.1 (qb_eq0 q6))).elim⟩, fun q6 => ⟨rfl, ⟨by omega, ((h.2.2 (qb_ne0 q6))).elim (fun v4 h => h.elim (fun J3 h => ⟨_, _, h.1, (h.2).elim (fun c5 h => ⟨c5, h⟩)⟩))⟩⟩⟩⟩))⟩)
/- 305 java/lang/StringLatin1.charAt ([BI)C -/
theorem b305w14_0 {d : Nat} {g : qG1} {I : Nat → Nat → Int32} {Q : qR → Prop} {x1 : Int32} (hd : 3 ≤ d)
    (h : ∃ J1, qRun (d - 1) 304 [.int x1, .int (qj 4)] (qw g I) (.inl (none, (qw g J1))) ∧ (qIx x1 4 ∧ (qok (some .char) (((J1 44 x1.toNatClampNeg) &&& (qj 255)).toUInt32 % 65536).toInt32 ∧ (Q (.inl (some (.int (((J1 44 x1.toNatClampNeg) &&& (qj 255)).toUInt32 % 65536).toInt32), (qw g J1))))))) :
    qwq d 305 0 [(0, .ref 44), (1, .int x1)] [] (qw g I) Q := qZ_sound qU_ok (N := qN) (S := qS305) 51 true (⟨(qarr_mk12 rfl), ⟨by omega, (h).elim (fun J1 h => ⟨_, h.1, (h.2).elim (fun c2 h => ⟨(qinB_mk12 rfl c2), (h).elim (fun c3 h => ⟨c3, h⟩)⟩)⟩)⟩⟩)
/- 300 java/lang/String.length ()I -/
theorem b300w15_0 {d : Nat} {g : qG1} {I : Nat → Nat → Int32} {Q : qR → Prop} (hd : 2 ≤ d)
    (h : ∃ (v2 : Int32) (J1 : _), qRun (d - 1) 302 [.ref 25] (qw g I) (.inl (some (.int v2), (qw g J1))) ∧ (Q (.inl (some (.int ((qj 6) >>> (v2 &&& 31))), (qw g J1))))) :
    qwq d 300 0 [(0, .ref 25)] [] (qw g I) Q := qZ_sound qU_ok (N := qN) (S := qS300) 47 true (⟨rfl, ⟨(qarr_mk12 rfl), ⟨by omega, rfl, (h).elim (fun v2 h => h.elim (fun J1 h => ⟨_, _, h.1, ⟨trivial, h.2⟩⟩))⟩⟩⟩)
/- 301 java/lang/String.charAt (I)C -/
theorem b301w15_0 {d : Nat} {g : qG1} {I : Nat → Nat → Int32} {Q : qR → Prop} {x1 : Int32} (hd : 4 ≤ d)
    (h : ∃ (v2 : Bool) (J1 : _), qRun (d - 1) 303 [.ref 25] (qw g I) (.inl (some (.int (qb v2)), (qw g J1))) ∧ (((v2 = false → False) ∧ (v2 = true → ∃ (v4 : Int32) (J3 : _), qRun (d - 1) 305 [.ref 45, .int x1] (qw g J1) (.inl (some (.int v4), (qw g J3))) ∧ (qok (some .char) v4 ∧ (Q (.inl (some (.int v4), (qw g J3))))))))) :
    qwq d 301 0 [(0, .ref 25), (1, .int x1)] [] (qw g I) Q := qZ_sound qU_ok (N := qN) (S := qS301) 52 true (⟨by omega, rfl, (h).elim (fun v2 h => h.elim (fun J1 h => ⟨_, _, h.1, ⟨fun q6 => ⟨rfl, ((h.2.1 (qb_eq0 q6))).elim⟩, fun q6 => ⟨rfl, ⟨by omega, ((h.2.2 (qb_ne0 q6))).elim (fun v4 h => h.elim (fun J3 h => ⟨_, _, h.1, (h.2).elim (fun c5 h => ⟨c5, h⟩)⟩))⟩⟩⟩⟩))⟩)
/- 305 java/lang/StringLatin1.charAt ([BI)C -/
theorem b305w15_0 {d : Nat} {g : qG1} {I : Nat → Nat → Int32} {Q : qR → Prop} {x1 : Int32} (hd : 3 ≤ d)
    (h : ∃ J1, qRun (d - 1) 304 [.int x1, .int (qj 6)] (qw g I) (.inl (none, (qw g J1))) ∧ (qIx x1 6 ∧ (qok (some .char) (((J1 45 x1.toNatClampNeg) &&& (qj 255)).toUInt32 % 65536).toInt32 ∧ (Q (.inl (some (.int (((J1 45 x1.toNatClampNeg) &&& (qj 255)).toUInt32 % 65536).toInt32), (qw g J1))))))) :
    qwq d 305 0 [(0, .ref 45), (1, .int x1)] [] (qw g I) Q := qZ_sound qU_ok (N := qN) (S := qS305) 51 true (⟨(qarr_mk12 rfl), ⟨by omega, (h).elim (fun J1 h => ⟨_, h.1, (h.2).elim (fun c2 h => ⟨(qinB_mk12 rfl c2), (h).elim (fun c3 h => ⟨c3, h⟩)⟩)⟩)⟩⟩)
/- 300 java/lang/String.length ()I -/
theorem b300w16_0 {d : Nat} {g : qG1} {I : Nat → Nat → Int32} {Q : qR → Prop} (hd : 2 ≤ d)
    (h : ∃ (v2 : Int32) (J1 : _), qRun (d - 1) 302 [.ref 26] (qw g I) (.inl (some (.int v2), (qw g J1))) ∧ (Q (.inl (some (.int ((qj 6) >>> (v2 &&& 31))), (qw g J1))))) :
    qwq d 300 0 [(0, .ref 26)] [] (qw g I) Q := qZ_sound qU_ok (N := qN) (S := qS300) 47 true (⟨rfl, ⟨(qarr_mk12 rfl), ⟨by omega, rfl, (h).elim (fun v2 h => h.elim (fun J1 h => ⟨_, _, h.1, ⟨trivial, h.2⟩⟩))⟩⟩⟩)
/- 301 java/lang/String.charAt (I)C -/
theorem b301w16_0 {d : Nat} {g : qG1} {I : Nat → Nat → Int32} {Q : qR → Prop} {x1 : Int32} (hd : 4 ≤ d)
    (h : ∃ (v2 : Bool) (J1 : _), qRun (d - 1) 303 [.ref 26] (qw g I) (.inl (some (.int (qb v2)), (qw g J1))) ∧ (((v2 = false → False) ∧ (v2 = true → ∃ (v4 : Int32) (J3 : _), qRun (d - 1) 305 [.ref 46, .int x1] (qw g J1) (.inl (some (.int v4), (qw g J3))) ∧ (qok (some .char) v4 ∧ (Q (.inl (some (.int v4), (qw g J3))))))))) :
    qwq d 301 0 [(0, .ref 26), (1, .int x1)] [] (qw g I) Q := qZ_sound qU_ok (N := qN) (S := qS301) 52 true (⟨by omega, rfl, (h).elim (fun v2 h => h.elim (fun J1 h => ⟨_, _, h.1, ⟨fun q6 => ⟨rfl, ((h.2.1 (qb_eq0 q6))).elim⟩, fun q6 => ⟨rfl, ⟨by omega, ((h.2.2 (qb_ne0 q6))).elim (fun v4 h => h.elim (fun J3 h => ⟨_, _, h.1, (h.2).elim (fun c5 h => ⟨c5, h⟩)⟩))⟩⟩⟩⟩))⟩)
/- 305 java/lang/StringLatin1.charAt ([BI)C -/
theorem b305w16_0 {d : Nat} {g : qG1} {I : Nat → Nat → Int32} {Q : qR → Prop} {x1 : Int32} (hd : 3 ≤ d)
    (h : ∃ J1, qRun (d - 1) 304 [.int x1, .int (qj 6)] (qw g I) (.inl (none, (qw g J1))) ∧ (qIx x1 6 ∧ (qok (some .char) (((J1 46 x1.toNatClampNeg) &&& (qj 255)).toUInt32 % 65536).toInt32 ∧ (Q (.inl (some (.int (((J1 46 x1.toNatClampNeg) &&& (qj 255)).toUInt32 % 65536).toInt32), (qw g J1))))))) :
    qwq d 305 0 [(0, .ref 46), (1, .int x1)] [] (qw g I) Q := qZ_sound qU_ok (N := qN) (S := qS305) 51 true (⟨(qarr_mk12 rfl), ⟨by omega, (h).elim (fun J1 h => ⟨_, h.1, (h.2).elim (fun c2 h => ⟨(qinB_mk12 rfl c2), (h).elim (fun c3 h => ⟨c3, h⟩)⟩)⟩)⟩⟩)
/- 300 java/lang/String.length ()I -/
theorem b300w17_0 {d : Nat} {g : qG1} {I : Nat → Nat → Int32} {Q : qR → Prop} (hd : 2 ≤ d)
    (h : ∃ (v2 : Int32) (J1 : _), qRun (d - 1) 302 [.ref 27] (qw g I) (.inl (some (.int v2), (qw g J1))) ∧ (Q (.inl (some (.int ((qj 3) >>> (v2 &&& 31))), (qw g J1))))) :
    qwq d 300 0 [(0, .ref 27)] [] (qw g I) Q := qZ_sound qU_ok (N := qN) (S := qS300) 47 true (⟨rfl, ⟨(qarr_mk12 rfl), ⟨by omega, rfl, (h).elim (fun v2 h => h.elim (fun J1 h => ⟨_, _, h.1, ⟨trivial, h.2⟩⟩))⟩⟩⟩)
/- 301 java/lang/String.charAt (I)C -/
theorem b301w17_0 {d : Nat} {g : qG1} {I : Nat → Nat → Int32} {Q : qR → Prop} {x1 : Int32} (hd : 4 ≤ d)
    (h : ∃ (v2 : Bool) (J1 : _), qRun (d - 1) 303 [.ref 27] (qw g I) (.inl (some (.int (qb v2)), (qw g J1))) ∧ (((v2 = false → False) ∧ (v2 = true → ∃ (v4 : Int32) (J3 : _), qRun (d - 1) 305 [.ref 47, .int x1] (qw g J1) (.inl (some (.int v4), (qw g J3))) ∧ (qok (some .char) v4 ∧ (Q (.inl (some (.int v4), (qw g J3))))))))) :
    qwq d 301 0 [(0, .ref 27), (1, .int x1)] [] (qw g I) Q := qZ_sound qU_ok (N := qN) (S := qS301) 52 true (⟨by omega, rfl, (h).elim (fun v2 h => h.elim (fun J1 h => ⟨_, _, h.1, ⟨fun q6 => ⟨rfl, ((h.2.1 (qb_eq0 q6))).elim⟩, fun q6 => ⟨rfl, ⟨by omega, ((h.2.2 (qb_ne0 q6))).elim (fun v4 h => h.elim (fun J3 h => ⟨_, _, h.1, (h.2).elim (fun c5 h => ⟨c5, h⟩)⟩))⟩⟩⟩⟩))⟩)
/- 305 java/lang/StringLatin1.charAt ([BI)C -/
theorem b305w17_0 {d : Nat} {g : qG1} {I : Nat → Nat → Int32} {Q : qR → Prop} {x1 : Int32} (hd : 3 ≤ d)
    (h : ∃ J1, qRun (d - 1) 304 [.int x1, .int (qj 3)] (qw g I) (.inl (none, (qw g J1))) ∧ (qIx x1 3 ∧ (qok (some .char) (((J1 47 x1.toNatClampNeg) &&& (qj 255)).toUInt32 % 65536).toInt32 ∧ (Q (.inl (some (.int (((J1 47 x1.toNatClampNeg) &&& (qj 255)).toUInt32 % 65536).toInt32), (qw g J1))))))) :
    qwq d 305 0 [(0, .ref 47), (1, .int x1)] [] (qw g I) Q := qZ_sound qU_ok (N := qN) (S := qS305) 51 true (⟨(qarr_mk12 rfl), ⟨by omega, (h).elim (fun J1 h => ⟨_, h.1, (h.2).elim (fun c2 h => ⟨(qinB_mk12 rfl c2), (h).elim (fun c3 h => ⟨c3, h⟩)⟩)⟩)⟩⟩)
/- 300 java/lang/String.length ()I -/
theorem b300w18_0 {d : Nat} {g : qG1} {I : Nat → Nat → Int32} {Q : qR → Prop} (hd : 2 ≤ d)
    (h : ∃ (v2 : Int32) (J1 : _), qRun (d - 1) 302 [.ref 28] (qw g I) (.inl (some (.int v2), (qw g J1))) ∧ (Q (.inl (some (.int ((qj 5) >>> (v2 &&& 31))), (qw g J1))))) :
    qwq d 300 0 [(0, .ref 28)] [] (qw g I) Q := qZ_sound qU_ok (N := qN) (S := qS300) 47 true (⟨rfl, ⟨(qarr_mk12 rfl), ⟨by omega, rfl, (h).elim (fun v2 h => h.elim (fun J1 h => ⟨_, _, h.1, ⟨trivial, h.2⟩⟩))⟩⟩⟩)
/- 301 java/lang/String.charAt (I)C -/
theorem b301w18_0 {d : Nat} {g : qG1} {I : Nat → Nat → Int32} {Q : qR → Prop} {x1 : Int32} (hd : 4 ≤ d)
    (h : ∃ (v2 : Bool) (J1 : _), qRun (d - 1) 303 [.ref 28] (qw g I) (.inl (some (.int (qb v2)), (qw g J1))) ∧ (((v2 = false → False) ∧ (v2 = true → ∃ (v4 : Int32) (J3 : _), qRun (d - 1) 305 [.ref 48, .int x1] (qw g J1) (.inl (some (.int v4), (qw g J3))) ∧ (qok (some .char) v4 ∧ (Q (.inl (some (.int v4), (qw g J3))))))))) :
    qwq d 301 0 [(0, .ref 28), (1, .int x1)] [] (qw g I) Q := qZ_sound qU_ok (N := qN) (S := qS301) 52 true (⟨by omega, rfl, (h).elim (fun v2 h => h.elim (fun J1 h => ⟨_, _, h.1, ⟨fun q6 => ⟨rfl, ((h.2.1 (qb_eq0 q6))).elim⟩, fun q6 => ⟨rfl, ⟨by omega, ((h.2.2 (qb_ne0 q6))).elim (fun v4 h => h.elim (fun J3 h => ⟨_, _, h.1, (h.2).elim (fun c5 h => ⟨c5, h⟩)⟩))⟩⟩⟩⟩))⟩)
/- 305 java/lang/StringLatin1.charAt ([BI)C -/
theorem b305w18_0 {d : Nat} {g : qG1} {I : Nat → Nat → Int32} {Q : qR → Prop} {x1 : Int32} (hd : 3 ≤ d)
    (h : ∃ J1, qRun (d - 1) 304 [.int x1, .int (qj 5)] (qw g I) (.inl (none, (qw g J1))) ∧ (qIx x1 5 ∧ (qok (some .char) (((J1 48 x1.toNatClampNeg) &&& (qj 255)).toUInt32 % 65536).toInt32 ∧ (Q (.inl (some (.int (((J1 48 x1.toNatClampNeg) &&& (qj 255)).toUInt32 % 65536).toInt32), (qw g J1))))))) :
    qwq d 305 0 [(0, .ref 48), (1, .int x1)] [] (qw g I) Q := qZ_sound qU_ok (N := qN) (S := qS305) 51 true (⟨(qarr_mk12 rfl), ⟨by omega, (h).elim (fun J1 h => ⟨_, h.1, (h.2).elim (fun c2 h => ⟨(qinB_mk12 rfl c2), (h).elim (fun c3 h => ⟨c3, h⟩)⟩)⟩)⟩⟩)
/- 300 java/lang/String.length ()I -/
theorem b300w19_0 {d : Nat} {g : qG1} {I : Nat → Nat → Int32} {Q : qR → Prop} (hd : 2 ≤ d)
    (h : ∃ (v2 : Int32) (J1 : _), qRun (d - 1) 302 [.ref 29] (qw g I) (.inl (some (.int v2), (qw g J1))) ∧ (Q (.inl (some (.int ((qj 4) >>> (v2 &&& 31))), (qw g J1))))) :
    qwq d 300 0 [(0, .ref 29)] [] (qw g I) Q := qZ_sound qU_ok (N := qN) (S := qS300) 47 true (⟨rfl, ⟨(qarr_mk12 rfl), ⟨by omega, rfl, (h).elim (fun v2 h => h.elim (fun J1 h => ⟨_, _, h.1, ⟨trivial, h.2⟩⟩))⟩⟩⟩)
/- 301 java/lang/String.charAt (I)C -/
theorem b301w19_0 {d : Nat} {g : qG1} {I : Nat → Nat → Int32} {Q : qR → Prop} {x1 : Int32} (hd : 4 ≤ d)
    (h : ∃ (v2 : Bool) (J1 : _), qRun (d - 1) 303 [.ref 29] (qw g I) (.inl (some (.int (qb v2)), (qw g J1))) ∧ (((v2 = false → False) ∧ (v2 = true → ∃ (v4 : Int32) (J3 : _), qRun (d - 1) 305 [.ref 49, .int x1] (qw g J1) (.inl (some (.int v4), (qw g J3))) ∧ (qok (some .char) v4 ∧ (Q (.inl (some (.int v4), (qw g J3))))))))) :
    qwq d 301 0 [(0, .ref 29), (1, .int x1)] [] (qw g I) Q := qZ_sound qU_ok (N := qN) (S := qS301) 52 true (⟨by omega, rfl, (h).elim (fun v2 h => h.elim (fun J1 h => ⟨_, _, h.1, ⟨fun q6 => ⟨rfl, ((h.2.1 (qb_eq0 q6))).elim⟩, fun q6 => ⟨rfl, ⟨by omega, ((h.2.2 (qb_ne0 q6))).elim (fun v4 h => h.elim (fun J3 h => ⟨_, _, h.1, (h.2).elim (fun c5 h => ⟨c5, h⟩)⟩))⟩⟩⟩⟩))⟩)
/- 305 java/lang/StringLatin1.charAt ([BI)C -/
theorem b305w19_0 {d : Nat} {g : qG1} {I : Nat → Nat → Int32} {Q : qR → Prop} {x1 : Int32} (hd : 3 ≤ d)
    (h : ∃ J1, qRun (d - 1) 304 [.int x1, .int (qj 4)] (qw g I) (.inl (none, (qw g J1))) ∧ (qIx x1 4 ∧ (qok (some .char) (((J1 49 x1.toNatClampNeg) &&& (qj 255)).toUInt32 % 65536).toInt32 ∧ (Q (.inl (some (.int (((J1 49 x1.toNatClampNeg) &&& (qj 255)).toUInt32 % 65536).toInt32), (qw g J1))))))) :
    qwq d 305 0 [(0, .ref 49), (1, .int x1)] [] (qw g I) Q := qZ_sound qU_ok (N := qN) (S := qS305) 51 true (⟨(qarr_mk12 rfl), ⟨by omega, (h).elim (fun J1 h => ⟨_, h.1, (h.2).elim (fun c2 h => ⟨(qinB_mk12 rfl c2), (h).elim (fun c3 h => ⟨c3, h⟩)⟩)⟩)⟩⟩)
