/-! ===== the constructors, by program (wip/whole/gen/mkctor.py) ===== -/
theorem bfz {c : Bool} {x y : Nat} (hc : c = false) (hy : y = 0) : (bif c then x else y) = 0 := by rw [hc]; exact hy
theorem bltF {a b : Nat} (h : b ≤ a) : Nat.blt a b = false := by
  cases e : Nat.blt a b with
  | false => rfl
  | true => have : a + 1 ≤ b := Nat.le_of_ble_eq_true e; omega
theorem lne {o : Nat} {l : List (Nat × Nat)} (h : l.all (fun q => !(Nat.beq q.1 o)) = true) : ∀ q ∈ l, ¬ q.1 = o := fun q hq e => by
  have := List.all_eq_true.mp h q hq
  have e2 : Nat.beq q.1 o = true := by rw [e]; exact Nat.beq_refl o
  rw [e2] at this; exact Bool.noConfusion this
theorem llt {m : Nat} {l : List (Nat × Nat)} (h : l.all (fun q => Nat.blt q.1 m) = true) : ∀ q ∈ l, q.1 < m := fun q hq => Nat.le_of_ble_eq_true (List.all_eq_true.mp h q hq)
theorem s84_64_0 {d r6 L : Nat} {Q : qR → Prop} {I : Nat → Nat → Int32} {P : Nat → Nat → Nat} (hd : 30 ≤ d) (H : qMc (qW0 r6) 65 [(64, 0)] I P)
    (h : ∀ P2, qMc (qW0 r6) 66 [(65, 0), (64, 0)] I P2 → qwq d 84 8 [(0, .ref 64)] [.ref 65, .ref 64] (mc 66 2 27 L I P2) Q) :
    qwq d 84 0 [(0, .ref 64)] [] (mc 65 1 18 L I P) Q := qY_sound qU_ok (fun p => bif Nat.beq p 8 then some [0, 1, 2, 3, 4] else none) 12 true (⟨⟨by omega, rfl⟩, ⟨rfl, mc_to (mc_mk H rfl rfl rfl rfl) (h P (pk_new H rfl))⟩⟩)
theorem s70_65_0 {d r6 L : Nat} {Q : qR → Prop} {I : Nat → Nat → Int32} {P : Nat → Nat → Nat} (hd : 20 ≤ d) (H : qMc (qW0 r6) 66 [(65, 0), (64, 0)] I P)
    (h : ∀ P2, qMc (qW0 r6) 67 [(65, 0), (64, 0)] I P2 → qwq d 70 10 [(0, .ref 65)] [.ref 66, .ref 65] (mc 67 3 627 L I P2) Q) :
    qwq d 70 0 [(0, .ref 65)] [] (mc 66 2 27 L I P) Q := qY_sound qU_ok (fun p => bif Nat.beq p 10 then some [0, 1, 2, 3, 4] else none) 12 true (⟨⟨by omega, rfl⟩, ⟨⟨rfl, by decide, by decide⟩, mc_to (mc_mk H rfl rfl rfl rfl) (h P (pk_leaf H (fun _ => rfl) rfl))⟩⟩)
theorem s70_65_10 {d r6 L : Nat} {Q : qR → Prop} {I : Nat → Nat → Int32} {P : Nat → Nat → Nat} (hd : 20 ≤ d) (H : qMc (qW0 r6) 67 [(65, 0), (64, 0)] I P)
    (h : ∀ P2, qMc (qW0 r6) 67 [(65, 1), (64, 0)] I P2 → qwq d 70 13 [(0, .ref 65)] [] (mc 67 3 627 L I P2) Q) :
    qwq d 70 10 [(0, .ref 65)] [.ref 66, .ref 65] (mc 67 3 627 L I P) Q := qY_sound qU_ok (fun p => bif Nat.beq p 13 then some [0, 1, 2, 3, 4] else none) 12 true (⟨rfl, h (qup P 65 0 66) (pk_put H (by omega) (by omega) (fun b h1 h2 => by omega) rfl (lne rfl) rfl)⟩)
theorem s70_65_13 {d r6 L : Nat} {Q : qR → Prop} {I : Nat → Nat → Int32} {P : Nat → Nat → Nat} (hd : 20 ≤ d) (H : qMc (qW0 r6) 67 [(65, 1), (64, 0)] I P)
    (h : ∀ P2, qMc (qW0 r6) 67 [(65, 1), (64, 0)] (qup I 65 5 (qj (-1))) P2 → qwq d 70 18 [(0, .ref 65)] [] (mc 67 3 627 L (qup I 65 5 (qj (-1))) P2) Q) :
    qwq d 70 13 [(0, .ref 65)] [] (mc 67 3 627 L I P) Q := qY_sound qU_ok (fun p => bif Nat.beq p 18 then some [0, 1, 2, 3, 4] else none) 12 true (⟨rfl, h P (pk_int H (by omega))⟩)
theorem s70_65_18 {d r6 L : Nat} {Q : qR → Prop} {I : Nat → Nat → Int32} {P : Nat → Nat → Nat} (hd : 20 ≤ d) (H : qMc (qW0 r6) 67 [(65, 1), (64, 0)] I P)
    (h : Q (.inl (none, mc 67 3 627 L I P))) :
    qwq d 70 18 [(0, .ref 65)] [] (mc 67 3 627 L I P) Q := qY_sound qU_ok (fun _ => none) 12 true (⟨rfl, h⟩)
theorem n70_65 {d r6 L : Nat} {Q : qR → Prop} {I : Nat → Nat → Int32} {P : Nat → Nat → Nat} (hd : 20 ≤ d) (H : qMc (qW0 r6) 66 [(65, 0), (64, 0)] I P)
    (h : ∀ P2, qMc (qW0 r6) 67 [(65, 1), (64, 0)] (qup I 65 5 (qj (-1))) P2 → Q (.inl (none, mc 67 3 627 L (qup I 65 5 (qj (-1))) P2))) : qwp d 70 [.ref 65] (mc 66 2 27 L I P) Q := by
  refine s70_65_0 hd H (fun P H => ?_)
  refine s70_65_10 hd H (fun P H => ?_)
  refine s70_65_13 hd H (fun P H => ?_)
  exact s70_65_18 hd H (h _ H)
theorem s84_64_8 {d r6 L : Nat} {Q : qR → Prop} {I : Nat → Nat → Int32} {P : Nat → Nat → Nat} (hd : 30 ≤ d) (H : qMc (qW0 r6) 66 [(65, 0), (64, 0)] I P)
    (h : ∀ P2, qMc (qW0 r6) 67 [(65, 1), (64, 0)] (qup I 65 5 (qj (-1))) P2 → qwq d 84 12 [(0, .ref 64)] [.ref 65, .ref 64] (mc 67 3 627 L (qup I 65 5 (qj (-1))) P2) Q) :
    qwq d 84 8 [(0, .ref 64)] [.ref 65, .ref 64] (mc 66 2 27 L I P) Q := qY_sound qU_ok (fun p => bif Nat.beq p 12 then some [0, 1, 2, 3, 4] else none) 12 true (⟨by omega, rfl, n70_65 (by omega) H (fun P2 H2 => h P2 H2)⟩)
theorem s84_64_12 {d r6 L : Nat} {Q : qR → Prop} {I : Nat → Nat → Int32} {P : Nat → Nat → Nat} (hd : 30 ≤ d) (H : qMc (qW0 r6) 67 [(65, 1), (64, 0)] I P)
    (h : ∀ P2, qMc (qW0 r6) 67 [(64, 1)] I P2 → qwq d 84 15 [(0, .ref 64)] [] (mc 67 3 627 L I P2) Q) :
    qwq d 84 12 [(0, .ref 64)] [.ref 65, .ref 64] (mc 67 3 627 L I P) Q := qY_sound qU_ok (fun p => bif Nat.beq p 15 then some [0, 1, 2, 3, 4] else none) 12 true (⟨rfl, h (qup P 64 0 65) (pk_put (pk_close H (fun b hb => by show (bif Nat.blt b 1 then 66 else 0) = 0; repeat (first | rfl | refine bfz (bltF (by omega)) ?_))) (by omega) (by omega) (fun b h1 h2 => by omega) rfl (lne rfl) rfl)⟩)
theorem s84_64_15 {d r6 L : Nat} {Q : qR → Prop} {I : Nat → Nat → Int32} {P : Nat → Nat → Nat} (hd : 30 ≤ d) (H : qMc (qW0 r6) 67 [(64, 1)] I P)
    (h : ∀ P2, qMc (qW0 r6) 68 [(67, 0), (64, 1)] I P2 → qwq d 84 19 [(0, .ref 64)] [.ref 67, .ref 64] (mc 68 4 644 L I P2) Q) :
    qwq d 84 15 [(0, .ref 64)] [] (mc 67 3 627 L I P) Q := qY_sound qU_ok (fun p => bif Nat.beq p 19 then some [0, 1, 2, 3, 4] else none) 12 true (⟨rfl, mc_to (mc_mk H rfl rfl rfl rfl) (h P (pk_new H rfl))⟩)
theorem s15_67_0 {d r6 L : Nat} {Q : qR → Prop} {I : Nat → Nat → Int32} {P : Nat → Nat → Nat} (hd : 20 ≤ d) (H : qMc (qW0 r6) 68 [(67, 0), (64, 1)] I P)
    (h : ∀ P2, qMc (qW0 r6) 69 [(67, 0), (64, 1)] I P2 → qwq d 15 9 [(0, .ref 67)] [.ref 68, .ref 67] (mc 69 5 653 L I P2) Q) :
    qwq d 15 0 [(0, .ref 67)] [] (mc 68 4 644 L I P) Q := qY_sound qU_ok (fun p => bif Nat.beq p 9 then some [0, 1, 2, 3, 4] else none) 12 true (⟨⟨by omega, rfl⟩, ⟨⟨rfl, by decide, by decide⟩, mc_to (mc_mk H rfl rfl rfl rfl) (h P (pk_leaf H (fun _ => rfl) rfl))⟩⟩)
theorem s15_67_9 {d r6 L : Nat} {Q : qR → Prop} {I : Nat → Nat → Int32} {P : Nat → Nat → Nat} (hd : 20 ≤ d) (H : qMc (qW0 r6) 69 [(67, 0), (64, 1)] I P)
    (h : ∀ P2, qMc (qW0 r6) 69 [(67, 2), (64, 1)] I P2 → qwq d 15 12 [(0, .ref 67)] [] (mc 69 5 653 L I P2) Q) :
    qwq d 15 9 [(0, .ref 67)] [.ref 68, .ref 67] (mc 69 5 653 L I P) Q := qY_sound qU_ok (fun p => bif Nat.beq p 12 then some [0, 1, 2, 3, 4] else none) 12 true (⟨rfl, h (qup P 67 1 68) (pk_put H (by omega) (by omega) (fun b h1 h2 => by have hb : b = 0 := (by omega); subst hb; rfl) rfl (lne rfl) rfl)⟩)
theorem s15_67_12 {d r6 L : Nat} {Q : qR → Prop} {I : Nat → Nat → Int32} {P : Nat → Nat → Nat} (hd : 20 ≤ d) (H : qMc (qW0 r6) 69 [(67, 2), (64, 1)] I P)
    (h : ∀ P2, qMc (qW0 r6) 70 [(67, 2), (64, 1)] I P2 → qwq d 15 17 [(0, .ref 67)] [.ref 69, .ref 67] (mc 70 6 662 L I P2) Q) :
    qwq d 15 12 [(0, .ref 67)] [] (mc 69 5 653 L I P) Q := qY_sound qU_ok (fun p => bif Nat.beq p 17 then some [0, 1, 2, 3, 4] else none) 12 true (⟨⟨rfl, by decide, by decide⟩, mc_to (mc_mk H rfl rfl rfl rfl) (h P (pk_leaf H (fun _ => rfl) rfl))⟩)
theorem s15_67_17 {d r6 L : Nat} {Q : qR → Prop} {I : Nat → Nat → Int32} {P : Nat → Nat → Nat} (hd : 20 ≤ d) (H : qMc (qW0 r6) 70 [(67, 2), (64, 1)] I P)
    (h : ∀ P2, qMc (qW0 r6) 70 [(67, 3), (64, 1)] I P2 → qwq d 15 20 [(0, .ref 67)] [] (mc 70 6 662 L I P2) Q) :
    qwq d 15 17 [(0, .ref 67)] [.ref 69, .ref 67] (mc 70 6 662 L I P) Q := qY_sound qU_ok (fun p => bif Nat.beq p 20 then some [0, 1, 2, 3, 4] else none) 12 true (⟨rfl, h (qup P 67 2 69) (pk_put H (by omega) (by omega) (fun b h1 h2 => by omega) rfl (lne rfl) rfl)⟩)
theorem s15_67_20 {d r6 L : Nat} {Q : qR → Prop} {I : Nat → Nat → Int32} {P : Nat → Nat → Nat} (hd : 20 ≤ d) (H : qMc (qW0 r6) 70 [(67, 3), (64, 1)] I P)
    (h : ∀ P2, qMc (qW0 r6) 71 [(67, 3), (64, 1)] I P2 → qwq d 15 25 [(0, .ref 67)] [.ref 70, .ref 67] (mc 71 7 671 L I P2) Q) :
    qwq d 15 20 [(0, .ref 67)] [] (mc 70 6 662 L I P) Q := qY_sound qU_ok (fun p => bif Nat.beq p 25 then some [0, 1, 2, 3, 4] else none) 12 true (⟨⟨rfl, by decide, by decide⟩, mc_to (mc_mk H rfl rfl rfl rfl) (h P (pk_leaf H (fun _ => rfl) rfl))⟩)
theorem s15_67_25 {d r6 L : Nat} {Q : qR → Prop} {I : Nat → Nat → Int32} {P : Nat → Nat → Nat} (hd : 20 ≤ d) (H : qMc (qW0 r6) 71 [(67, 3), (64, 1)] I P)
    (h : ∀ P2, qMc (qW0 r6) 71 [(67, 4), (64, 1)] I P2 → qwq d 15 28 [(0, .ref 67)] [] (mc 71 7 671 L I P2) Q) :
    qwq d 15 25 [(0, .ref 67)] [.ref 70, .ref 67] (mc 71 7 671 L I P) Q := qY_sound qU_ok (fun p => bif Nat.beq p 28 then some [0, 1, 2, 3, 4] else none) 12 true (⟨rfl, h (qup P 67 3 70) (pk_put H (by omega) (by omega) (fun b h1 h2 => by omega) rfl (lne rfl) rfl)⟩)
theorem s15_67_28 {d r6 L : Nat} {Q : qR → Prop} {I : Nat → Nat → Int32} {P : Nat → Nat → Nat} (hd : 20 ≤ d) (H : qMc (qW0 r6) 71 [(67, 4), (64, 1)] I P)
    (h : ∀ P2, qMc (qW0 r6) 72 [(67, 4), (64, 1)] I P2 → qwq d 15 33 [(0, .ref 67)] [.ref 71, .ref 67] (mc 72 8 680 L I P2) Q) :
    qwq d 15 28 [(0, .ref 67)] [] (mc 71 7 671 L I P) Q := qY_sound qU_ok (fun p => bif Nat.beq p 33 then some [0, 1, 2, 3, 4] else none) 12 true (⟨⟨rfl, by decide, by decide⟩, mc_to (mc_mk H rfl rfl rfl rfl) (h P (pk_leaf H (fun _ => rfl) rfl))⟩)
theorem s15_67_33 {d r6 L : Nat} {Q : qR → Prop} {I : Nat → Nat → Int32} {P : Nat → Nat → Nat} (hd : 20 ≤ d) (H : qMc (qW0 r6) 72 [(67, 4), (64, 1)] I P)
    (h : ∀ P2, qMc (qW0 r6) 72 [(67, 5), (64, 1)] I P2 → qwq d 15 36 [(0, .ref 67)] [] (mc 72 8 680 L I P2) Q) :
    qwq d 15 33 [(0, .ref 67)] [.ref 71, .ref 67] (mc 72 8 680 L I P) Q := qY_sound qU_ok (fun p => bif Nat.beq p 36 then some [0, 1, 2, 3, 4] else none) 12 true (⟨rfl, h (qup P 67 4 71) (pk_put H (by omega) (by omega) (fun b h1 h2 => by omega) rfl (lne rfl) rfl)⟩)
theorem s15_67_36 {d r6 L : Nat} {Q : qR → Prop} {I : Nat → Nat → Int32} {P : Nat → Nat → Nat} (hd : 20 ≤ d) (H : qMc (qW0 r6) 72 [(67, 5), (64, 1)] I P)
    (h : ∀ P2, qMc (qW0 r6) 73 [(67, 5), (64, 1)] I P2 → qwq d 15 41 [(0, .ref 67)] [.ref 72, .ref 67] (mc 73 9 689 L I P2) Q) :
    qwq d 15 36 [(0, .ref 67)] [] (mc 72 8 680 L I P) Q := qY_sound qU_ok (fun p => bif Nat.beq p 41 then some [0, 1, 2, 3, 4] else none) 12 true (⟨⟨rfl, by decide, by decide⟩, mc_to (mc_mk H rfl rfl rfl rfl) (h P (pk_leaf H (fun _ => rfl) rfl))⟩)
theorem s15_67_41 {d r6 L : Nat} {Q : qR → Prop} {I : Nat → Nat → Int32} {P : Nat → Nat → Nat} (hd : 20 ≤ d) (H : qMc (qW0 r6) 73 [(67, 5), (64, 1)] I P)
    (h : ∀ P2, qMc (qW0 r6) 73 [(67, 6), (64, 1)] I P2 → qwq d 15 44 [(0, .ref 67)] [] (mc 73 9 689 L I P2) Q) :
    qwq d 15 41 [(0, .ref 67)] [.ref 72, .ref 67] (mc 73 9 689 L I P) Q := qY_sound qU_ok (fun p => bif Nat.beq p 44 then some [0, 1, 2, 3, 4] else none) 12 true (⟨rfl, h (qup P 67 5 72) (pk_put H (by omega) (by omega) (fun b h1 h2 => by omega) rfl (lne rfl) rfl)⟩)
theorem s15_67_44 {d r6 L : Nat} {Q : qR → Prop} {I : Nat → Nat → Int32} {P : Nat → Nat → Nat} (hd : 20 ≤ d) (H : qMc (qW0 r6) 73 [(67, 6), (64, 1)] I P)
    (h : ∀ P2, qMc (qW0 r6) 74 [(67, 6), (64, 1)] I P2 → qwq d 15 49 [(0, .ref 67)] [.ref 73, .ref 67] (mc 74 10 698 L I P2) Q) :
    qwq d 15 44 [(0, .ref 67)] [] (mc 73 9 689 L I P) Q := qY_sound qU_ok (fun p => bif Nat.beq p 49 then some [0, 1, 2, 3, 4] else none) 12 true (⟨⟨rfl, by decide, by decide⟩, mc_to (mc_mk H rfl rfl rfl rfl) (h P (pk_leaf H (fun _ => rfl) rfl))⟩)
theorem s15_67_49 {d r6 L : Nat} {Q : qR → Prop} {I : Nat → Nat → Int32} {P : Nat → Nat → Nat} (hd : 20 ≤ d) (H : qMc (qW0 r6) 74 [(67, 6), (64, 1)] I P)
    (h : ∀ P2, qMc (qW0 r6) 74 [(67, 7), (64, 1)] I P2 → qwq d 15 52 [(0, .ref 67)] [] (mc 74 10 698 L I P2) Q) :
    qwq d 15 49 [(0, .ref 67)] [.ref 73, .ref 67] (mc 74 10 698 L I P) Q := qY_sound qU_ok (fun p => bif Nat.beq p 52 then some [0, 1, 2, 3, 4] else none) 12 true (⟨rfl, h (qup P 67 6 73) (pk_put H (by omega) (by omega) (fun b h1 h2 => by omega) rfl (lne rfl) rfl)⟩)
theorem s15_67_52 {d r6 L : Nat} {Q : qR → Prop} {I : Nat → Nat → Int32} {P : Nat → Nat → Nat} (hd : 20 ≤ d) (H : qMc (qW0 r6) 74 [(67, 7), (64, 1)] I P)
    (h : ∀ P2, qMc (qW0 r6) 84 [(67, 7), (64, 1)] I P2 → qwq d 15 61 [(0, .ref 67)] [.ref 74, .ref 67] (mc 84 20 788 L I P2) Q) :
    qwq d 15 52 [(0, .ref 67)] [] (mc 74 10 698 L I P) Q := qY_sound qU_ok (fun p => bif Nat.beq p 61 then some [0, 1, 2, 3, 4] else none) 12 true (⟨⟨rfl, by decide, by decide, by decide, by decide⟩, mc_to (mc_mm H rfl (fun i hi => q2c (n := 9) (fun i => qSH L (74 + 1 + i) = (1, 9)) ⟨rfl, rfl, rfl, rfl, rfl, rfl, rfl, rfl, rfl, trivial⟩ i hi) rfl rfl rfl) (h (mmP 74 9 P) (pk_mm H (fun b => q2_if 9 74 b) (fun i hi => q2c (n := 9) (fun i => ∀ b, qPf (qW0 r6) (74 + 1 + i) b = 0) ⟨fun _ => rfl, fun _ => rfl, fun _ => rfl, fun _ => rfl, fun _ => rfl, fun _ => rfl, fun _ => rfl, fun _ => rfl, fun _ => rfl, trivial⟩ i hi) (llt rfl) rfl))⟩)
theorem s15_67_61 {d r6 L : Nat} {Q : qR → Prop} {I : Nat → Nat → Int32} {P : Nat → Nat → Nat} (hd : 20 ≤ d) (H : qMc (qW0 r6) 84 [(67, 7), (64, 1)] I P)
    (h : ∀ P2, qMc (qW0 r6) 84 [(67, 8), (64, 1)] I P2 → qwq d 15 64 [(0, .ref 67)] [] (mc 84 20 788 L I P2) Q) :
    qwq d 15 61 [(0, .ref 67)] [.ref 74, .ref 67] (mc 84 20 788 L I P) Q := qY_sound qU_ok (fun p => bif Nat.beq p 64 then some [0, 1, 2, 3, 4] else none) 12 true (⟨rfl, h (qup P 67 7 74) (pk_put H (by omega) (by omega) (fun b h1 h2 => by omega) rfl (lne rfl) rfl)⟩)
theorem s15_67_64 {d r6 L : Nat} {Q : qR → Prop} {I : Nat → Nat → Int32} {P : Nat → Nat → Nat} (hd : 20 ≤ d) (H : qMc (qW0 r6) 84 [(67, 8), (64, 1)] I P)
    (h : ∀ P2, qMc (qW0 r6) 85 [(67, 8), (64, 1)] I P2 → qwq d 15 69 [(0, .ref 67)] [.ref 84, .ref 67] (mc 85 21 796 L I P2) Q) :
    qwq d 15 64 [(0, .ref 67)] [] (mc 84 20 788 L I P) Q := qY_sound qU_ok (fun p => bif Nat.beq p 69 then some [0, 1, 2, 3, 4] else none) 12 true (⟨⟨rfl, by decide, by decide⟩, mc_to (mc_mk H rfl rfl rfl rfl) (h P (pk_leaf H (fun _ => rfl) rfl))⟩)
theorem s15_67_69 {d r6 L : Nat} {Q : qR → Prop} {I : Nat → Nat → Int32} {P : Nat → Nat → Nat} (hd : 20 ≤ d) (H : qMc (qW0 r6) 85 [(67, 8), (64, 1)] I P)
    (h : ∀ P2, qMc (qW0 r6) 85 [(67, 10), (64, 1)] I P2 → qwq d 15 72 [(0, .ref 67)] [] (mc 85 21 796 L I P2) Q) :
    qwq d 15 69 [(0, .ref 67)] [.ref 84, .ref 67] (mc 85 21 796 L I P) Q := qY_sound qU_ok (fun p => bif Nat.beq p 72 then some [0, 1, 2, 3, 4] else none) 12 true (⟨rfl, h (qup P 67 9 84) (pk_put H (by omega) (by omega) (fun b h1 h2 => by have hb : b = 8 := (by omega); subst hb; rfl) rfl (lne rfl) rfl)⟩)
theorem s15_67_72 {d r6 L : Nat} {Q : qR → Prop} {I : Nat → Nat → Int32} {P : Nat → Nat → Nat} (hd : 20 ≤ d) (H : qMc (qW0 r6) 85 [(67, 10), (64, 1)] I P)
    (h : ∀ P2, qMc (qW0 r6) 86 [(67, 10), (64, 1)] I P2 → qwq d 15 77 [(0, .ref 67)] [.ref 85, .ref 67] (mc 86 22 804 L I P2) Q) :
    qwq d 15 72 [(0, .ref 67)] [] (mc 85 21 796 L I P) Q := qY_sound qU_ok (fun p => bif Nat.beq p 77 then some [0, 1, 2, 3, 4] else none) 12 true (⟨⟨rfl, by decide, by decide⟩, mc_to (mc_mk H rfl rfl rfl rfl) (h P (pk_leaf H (fun _ => rfl) rfl))⟩)
theorem s15_67_77 {d r6 L : Nat} {Q : qR → Prop} {I : Nat → Nat → Int32} {P : Nat → Nat → Nat} (hd : 20 ≤ d) (H : qMc (qW0 r6) 86 [(67, 10), (64, 1)] I P)
    (h : ∀ P2, qMc (qW0 r6) 86 [(67, 11), (64, 1)] I P2 → qwq d 15 80 [(0, .ref 67)] [] (mc 86 22 804 L I P2) Q) :
    qwq d 15 77 [(0, .ref 67)] [.ref 85, .ref 67] (mc 86 22 804 L I P) Q := qY_sound qU_ok (fun p => bif Nat.beq p 80 then some [0, 1, 2, 3, 4] else none) 12 true (⟨rfl, h (qup P 67 10 85) (pk_put H (by omega) (by omega) (fun b h1 h2 => by omega) rfl (lne rfl) rfl)⟩)
theorem s15_67_80 {d r6 L : Nat} {Q : qR → Prop} {I : Nat → Nat → Int32} {P : Nat → Nat → Nat} (hd : 20 ≤ d) (H : qMc (qW0 r6) 86 [(67, 11), (64, 1)] I P)
    (h : ∀ P2, qMc (qW0 r6) 87 [(67, 11), (64, 1)] I P2 → qwq d 15 85 [(0, .ref 67)] [.ref 86, .ref 67] (mc 87 23 812 L I P2) Q) :
    qwq d 15 80 [(0, .ref 67)] [] (mc 86 22 804 L I P) Q := qY_sound qU_ok (fun p => bif Nat.beq p 85 then some [0, 1, 2, 3, 4] else none) 12 true (⟨⟨rfl, by decide, by decide⟩, mc_to (mc_mk H rfl rfl rfl rfl) (h P (pk_leaf H (fun _ => rfl) rfl))⟩)
theorem s15_67_85 {d r6 L : Nat} {Q : qR → Prop} {I : Nat → Nat → Int32} {P : Nat → Nat → Nat} (hd : 20 ≤ d) (H : qMc (qW0 r6) 87 [(67, 11), (64, 1)] I P)
    (h : ∀ P2, qMc (qW0 r6) 87 [(67, 12), (64, 1)] I P2 → qwq d 15 88 [(0, .ref 67)] [] (mc 87 23 812 L I P2) Q) :
    qwq d 15 85 [(0, .ref 67)] [.ref 86, .ref 67] (mc 87 23 812 L I P) Q := qY_sound qU_ok (fun p => bif Nat.beq p 88 then some [0, 1, 2, 3, 4] else none) 12 true (⟨rfl, h (qup P 67 11 86) (pk_put H (by omega) (by omega) (fun b h1 h2 => by omega) rfl (lne rfl) rfl)⟩)
theorem s15_67_88 {d r6 L : Nat} {Q : qR → Prop} {I : Nat → Nat → Int32} {P : Nat → Nat → Nat} (hd : 20 ≤ d) (H : qMc (qW0 r6) 87 [(67, 12), (64, 1)] I P)
    (h : ∀ P2, qMc (qW0 r6) 88 [(67, 12), (64, 1)] I P2 → qwq d 15 93 [(0, .ref 67)] [.ref 87, .ref 67] (mc 88 24 818 L I P2) Q) :
    qwq d 15 88 [(0, .ref 67)] [] (mc 87 23 812 L I P) Q := qY_sound qU_ok (fun p => bif Nat.beq p 93 then some [0, 1, 2, 3, 4] else none) 12 true (⟨⟨rfl, by decide, by decide⟩, mc_to (mc_mk H rfl rfl rfl rfl) (h P (pk_leaf H (fun _ => rfl) rfl))⟩)
theorem s15_67_93 {d r6 L : Nat} {Q : qR → Prop} {I : Nat → Nat → Int32} {P : Nat → Nat → Nat} (hd : 20 ≤ d) (H : qMc (qW0 r6) 88 [(67, 12), (64, 1)] I P)
    (h : ∀ P2, qMc (qW0 r6) 88 [(67, 14), (64, 1)] I P2 → qwq d 15 96 [(0, .ref 67)] [] (mc 88 24 818 L I P2) Q) :
    qwq d 15 93 [(0, .ref 67)] [.ref 87, .ref 67] (mc 88 24 818 L I P) Q := qY_sound qU_ok (fun p => bif Nat.beq p 96 then some [0, 1, 2, 3, 4] else none) 12 true (⟨rfl, h (qup P 67 13 87) (pk_put H (by omega) (by omega) (fun b h1 h2 => by have hb : b = 12 := (by omega); subst hb; rfl) rfl (lne rfl) rfl)⟩)
theorem s15_67_96 {d r6 L : Nat} {Q : qR → Prop} {I : Nat → Nat → Int32} {P : Nat → Nat → Nat} (hd : 20 ≤ d) (H : qMc (qW0 r6) 88 [(67, 14), (64, 1)] I P)
    (h : ∀ P2, qMc (qW0 r6) 89 [(67, 14), (64, 1)] I P2 → qwq d 15 101 [(0, .ref 67)] [.ref 88, .ref 67] (mc 89 25 824 L I P2) Q) :
    qwq d 15 96 [(0, .ref 67)] [] (mc 88 24 818 L I P) Q := qY_sound qU_ok (fun p => bif Nat.beq p 101 then some [0, 1, 2, 3, 4] else none) 12 true (⟨⟨rfl, by decide, by decide⟩, mc_to (mc_mk H rfl rfl rfl rfl) (h P (pk_leaf H (fun _ => rfl) rfl))⟩)
theorem s15_67_101 {d r6 L : Nat} {Q : qR → Prop} {I : Nat → Nat → Int32} {P : Nat → Nat → Nat} (hd : 20 ≤ d) (H : qMc (qW0 r6) 89 [(67, 14), (64, 1)] I P)
    (h : ∀ P2, qMc (qW0 r6) 89 [(67, 15), (64, 1)] I P2 → qwq d 15 104 [(0, .ref 67)] [] (mc 89 25 824 L I P2) Q) :
    qwq d 15 101 [(0, .ref 67)] [.ref 88, .ref 67] (mc 89 25 824 L I P) Q := qY_sound qU_ok (fun p => bif Nat.beq p 104 then some [0, 1, 2, 3, 4] else none) 12 true (⟨rfl, h (qup P 67 14 88) (pk_put H (by omega) (by omega) (fun b h1 h2 => by omega) rfl (lne rfl) rfl)⟩)
theorem s15_67_104 {d r6 L : Nat} {Q : qR → Prop} {I : Nat → Nat → Int32} {P : Nat → Nat → Nat} (hd : 20 ≤ d) (H : qMc (qW0 r6) 89 [(67, 15), (64, 1)] I P)
    (h : ∀ P2, qMc (qW0 r6) 96 [(67, 15), (64, 1)] I P2 → qwq d 15 113 [(0, .ref 67)] [.ref 89, .ref 67] (mc 96 32 866 L I P2) Q) :
    qwq d 15 104 [(0, .ref 67)] [] (mc 89 25 824 L I P) Q := qY_sound qU_ok (fun p => bif Nat.beq p 113 then some [0, 1, 2, 3, 4] else none) 12 true (⟨⟨rfl, by decide, by decide, by decide, by decide⟩, mc_to (mc_mm H rfl (fun i hi => q2c (n := 6) (fun i => qSH L (89 + 1 + i) = (1, 6)) ⟨rfl, rfl, rfl, rfl, rfl, rfl, trivial⟩ i hi) rfl rfl rfl) (h (mmP 89 6 P) (pk_mm H (fun b => q2_if 6 89 b) (fun i hi => q2c (n := 6) (fun i => ∀ b, qPf (qW0 r6) (89 + 1 + i) b = 0) ⟨fun _ => rfl, fun _ => rfl, fun _ => rfl, fun _ => rfl, fun _ => rfl, fun _ => rfl, trivial⟩ i hi) (llt rfl) rfl))⟩)
theorem s15_67_113 {d r6 L : Nat} {Q : qR → Prop} {I : Nat → Nat → Int32} {P : Nat → Nat → Nat} (hd : 20 ≤ d) (H : qMc (qW0 r6) 96 [(67, 15), (64, 1)] I P)
    (h : ∀ P2, qMc (qW0 r6) 96 [(67, 16), (64, 1)] I P2 → qwq d 15 116 [(0, .ref 67)] [] (mc 96 32 866 L I P2) Q) :
    qwq d 15 113 [(0, .ref 67)] [.ref 89, .ref 67] (mc 96 32 866 L I P) Q := qY_sound qU_ok (fun p => bif Nat.beq p 116 then some [0, 1, 2, 3, 4] else none) 12 true (⟨rfl, h (qup P 67 15 89) (pk_put H (by omega) (by omega) (fun b h1 h2 => by omega) rfl (lne rfl) rfl)⟩)
theorem s15_67_116 {d r6 L : Nat} {Q : qR → Prop} {I : Nat → Nat → Int32} {P : Nat → Nat → Nat} (hd : 20 ≤ d) (H : qMc (qW0 r6) 96 [(67, 16), (64, 1)] I P)
    (h : ∀ P2, qMc (qW0 r6) 96 [(67, 16), (64, 1)] (qup I 67 16 (qj 1)) P2 → qwq d 15 121 [(0, .ref 67)] [] (mc 96 32 866 L (qup I 67 16 (qj 1)) P2) Q) :
    qwq d 15 116 [(0, .ref 67)] [] (mc 96 32 866 L I P) Q := qY_sound qU_ok (fun p => bif Nat.beq p 121 then some [0, 1, 2, 3, 4] else none) 12 true (⟨rfl, h P (pk_int H (by omega))⟩)
theorem s15_67_121 {d r6 L : Nat} {Q : qR → Prop} {I : Nat → Nat → Int32} {P : Nat → Nat → Nat} (hd : 20 ≤ d) (H : qMc (qW0 r6) 96 [(67, 16), (64, 1)] I P)
    (h : Q (.inl (none, mc 96 32 866 L I P))) :
    qwq d 15 121 [(0, .ref 67)] [] (mc 96 32 866 L I P) Q := qY_sound qU_ok (fun _ => none) 12 true (⟨rfl, h⟩)
theorem n15_67 {d r6 L : Nat} {Q : qR → Prop} {I : Nat → Nat → Int32} {P : Nat → Nat → Nat} (hd : 20 ≤ d) (H : qMc (qW0 r6) 68 [(67, 0), (64, 1)] I P)
    (h : ∀ P2, qMc (qW0 r6) 96 [(67, 16), (64, 1)] (qup I 67 16 (qj 1)) P2 → Q (.inl (none, mc 96 32 866 L (qup I 67 16 (qj 1)) P2))) : qwp d 15 [.ref 67] (mc 68 4 644 L I P) Q := by
  refine s15_67_0 hd H (fun P H => ?_)
  refine s15_67_9 hd H (fun P H => ?_)
  refine s15_67_12 hd H (fun P H => ?_)
  refine s15_67_17 hd H (fun P H => ?_)
  refine s15_67_20 hd H (fun P H => ?_)
  refine s15_67_25 hd H (fun P H => ?_)
  refine s15_67_28 hd H (fun P H => ?_)
  refine s15_67_33 hd H (fun P H => ?_)
  refine s15_67_36 hd H (fun P H => ?_)
  refine s15_67_41 hd H (fun P H => ?_)
  refine s15_67_44 hd H (fun P H => ?_)
  refine s15_67_49 hd H (fun P H => ?_)
  refine s15_67_52 hd H (fun P H => ?_)
  refine s15_67_61 hd H (fun P H => ?_)
  refine s15_67_64 hd H (fun P H => ?_)
  refine s15_67_69 hd H (fun P H => ?_)
  refine s15_67_72 hd H (fun P H => ?_)
  refine s15_67_77 hd H (fun P H => ?_)
  refine s15_67_80 hd H (fun P H => ?_)
  refine s15_67_85 hd H (fun P H => ?_)
  refine s15_67_88 hd H (fun P H => ?_)
  refine s15_67_93 hd H (fun P H => ?_)
  refine s15_67_96 hd H (fun P H => ?_)
  refine s15_67_101 hd H (fun P H => ?_)
  refine s15_67_104 hd H (fun P H => ?_)
  refine s15_67_113 hd H (fun P H => ?_)
  refine s15_67_116 hd H (fun P H => ?_)
  exact s15_67_121 hd H (h _ H)
theorem s84_64_19 {d r6 L : Nat} {Q : qR → Prop} {I : Nat → Nat → Int32} {P : Nat → Nat → Nat} (hd : 30 ≤ d) (H : qMc (qW0 r6) 68 [(67, 0), (64, 1)] I P)
    (h : ∀ P2, qMc (qW0 r6) 96 [(67, 16), (64, 1)] (qup I 67 16 (qj 1)) P2 → qwq d 84 23 [(0, .ref 64)] [.ref 67, .ref 64] (mc 96 32 866 L (qup I 67 16 (qj 1)) P2) Q) :
    qwq d 84 19 [(0, .ref 64)] [.ref 67, .ref 64] (mc 68 4 644 L I P) Q := qY_sound qU_ok (fun p => bif Nat.beq p 23 then some [0, 1, 2, 3, 4] else none) 12 true (⟨by omega, rfl, n15_67 (by omega) H (fun P2 H2 => h P2 H2)⟩)
theorem s84_64_23 {d r6 L : Nat} {Q : qR → Prop} {I : Nat → Nat → Int32} {P : Nat → Nat → Nat} (hd : 30 ≤ d) (H : qMc (qW0 r6) 96 [(67, 16), (64, 1)] I P)
    (h : ∀ P2, qMc (qW0 r6) 96 [(64, 2)] I P2 → qwq d 84 26 [(0, .ref 64)] [] (mc 96 32 866 L I P2) Q) :
    qwq d 84 23 [(0, .ref 64)] [.ref 67, .ref 64] (mc 96 32 866 L I P) Q := qY_sound qU_ok (fun p => bif Nat.beq p 26 then some [0, 1, 2, 3, 4] else none) 12 true (⟨rfl, h (qup P 64 1 67) (pk_put (pk_close H (fun b hb => by show (bif Nat.blt b 8 then (bif Nat.blt b 4 then (bif Nat.blt b 2 then (bif Nat.blt b 1 then 0 else 68) else (bif Nat.blt b 3 then 69 else 70)) else (bif Nat.blt b 6 then (bif Nat.blt b 5 then 71 else 72) else (bif Nat.blt b 7 then 73 else 74))) else (bif Nat.blt b 12 then (bif Nat.blt b 10 then (bif Nat.blt b 9 then 0 else 84) else (bif Nat.blt b 11 then 85 else 86)) else (bif Nat.blt b 14 then (bif Nat.blt b 13 then 0 else 87) else (bif Nat.blt b 15 then 88 else (bif Nat.blt b 16 then 89 else 0))))) = 0; repeat (first | rfl | refine bfz (bltF (by omega)) ?_))) (by omega) (by omega) (fun b h1 h2 => by omega) rfl (lne rfl) rfl)⟩)
theorem s84_64_26 {d r6 L : Nat} {Q : qR → Prop} {I : Nat → Nat → Int32} {P : Nat → Nat → Nat} (hd : 30 ≤ d) (H : qMc (qW0 r6) 96 [(64, 2)] I P)
    (h : ∀ P2, qMc (qW0 r6) 97 [(96, 0), (64, 2)] I P2 → qwq d 84 30 [(0, .ref 64)] [.ref 96, .ref 64] (mc 97 33 883 L I P2) Q) :
    qwq d 84 26 [(0, .ref 64)] [] (mc 96 32 866 L I P) Q := qY_sound qU_ok (fun p => bif Nat.beq p 30 then some [0, 1, 2, 3, 4] else none) 12 true (⟨rfl, mc_to (mc_mk H rfl rfl rfl rfl) (h P (pk_new H rfl))⟩)
theorem s15_96_0 {d r6 L : Nat} {Q : qR → Prop} {I : Nat → Nat → Int32} {P : Nat → Nat → Nat} (hd : 20 ≤ d) (H : qMc (qW0 r6) 97 [(96, 0), (64, 2)] I P)
    (h : ∀ P2, qMc (qW0 r6) 98 [(96, 0), (64, 2)] I P2 → qwq d 15 9 [(0, .ref 96)] [.ref 97, .ref 96] (mc 98 34 892 L I P2) Q) :
    qwq d 15 0 [(0, .ref 96)] [] (mc 97 33 883 L I P) Q := qY_sound qU_ok (fun p => bif Nat.beq p 9 then some [0, 1, 2, 3, 4] else none) 12 true (⟨⟨by omega, rfl⟩, ⟨⟨rfl, by decide, by decide⟩, mc_to (mc_mk H rfl rfl rfl rfl) (h P (pk_leaf H (fun _ => rfl) rfl))⟩⟩)
theorem s15_96_9 {d r6 L : Nat} {Q : qR → Prop} {I : Nat → Nat → Int32} {P : Nat → Nat → Nat} (hd : 20 ≤ d) (H : qMc (qW0 r6) 98 [(96, 0), (64, 2)] I P)
    (h : ∀ P2, qMc (qW0 r6) 98 [(96, 2), (64, 2)] I P2 → qwq d 15 12 [(0, .ref 96)] [] (mc 98 34 892 L I P2) Q) :
    qwq d 15 9 [(0, .ref 96)] [.ref 97, .ref 96] (mc 98 34 892 L I P) Q := qY_sound qU_ok (fun p => bif Nat.beq p 12 then some [0, 1, 2, 3, 4] else none) 12 true (⟨rfl, h (qup P 96 1 97) (pk_put H (by omega) (by omega) (fun b h1 h2 => by have hb : b = 0 := (by omega); subst hb; rfl) rfl (lne rfl) rfl)⟩)
theorem s15_96_12 {d r6 L : Nat} {Q : qR → Prop} {I : Nat → Nat → Int32} {P : Nat → Nat → Nat} (hd : 20 ≤ d) (H : qMc (qW0 r6) 98 [(96, 2), (64, 2)] I P)
    (h : ∀ P2, qMc (qW0 r6) 99 [(96, 2), (64, 2)] I P2 → qwq d 15 17 [(0, .ref 96)] [.ref 98, .ref 96] (mc 99 35 901 L I P2) Q) :
    qwq d 15 12 [(0, .ref 96)] [] (mc 98 34 892 L I P) Q := qY_sound qU_ok (fun p => bif Nat.beq p 17 then some [0, 1, 2, 3, 4] else none) 12 true (⟨⟨rfl, by decide, by decide⟩, mc_to (mc_mk H rfl rfl rfl rfl) (h P (pk_leaf H (fun _ => rfl) rfl))⟩)
theorem s15_96_17 {d r6 L : Nat} {Q : qR → Prop} {I : Nat → Nat → Int32} {P : Nat → Nat → Nat} (hd : 20 ≤ d) (H : qMc (qW0 r6) 99 [(96, 2), (64, 2)] I P)
    (h : ∀ P2, qMc (qW0 r6) 99 [(96, 3), (64, 2)] I P2 → qwq d 15 20 [(0, .ref 96)] [] (mc 99 35 901 L I P2) Q) :
    qwq d 15 17 [(0, .ref 96)] [.ref 98, .ref 96] (mc 99 35 901 L I P) Q := qY_sound qU_ok (fun p => bif Nat.beq p 20 then some [0, 1, 2, 3, 4] else none) 12 true (⟨rfl, h (qup P 96 2 98) (pk_put H (by omega) (by omega) (fun b h1 h2 => by omega) rfl (lne rfl) rfl)⟩)
theorem s15_96_20 {d r6 L : Nat} {Q : qR → Prop} {I : Nat → Nat → Int32} {P : Nat → Nat → Nat} (hd : 20 ≤ d) (H : qMc (qW0 r6) 99 [(96, 3), (64, 2)] I P)
    (h : ∀ P2, qMc (qW0 r6) 100 [(96, 3), (64, 2)] I P2 → qwq d 15 25 [(0, .ref 96)] [.ref 99, .ref 96] (mc 100 36 910 L I P2) Q) :
    qwq d 15 20 [(0, .ref 96)] [] (mc 99 35 901 L I P) Q := qY_sound qU_ok (fun p => bif Nat.beq p 25 then some [0, 1, 2, 3, 4] else none) 12 true (⟨⟨rfl, by decide, by decide⟩, mc_to (mc_mk H rfl rfl rfl rfl) (h P (pk_leaf H (fun _ => rfl) rfl))⟩)
theorem s15_96_25 {d r6 L : Nat} {Q : qR → Prop} {I : Nat → Nat → Int32} {P : Nat → Nat → Nat} (hd : 20 ≤ d) (H : qMc (qW0 r6) 100 [(96, 3), (64, 2)] I P)
    (h : ∀ P2, qMc (qW0 r6) 100 [(96, 4), (64, 2)] I P2 → qwq d 15 28 [(0, .ref 96)] [] (mc 100 36 910 L I P2) Q) :
    qwq d 15 25 [(0, .ref 96)] [.ref 99, .ref 96] (mc 100 36 910 L I P) Q := qY_sound qU_ok (fun p => bif Nat.beq p 28 then some [0, 1, 2, 3, 4] else none) 12 true (⟨rfl, h (qup P 96 3 99) (pk_put H (by omega) (by omega) (fun b h1 h2 => by omega) rfl (lne rfl) rfl)⟩)
theorem s15_96_28 {d r6 L : Nat} {Q : qR → Prop} {I : Nat → Nat → Int32} {P : Nat → Nat → Nat} (hd : 20 ≤ d) (H : qMc (qW0 r6) 100 [(96, 4), (64, 2)] I P)
    (h : ∀ P2, qMc (qW0 r6) 101 [(96, 4), (64, 2)] I P2 → qwq d 15 33 [(0, .ref 96)] [.ref 100, .ref 96] (mc 101 37 919 L I P2) Q) :
    qwq d 15 28 [(0, .ref 96)] [] (mc 100 36 910 L I P) Q := qY_sound qU_ok (fun p => bif Nat.beq p 33 then some [0, 1, 2, 3, 4] else none) 12 true (⟨⟨rfl, by decide, by decide⟩, mc_to (mc_mk H rfl rfl rfl rfl) (h P (pk_leaf H (fun _ => rfl) rfl))⟩)
theorem s15_96_33 {d r6 L : Nat} {Q : qR → Prop} {I : Nat → Nat → Int32} {P : Nat → Nat → Nat} (hd : 20 ≤ d) (H : qMc (qW0 r6) 101 [(96, 4), (64, 2)] I P)
    (h : ∀ P2, qMc (qW0 r6) 101 [(96, 5), (64, 2)] I P2 → qwq d 15 36 [(0, .ref 96)] [] (mc 101 37 919 L I P2) Q) :
    qwq d 15 33 [(0, .ref 96)] [.ref 100, .ref 96] (mc 101 37 919 L I P) Q := qY_sound qU_ok (fun p => bif Nat.beq p 36 then some [0, 1, 2, 3, 4] else none) 12 true (⟨rfl, h (qup P 96 4 100) (pk_put H (by omega) (by omega) (fun b h1 h2 => by omega) rfl (lne rfl) rfl)⟩)
theorem s15_96_36 {d r6 L : Nat} {Q : qR → Prop} {I : Nat → Nat → Int32} {P : Nat → Nat → Nat} (hd : 20 ≤ d) (H : qMc (qW0 r6) 101 [(96, 5), (64, 2)] I P)
    (h : ∀ P2, qMc (qW0 r6) 102 [(96, 5), (64, 2)] I P2 → qwq d 15 41 [(0, .ref 96)] [.ref 101, .ref 96] (mc 102 38 928 L I P2) Q) :
    qwq d 15 36 [(0, .ref 96)] [] (mc 101 37 919 L I P) Q := qY_sound qU_ok (fun p => bif Nat.beq p 41 then some [0, 1, 2, 3, 4] else none) 12 true (⟨⟨rfl, by decide, by decide⟩, mc_to (mc_mk H rfl rfl rfl rfl) (h P (pk_leaf H (fun _ => rfl) rfl))⟩)
theorem s15_96_41 {d r6 L : Nat} {Q : qR → Prop} {I : Nat → Nat → Int32} {P : Nat → Nat → Nat} (hd : 20 ≤ d) (H : qMc (qW0 r6) 102 [(96, 5), (64, 2)] I P)
    (h : ∀ P2, qMc (qW0 r6) 102 [(96, 6), (64, 2)] I P2 → qwq d 15 44 [(0, .ref 96)] [] (mc 102 38 928 L I P2) Q) :
    qwq d 15 41 [(0, .ref 96)] [.ref 101, .ref 96] (mc 102 38 928 L I P) Q := qY_sound qU_ok (fun p => bif Nat.beq p 44 then some [0, 1, 2, 3, 4] else none) 12 true (⟨rfl, h (qup P 96 5 101) (pk_put H (by omega) (by omega) (fun b h1 h2 => by omega) rfl (lne rfl) rfl)⟩)
theorem s15_96_44 {d r6 L : Nat} {Q : qR → Prop} {I : Nat → Nat → Int32} {P : Nat → Nat → Nat} (hd : 20 ≤ d) (H : qMc (qW0 r6) 102 [(96, 6), (64, 2)] I P)
    (h : ∀ P2, qMc (qW0 r6) 103 [(96, 6), (64, 2)] I P2 → qwq d 15 49 [(0, .ref 96)] [.ref 102, .ref 96] (mc 103 39 937 L I P2) Q) :
    qwq d 15 44 [(0, .ref 96)] [] (mc 102 38 928 L I P) Q := qY_sound qU_ok (fun p => bif Nat.beq p 49 then some [0, 1, 2, 3, 4] else none) 12 true (⟨⟨rfl, by decide, by decide⟩, mc_to (mc_mk H rfl rfl rfl rfl) (h P (pk_leaf H (fun _ => rfl) rfl))⟩)
theorem s15_96_49 {d r6 L : Nat} {Q : qR → Prop} {I : Nat → Nat → Int32} {P : Nat → Nat → Nat} (hd : 20 ≤ d) (H : qMc (qW0 r6) 103 [(96, 6), (64, 2)] I P)
    (h : ∀ P2, qMc (qW0 r6) 103 [(96, 7), (64, 2)] I P2 → qwq d 15 52 [(0, .ref 96)] [] (mc 103 39 937 L I P2) Q) :
    qwq d 15 49 [(0, .ref 96)] [.ref 102, .ref 96] (mc 103 39 937 L I P) Q := qY_sound qU_ok (fun p => bif Nat.beq p 52 then some [0, 1, 2, 3, 4] else none) 12 true (⟨rfl, h (qup P 96 6 102) (pk_put H (by omega) (by omega) (fun b h1 h2 => by omega) rfl (lne rfl) rfl)⟩)
theorem s15_96_52 {d r6 L : Nat} {Q : qR → Prop} {I : Nat → Nat → Int32} {P : Nat → Nat → Nat} (hd : 20 ≤ d) (H : qMc (qW0 r6) 103 [(96, 7), (64, 2)] I P)
    (h : ∀ P2, qMc (qW0 r6) 113 [(96, 7), (64, 2)] I P2 → qwq d 15 61 [(0, .ref 96)] [.ref 103, .ref 96] (mc 113 49 1027 L I P2) Q) :
    qwq d 15 52 [(0, .ref 96)] [] (mc 103 39 937 L I P) Q := qY_sound qU_ok (fun p => bif Nat.beq p 61 then some [0, 1, 2, 3, 4] else none) 12 true (⟨⟨rfl, by decide, by decide, by decide, by decide⟩, mc_to (mc_mm H rfl (fun i hi => q2c (n := 9) (fun i => qSH L (103 + 1 + i) = (1, 9)) ⟨rfl, rfl, rfl, rfl, rfl, rfl, rfl, rfl, rfl, trivial⟩ i hi) rfl rfl rfl) (h (mmP 103 9 P) (pk_mm H (fun b => q2_if 9 103 b) (fun i hi => q2c (n := 9) (fun i => ∀ b, qPf (qW0 r6) (103 + 1 + i) b = 0) ⟨fun _ => rfl, fun _ => rfl, fun _ => rfl, fun _ => rfl, fun _ => rfl, fun _ => rfl, fun _ => rfl, fun _ => rfl, fun _ => rfl, trivial⟩ i hi) (llt rfl) rfl))⟩)
theorem s15_96_61 {d r6 L : Nat} {Q : qR → Prop} {I : Nat → Nat → Int32} {P : Nat → Nat → Nat} (hd : 20 ≤ d) (H : qMc (qW0 r6) 113 [(96, 7), (64, 2)] I P)
    (h : ∀ P2, qMc (qW0 r6) 113 [(96, 8), (64, 2)] I P2 → qwq d 15 64 [(0, .ref 96)] [] (mc 113 49 1027 L I P2) Q) :
    qwq d 15 61 [(0, .ref 96)] [.ref 103, .ref 96] (mc 113 49 1027 L I P) Q := qY_sound qU_ok (fun p => bif Nat.beq p 64 then some [0, 1, 2, 3, 4] else none) 12 true (⟨rfl, h (qup P 96 7 103) (pk_put H (by omega) (by omega) (fun b h1 h2 => by omega) rfl (lne rfl) rfl)⟩)
theorem s15_96_64 {d r6 L : Nat} {Q : qR → Prop} {I : Nat → Nat → Int32} {P : Nat → Nat → Nat} (hd : 20 ≤ d) (H : qMc (qW0 r6) 113 [(96, 8), (64, 2)] I P)
    (h : ∀ P2, qMc (qW0 r6) 114 [(96, 8), (64, 2)] I P2 → qwq d 15 69 [(0, .ref 96)] [.ref 113, .ref 96] (mc 114 50 1035 L I P2) Q) :
    qwq d 15 64 [(0, .ref 96)] [] (mc 113 49 1027 L I P) Q := qY_sound qU_ok (fun p => bif Nat.beq p 69 then some [0, 1, 2, 3, 4] else none) 12 true (⟨⟨rfl, by decide, by decide⟩, mc_to (mc_mk H rfl rfl rfl rfl) (h P (pk_leaf H (fun _ => rfl) rfl))⟩)
theorem s15_96_69 {d r6 L : Nat} {Q : qR → Prop} {I : Nat → Nat → Int32} {P : Nat → Nat → Nat} (hd : 20 ≤ d) (H : qMc (qW0 r6) 114 [(96, 8), (64, 2)] I P)
    (h : ∀ P2, qMc (qW0 r6) 114 [(96, 10), (64, 2)] I P2 → qwq d 15 72 [(0, .ref 96)] [] (mc 114 50 1035 L I P2) Q) :
    qwq d 15 69 [(0, .ref 96)] [.ref 113, .ref 96] (mc 114 50 1035 L I P) Q := qY_sound qU_ok (fun p => bif Nat.beq p 72 then some [0, 1, 2, 3, 4] else none) 12 true (⟨rfl, h (qup P 96 9 113) (pk_put H (by omega) (by omega) (fun b h1 h2 => by have hb : b = 8 := (by omega); subst hb; rfl) rfl (lne rfl) rfl)⟩)
theorem s15_96_72 {d r6 L : Nat} {Q : qR → Prop} {I : Nat → Nat → Int32} {P : Nat → Nat → Nat} (hd : 20 ≤ d) (H : qMc (qW0 r6) 114 [(96, 10), (64, 2)] I P)
    (h : ∀ P2, qMc (qW0 r6) 115 [(96, 10), (64, 2)] I P2 → qwq d 15 77 [(0, .ref 96)] [.ref 114, .ref 96] (mc 115 51 1043 L I P2) Q) :
    qwq d 15 72 [(0, .ref 96)] [] (mc 114 50 1035 L I P) Q := qY_sound qU_ok (fun p => bif Nat.beq p 77 then some [0, 1, 2, 3, 4] else none) 12 true (⟨⟨rfl, by decide, by decide⟩, mc_to (mc_mk H rfl rfl rfl rfl) (h P (pk_leaf H (fun _ => rfl) rfl))⟩)
theorem s15_96_77 {d r6 L : Nat} {Q : qR → Prop} {I : Nat → Nat → Int32} {P : Nat → Nat → Nat} (hd : 20 ≤ d) (H : qMc (qW0 r6) 115 [(96, 10), (64, 2)] I P)
    (h : ∀ P2, qMc (qW0 r6) 115 [(96, 11), (64, 2)] I P2 → qwq d 15 80 [(0, .ref 96)] [] (mc 115 51 1043 L I P2) Q) :
    qwq d 15 77 [(0, .ref 96)] [.ref 114, .ref 96] (mc 115 51 1043 L I P) Q := qY_sound qU_ok (fun p => bif Nat.beq p 80 then some [0, 1, 2, 3, 4] else none) 12 true (⟨rfl, h (qup P 96 10 114) (pk_put H (by omega) (by omega) (fun b h1 h2 => by omega) rfl (lne rfl) rfl)⟩)
theorem s15_96_80 {d r6 L : Nat} {Q : qR → Prop} {I : Nat → Nat → Int32} {P : Nat → Nat → Nat} (hd : 20 ≤ d) (H : qMc (qW0 r6) 115 [(96, 11), (64, 2)] I P)
    (h : ∀ P2, qMc (qW0 r6) 116 [(96, 11), (64, 2)] I P2 → qwq d 15 85 [(0, .ref 96)] [.ref 115, .ref 96] (mc 116 52 1051 L I P2) Q) :
    qwq d 15 80 [(0, .ref 96)] [] (mc 115 51 1043 L I P) Q := qY_sound qU_ok (fun p => bif Nat.beq p 85 then some [0, 1, 2, 3, 4] else none) 12 true (⟨⟨rfl, by decide, by decide⟩, mc_to (mc_mk H rfl rfl rfl rfl) (h P (pk_leaf H (fun _ => rfl) rfl))⟩)
theorem s15_96_85 {d r6 L : Nat} {Q : qR → Prop} {I : Nat → Nat → Int32} {P : Nat → Nat → Nat} (hd : 20 ≤ d) (H : qMc (qW0 r6) 116 [(96, 11), (64, 2)] I P)
    (h : ∀ P2, qMc (qW0 r6) 116 [(96, 12), (64, 2)] I P2 → qwq d 15 88 [(0, .ref 96)] [] (mc 116 52 1051 L I P2) Q) :
    qwq d 15 85 [(0, .ref 96)] [.ref 115, .ref 96] (mc 116 52 1051 L I P) Q := qY_sound qU_ok (fun p => bif Nat.beq p 88 then some [0, 1, 2, 3, 4] else none) 12 true (⟨rfl, h (qup P 96 11 115) (pk_put H (by omega) (by omega) (fun b h1 h2 => by omega) rfl (lne rfl) rfl)⟩)
theorem s15_96_88 {d r6 L : Nat} {Q : qR → Prop} {I : Nat → Nat → Int32} {P : Nat → Nat → Nat} (hd : 20 ≤ d) (H : qMc (qW0 r6) 116 [(96, 12), (64, 2)] I P)
    (h : ∀ P2, qMc (qW0 r6) 117 [(96, 12), (64, 2)] I P2 → qwq d 15 93 [(0, .ref 96)] [.ref 116, .ref 96] (mc 117 53 1057 L I P2) Q) :
    qwq d 15 88 [(0, .ref 96)] [] (mc 116 52 1051 L I P) Q := qY_sound qU_ok (fun p => bif Nat.beq p 93 then some [0, 1, 2, 3, 4] else none) 12 true (⟨⟨rfl, by decide, by decide⟩, mc_to (mc_mk H rfl rfl rfl rfl) (h P (pk_leaf H (fun _ => rfl) rfl))⟩)
theorem s15_96_93 {d r6 L : Nat} {Q : qR → Prop} {I : Nat → Nat → Int32} {P : Nat → Nat → Nat} (hd : 20 ≤ d) (H : qMc (qW0 r6) 117 [(96, 12), (64, 2)] I P)
    (h : ∀ P2, qMc (qW0 r6) 117 [(96, 14), (64, 2)] I P2 → qwq d 15 96 [(0, .ref 96)] [] (mc 117 53 1057 L I P2) Q) :
    qwq d 15 93 [(0, .ref 96)] [.ref 116, .ref 96] (mc 117 53 1057 L I P) Q := qY_sound qU_ok (fun p => bif Nat.beq p 96 then some [0, 1, 2, 3, 4] else none) 12 true (⟨rfl, h (qup P 96 13 116) (pk_put H (by omega) (by omega) (fun b h1 h2 => by have hb : b = 12 := (by omega); subst hb; rfl) rfl (lne rfl) rfl)⟩)
theorem s15_96_96 {d r6 L : Nat} {Q : qR → Prop} {I : Nat → Nat → Int32} {P : Nat → Nat → Nat} (hd : 20 ≤ d) (H : qMc (qW0 r6) 117 [(96, 14), (64, 2)] I P)
    (h : ∀ P2, qMc (qW0 r6) 118 [(96, 14), (64, 2)] I P2 → qwq d 15 101 [(0, .ref 96)] [.ref 117, .ref 96] (mc 118 54 1063 L I P2) Q) :
    qwq d 15 96 [(0, .ref 96)] [] (mc 117 53 1057 L I P) Q := qY_sound qU_ok (fun p => bif Nat.beq p 101 then some [0, 1, 2, 3, 4] else none) 12 true (⟨⟨rfl, by decide, by decide⟩, mc_to (mc_mk H rfl rfl rfl rfl) (h P (pk_leaf H (fun _ => rfl) rfl))⟩)
theorem s15_96_101 {d r6 L : Nat} {Q : qR → Prop} {I : Nat → Nat → Int32} {P : Nat → Nat → Nat} (hd : 20 ≤ d) (H : qMc (qW0 r6) 118 [(96, 14), (64, 2)] I P)
    (h : ∀ P2, qMc (qW0 r6) 118 [(96, 15), (64, 2)] I P2 → qwq d 15 104 [(0, .ref 96)] [] (mc 118 54 1063 L I P2) Q) :
    qwq d 15 101 [(0, .ref 96)] [.ref 117, .ref 96] (mc 118 54 1063 L I P) Q := qY_sound qU_ok (fun p => bif Nat.beq p 104 then some [0, 1, 2, 3, 4] else none) 12 true (⟨rfl, h (qup P 96 14 117) (pk_put H (by omega) (by omega) (fun b h1 h2 => by omega) rfl (lne rfl) rfl)⟩)
theorem s15_96_104 {d r6 L : Nat} {Q : qR → Prop} {I : Nat → Nat → Int32} {P : Nat → Nat → Nat} (hd : 20 ≤ d) (H : qMc (qW0 r6) 118 [(96, 15), (64, 2)] I P)
    (h : ∀ P2, qMc (qW0 r6) 125 [(96, 15), (64, 2)] I P2 → qwq d 15 113 [(0, .ref 96)] [.ref 118, .ref 96] (mc 125 61 1105 L I P2) Q) :
    qwq d 15 104 [(0, .ref 96)] [] (mc 118 54 1063 L I P) Q := qY_sound qU_ok (fun p => bif Nat.beq p 113 then some [0, 1, 2, 3, 4] else none) 12 true (⟨⟨rfl, by decide, by decide, by decide, by decide⟩, mc_to (mc_mm H rfl (fun i hi => q2c (n := 6) (fun i => qSH L (118 + 1 + i) = (1, 6)) ⟨rfl, rfl, rfl, rfl, rfl, rfl, trivial⟩ i hi) rfl rfl rfl) (h (mmP 118 6 P) (pk_mm H (fun b => q2_if 6 118 b) (fun i hi => q2c (n := 6) (fun i => ∀ b, qPf (qW0 r6) (118 + 1 + i) b = 0) ⟨fun _ => rfl, fun _ => rfl, fun _ => rfl, fun _ => rfl, fun _ => rfl, fun _ => rfl, trivial⟩ i hi) (llt rfl) rfl))⟩)
theorem s15_96_113 {d r6 L : Nat} {Q : qR → Prop} {I : Nat → Nat → Int32} {P : Nat → Nat → Nat} (hd : 20 ≤ d) (H : qMc (qW0 r6) 125 [(96, 15), (64, 2)] I P)
    (h : ∀ P2, qMc (qW0 r6) 125 [(96, 16), (64, 2)] I P2 → qwq d 15 116 [(0, .ref 96)] [] (mc 125 61 1105 L I P2) Q) :
    qwq d 15 113 [(0, .ref 96)] [.ref 118, .ref 96] (mc 125 61 1105 L I P) Q := qY_sound qU_ok (fun p => bif Nat.beq p 116 then some [0, 1, 2, 3, 4] else none) 12 true (⟨rfl, h (qup P 96 15 118) (pk_put H (by omega) (by omega) (fun b h1 h2 => by omega) rfl (lne rfl) rfl)⟩)
theorem s15_96_116 {d r6 L : Nat} {Q : qR → Prop} {I : Nat → Nat → Int32} {P : Nat → Nat → Nat} (hd : 20 ≤ d) (H : qMc (qW0 r6) 125 [(96, 16), (64, 2)] I P)
    (h : ∀ P2, qMc (qW0 r6) 125 [(96, 16), (64, 2)] (qup I 96 16 (qj 1)) P2 → qwq d 15 121 [(0, .ref 96)] [] (mc 125 61 1105 L (qup I 96 16 (qj 1)) P2) Q) :
    qwq d 15 116 [(0, .ref 96)] [] (mc 125 61 1105 L I P) Q := qY_sound qU_ok (fun p => bif Nat.beq p 121 then some [0, 1, 2, 3, 4] else none) 12 true (⟨rfl, h P (pk_int H (by omega))⟩)
theorem s15_96_121 {d r6 L : Nat} {Q : qR → Prop} {I : Nat → Nat → Int32} {P : Nat → Nat → Nat} (hd : 20 ≤ d) (H : qMc (qW0 r6) 125 [(96, 16), (64, 2)] I P)
    (h : Q (.inl (none, mc 125 61 1105 L I P))) :
    qwq d 15 121 [(0, .ref 96)] [] (mc 125 61 1105 L I P) Q := qY_sound qU_ok (fun _ => none) 12 true (⟨rfl, h⟩)
theorem n15_96 {d r6 L : Nat} {Q : qR → Prop} {I : Nat → Nat → Int32} {P : Nat → Nat → Nat} (hd : 20 ≤ d) (H : qMc (qW0 r6) 97 [(96, 0), (64, 2)] I P)
    (h : ∀ P2, qMc (qW0 r6) 125 [(96, 16), (64, 2)] (qup I 96 16 (qj 1)) P2 → Q (.inl (none, mc 125 61 1105 L (qup I 96 16 (qj 1)) P2))) : qwp d 15 [.ref 96] (mc 97 33 883 L I P) Q := by
  refine s15_96_0 hd H (fun P H => ?_)
  refine s15_96_9 hd H (fun P H => ?_)
  refine s15_96_12 hd H (fun P H => ?_)
  refine s15_96_17 hd H (fun P H => ?_)
  refine s15_96_20 hd H (fun P H => ?_)
  refine s15_96_25 hd H (fun P H => ?_)
  refine s15_96_28 hd H (fun P H => ?_)
  refine s15_96_33 hd H (fun P H => ?_)
  refine s15_96_36 hd H (fun P H => ?_)
  refine s15_96_41 hd H (fun P H => ?_)
  refine s15_96_44 hd H (fun P H => ?_)
  refine s15_96_49 hd H (fun P H => ?_)
  refine s15_96_52 hd H (fun P H => ?_)
  refine s15_96_61 hd H (fun P H => ?_)
  refine s15_96_64 hd H (fun P H => ?_)
  refine s15_96_69 hd H (fun P H => ?_)
  refine s15_96_72 hd H (fun P H => ?_)
  refine s15_96_77 hd H (fun P H => ?_)
  refine s15_96_80 hd H (fun P H => ?_)
  refine s15_96_85 hd H (fun P H => ?_)
  refine s15_96_88 hd H (fun P H => ?_)
  refine s15_96_93 hd H (fun P H => ?_)
  refine s15_96_96 hd H (fun P H => ?_)
  refine s15_96_101 hd H (fun P H => ?_)
  refine s15_96_104 hd H (fun P H => ?_)
  refine s15_96_113 hd H (fun P H => ?_)
  refine s15_96_116 hd H (fun P H => ?_)
  exact s15_96_121 hd H (h _ H)
theorem s84_64_30 {d r6 L : Nat} {Q : qR → Prop} {I : Nat → Nat → Int32} {P : Nat → Nat → Nat} (hd : 30 ≤ d) (H : qMc (qW0 r6) 97 [(96, 0), (64, 2)] I P)
    (h : ∀ P2, qMc (qW0 r6) 125 [(96, 16), (64, 2)] (qup I 96 16 (qj 1)) P2 → qwq d 84 34 [(0, .ref 64)] [.ref 96, .ref 64] (mc 125 61 1105 L (qup I 96 16 (qj 1)) P2) Q) :
    qwq d 84 30 [(0, .ref 64)] [.ref 96, .ref 64] (mc 97 33 883 L I P) Q := qY_sound qU_ok (fun p => bif Nat.beq p 34 then some [0, 1, 2, 3, 4] else none) 12 true (⟨by omega, rfl, n15_96 (by omega) H (fun P2 H2 => h P2 H2)⟩)
theorem s84_64_34 {d r6 L : Nat} {Q : qR → Prop} {I : Nat → Nat → Int32} {P : Nat → Nat → Nat} (hd : 30 ≤ d) (H : qMc (qW0 r6) 125 [(96, 16), (64, 2)] I P)
    (h : ∀ P2, qMc (qW0 r6) 125 [(64, 3)] I P2 → qwq d 84 37 [(0, .ref 64)] [] (mc 125 61 1105 L I P2) Q) :
    qwq d 84 34 [(0, .ref 64)] [.ref 96, .ref 64] (mc 125 61 1105 L I P) Q := qY_sound qU_ok (fun p => bif Nat.beq p 37 then some [0, 1, 2, 3, 4] else none) 12 true (⟨rfl, h (qup P 64 2 96) (pk_put (pk_close H (fun b hb => by show (bif Nat.blt b 8 then (bif Nat.blt b 4 then (bif Nat.blt b 2 then (bif Nat.blt b 1 then 0 else 97) else (bif Nat.blt b 3 then 98 else 99)) else (bif Nat.blt b 6 then (bif Nat.blt b 5 then 100 else 101) else (bif Nat.blt b 7 then 102 else 103))) else (bif Nat.blt b 12 then (bif Nat.blt b 10 then (bif Nat.blt b 9 then 0 else 113) else (bif Nat.blt b 11 then 114 else 115)) else (bif Nat.blt b 14 then (bif Nat.blt b 13 then 0 else 116) else (bif Nat.blt b 15 then 117 else (bif Nat.blt b 16 then 118 else 0))))) = 0; repeat (first | rfl | refine bfz (bltF (by omega)) ?_))) (by omega) (by omega) (fun b h1 h2 => by omega) rfl (lne rfl) rfl)⟩)
theorem s84_64_37 {d r6 L : Nat} {Q : qR → Prop} {I : Nat → Nat → Int32} {P : Nat → Nat → Nat} (hd : 30 ≤ d) (H : qMc (qW0 r6) 125 [(64, 3)] I P)
    (h : ∀ P2, qMc (qW0 r6) 126 [(125, 0), (64, 3)] I P2 → qwq d 84 41 [(0, .ref 64)] [.ref 125, .ref 64] (mc 126 62 1108 L I P2) Q) :
    qwq d 84 37 [(0, .ref 64)] [] (mc 125 61 1105 L I P) Q := qY_sound qU_ok (fun p => bif Nat.beq p 41 then some [0, 1, 2, 3, 4] else none) 12 true (⟨rfl, mc_to (mc_mk H rfl rfl rfl rfl) (h P (pk_new H rfl))⟩)
theorem s36_125_0 {d r6 L : Nat} {Q : qR → Prop} {I : Nat → Nat → Int32} {P : Nat → Nat → Nat} (hd : 20 ≤ d) (H : qMc (qW0 r6) 126 [(125, 0), (64, 3)] I P)
    (h : ∀ P2, qMc (qW0 r6) 127 [(125, 0), (64, 3)] I P2 → qwq d 36 10 [(0, .ref 125)] [.ref 126, .ref 125] (mc 127 63 1258 L I P2) Q) :
    qwq d 36 0 [(0, .ref 125)] [] (mc 126 62 1108 L I P) Q := qY_sound qU_ok (fun p => bif Nat.beq p 10 then some [0, 1, 2, 3, 4] else none) 12 true (⟨⟨by omega, rfl⟩, ⟨⟨rfl, by decide, by decide⟩, mc_to (mc_mk H rfl rfl rfl rfl) (h P (pk_leaf H (fun _ => rfl) rfl))⟩⟩)
theorem s36_125_10 {d r6 L : Nat} {Q : qR → Prop} {I : Nat → Nat → Int32} {P : Nat → Nat → Nat} (hd : 20 ≤ d) (H : qMc (qW0 r6) 127 [(125, 0), (64, 3)] I P)
    (h : ∀ P2, qMc (qW0 r6) 127 [(125, 1), (64, 3)] I P2 → qwq d 36 13 [(0, .ref 125)] [] (mc 127 63 1258 L I P2) Q) :
    qwq d 36 10 [(0, .ref 125)] [.ref 126, .ref 125] (mc 127 63 1258 L I P) Q := qY_sound qU_ok (fun p => bif Nat.beq p 13 then some [0, 1, 2, 3, 4] else none) 12 true (⟨rfl, h (qup P 125 0 126) (pk_put H (by omega) (by omega) (fun b h1 h2 => by omega) rfl (lne rfl) rfl)⟩)
theorem s36_125_13 {d r6 L : Nat} {Q : qR → Prop} {I : Nat → Nat → Int32} {P : Nat → Nat → Nat} (hd : 20 ≤ d) (H : qMc (qW0 r6) 127 [(125, 1), (64, 3)] I P)
    (h : ∀ P2, qMc (qW0 r6) 128 [(125, 1), (64, 3)] I P2 → qwq d 36 19 [(0, .ref 125)] [.ref 127, .ref 125] (mc 128 64 1408 L I P2) Q) :
    qwq d 36 13 [(0, .ref 125)] [] (mc 127 63 1258 L I P) Q := qY_sound qU_ok (fun p => bif Nat.beq p 19 then some [0, 1, 2, 3, 4] else none) 12 true (⟨⟨rfl, by decide, by decide⟩, mc_to (mc_mk H rfl rfl rfl rfl) (h P (pk_leaf H (fun _ => rfl) rfl))⟩)
theorem s36_125_19 {d r6 L : Nat} {Q : qR → Prop} {I : Nat → Nat → Int32} {P : Nat → Nat → Nat} (hd : 20 ≤ d) (H : qMc (qW0 r6) 128 [(125, 1), (64, 3)] I P)
    (h : ∀ P2, qMc (qW0 r6) 128 [(125, 3), (64, 3)] I P2 → qwq d 36 22 [(0, .ref 125)] [] (mc 128 64 1408 L I P2) Q) :
    qwq d 36 19 [(0, .ref 125)] [.ref 127, .ref 125] (mc 128 64 1408 L I P) Q := qY_sound qU_ok (fun p => bif Nat.beq p 22 then some [0, 1, 2, 3, 4] else none) 12 true (⟨rfl, h (qup P 125 2 127) (pk_put H (by omega) (by omega) (fun b h1 h2 => by have hb : b = 1 := (by omega); subst hb; rfl) rfl (lne rfl) rfl)⟩)
theorem s36_125_22 {d r6 L : Nat} {Q : qR → Prop} {I : Nat → Nat → Int32} {P : Nat → Nat → Nat} (hd : 20 ≤ d) (H : qMc (qW0 r6) 128 [(125, 3), (64, 3)] I P)
    (h : Q (.inl (none, mc 128 64 1408 L I P))) :
    qwq d 36 22 [(0, .ref 125)] [] (mc 128 64 1408 L I P) Q := qY_sound qU_ok (fun _ => none) 12 true (⟨rfl, h⟩)
theorem n36_125 {d r6 L : Nat} {Q : qR → Prop} {I : Nat → Nat → Int32} {P : Nat → Nat → Nat} (hd : 20 ≤ d) (H : qMc (qW0 r6) 126 [(125, 0), (64, 3)] I P)
    (h : ∀ P2, qMc (qW0 r6) 128 [(125, 3), (64, 3)] I P2 → Q (.inl (none, mc 128 64 1408 L I P2))) : qwp d 36 [.ref 125] (mc 126 62 1108 L I P) Q := by
  refine s36_125_0 hd H (fun P H => ?_)
  refine s36_125_10 hd H (fun P H => ?_)
  refine s36_125_13 hd H (fun P H => ?_)
  refine s36_125_19 hd H (fun P H => ?_)
  exact s36_125_22 hd H (h _ H)
theorem s84_64_41 {d r6 L : Nat} {Q : qR → Prop} {I : Nat → Nat → Int32} {P : Nat → Nat → Nat} (hd : 30 ≤ d) (H : qMc (qW0 r6) 126 [(125, 0), (64, 3)] I P)
    (h : ∀ P2, qMc (qW0 r6) 128 [(125, 3), (64, 3)] I P2 → qwq d 84 45 [(0, .ref 64)] [.ref 125, .ref 64] (mc 128 64 1408 L I P2) Q) :
    qwq d 84 41 [(0, .ref 64)] [.ref 125, .ref 64] (mc 126 62 1108 L I P) Q := qY_sound qU_ok (fun p => bif Nat.beq p 45 then some [0, 1, 2, 3, 4] else none) 12 true (⟨by omega, rfl, n36_125 (by omega) H (fun P2 H2 => h P2 H2)⟩)
theorem s84_64_45 {d r6 L : Nat} {Q : qR → Prop} {I : Nat → Nat → Int32} {P : Nat → Nat → Nat} (hd : 30 ≤ d) (H : qMc (qW0 r6) 128 [(125, 3), (64, 3)] I P)
    (h : ∀ P2, qMc (qW0 r6) 128 [(64, 4)] I P2 → qwq d 84 48 [(0, .ref 64)] [] (mc 128 64 1408 L I P2) Q) :
    qwq d 84 45 [(0, .ref 64)] [.ref 125, .ref 64] (mc 128 64 1408 L I P) Q := qY_sound qU_ok (fun p => bif Nat.beq p 48 then some [0, 1, 2, 3, 4] else none) 12 true (⟨rfl, h (qup P 64 3 125) (pk_put (pk_close H (fun b hb => by show (bif Nat.blt b 2 then (bif Nat.blt b 1 then 126 else 0) else (bif Nat.blt b 3 then 127 else 0)) = 0; repeat (first | rfl | refine bfz (bltF (by omega)) ?_))) (by omega) (by omega) (fun b h1 h2 => by omega) rfl (lne rfl) rfl)⟩)
theorem s84_64_48 {d r6 L : Nat} {Q : qR → Prop} {I : Nat → Nat → Int32} {P : Nat → Nat → Nat} (hd : 30 ≤ d) (H : qMc (qW0 r6) 128 [(64, 4)] I P)
    (h : ∀ P2, qMc (qW0 r6) 129 [(128, 0), (64, 4)] I P2 → qwq d 84 52 [(0, .ref 64)] [.ref 128, .ref 64] (mc 129 65 1411 L I P2) Q) :
    qwq d 84 48 [(0, .ref 64)] [] (mc 128 64 1408 L I P) Q := qY_sound qU_ok (fun p => bif Nat.beq p 52 then some [0, 1, 2, 3, 4] else none) 12 true (⟨rfl, mc_to (mc_mk H rfl rfl rfl rfl) (h P (pk_new H rfl))⟩)
theorem s36_128_0 {d r6 L : Nat} {Q : qR → Prop} {I : Nat → Nat → Int32} {P : Nat → Nat → Nat} (hd : 20 ≤ d) (H : qMc (qW0 r6) 129 [(128, 0), (64, 4)] I P)
    (h : ∀ P2, qMc (qW0 r6) 130 [(128, 0), (64, 4)] I P2 → qwq d 36 10 [(0, .ref 128)] [.ref 129, .ref 128] (mc 130 66 1561 L I P2) Q) :
    qwq d 36 0 [(0, .ref 128)] [] (mc 129 65 1411 L I P) Q := qY_sound qU_ok (fun p => bif Nat.beq p 10 then some [0, 1, 2, 3, 4] else none) 12 true (⟨⟨by omega, rfl⟩, ⟨⟨rfl, by decide, by decide⟩, mc_to (mc_mk H rfl rfl rfl rfl) (h P (pk_leaf H (fun _ => rfl) rfl))⟩⟩)
theorem s36_128_10 {d r6 L : Nat} {Q : qR → Prop} {I : Nat → Nat → Int32} {P : Nat → Nat → Nat} (hd : 20 ≤ d) (H : qMc (qW0 r6) 130 [(128, 0), (64, 4)] I P)
    (h : ∀ P2, qMc (qW0 r6) 130 [(128, 1), (64, 4)] I P2 → qwq d 36 13 [(0, .ref 128)] [] (mc 130 66 1561 L I P2) Q) :
    qwq d 36 10 [(0, .ref 128)] [.ref 129, .ref 128] (mc 130 66 1561 L I P) Q := qY_sound qU_ok (fun p => bif Nat.beq p 13 then some [0, 1, 2, 3, 4] else none) 12 true (⟨rfl, h (qup P 128 0 129) (pk_put H (by omega) (by omega) (fun b h1 h2 => by omega) rfl (lne rfl) rfl)⟩)
theorem s36_128_13 {d r6 L : Nat} {Q : qR → Prop} {I : Nat → Nat → Int32} {P : Nat → Nat → Nat} (hd : 20 ≤ d) (H : qMc (qW0 r6) 130 [(128, 1), (64, 4)] I P)
    (h : ∀ P2, qMc (qW0 r6) 131 [(128, 1), (64, 4)] I P2 → qwq d 36 19 [(0, .ref 128)] [.ref 130, .ref 128] (mc 131 67 1711 L I P2) Q) :
    qwq d 36 13 [(0, .ref 128)] [] (mc 130 66 1561 L I P) Q := qY_sound qU_ok (fun p => bif Nat.beq p 19 then some [0, 1, 2, 3, 4] else none) 12 true (⟨⟨rfl, by decide, by decide⟩, mc_to (mc_mk H rfl rfl rfl rfl) (h P (pk_leaf H (fun _ => rfl) rfl))⟩)
theorem s36_128_19 {d r6 L : Nat} {Q : qR → Prop} {I : Nat → Nat → Int32} {P : Nat → Nat → Nat} (hd : 20 ≤ d) (H : qMc (qW0 r6) 131 [(128, 1), (64, 4)] I P)
    (h : ∀ P2, qMc (qW0 r6) 131 [(128, 3), (64, 4)] I P2 → qwq d 36 22 [(0, .ref 128)] [] (mc 131 67 1711 L I P2) Q) :
    qwq d 36 19 [(0, .ref 128)] [.ref 130, .ref 128] (mc 131 67 1711 L I P) Q := qY_sound qU_ok (fun p => bif Nat.beq p 22 then some [0, 1, 2, 3, 4] else none) 12 true (⟨rfl, h (qup P 128 2 130) (pk_put H (by omega) (by omega) (fun b h1 h2 => by have hb : b = 1 := (by omega); subst hb; rfl) rfl (lne rfl) rfl)⟩)
theorem s36_128_22 {d r6 L : Nat} {Q : qR → Prop} {I : Nat → Nat → Int32} {P : Nat → Nat → Nat} (hd : 20 ≤ d) (H : qMc (qW0 r6) 131 [(128, 3), (64, 4)] I P)
    (h : Q (.inl (none, mc 131 67 1711 L I P))) :
    qwq d 36 22 [(0, .ref 128)] [] (mc 131 67 1711 L I P) Q := qY_sound qU_ok (fun _ => none) 12 true (⟨rfl, h⟩)
theorem n36_128 {d r6 L : Nat} {Q : qR → Prop} {I : Nat → Nat → Int32} {P : Nat → Nat → Nat} (hd : 20 ≤ d) (H : qMc (qW0 r6) 129 [(128, 0), (64, 4)] I P)
    (h : ∀ P2, qMc (qW0 r6) 131 [(128, 3), (64, 4)] I P2 → Q (.inl (none, mc 131 67 1711 L I P2))) : qwp d 36 [.ref 128] (mc 129 65 1411 L I P) Q := by
  refine s36_128_0 hd H (fun P H => ?_)
  refine s36_128_10 hd H (fun P H => ?_)
  refine s36_128_13 hd H (fun P H => ?_)
  refine s36_128_19 hd H (fun P H => ?_)
  exact s36_128_22 hd H (h _ H)
theorem s84_64_52 {d r6 L : Nat} {Q : qR → Prop} {I : Nat → Nat → Int32} {P : Nat → Nat → Nat} (hd : 30 ≤ d) (H : qMc (qW0 r6) 129 [(128, 0), (64, 4)] I P)
    (h : ∀ P2, qMc (qW0 r6) 131 [(128, 3), (64, 4)] I P2 → qwq d 84 56 [(0, .ref 64)] [.ref 128, .ref 64] (mc 131 67 1711 L I P2) Q) :
    qwq d 84 52 [(0, .ref 64)] [.ref 128, .ref 64] (mc 129 65 1411 L I P) Q := qY_sound qU_ok (fun p => bif Nat.beq p 56 then some [0, 1, 2, 3, 4] else none) 12 true (⟨by omega, rfl, n36_128 (by omega) H (fun P2 H2 => h P2 H2)⟩)
theorem s84_64_56 {d r6 L : Nat} {Q : qR → Prop} {I : Nat → Nat → Int32} {P : Nat → Nat → Nat} (hd : 30 ≤ d) (H : qMc (qW0 r6) 131 [(128, 3), (64, 4)] I P)
    (h : ∀ P2, qMc (qW0 r6) 131 [(64, 5)] I P2 → qwq d 84 59 [(0, .ref 64)] [] (mc 131 67 1711 L I P2) Q) :
    qwq d 84 56 [(0, .ref 64)] [.ref 128, .ref 64] (mc 131 67 1711 L I P) Q := qY_sound qU_ok (fun p => bif Nat.beq p 59 then some [0, 1, 2, 3, 4] else none) 12 true (⟨rfl, h (qup P 64 4 128) (pk_put (pk_close H (fun b hb => by show (bif Nat.blt b 2 then (bif Nat.blt b 1 then 129 else 0) else (bif Nat.blt b 3 then 130 else 0)) = 0; repeat (first | rfl | refine bfz (bltF (by omega)) ?_))) (by omega) (by omega) (fun b h1 h2 => by omega) rfl (lne rfl) rfl)⟩)
theorem s84_64_59 {d r6 L : Nat} {Q : qR → Prop} {I : Nat → Nat → Int32} {P : Nat → Nat → Nat} (hd : 30 ≤ d) (H : qMc (qW0 r6) 131 [(64, 5)] I P)
    (h : ∀ P2, qMc (qW0 r6) 132 [(131, 0), (64, 5)] I P2 → qwq d 84 63 [(0, .ref 64)] [.ref 131, .ref 64] (mc 132 68 1715 L I P2) Q) :
    qwq d 84 59 [(0, .ref 64)] [] (mc 131 67 1711 L I P) Q := qY_sound qU_ok (fun p => bif Nat.beq p 63 then some [0, 1, 2, 3, 4] else none) 12 true (⟨rfl, mc_to (mc_mk H rfl rfl rfl rfl) (h P (pk_new H rfl))⟩)
theorem s0_131_0 {d r6 L : Nat} {Q : qR → Prop} {I : Nat → Nat → Int32} {P : Nat → Nat → Nat} (hd : 20 ≤ d) (H : qMc (qW0 r6) 132 [(131, 0), (64, 5)] I P)
    (h : ∀ P2, qMc (qW0 r6) 133 [(131, 0), (64, 5)] I P2 → qwq d 0 9 [(0, .ref 131)] [.ref 132, .ref 131] (mc 133 69 1727 L I P2) Q) :
    qwq d 0 0 [(0, .ref 131)] [] (mc 132 68 1715 L I P) Q := qY_sound qU_ok (fun p => bif Nat.beq p 9 then some [0, 1, 2, 3, 4] else none) 12 true (⟨⟨by omega, rfl⟩, ⟨⟨rfl, by decide, by decide⟩, mc_to (mc_mk H rfl rfl rfl rfl) (h P (pk_leaf H (fun _ => rfl) rfl))⟩⟩)
theorem s0_131_9 {d r6 L : Nat} {Q : qR → Prop} {I : Nat → Nat → Int32} {P : Nat → Nat → Nat} (hd : 20 ≤ d) (H : qMc (qW0 r6) 133 [(131, 0), (64, 5)] I P)
    (h : ∀ P2, qMc (qW0 r6) 133 [(131, 2), (64, 5)] I P2 → qwq d 0 12 [(0, .ref 131)] [] (mc 133 69 1727 L I P2) Q) :
    qwq d 0 9 [(0, .ref 131)] [.ref 132, .ref 131] (mc 133 69 1727 L I P) Q := qY_sound qU_ok (fun p => bif Nat.beq p 12 then some [0, 1, 2, 3, 4] else none) 12 true (⟨rfl, h (qup P 131 1 132) (pk_put H (by omega) (by omega) (fun b h1 h2 => by have hb : b = 0 := (by omega); subst hb; rfl) rfl (lne rfl) rfl)⟩)
theorem s0_131_12 {d r6 L : Nat} {Q : qR → Prop} {I : Nat → Nat → Int32} {P : Nat → Nat → Nat} (hd : 20 ≤ d) (H : qMc (qW0 r6) 133 [(131, 2), (64, 5)] I P)
    (h : ∀ P2, qMc (qW0 r6) 134 [(131, 2), (64, 5)] I P2 → qwq d 0 17 [(0, .ref 131)] [.ref 133, .ref 131] (mc 134 70 1739 L I P2) Q) :
    qwq d 0 12 [(0, .ref 131)] [] (mc 133 69 1727 L I P) Q := qY_sound qU_ok (fun p => bif Nat.beq p 17 then some [0, 1, 2, 3, 4] else none) 12 true (⟨⟨rfl, by decide, by decide⟩, mc_to (mc_mk H rfl rfl rfl rfl) (h P (pk_leaf H (fun _ => rfl) rfl))⟩)
theorem s0_131_17 {d r6 L : Nat} {Q : qR → Prop} {I : Nat → Nat → Int32} {P : Nat → Nat → Nat} (hd : 20 ≤ d) (H : qMc (qW0 r6) 134 [(131, 2), (64, 5)] I P)
    (h : ∀ P2, qMc (qW0 r6) 134 [(131, 3), (64, 5)] I P2 → qwq d 0 20 [(0, .ref 131)] [] (mc 134 70 1739 L I P2) Q) :
    qwq d 0 17 [(0, .ref 131)] [.ref 133, .ref 131] (mc 134 70 1739 L I P) Q := qY_sound qU_ok (fun p => bif Nat.beq p 20 then some [0, 1, 2, 3, 4] else none) 12 true (⟨rfl, h (qup P 131 2 133) (pk_put H (by omega) (by omega) (fun b h1 h2 => by omega) rfl (lne rfl) rfl)⟩)
theorem s0_131_20 {d r6 L : Nat} {Q : qR → Prop} {I : Nat → Nat → Int32} {P : Nat → Nat → Nat} (hd : 20 ≤ d) (H : qMc (qW0 r6) 134 [(131, 3), (64, 5)] I P)
    (h : ∀ P2, qMc (qW0 r6) 135 [(131, 3), (64, 5)] I P2 → qwq d 0 25 [(0, .ref 131)] [.ref 134, .ref 131] (mc 135 71 1751 L I P2) Q) :
    qwq d 0 20 [(0, .ref 131)] [] (mc 134 70 1739 L I P) Q := qY_sound qU_ok (fun p => bif Nat.beq p 25 then some [0, 1, 2, 3, 4] else none) 12 true (⟨⟨rfl, by decide, by decide⟩, mc_to (mc_mk H rfl rfl rfl rfl) (h P (pk_leaf H (fun _ => rfl) rfl))⟩)
theorem s0_131_25 {d r6 L : Nat} {Q : qR → Prop} {I : Nat → Nat → Int32} {P : Nat → Nat → Nat} (hd : 20 ≤ d) (H : qMc (qW0 r6) 135 [(131, 3), (64, 5)] I P)
    (h : ∀ P2, qMc (qW0 r6) 135 [(131, 4), (64, 5)] I P2 → qwq d 0 28 [(0, .ref 131)] [] (mc 135 71 1751 L I P2) Q) :
    qwq d 0 25 [(0, .ref 131)] [.ref 134, .ref 131] (mc 135 71 1751 L I P) Q := qY_sound qU_ok (fun p => bif Nat.beq p 28 then some [0, 1, 2, 3, 4] else none) 12 true (⟨rfl, h (qup P 131 3 134) (pk_put H (by omega) (by omega) (fun b h1 h2 => by omega) rfl (lne rfl) rfl)⟩)
theorem s0_131_28 {d r6 L : Nat} {Q : qR → Prop} {I : Nat → Nat → Int32} {P : Nat → Nat → Nat} (hd : 20 ≤ d) (H : qMc (qW0 r6) 135 [(131, 4), (64, 5)] I P)
    (h : Q (.inl (none, mc 135 71 1751 L I P))) :
    qwq d 0 28 [(0, .ref 131)] [] (mc 135 71 1751 L I P) Q := qY_sound qU_ok (fun _ => none) 12 true (⟨rfl, h⟩)
theorem n0_131 {d r6 L : Nat} {Q : qR → Prop} {I : Nat → Nat → Int32} {P : Nat → Nat → Nat} (hd : 20 ≤ d) (H : qMc (qW0 r6) 132 [(131, 0), (64, 5)] I P)
    (h : ∀ P2, qMc (qW0 r6) 135 [(131, 4), (64, 5)] I P2 → Q (.inl (none, mc 135 71 1751 L I P2))) : qwp d 0 [.ref 131] (mc 132 68 1715 L I P) Q := by
  refine s0_131_0 hd H (fun P H => ?_)
  refine s0_131_9 hd H (fun P H => ?_)
  refine s0_131_12 hd H (fun P H => ?_)
  refine s0_131_17 hd H (fun P H => ?_)
  refine s0_131_20 hd H (fun P H => ?_)
  refine s0_131_25 hd H (fun P H => ?_)
  exact s0_131_28 hd H (h _ H)
theorem s84_64_63 {d r6 L : Nat} {Q : qR → Prop} {I : Nat → Nat → Int32} {P : Nat → Nat → Nat} (hd : 30 ≤ d) (H : qMc (qW0 r6) 132 [(131, 0), (64, 5)] I P)
    (h : ∀ P2, qMc (qW0 r6) 135 [(131, 4), (64, 5)] I P2 → qwq d 84 67 [(0, .ref 64)] [.ref 131, .ref 64] (mc 135 71 1751 L I P2) Q) :
    qwq d 84 63 [(0, .ref 64)] [.ref 131, .ref 64] (mc 132 68 1715 L I P) Q := qY_sound qU_ok (fun p => bif Nat.beq p 67 then some [0, 1, 2, 3, 4] else none) 12 true (⟨by omega, rfl, n0_131 (by omega) H (fun P2 H2 => h P2 H2)⟩)
theorem s84_64_67 {d r6 L : Nat} {Q : qR → Prop} {I : Nat → Nat → Int32} {P : Nat → Nat → Nat} (hd : 30 ≤ d) (H : qMc (qW0 r6) 135 [(131, 4), (64, 5)] I P)
    (h : ∀ P2, qMc (qW0 r6) 135 [(64, 6)] I P2 → qwq d 84 70 [(0, .ref 64)] [] (mc 135 71 1751 L I P2) Q) :
    qwq d 84 67 [(0, .ref 64)] [.ref 131, .ref 64] (mc 135 71 1751 L I P) Q := qY_sound qU_ok (fun p => bif Nat.beq p 70 then some [0, 1, 2, 3, 4] else none) 12 true (⟨rfl, h (qup P 64 5 131) (pk_put (pk_close H (fun b hb => by show (bif Nat.blt b 2 then (bif Nat.blt b 1 then 0 else 132) else (bif Nat.blt b 3 then 133 else (bif Nat.blt b 4 then 134 else 0))) = 0; repeat (first | rfl | refine bfz (bltF (by omega)) ?_))) (by omega) (by omega) (fun b h1 h2 => by omega) rfl (lne rfl) rfl)⟩)
theorem s84_64_70 {d r6 L : Nat} {Q : qR → Prop} {I : Nat → Nat → Int32} {P : Nat → Nat → Nat} (hd : 30 ≤ d) (H : qMc (qW0 r6) 135 [(64, 6)] I P)
    (h : ∀ P2, qMc (qW0 r6) 136 [(135, 0), (64, 6)] I P2 → qwq d 84 74 [(0, .ref 64)] [.ref 135, .ref 64] (mc 136 72 1755 L I P2) Q) :
    qwq d 84 70 [(0, .ref 64)] [] (mc 135 71 1751 L I P) Q := qY_sound qU_ok (fun p => bif Nat.beq p 74 then some [0, 1, 2, 3, 4] else none) 12 true (⟨rfl, mc_to (mc_mk H rfl rfl rfl rfl) (h P (pk_new H rfl))⟩)
theorem s0_135_0 {d r6 L : Nat} {Q : qR → Prop} {I : Nat → Nat → Int32} {P : Nat → Nat → Nat} (hd : 20 ≤ d) (H : qMc (qW0 r6) 136 [(135, 0), (64, 6)] I P)
    (h : ∀ P2, qMc (qW0 r6) 137 [(135, 0), (64, 6)] I P2 → qwq d 0 9 [(0, .ref 135)] [.ref 136, .ref 135] (mc 137 73 1767 L I P2) Q) :
    qwq d 0 0 [(0, .ref 135)] [] (mc 136 72 1755 L I P) Q := qY_sound qU_ok (fun p => bif Nat.beq p 9 then some [0, 1, 2, 3, 4] else none) 12 true (⟨⟨by omega, rfl⟩, ⟨⟨rfl, by decide, by decide⟩, mc_to (mc_mk H rfl rfl rfl rfl) (h P (pk_leaf H (fun _ => rfl) rfl))⟩⟩)
theorem s0_135_9 {d r6 L : Nat} {Q : qR → Prop} {I : Nat → Nat → Int32} {P : Nat → Nat → Nat} (hd : 20 ≤ d) (H : qMc (qW0 r6) 137 [(135, 0), (64, 6)] I P)
    (h : ∀ P2, qMc (qW0 r6) 137 [(135, 2), (64, 6)] I P2 → qwq d 0 12 [(0, .ref 135)] [] (mc 137 73 1767 L I P2) Q) :
    qwq d 0 9 [(0, .ref 135)] [.ref 136, .ref 135] (mc 137 73 1767 L I P) Q := qY_sound qU_ok (fun p => bif Nat.beq p 12 then some [0, 1, 2, 3, 4] else none) 12 true (⟨rfl, h (qup P 135 1 136) (pk_put H (by omega) (by omega) (fun b h1 h2 => by have hb : b = 0 := (by omega); subst hb; rfl) rfl (lne rfl) rfl)⟩)
theorem s0_135_12 {d r6 L : Nat} {Q : qR → Prop} {I : Nat → Nat → Int32} {P : Nat → Nat → Nat} (hd : 20 ≤ d) (H : qMc (qW0 r6) 137 [(135, 2), (64, 6)] I P)
    (h : ∀ P2, qMc (qW0 r6) 138 [(135, 2), (64, 6)] I P2 → qwq d 0 17 [(0, .ref 135)] [.ref 137, .ref 135] (mc 138 74 1779 L I P2) Q) :
    qwq d 0 12 [(0, .ref 135)] [] (mc 137 73 1767 L I P) Q := qY_sound qU_ok (fun p => bif Nat.beq p 17 then some [0, 1, 2, 3, 4] else none) 12 true (⟨⟨rfl, by decide, by decide⟩, mc_to (mc_mk H rfl rfl rfl rfl) (h P (pk_leaf H (fun _ => rfl) rfl))⟩)
theorem s0_135_17 {d r6 L : Nat} {Q : qR → Prop} {I : Nat → Nat → Int32} {P : Nat → Nat → Nat} (hd : 20 ≤ d) (H : qMc (qW0 r6) 138 [(135, 2), (64, 6)] I P)
    (h : ∀ P2, qMc (qW0 r6) 138 [(135, 3), (64, 6)] I P2 → qwq d 0 20 [(0, .ref 135)] [] (mc 138 74 1779 L I P2) Q) :
    qwq d 0 17 [(0, .ref 135)] [.ref 137, .ref 135] (mc 138 74 1779 L I P) Q := qY_sound qU_ok (fun p => bif Nat.beq p 20 then some [0, 1, 2, 3, 4] else none) 12 true (⟨rfl, h (qup P 135 2 137) (pk_put H (by omega) (by omega) (fun b h1 h2 => by omega) rfl (lne rfl) rfl)⟩)
theorem s0_135_20 {d r6 L : Nat} {Q : qR → Prop} {I : Nat → Nat → Int32} {P : Nat → Nat → Nat} (hd : 20 ≤ d) (H : qMc (qW0 r6) 138 [(135, 3), (64, 6)] I P)
    (h : ∀ P2, qMc (qW0 r6) 139 [(135, 3), (64, 6)] I P2 → qwq d 0 25 [(0, .ref 135)] [.ref 138, .ref 135] (mc 139 75 1791 L I P2) Q) :
    qwq d 0 20 [(0, .ref 135)] [] (mc 138 74 1779 L I P) Q := qY_sound qU_ok (fun p => bif Nat.beq p 25 then some [0, 1, 2, 3, 4] else none) 12 true (⟨⟨rfl, by decide, by decide⟩, mc_to (mc_mk H rfl rfl rfl rfl) (h P (pk_leaf H (fun _ => rfl) rfl))⟩)
theorem s0_135_25 {d r6 L : Nat} {Q : qR → Prop} {I : Nat → Nat → Int32} {P : Nat → Nat → Nat} (hd : 20 ≤ d) (H : qMc (qW0 r6) 139 [(135, 3), (64, 6)] I P)
    (h : ∀ P2, qMc (qW0 r6) 139 [(135, 4), (64, 6)] I P2 → qwq d 0 28 [(0, .ref 135)] [] (mc 139 75 1791 L I P2) Q) :
    qwq d 0 25 [(0, .ref 135)] [.ref 138, .ref 135] (mc 139 75 1791 L I P) Q := qY_sound qU_ok (fun p => bif Nat.beq p 28 then some [0, 1, 2, 3, 4] else none) 12 true (⟨rfl, h (qup P 135 3 138) (pk_put H (by omega) (by omega) (fun b h1 h2 => by omega) rfl (lne rfl) rfl)⟩)
theorem s0_135_28 {d r6 L : Nat} {Q : qR → Prop} {I : Nat → Nat → Int32} {P : Nat → Nat → Nat} (hd : 20 ≤ d) (H : qMc (qW0 r6) 139 [(135, 4), (64, 6)] I P)
    (h : Q (.inl (none, mc 139 75 1791 L I P))) :
    qwq d 0 28 [(0, .ref 135)] [] (mc 139 75 1791 L I P) Q := qY_sound qU_ok (fun _ => none) 12 true (⟨rfl, h⟩)
theorem n0_135 {d r6 L : Nat} {Q : qR → Prop} {I : Nat → Nat → Int32} {P : Nat → Nat → Nat} (hd : 20 ≤ d) (H : qMc (qW0 r6) 136 [(135, 0), (64, 6)] I P)
    (h : ∀ P2, qMc (qW0 r6) 139 [(135, 4), (64, 6)] I P2 → Q (.inl (none, mc 139 75 1791 L I P2))) : qwp d 0 [.ref 135] (mc 136 72 1755 L I P) Q := by
  refine s0_135_0 hd H (fun P H => ?_)
  refine s0_135_9 hd H (fun P H => ?_)
  refine s0_135_12 hd H (fun P H => ?_)
  refine s0_135_17 hd H (fun P H => ?_)
  refine s0_135_20 hd H (fun P H => ?_)
  refine s0_135_25 hd H (fun P H => ?_)
  exact s0_135_28 hd H (h _ H)
theorem s84_64_74 {d r6 L : Nat} {Q : qR → Prop} {I : Nat → Nat → Int32} {P : Nat → Nat → Nat} (hd : 30 ≤ d) (H : qMc (qW0 r6) 136 [(135, 0), (64, 6)] I P)
    (h : ∀ P2, qMc (qW0 r6) 139 [(135, 4), (64, 6)] I P2 → qwq d 84 78 [(0, .ref 64)] [.ref 135, .ref 64] (mc 139 75 1791 L I P2) Q) :
    qwq d 84 74 [(0, .ref 64)] [.ref 135, .ref 64] (mc 136 72 1755 L I P) Q := qY_sound qU_ok (fun p => bif Nat.beq p 78 then some [0, 1, 2, 3, 4] else none) 12 true (⟨by omega, rfl, n0_135 (by omega) H (fun P2 H2 => h P2 H2)⟩)
theorem s84_64_78 {d r6 L : Nat} {Q : qR → Prop} {I : Nat → Nat → Int32} {P : Nat → Nat → Nat} (hd : 30 ≤ d) (H : qMc (qW0 r6) 139 [(135, 4), (64, 6)] I P)
    (h : ∀ P2, qMc (qW0 r6) 139 [(64, 7)] I P2 → qwq d 84 81 [(0, .ref 64)] [] (mc 139 75 1791 L I P2) Q) :
    qwq d 84 78 [(0, .ref 64)] [.ref 135, .ref 64] (mc 139 75 1791 L I P) Q := qY_sound qU_ok (fun p => bif Nat.beq p 81 then some [0, 1, 2, 3, 4] else none) 12 true (⟨rfl, h (qup P 64 6 135) (pk_put (pk_close H (fun b hb => by show (bif Nat.blt b 2 then (bif Nat.blt b 1 then 0 else 136) else (bif Nat.blt b 3 then 137 else (bif Nat.blt b 4 then 138 else 0))) = 0; repeat (first | rfl | refine bfz (bltF (by omega)) ?_))) (by omega) (by omega) (fun b h1 h2 => by omega) rfl (lne rfl) rfl)⟩)
theorem s84_64_81 {d r6 L : Nat} {Q : qR → Prop} {I : Nat → Nat → Int32} {P : Nat → Nat → Nat} (hd : 30 ≤ d) (H : qMc (qW0 r6) 139 [(64, 7)] I P)
    (h : ∀ P2, qMc (qW0 r6) 140 [(139, 0), (64, 7)] I P2 → qwq d 84 85 [(0, .ref 64)] [.ref 139, .ref 64] (mc 140 76 1799 L I P2) Q) :
    qwq d 84 81 [(0, .ref 64)] [] (mc 139 75 1791 L I P) Q := qY_sound qU_ok (fun p => bif Nat.beq p 85 then some [0, 1, 2, 3, 4] else none) 12 true (⟨rfl, mc_to (mc_mk H rfl rfl rfl rfl) (h P (pk_new H rfl))⟩)
theorem s51_139_0 {d r6 L : Nat} {Q : qR → Prop} {I : Nat → Nat → Int32} {P : Nat → Nat → Nat} (hd : 20 ≤ d) (H : qMc (qW0 r6) 140 [(139, 0), (64, 7)] I P)
    (h : ∀ P2, qMc (qW0 r6) 141 [(139, 0), (64, 7)] I P2 → qwq d 51 9 [(0, .ref 139)] [.ref 140, .ref 139] (mc 141 77 1808 L I P2) Q) :
    qwq d 51 0 [(0, .ref 139)] [] (mc 140 76 1799 L I P) Q := qY_sound qU_ok (fun p => bif Nat.beq p 9 then some [0, 1, 2, 3, 4] else none) 12 true (⟨⟨by omega, rfl⟩, ⟨⟨rfl, by decide, by decide⟩, mc_to (mc_mk H rfl rfl rfl rfl) (h P (pk_leaf H (fun _ => rfl) rfl))⟩⟩)
theorem s51_139_9 {d r6 L : Nat} {Q : qR → Prop} {I : Nat → Nat → Int32} {P : Nat → Nat → Nat} (hd : 20 ≤ d) (H : qMc (qW0 r6) 141 [(139, 0), (64, 7)] I P)
    (h : ∀ P2, qMc (qW0 r6) 141 [(139, 3), (64, 7)] I P2 → qwq d 51 12 [(0, .ref 139)] [] (mc 141 77 1808 L I P2) Q) :
    qwq d 51 9 [(0, .ref 139)] [.ref 140, .ref 139] (mc 141 77 1808 L I P) Q := qY_sound qU_ok (fun p => bif Nat.beq p 12 then some [0, 1, 2, 3, 4] else none) 12 true (⟨rfl, h (qup P 139 2 140) (pk_put H (by omega) (by omega) (fun b h1 h2 => by have hb : b = 0 ∨ b = 1 := (by omega); rcases hb with rfl | rfl <;> rfl) rfl (lne rfl) rfl)⟩)
theorem s51_139_12 {d r6 L : Nat} {Q : qR → Prop} {I : Nat → Nat → Int32} {P : Nat → Nat → Nat} (hd : 20 ≤ d) (H : qMc (qW0 r6) 141 [(139, 3), (64, 7)] I P)
    (h : ∀ P2, qMc (qW0 r6) 142 [(139, 3), (64, 7)] I P2 → qwq d 51 17 [(0, .ref 139)] [.ref 141, .ref 139] (mc 142 78 1817 L I P2) Q) :
    qwq d 51 12 [(0, .ref 139)] [] (mc 141 77 1808 L I P) Q := qY_sound qU_ok (fun p => bif Nat.beq p 17 then some [0, 1, 2, 3, 4] else none) 12 true (⟨⟨rfl, by decide, by decide⟩, mc_to (mc_mk H rfl rfl rfl rfl) (h P (pk_leaf H (fun _ => rfl) rfl))⟩)
theorem s51_139_17 {d r6 L : Nat} {Q : qR → Prop} {I : Nat → Nat → Int32} {P : Nat → Nat → Nat} (hd : 20 ≤ d) (H : qMc (qW0 r6) 142 [(139, 3), (64, 7)] I P)
    (h : ∀ P2, qMc (qW0 r6) 142 [(139, 4), (64, 7)] I P2 → qwq d 51 20 [(0, .ref 139)] [] (mc 142 78 1817 L I P2) Q) :
    qwq d 51 17 [(0, .ref 139)] [.ref 141, .ref 139] (mc 142 78 1817 L I P) Q := qY_sound qU_ok (fun p => bif Nat.beq p 20 then some [0, 1, 2, 3, 4] else none) 12 true (⟨rfl, h (qup P 139 3 141) (pk_put H (by omega) (by omega) (fun b h1 h2 => by omega) rfl (lne rfl) rfl)⟩)
theorem s51_139_20 {d r6 L : Nat} {Q : qR → Prop} {I : Nat → Nat → Int32} {P : Nat → Nat → Nat} (hd : 20 ≤ d) (H : qMc (qW0 r6) 142 [(139, 4), (64, 7)] I P)
    (h : ∀ P2, qMc (qW0 r6) 143 [(139, 4), (64, 7)] I P2 → qwq d 51 25 [(0, .ref 139)] [.ref 142, .ref 139] (mc 143 79 1826 L I P2) Q) :
    qwq d 51 20 [(0, .ref 139)] [] (mc 142 78 1817 L I P) Q := qY_sound qU_ok (fun p => bif Nat.beq p 25 then some [0, 1, 2, 3, 4] else none) 12 true (⟨⟨rfl, by decide, by decide⟩, mc_to (mc_mk H rfl rfl rfl rfl) (h P (pk_leaf H (fun _ => rfl) rfl))⟩)
theorem s51_139_25 {d r6 L : Nat} {Q : qR → Prop} {I : Nat → Nat → Int32} {P : Nat → Nat → Nat} (hd : 20 ≤ d) (H : qMc (qW0 r6) 143 [(139, 4), (64, 7)] I P)
    (h : ∀ P2, qMc (qW0 r6) 143 [(139, 5), (64, 7)] I P2 → qwq d 51 28 [(0, .ref 139)] [] (mc 143 79 1826 L I P2) Q) :
    qwq d 51 25 [(0, .ref 139)] [.ref 142, .ref 139] (mc 143 79 1826 L I P) Q := qY_sound qU_ok (fun p => bif Nat.beq p 28 then some [0, 1, 2, 3, 4] else none) 12 true (⟨rfl, h (qup P 139 4 142) (pk_put H (by omega) (by omega) (fun b h1 h2 => by omega) rfl (lne rfl) rfl)⟩)
theorem s51_139_28 {d r6 L : Nat} {Q : qR → Prop} {I : Nat → Nat → Int32} {P : Nat → Nat → Nat} (hd : 20 ≤ d) (H : qMc (qW0 r6) 143 [(139, 5), (64, 7)] I P)
    (h : ∀ P2, qMc (qW0 r6) 153 [(139, 5), (64, 7)] I P2 → qwq d 51 37 [(0, .ref 139)] [.ref 143, .ref 139] (mc 153 89 1907 L I P2) Q) :
    qwq d 51 28 [(0, .ref 139)] [] (mc 143 79 1826 L I P) Q := qY_sound qU_ok (fun p => bif Nat.beq p 37 then some [0, 1, 2, 3, 4] else none) 12 true (⟨⟨rfl, by decide, by decide, by decide, by decide⟩, mc_to (mc_mm H rfl (fun i hi => q2c (n := 9) (fun i => qSH L (143 + 1 + i) = (1, 8)) ⟨rfl, rfl, rfl, rfl, rfl, rfl, rfl, rfl, rfl, trivial⟩ i hi) rfl rfl rfl) (h (mmP 143 9 P) (pk_mm H (fun b => q2_if 9 143 b) (fun i hi => q2c (n := 9) (fun i => ∀ b, qPf (qW0 r6) (143 + 1 + i) b = 0) ⟨fun _ => rfl, fun _ => rfl, fun _ => rfl, fun _ => rfl, fun _ => rfl, fun _ => rfl, fun _ => rfl, fun _ => rfl, fun _ => rfl, trivial⟩ i hi) (llt rfl) rfl))⟩)
theorem s51_139_37 {d r6 L : Nat} {Q : qR → Prop} {I : Nat → Nat → Int32} {P : Nat → Nat → Nat} (hd : 20 ≤ d) (H : qMc (qW0 r6) 153 [(139, 5), (64, 7)] I P)
    (h : ∀ P2, qMc (qW0 r6) 153 [(139, 6), (64, 7)] I P2 → qwq d 51 40 [(0, .ref 139)] [] (mc 153 89 1907 L I P2) Q) :
    qwq d 51 37 [(0, .ref 139)] [.ref 143, .ref 139] (mc 153 89 1907 L I P) Q := qY_sound qU_ok (fun p => bif Nat.beq p 40 then some [0, 1, 2, 3, 4] else none) 12 true (⟨rfl, h (qup P 139 5 143) (pk_put H (by omega) (by omega) (fun b h1 h2 => by omega) rfl (lne rfl) rfl)⟩)
theorem s51_139_40 {d r6 L : Nat} {Q : qR → Prop} {I : Nat → Nat → Int32} {P : Nat → Nat → Nat} (hd : 20 ≤ d) (H : qMc (qW0 r6) 153 [(139, 6), (64, 7)] I P)
    (h : ∀ P2, qMc (qW0 r6) 154 [(139, 6), (64, 7)] I P2 → qwq d 51 45 [(0, .ref 139)] [.ref 153, .ref 139] (mc 154 90 1915 L I P2) Q) :
    qwq d 51 40 [(0, .ref 139)] [] (mc 153 89 1907 L I P) Q := qY_sound qU_ok (fun p => bif Nat.beq p 45 then some [0, 1, 2, 3, 4] else none) 12 true (⟨⟨rfl, by decide, by decide⟩, mc_to (mc_mk H rfl rfl rfl rfl) (h P (pk_leaf H (fun _ => rfl) rfl))⟩)
theorem s51_139_45 {d r6 L : Nat} {Q : qR → Prop} {I : Nat → Nat → Int32} {P : Nat → Nat → Nat} (hd : 20 ≤ d) (H : qMc (qW0 r6) 154 [(139, 6), (64, 7)] I P)
    (h : ∀ P2, qMc (qW0 r6) 154 [(139, 7), (64, 7)] I P2 → qwq d 51 48 [(0, .ref 139)] [] (mc 154 90 1915 L I P2) Q) :
    qwq d 51 45 [(0, .ref 139)] [.ref 153, .ref 139] (mc 154 90 1915 L I P) Q := qY_sound qU_ok (fun p => bif Nat.beq p 48 then some [0, 1, 2, 3, 4] else none) 12 true (⟨rfl, h (qup P 139 6 153) (pk_put H (by omega) (by omega) (fun b h1 h2 => by omega) rfl (lne rfl) rfl)⟩)
theorem s51_139_48 {d r6 L : Nat} {Q : qR → Prop} {I : Nat → Nat → Int32} {P : Nat → Nat → Nat} (hd : 20 ≤ d) (H : qMc (qW0 r6) 154 [(139, 7), (64, 7)] I P)
    (h : ∀ P2, qMc (qW0 r6) 155 [(139, 7), (64, 7)] I P2 → qwq d 51 53 [(0, .ref 139)] [.ref 154, .ref 139] (mc 155 91 1923 L I P2) Q) :
    qwq d 51 48 [(0, .ref 139)] [] (mc 154 90 1915 L I P) Q := qY_sound qU_ok (fun p => bif Nat.beq p 53 then some [0, 1, 2, 3, 4] else none) 12 true (⟨⟨rfl, by decide, by decide⟩, mc_to (mc_mk H rfl rfl rfl rfl) (h P (pk_leaf H (fun _ => rfl) rfl))⟩)
theorem s51_139_53 {d r6 L : Nat} {Q : qR → Prop} {I : Nat → Nat → Int32} {P : Nat → Nat → Nat} (hd : 20 ≤ d) (H : qMc (qW0 r6) 155 [(139, 7), (64, 7)] I P)
    (h : ∀ P2, qMc (qW0 r6) 155 [(139, 8), (64, 7)] I P2 → qwq d 51 56 [(0, .ref 139)] [] (mc 155 91 1923 L I P2) Q) :
    qwq d 51 53 [(0, .ref 139)] [.ref 154, .ref 139] (mc 155 91 1923 L I P) Q := qY_sound qU_ok (fun p => bif Nat.beq p 56 then some [0, 1, 2, 3, 4] else none) 12 true (⟨rfl, h (qup P 139 7 154) (pk_put H (by omega) (by omega) (fun b h1 h2 => by omega) rfl (lne rfl) rfl)⟩)
theorem s51_139_56 {d r6 L : Nat} {Q : qR → Prop} {I : Nat → Nat → Int32} {P : Nat → Nat → Nat} (hd : 20 ≤ d) (H : qMc (qW0 r6) 155 [(139, 8), (64, 7)] I P)
    (h : Q (.inl (none, mc 155 91 1923 L I P))) :
    qwq d 51 56 [(0, .ref 139)] [] (mc 155 91 1923 L I P) Q := qY_sound qU_ok (fun _ => none) 12 true (⟨rfl, h⟩)
theorem n51_139 {d r6 L : Nat} {Q : qR → Prop} {I : Nat → Nat → Int32} {P : Nat → Nat → Nat} (hd : 20 ≤ d) (H : qMc (qW0 r6) 140 [(139, 0), (64, 7)] I P)
    (h : ∀ P2, qMc (qW0 r6) 155 [(139, 8), (64, 7)] I P2 → Q (.inl (none, mc 155 91 1923 L I P2))) : qwp d 51 [.ref 139] (mc 140 76 1799 L I P) Q := by
  refine s51_139_0 hd H (fun P H => ?_)
  refine s51_139_9 hd H (fun P H => ?_)
  refine s51_139_12 hd H (fun P H => ?_)
  refine s51_139_17 hd H (fun P H => ?_)
  refine s51_139_20 hd H (fun P H => ?_)
  refine s51_139_25 hd H (fun P H => ?_)
  refine s51_139_28 hd H (fun P H => ?_)
  refine s51_139_37 hd H (fun P H => ?_)
  refine s51_139_40 hd H (fun P H => ?_)
  refine s51_139_45 hd H (fun P H => ?_)
  refine s51_139_48 hd H (fun P H => ?_)
  refine s51_139_53 hd H (fun P H => ?_)
  exact s51_139_56 hd H (h _ H)
theorem s84_64_85 {d r6 L : Nat} {Q : qR → Prop} {I : Nat → Nat → Int32} {P : Nat → Nat → Nat} (hd : 30 ≤ d) (H : qMc (qW0 r6) 140 [(139, 0), (64, 7)] I P)
    (h : ∀ P2, qMc (qW0 r6) 155 [(139, 8), (64, 7)] I P2 → qwq d 84 89 [(0, .ref 64)] [.ref 139, .ref 64] (mc 155 91 1923 L I P2) Q) :
    qwq d 84 85 [(0, .ref 64)] [.ref 139, .ref 64] (mc 140 76 1799 L I P) Q := qY_sound qU_ok (fun p => bif Nat.beq p 89 then some [0, 1, 2, 3, 4] else none) 12 true (⟨by omega, rfl, n51_139 (by omega) H (fun P2 H2 => h P2 H2)⟩)
theorem s84_64_89 {d r6 L : Nat} {Q : qR → Prop} {I : Nat → Nat → Int32} {P : Nat → Nat → Nat} (hd : 30 ≤ d) (H : qMc (qW0 r6) 155 [(139, 8), (64, 7)] I P)
    (h : ∀ P2, qMc (qW0 r6) 155 [(64, 8)] I P2 → qwq d 84 92 [(0, .ref 64)] [] (mc 155 91 1923 L I P2) Q) :
    qwq d 84 89 [(0, .ref 64)] [.ref 139, .ref 64] (mc 155 91 1923 L I P) Q := qY_sound qU_ok (fun p => bif Nat.beq p 92 then some [0, 1, 2, 3, 4] else none) 12 true (⟨rfl, h (qup P 64 7 139) (pk_put (pk_close H (fun b hb => by show (bif Nat.blt b 5 then (bif Nat.blt b 3 then (bif Nat.blt b 2 then 0 else 140) else (bif Nat.blt b 4 then 141 else 142)) else (bif Nat.blt b 7 then (bif Nat.blt b 6 then 143 else 153) else (bif Nat.blt b 8 then 154 else 0))) = 0; repeat (first | rfl | refine bfz (bltF (by omega)) ?_))) (by omega) (by omega) (fun b h1 h2 => by omega) rfl (lne rfl) rfl)⟩)
theorem s84_64_92 {d r6 L : Nat} {Q : qR → Prop} {I : Nat → Nat → Int32} {P : Nat → Nat → Nat} (hd : 30 ≤ d) (H : qMc (qW0 r6) 155 [(64, 8)] I P)
    (h : ∀ P2, qMc (qW0 r6) 156 [(155, 0), (64, 8)] I P2 → qwq d 84 96 [(0, .ref 64)] [.ref 155, .ref 64] (mc 156 92 1931 L I P2) Q) :
    qwq d 84 92 [(0, .ref 64)] [] (mc 155 91 1923 L I P) Q := qY_sound qU_ok (fun p => bif Nat.beq p 96 then some [0, 1, 2, 3, 4] else none) 12 true (⟨rfl, mc_to (mc_mk H rfl rfl rfl rfl) (h P (pk_new H rfl))⟩)
theorem s51_155_0 {d r6 L : Nat} {Q : qR → Prop} {I : Nat → Nat → Int32} {P : Nat → Nat → Nat} (hd : 20 ≤ d) (H : qMc (qW0 r6) 156 [(155, 0), (64, 8)] I P)
    (h : ∀ P2, qMc (qW0 r6) 157 [(155, 0), (64, 8)] I P2 → qwq d 51 9 [(0, .ref 155)] [.ref 156, .ref 155] (mc 157 93 1940 L I P2) Q) :
    qwq d 51 0 [(0, .ref 155)] [] (mc 156 92 1931 L I P) Q := qY_sound qU_ok (fun p => bif Nat.beq p 9 then some [0, 1, 2, 3, 4] else none) 12 true (⟨⟨by omega, rfl⟩, ⟨⟨rfl, by decide, by decide⟩, mc_to (mc_mk H rfl rfl rfl rfl) (h P (pk_leaf H (fun _ => rfl) rfl))⟩⟩)
theorem s51_155_9 {d r6 L : Nat} {Q : qR → Prop} {I : Nat → Nat → Int32} {P : Nat → Nat → Nat} (hd : 20 ≤ d) (H : qMc (qW0 r6) 157 [(155, 0), (64, 8)] I P)
    (h : ∀ P2, qMc (qW0 r6) 157 [(155, 3), (64, 8)] I P2 → qwq d 51 12 [(0, .ref 155)] [] (mc 157 93 1940 L I P2) Q) :
    qwq d 51 9 [(0, .ref 155)] [.ref 156, .ref 155] (mc 157 93 1940 L I P) Q := qY_sound qU_ok (fun p => bif Nat.beq p 12 then some [0, 1, 2, 3, 4] else none) 12 true (⟨rfl, h (qup P 155 2 156) (pk_put H (by omega) (by omega) (fun b h1 h2 => by have hb : b = 0 ∨ b = 1 := (by omega); rcases hb with rfl | rfl <;> rfl) rfl (lne rfl) rfl)⟩)
theorem s51_155_12 {d r6 L : Nat} {Q : qR → Prop} {I : Nat → Nat → Int32} {P : Nat → Nat → Nat} (hd : 20 ≤ d) (H : qMc (qW0 r6) 157 [(155, 3), (64, 8)] I P)
    (h : ∀ P2, qMc (qW0 r6) 158 [(155, 3), (64, 8)] I P2 → qwq d 51 17 [(0, .ref 155)] [.ref 157, .ref 155] (mc 158 94 1949 L I P2) Q) :
    qwq d 51 12 [(0, .ref 155)] [] (mc 157 93 1940 L I P) Q := qY_sound qU_ok (fun p => bif Nat.beq p 17 then some [0, 1, 2, 3, 4] else none) 12 true (⟨⟨rfl, by decide, by decide⟩, mc_to (mc_mk H rfl rfl rfl rfl) (h P (pk_leaf H (fun _ => rfl) rfl))⟩)
theorem s51_155_17 {d r6 L : Nat} {Q : qR → Prop} {I : Nat → Nat → Int32} {P : Nat → Nat → Nat} (hd : 20 ≤ d) (H : qMc (qW0 r6) 158 [(155, 3), (64, 8)] I P)
    (h : ∀ P2, qMc (qW0 r6) 158 [(155, 4), (64, 8)] I P2 → qwq d 51 20 [(0, .ref 155)] [] (mc 158 94 1949 L I P2) Q) :
    qwq d 51 17 [(0, .ref 155)] [.ref 157, .ref 155] (mc 158 94 1949 L I P) Q := qY_sound qU_ok (fun p => bif Nat.beq p 20 then some [0, 1, 2, 3, 4] else none) 12 true (⟨rfl, h (qup P 155 3 157) (pk_put H (by omega) (by omega) (fun b h1 h2 => by omega) rfl (lne rfl) rfl)⟩)
theorem s51_155_20 {d r6 L : Nat} {Q : qR → Prop} {I : Nat → Nat → Int32} {P : Nat → Nat → Nat} (hd : 20 ≤ d) (H : qMc (qW0 r6) 158 [(155, 4), (64, 8)] I P)
    (h : ∀ P2, qMc (qW0 r6) 159 [(155, 4), (64, 8)] I P2 → qwq d 51 25 [(0, .ref 155)] [.ref 158, .ref 155] (mc 159 95 1958 L I P2) Q) :
    qwq d 51 20 [(0, .ref 155)] [] (mc 158 94 1949 L I P) Q := qY_sound qU_ok (fun p => bif Nat.beq p 25 then some [0, 1, 2, 3, 4] else none) 12 true (⟨⟨rfl, by decide, by decide⟩, mc_to (mc_mk H rfl rfl rfl rfl) (h P (pk_leaf H (fun _ => rfl) rfl))⟩)
theorem s51_155_25 {d r6 L : Nat} {Q : qR → Prop} {I : Nat → Nat → Int32} {P : Nat → Nat → Nat} (hd : 20 ≤ d) (H : qMc (qW0 r6) 159 [(155, 4), (64, 8)] I P)
    (h : ∀ P2, qMc (qW0 r6) 159 [(155, 5), (64, 8)] I P2 → qwq d 51 28 [(0, .ref 155)] [] (mc 159 95 1958 L I P2) Q) :
    qwq d 51 25 [(0, .ref 155)] [.ref 158, .ref 155] (mc 159 95 1958 L I P) Q := qY_sound qU_ok (fun p => bif Nat.beq p 28 then some [0, 1, 2, 3, 4] else none) 12 true (⟨rfl, h (qup P 155 4 158) (pk_put H (by omega) (by omega) (fun b h1 h2 => by omega) rfl (lne rfl) rfl)⟩)
theorem s51_155_28 {d r6 L : Nat} {Q : qR → Prop} {I : Nat → Nat → Int32} {P : Nat → Nat → Nat} (hd : 20 ≤ d) (H : qMc (qW0 r6) 159 [(155, 5), (64, 8)] I P)
    (h : ∀ P2, qMc (qW0 r6) 169 [(155, 5), (64, 8)] I P2 → qwq d 51 37 [(0, .ref 155)] [.ref 159, .ref 155] (mc 169 105 2039 L I P2) Q) :
    qwq d 51 28 [(0, .ref 155)] [] (mc 159 95 1958 L I P) Q := qY_sound qU_ok (fun p => bif Nat.beq p 37 then some [0, 1, 2, 3, 4] else none) 12 true (⟨⟨rfl, by decide, by decide, by decide, by decide⟩, mc_to (mc_mm H rfl (fun i hi => q2c (n := 9) (fun i => qSH L (159 + 1 + i) = (1, 8)) ⟨rfl, rfl, rfl, rfl, rfl, rfl, rfl, rfl, rfl, trivial⟩ i hi) rfl rfl rfl) (h (mmP 159 9 P) (pk_mm H (fun b => q2_if 9 159 b) (fun i hi => q2c (n := 9) (fun i => ∀ b, qPf (qW0 r6) (159 + 1 + i) b = 0) ⟨fun _ => rfl, fun _ => rfl, fun _ => rfl, fun _ => rfl, fun _ => rfl, fun _ => rfl, fun _ => rfl, fun _ => rfl, fun _ => rfl, trivial⟩ i hi) (llt rfl) rfl))⟩)
theorem s51_155_37 {d r6 L : Nat} {Q : qR → Prop} {I : Nat → Nat → Int32} {P : Nat → Nat → Nat} (hd : 20 ≤ d) (H : qMc (qW0 r6) 169 [(155, 5), (64, 8)] I P)
    (h : ∀ P2, qMc (qW0 r6) 169 [(155, 6), (64, 8)] I P2 → qwq d 51 40 [(0, .ref 155)] [] (mc 169 105 2039 L I P2) Q) :
    qwq d 51 37 [(0, .ref 155)] [.ref 159, .ref 155] (mc 169 105 2039 L I P) Q := qY_sound qU_ok (fun p => bif Nat.beq p 40 then some [0, 1, 2, 3, 4] else none) 12 true (⟨rfl, h (qup P 155 5 159) (pk_put H (by omega) (by omega) (fun b h1 h2 => by omega) rfl (lne rfl) rfl)⟩)
theorem s51_155_40 {d r6 L : Nat} {Q : qR → Prop} {I : Nat → Nat → Int32} {P : Nat → Nat → Nat} (hd : 20 ≤ d) (H : qMc (qW0 r6) 169 [(155, 6), (64, 8)] I P)
    (h : ∀ P2, qMc (qW0 r6) 170 [(155, 6), (64, 8)] I P2 → qwq d 51 45 [(0, .ref 155)] [.ref 169, .ref 155] (mc 170 106 2047 L I P2) Q) :
    qwq d 51 40 [(0, .ref 155)] [] (mc 169 105 2039 L I P) Q := qY_sound qU_ok (fun p => bif Nat.beq p 45 then some [0, 1, 2, 3, 4] else none) 12 true (⟨⟨rfl, by decide, by decide⟩, mc_to (mc_mk H rfl rfl rfl rfl) (h P (pk_leaf H (fun _ => rfl) rfl))⟩)
theorem s51_155_45 {d r6 L : Nat} {Q : qR → Prop} {I : Nat → Nat → Int32} {P : Nat → Nat → Nat} (hd : 20 ≤ d) (H : qMc (qW0 r6) 170 [(155, 6), (64, 8)] I P)
    (h : ∀ P2, qMc (qW0 r6) 170 [(155, 7), (64, 8)] I P2 → qwq d 51 48 [(0, .ref 155)] [] (mc 170 106 2047 L I P2) Q) :
    qwq d 51 45 [(0, .ref 155)] [.ref 169, .ref 155] (mc 170 106 2047 L I P) Q := qY_sound qU_ok (fun p => bif Nat.beq p 48 then some [0, 1, 2, 3, 4] else none) 12 true (⟨rfl, h (qup P 155 6 169) (pk_put H (by omega) (by omega) (fun b h1 h2 => by omega) rfl (lne rfl) rfl)⟩)
theorem s51_155_48 {d r6 L : Nat} {Q : qR → Prop} {I : Nat → Nat → Int32} {P : Nat → Nat → Nat} (hd : 20 ≤ d) (H : qMc (qW0 r6) 170 [(155, 7), (64, 8)] I P)
    (h : ∀ P2, qMc (qW0 r6) 171 [(155, 7), (64, 8)] I P2 → qwq d 51 53 [(0, .ref 155)] [.ref 170, .ref 155] (mc 171 107 2055 L I P2) Q) :
    qwq d 51 48 [(0, .ref 155)] [] (mc 170 106 2047 L I P) Q := qY_sound qU_ok (fun p => bif Nat.beq p 53 then some [0, 1, 2, 3, 4] else none) 12 true (⟨⟨rfl, by decide, by decide⟩, mc_to (mc_mk H rfl rfl rfl rfl) (h P (pk_leaf H (fun _ => rfl) rfl))⟩)
theorem s51_155_53 {d r6 L : Nat} {Q : qR → Prop} {I : Nat → Nat → Int32} {P : Nat → Nat → Nat} (hd : 20 ≤ d) (H : qMc (qW0 r6) 171 [(155, 7), (64, 8)] I P)
    (h : ∀ P2, qMc (qW0 r6) 171 [(155, 8), (64, 8)] I P2 → qwq d 51 56 [(0, .ref 155)] [] (mc 171 107 2055 L I P2) Q) :
    qwq d 51 53 [(0, .ref 155)] [.ref 170, .ref 155] (mc 171 107 2055 L I P) Q := qY_sound qU_ok (fun p => bif Nat.beq p 56 then some [0, 1, 2, 3, 4] else none) 12 true (⟨rfl, h (qup P 155 7 170) (pk_put H (by omega) (by omega) (fun b h1 h2 => by omega) rfl (lne rfl) rfl)⟩)
theorem s51_155_56 {d r6 L : Nat} {Q : qR → Prop} {I : Nat → Nat → Int32} {P : Nat → Nat → Nat} (hd : 20 ≤ d) (H : qMc (qW0 r6) 171 [(155, 8), (64, 8)] I P)
    (h : Q (.inl (none, mc 171 107 2055 L I P))) :
    qwq d 51 56 [(0, .ref 155)] [] (mc 171 107 2055 L I P) Q := qY_sound qU_ok (fun _ => none) 12 true (⟨rfl, h⟩)
theorem n51_155 {d r6 L : Nat} {Q : qR → Prop} {I : Nat → Nat → Int32} {P : Nat → Nat → Nat} (hd : 20 ≤ d) (H : qMc (qW0 r6) 156 [(155, 0), (64, 8)] I P)
    (h : ∀ P2, qMc (qW0 r6) 171 [(155, 8), (64, 8)] I P2 → Q (.inl (none, mc 171 107 2055 L I P2))) : qwp d 51 [.ref 155] (mc 156 92 1931 L I P) Q := by
  refine s51_155_0 hd H (fun P H => ?_)
  refine s51_155_9 hd H (fun P H => ?_)
  refine s51_155_12 hd H (fun P H => ?_)
  refine s51_155_17 hd H (fun P H => ?_)
  refine s51_155_20 hd H (fun P H => ?_)
  refine s51_155_25 hd H (fun P H => ?_)
  refine s51_155_28 hd H (fun P H => ?_)
  refine s51_155_37 hd H (fun P H => ?_)
  refine s51_155_40 hd H (fun P H => ?_)
  refine s51_155_45 hd H (fun P H => ?_)
  refine s51_155_48 hd H (fun P H => ?_)
  refine s51_155_53 hd H (fun P H => ?_)
  exact s51_155_56 hd H (h _ H)
theorem s84_64_96 {d r6 L : Nat} {Q : qR → Prop} {I : Nat → Nat → Int32} {P : Nat → Nat → Nat} (hd : 30 ≤ d) (H : qMc (qW0 r6) 156 [(155, 0), (64, 8)] I P)
    (h : ∀ P2, qMc (qW0 r6) 171 [(155, 8), (64, 8)] I P2 → qwq d 84 100 [(0, .ref 64)] [.ref 155, .ref 64] (mc 171 107 2055 L I P2) Q) :
    qwq d 84 96 [(0, .ref 64)] [.ref 155, .ref 64] (mc 156 92 1931 L I P) Q := qY_sound qU_ok (fun p => bif Nat.beq p 100 then some [0, 1, 2, 3, 4] else none) 12 true (⟨by omega, rfl, n51_155 (by omega) H (fun P2 H2 => h P2 H2)⟩)
theorem s84_64_100 {d r6 L : Nat} {Q : qR → Prop} {I : Nat → Nat → Int32} {P : Nat → Nat → Nat} (hd : 30 ≤ d) (H : qMc (qW0 r6) 171 [(155, 8), (64, 8)] I P)
    (h : ∀ P2, qMc (qW0 r6) 171 [(64, 9)] I P2 → qwq d 84 103 [(0, .ref 64)] [] (mc 171 107 2055 L I P2) Q) :
    qwq d 84 100 [(0, .ref 64)] [.ref 155, .ref 64] (mc 171 107 2055 L I P) Q := qY_sound qU_ok (fun p => bif Nat.beq p 103 then some [0, 1, 2, 3, 4] else none) 12 true (⟨rfl, h (qup P 64 8 155) (pk_put (pk_close H (fun b hb => by show (bif Nat.blt b 5 then (bif Nat.blt b 3 then (bif Nat.blt b 2 then 0 else 156) else (bif Nat.blt b 4 then 157 else 158)) else (bif Nat.blt b 7 then (bif Nat.blt b 6 then 159 else 169) else (bif Nat.blt b 8 then 170 else 0))) = 0; repeat (first | rfl | refine bfz (bltF (by omega)) ?_))) (by omega) (by omega) (fun b h1 h2 => by omega) rfl (lne rfl) rfl)⟩)
theorem s84_64_103 {d r6 L : Nat} {Q : qR → Prop} {I : Nat → Nat → Int32} {P : Nat → Nat → Nat} (hd : 30 ≤ d) (H : qMc (qW0 r6) 171 [(64, 9)] I P)
    (h : ∀ P2, qMc (qW0 r6) 172 [(171, 0), (64, 9)] I P2 → qwq d 84 107 [(0, .ref 64)] [.ref 171, .ref 64] (mc 172 108 2063 L I P2) Q) :
    qwq d 84 103 [(0, .ref 64)] [] (mc 171 107 2055 L I P) Q := qY_sound qU_ok (fun p => bif Nat.beq p 107 then some [0, 1, 2, 3, 4] else none) 12 true (⟨rfl, mc_to (mc_mk H rfl rfl rfl rfl) (h P (pk_new H rfl))⟩)
theorem s51_171_0 {d r6 L : Nat} {Q : qR → Prop} {I : Nat → Nat → Int32} {P : Nat → Nat → Nat} (hd : 20 ≤ d) (H : qMc (qW0 r6) 172 [(171, 0), (64, 9)] I P)
    (h : ∀ P2, qMc (qW0 r6) 173 [(171, 0), (64, 9)] I P2 → qwq d 51 9 [(0, .ref 171)] [.ref 172, .ref 171] (mc 173 109 2072 L I P2) Q) :
    qwq d 51 0 [(0, .ref 171)] [] (mc 172 108 2063 L I P) Q := qY_sound qU_ok (fun p => bif Nat.beq p 9 then some [0, 1, 2, 3, 4] else none) 12 true (⟨⟨by omega, rfl⟩, ⟨⟨rfl, by decide, by decide⟩, mc_to (mc_mk H rfl rfl rfl rfl) (h P (pk_leaf H (fun _ => rfl) rfl))⟩⟩)
theorem s51_171_9 {d r6 L : Nat} {Q : qR → Prop} {I : Nat → Nat → Int32} {P : Nat → Nat → Nat} (hd : 20 ≤ d) (H : qMc (qW0 r6) 173 [(171, 0), (64, 9)] I P)
    (h : ∀ P2, qMc (qW0 r6) 173 [(171, 3), (64, 9)] I P2 → qwq d 51 12 [(0, .ref 171)] [] (mc 173 109 2072 L I P2) Q) :
    qwq d 51 9 [(0, .ref 171)] [.ref 172, .ref 171] (mc 173 109 2072 L I P) Q := qY_sound qU_ok (fun p => bif Nat.beq p 12 then some [0, 1, 2, 3, 4] else none) 12 true (⟨rfl, h (qup P 171 2 172) (pk_put H (by omega) (by omega) (fun b h1 h2 => by have hb : b = 0 ∨ b = 1 := (by omega); rcases hb with rfl | rfl <;> rfl) rfl (lne rfl) rfl)⟩)
theorem s51_171_12 {d r6 L : Nat} {Q : qR → Prop} {I : Nat → Nat → Int32} {P : Nat → Nat → Nat} (hd : 20 ≤ d) (H : qMc (qW0 r6) 173 [(171, 3), (64, 9)] I P)
    (h : ∀ P2, qMc (qW0 r6) 174 [(171, 3), (64, 9)] I P2 → qwq d 51 17 [(0, .ref 171)] [.ref 173, .ref 171] (mc 174 110 2081 L I P2) Q) :
    qwq d 51 12 [(0, .ref 171)] [] (mc 173 109 2072 L I P) Q := qY_sound qU_ok (fun p => bif Nat.beq p 17 then some [0, 1, 2, 3, 4] else none) 12 true (⟨⟨rfl, by decide, by decide⟩, mc_to (mc_mk H rfl rfl rfl rfl) (h P (pk_leaf H (fun _ => rfl) rfl))⟩)
theorem s51_171_17 {d r6 L : Nat} {Q : qR → Prop} {I : Nat → Nat → Int32} {P : Nat → Nat → Nat} (hd : 20 ≤ d) (H : qMc (qW0 r6) 174 [(171, 3), (64, 9)] I P)
    (h : ∀ P2, qMc (qW0 r6) 174 [(171, 4), (64, 9)] I P2 → qwq d 51 20 [(0, .ref 171)] [] (mc 174 110 2081 L I P2) Q) :
    qwq d 51 17 [(0, .ref 171)] [.ref 173, .ref 171] (mc 174 110 2081 L I P) Q := qY_sound qU_ok (fun p => bif Nat.beq p 20 then some [0, 1, 2, 3, 4] else none) 12 true (⟨rfl, h (qup P 171 3 173) (pk_put H (by omega) (by omega) (fun b h1 h2 => by omega) rfl (lne rfl) rfl)⟩)
theorem s51_171_20 {d r6 L : Nat} {Q : qR → Prop} {I : Nat → Nat → Int32} {P : Nat → Nat → Nat} (hd : 20 ≤ d) (H : qMc (qW0 r6) 174 [(171, 4), (64, 9)] I P)
    (h : ∀ P2, qMc (qW0 r6) 175 [(171, 4), (64, 9)] I P2 → qwq d 51 25 [(0, .ref 171)] [.ref 174, .ref 171] (mc 175 111 2090 L I P2) Q) :
    qwq d 51 20 [(0, .ref 171)] [] (mc 174 110 2081 L I P) Q := qY_sound qU_ok (fun p => bif Nat.beq p 25 then some [0, 1, 2, 3, 4] else none) 12 true (⟨⟨rfl, by decide, by decide⟩, mc_to (mc_mk H rfl rfl rfl rfl) (h P (pk_leaf H (fun _ => rfl) rfl))⟩)
theorem s51_171_25 {d r6 L : Nat} {Q : qR → Prop} {I : Nat → Nat → Int32} {P : Nat → Nat → Nat} (hd : 20 ≤ d) (H : qMc (qW0 r6) 175 [(171, 4), (64, 9)] I P)
    (h : ∀ P2, qMc (qW0 r6) 175 [(171, 5), (64, 9)] I P2 → qwq d 51 28 [(0, .ref 171)] [] (mc 175 111 2090 L I P2) Q) :
    qwq d 51 25 [(0, .ref 171)] [.ref 174, .ref 171] (mc 175 111 2090 L I P) Q := qY_sound qU_ok (fun p => bif Nat.beq p 28 then some [0, 1, 2, 3, 4] else none) 12 true (⟨rfl, h (qup P 171 4 174) (pk_put H (by omega) (by omega) (fun b h1 h2 => by omega) rfl (lne rfl) rfl)⟩)
theorem s51_171_28 {d r6 L : Nat} {Q : qR → Prop} {I : Nat → Nat → Int32} {P : Nat → Nat → Nat} (hd : 20 ≤ d) (H : qMc (qW0 r6) 175 [(171, 5), (64, 9)] I P)
    (h : ∀ P2, qMc (qW0 r6) 185 [(171, 5), (64, 9)] I P2 → qwq d 51 37 [(0, .ref 171)] [.ref 175, .ref 171] (mc 185 121 2171 L I P2) Q) :
    qwq d 51 28 [(0, .ref 171)] [] (mc 175 111 2090 L I P) Q := qY_sound qU_ok (fun p => bif Nat.beq p 37 then some [0, 1, 2, 3, 4] else none) 12 true (⟨⟨rfl, by decide, by decide, by decide, by decide⟩, mc_to (mc_mm H rfl (fun i hi => q2c (n := 9) (fun i => qSH L (175 + 1 + i) = (1, 8)) ⟨rfl, rfl, rfl, rfl, rfl, rfl, rfl, rfl, rfl, trivial⟩ i hi) rfl rfl rfl) (h (mmP 175 9 P) (pk_mm H (fun b => q2_if 9 175 b) (fun i hi => q2c (n := 9) (fun i => ∀ b, qPf (qW0 r6) (175 + 1 + i) b = 0) ⟨fun _ => rfl, fun _ => rfl, fun _ => rfl, fun _ => rfl, fun _ => rfl, fun _ => rfl, fun _ => rfl, fun _ => rfl, fun _ => rfl, trivial⟩ i hi) (llt rfl) rfl))⟩)
theorem s51_171_37 {d r6 L : Nat} {Q : qR → Prop} {I : Nat → Nat → Int32} {P : Nat → Nat → Nat} (hd : 20 ≤ d) (H : qMc (qW0 r6) 185 [(171, 5), (64, 9)] I P)
    (h : ∀ P2, qMc (qW0 r6) 185 [(171, 6), (64, 9)] I P2 → qwq d 51 40 [(0, .ref 171)] [] (mc 185 121 2171 L I P2) Q) :
    qwq d 51 37 [(0, .ref 171)] [.ref 175, .ref 171] (mc 185 121 2171 L I P) Q := qY_sound qU_ok (fun p => bif Nat.beq p 40 then some [0, 1, 2, 3, 4] else none) 12 true (⟨rfl, h (qup P 171 5 175) (pk_put H (by omega) (by omega) (fun b h1 h2 => by omega) rfl (lne rfl) rfl)⟩)
theorem s51_171_40 {d r6 L : Nat} {Q : qR → Prop} {I : Nat → Nat → Int32} {P : Nat → Nat → Nat} (hd : 20 ≤ d) (H : qMc (qW0 r6) 185 [(171, 6), (64, 9)] I P)
    (h : ∀ P2, qMc (qW0 r6) 186 [(171, 6), (64, 9)] I P2 → qwq d 51 45 [(0, .ref 171)] [.ref 185, .ref 171] (mc 186 122 2179 L I P2) Q) :
    qwq d 51 40 [(0, .ref 171)] [] (mc 185 121 2171 L I P) Q := qY_sound qU_ok (fun p => bif Nat.beq p 45 then some [0, 1, 2, 3, 4] else none) 12 true (⟨⟨rfl, by decide, by decide⟩, mc_to (mc_mk H rfl rfl rfl rfl) (h P (pk_leaf H (fun _ => rfl) rfl))⟩)
theorem s51_171_45 {d r6 L : Nat} {Q : qR → Prop} {I : Nat → Nat → Int32} {P : Nat → Nat → Nat} (hd : 20 ≤ d) (H : qMc (qW0 r6) 186 [(171, 6), (64, 9)] I P)
    (h : ∀ P2, qMc (qW0 r6) 186 [(171, 7), (64, 9)] I P2 → qwq d 51 48 [(0, .ref 171)] [] (mc 186 122 2179 L I P2) Q) :
    qwq d 51 45 [(0, .ref 171)] [.ref 185, .ref 171] (mc 186 122 2179 L I P) Q := qY_sound qU_ok (fun p => bif Nat.beq p 48 then some [0, 1, 2, 3, 4] else none) 12 true (⟨rfl, h (qup P 171 6 185) (pk_put H (by omega) (by omega) (fun b h1 h2 => by omega) rfl (lne rfl) rfl)⟩)
theorem s51_171_48 {d r6 L : Nat} {Q : qR → Prop} {I : Nat → Nat → Int32} {P : Nat → Nat → Nat} (hd : 20 ≤ d) (H : qMc (qW0 r6) 186 [(171, 7), (64, 9)] I P)
    (h : ∀ P2, qMc (qW0 r6) 187 [(171, 7), (64, 9)] I P2 → qwq d 51 53 [(0, .ref 171)] [.ref 186, .ref 171] (mc 187 123 2187 L I P2) Q) :
    qwq d 51 48 [(0, .ref 171)] [] (mc 186 122 2179 L I P) Q := qY_sound qU_ok (fun p => bif Nat.beq p 53 then some [0, 1, 2, 3, 4] else none) 12 true (⟨⟨rfl, by decide, by decide⟩, mc_to (mc_mk H rfl rfl rfl rfl) (h P (pk_leaf H (fun _ => rfl) rfl))⟩)
theorem s51_171_53 {d r6 L : Nat} {Q : qR → Prop} {I : Nat → Nat → Int32} {P : Nat → Nat → Nat} (hd : 20 ≤ d) (H : qMc (qW0 r6) 187 [(171, 7), (64, 9)] I P)
    (h : ∀ P2, qMc (qW0 r6) 187 [(171, 8), (64, 9)] I P2 → qwq d 51 56 [(0, .ref 171)] [] (mc 187 123 2187 L I P2) Q) :
    qwq d 51 53 [(0, .ref 171)] [.ref 186, .ref 171] (mc 187 123 2187 L I P) Q := qY_sound qU_ok (fun p => bif Nat.beq p 56 then some [0, 1, 2, 3, 4] else none) 12 true (⟨rfl, h (qup P 171 7 186) (pk_put H (by omega) (by omega) (fun b h1 h2 => by omega) rfl (lne rfl) rfl)⟩)
theorem s51_171_56 {d r6 L : Nat} {Q : qR → Prop} {I : Nat → Nat → Int32} {P : Nat → Nat → Nat} (hd : 20 ≤ d) (H : qMc (qW0 r6) 187 [(171, 8), (64, 9)] I P)
    (h : Q (.inl (none, mc 187 123 2187 L I P))) :
    qwq d 51 56 [(0, .ref 171)] [] (mc 187 123 2187 L I P) Q := qY_sound qU_ok (fun _ => none) 12 true (⟨rfl, h⟩)
theorem n51_171 {d r6 L : Nat} {Q : qR → Prop} {I : Nat → Nat → Int32} {P : Nat → Nat → Nat} (hd : 20 ≤ d) (H : qMc (qW0 r6) 172 [(171, 0), (64, 9)] I P)
    (h : ∀ P2, qMc (qW0 r6) 187 [(171, 8), (64, 9)] I P2 → Q (.inl (none, mc 187 123 2187 L I P2))) : qwp d 51 [.ref 171] (mc 172 108 2063 L I P) Q := by
  refine s51_171_0 hd H (fun P H => ?_)
  refine s51_171_9 hd H (fun P H => ?_)
  refine s51_171_12 hd H (fun P H => ?_)
  refine s51_171_17 hd H (fun P H => ?_)
  refine s51_171_20 hd H (fun P H => ?_)
  refine s51_171_25 hd H (fun P H => ?_)
  refine s51_171_28 hd H (fun P H => ?_)
  refine s51_171_37 hd H (fun P H => ?_)
  refine s51_171_40 hd H (fun P H => ?_)
  refine s51_171_45 hd H (fun P H => ?_)
  refine s51_171_48 hd H (fun P H => ?_)
  refine s51_171_53 hd H (fun P H => ?_)
  exact s51_171_56 hd H (h _ H)
theorem s84_64_107 {d r6 L : Nat} {Q : qR → Prop} {I : Nat → Nat → Int32} {P : Nat → Nat → Nat} (hd : 30 ≤ d) (H : qMc (qW0 r6) 172 [(171, 0), (64, 9)] I P)
    (h : ∀ P2, qMc (qW0 r6) 187 [(171, 8), (64, 9)] I P2 → qwq d 84 111 [(0, .ref 64)] [.ref 171, .ref 64] (mc 187 123 2187 L I P2) Q) :
    qwq d 84 107 [(0, .ref 64)] [.ref 171, .ref 64] (mc 172 108 2063 L I P) Q := qY_sound qU_ok (fun p => bif Nat.beq p 111 then some [0, 1, 2, 3, 4] else none) 12 true (⟨by omega, rfl, n51_171 (by omega) H (fun P2 H2 => h P2 H2)⟩)
theorem s84_64_111 {d r6 L : Nat} {Q : qR → Prop} {I : Nat → Nat → Int32} {P : Nat → Nat → Nat} (hd : 30 ≤ d) (H : qMc (qW0 r6) 187 [(171, 8), (64, 9)] I P)
    (h : ∀ P2, qMc (qW0 r6) 187 [(64, 11)] I P2 → qwq d 84 114 [(0, .ref 64)] [] (mc 187 123 2187 L I P2) Q) :
    qwq d 84 111 [(0, .ref 64)] [.ref 171, .ref 64] (mc 187 123 2187 L I P) Q := qY_sound qU_ok (fun p => bif Nat.beq p 114 then some [0, 1, 2, 3, 4] else none) 12 true (⟨rfl, h (qup P 64 10 171) (pk_put (pk_close H (fun b hb => by show (bif Nat.blt b 5 then (bif Nat.blt b 3 then (bif Nat.blt b 2 then 0 else 172) else (bif Nat.blt b 4 then 173 else 174)) else (bif Nat.blt b 7 then (bif Nat.blt b 6 then 175 else 185) else (bif Nat.blt b 8 then 186 else 0))) = 0; repeat (first | rfl | refine bfz (bltF (by omega)) ?_))) (by omega) (by omega) (fun b h1 h2 => by have hb : b = 9 := (by omega); subst hb; rfl) rfl (lne rfl) rfl)⟩)
theorem s84_64_114 {d r6 L : Nat} {Q : qR → Prop} {I : Nat → Nat → Int32} {P : Nat → Nat → Nat} (hd : 30 ≤ d) (H : qMc (qW0 r6) 187 [(64, 11)] I P)
    (h : ∀ P2, qMc (qW0 r6) 188 [(187, 0), (64, 11)] I P2 → qwq d 84 119 [(0, .ref 64)] [.ref 187, .ref 64] (mc 188 124 2190 L I P2) Q) :
    qwq d 84 114 [(0, .ref 64)] [] (mc 187 123 2187 L I P) Q := qY_sound qU_ok (fun p => bif Nat.beq p 119 then some [0, 1, 2, 3, 4] else none) 12 true (⟨⟨rfl, by decide, by decide⟩, mc_to (mc_mk H rfl rfl rfl rfl) (h P (pk_new H rfl))⟩)
theorem s84_64_119 {d r6 L : Nat} {Q : qR → Prop} {I : Nat → Nat → Int32} {P : Nat → Nat → Nat} (hd : 30 ≤ d) (H : qMc (qW0 r6) 188 [(187, 0), (64, 11)] I P)
    (h : ∀ P2, qMc (qW0 r6) 189 [(188, 0), (187, 0), (64, 11)] I P2 → qwq d 84 124 [(0, .ref 64)] [.ref 188, .int (qj 0), .ref 187, .ref 187, .ref 64] (mc 189 125 2198 L I P2) Q) :
    qwq d 84 119 [(0, .ref 64)] [.ref 187, .ref 64] (mc 188 124 2190 L I P) Q := qY_sound qU_ok (fun p => bif Nat.beq p 124 then some [0, 1, 2, 3, 4] else none) 12 true (⟨rfl, mc_to (mc_mk H rfl rfl rfl rfl) (h P (pk_new H rfl))⟩)
theorem s51_188_0 {d r6 L : Nat} {Q : qR → Prop} {I : Nat → Nat → Int32} {P : Nat → Nat → Nat} (hd : 20 ≤ d) (H : qMc (qW0 r6) 189 [(188, 0), (187, 0), (64, 11)] I P)
    (h : ∀ P2, qMc (qW0 r6) 190 [(188, 0), (187, 0), (64, 11)] I P2 → qwq d 51 9 [(0, .ref 188)] [.ref 189, .ref 188] (mc 190 126 2207 L I P2) Q) :
    qwq d 51 0 [(0, .ref 188)] [] (mc 189 125 2198 L I P) Q := qY_sound qU_ok (fun p => bif Nat.beq p 9 then some [0, 1, 2, 3, 4] else none) 12 true (⟨⟨by omega, rfl⟩, ⟨⟨rfl, by decide, by decide⟩, mc_to (mc_mk H rfl rfl rfl rfl) (h P (pk_leaf H (fun _ => rfl) rfl))⟩⟩)
theorem s51_188_9 {d r6 L : Nat} {Q : qR → Prop} {I : Nat → Nat → Int32} {P : Nat → Nat → Nat} (hd : 20 ≤ d) (H : qMc (qW0 r6) 190 [(188, 0), (187, 0), (64, 11)] I P)
    (h : ∀ P2, qMc (qW0 r6) 190 [(188, 3), (187, 0), (64, 11)] I P2 → qwq d 51 12 [(0, .ref 188)] [] (mc 190 126 2207 L I P2) Q) :
    qwq d 51 9 [(0, .ref 188)] [.ref 189, .ref 188] (mc 190 126 2207 L I P) Q := qY_sound qU_ok (fun p => bif Nat.beq p 12 then some [0, 1, 2, 3, 4] else none) 12 true (⟨rfl, h (qup P 188 2 189) (pk_put H (by omega) (by omega) (fun b h1 h2 => by have hb : b = 0 ∨ b = 1 := (by omega); rcases hb with rfl | rfl <;> rfl) rfl (lne rfl) rfl)⟩)
theorem s51_188_12 {d r6 L : Nat} {Q : qR → Prop} {I : Nat → Nat → Int32} {P : Nat → Nat → Nat} (hd : 20 ≤ d) (H : qMc (qW0 r6) 190 [(188, 3), (187, 0), (64, 11)] I P)
    (h : ∀ P2, qMc (qW0 r6) 191 [(188, 3), (187, 0), (64, 11)] I P2 → qwq d 51 17 [(0, .ref 188)] [.ref 190, .ref 188] (mc 191 127 2216 L I P2) Q) :
    qwq d 51 12 [(0, .ref 188)] [] (mc 190 126 2207 L I P) Q := qY_sound qU_ok (fun p => bif Nat.beq p 17 then some [0, 1, 2, 3, 4] else none) 12 true (⟨⟨rfl, by decide, by decide⟩, mc_to (mc_mk H rfl rfl rfl rfl) (h P (pk_leaf H (fun _ => rfl) rfl))⟩)
theorem s51_188_17 {d r6 L : Nat} {Q : qR → Prop} {I : Nat → Nat → Int32} {P : Nat → Nat → Nat} (hd : 20 ≤ d) (H : qMc (qW0 r6) 191 [(188, 3), (187, 0), (64, 11)] I P)
    (h : ∀ P2, qMc (qW0 r6) 191 [(188, 4), (187, 0), (64, 11)] I P2 → qwq d 51 20 [(0, .ref 188)] [] (mc 191 127 2216 L I P2) Q) :
    qwq d 51 17 [(0, .ref 188)] [.ref 190, .ref 188] (mc 191 127 2216 L I P) Q := qY_sound qU_ok (fun p => bif Nat.beq p 20 then some [0, 1, 2, 3, 4] else none) 12 true (⟨rfl, h (qup P 188 3 190) (pk_put H (by omega) (by omega) (fun b h1 h2 => by omega) rfl (lne rfl) rfl)⟩)
theorem s51_188_20 {d r6 L : Nat} {Q : qR → Prop} {I : Nat → Nat → Int32} {P : Nat → Nat → Nat} (hd : 20 ≤ d) (H : qMc (qW0 r6) 191 [(188, 4), (187, 0), (64, 11)] I P)
    (h : ∀ P2, qMc (qW0 r6) 192 [(188, 4), (187, 0), (64, 11)] I P2 → qwq d 51 25 [(0, .ref 188)] [.ref 191, .ref 188] (mc 192 128 2225 L I P2) Q) :
    qwq d 51 20 [(0, .ref 188)] [] (mc 191 127 2216 L I P) Q := qY_sound qU_ok (fun p => bif Nat.beq p 25 then some [0, 1, 2, 3, 4] else none) 12 true (⟨⟨rfl, by decide, by decide⟩, mc_to (mc_mk H rfl rfl rfl rfl) (h P (pk_leaf H (fun _ => rfl) rfl))⟩)
theorem s51_188_25 {d r6 L : Nat} {Q : qR → Prop} {I : Nat → Nat → Int32} {P : Nat → Nat → Nat} (hd : 20 ≤ d) (H : qMc (qW0 r6) 192 [(188, 4), (187, 0), (64, 11)] I P)
    (h : ∀ P2, qMc (qW0 r6) 192 [(188, 5), (187, 0), (64, 11)] I P2 → qwq d 51 28 [(0, .ref 188)] [] (mc 192 128 2225 L I P2) Q) :
    qwq d 51 25 [(0, .ref 188)] [.ref 191, .ref 188] (mc 192 128 2225 L I P) Q := qY_sound qU_ok (fun p => bif Nat.beq p 28 then some [0, 1, 2, 3, 4] else none) 12 true (⟨rfl, h (qup P 188 4 191) (pk_put H (by omega) (by omega) (fun b h1 h2 => by omega) rfl (lne rfl) rfl)⟩)
theorem s51_188_28 {d r6 L : Nat} {Q : qR → Prop} {I : Nat → Nat → Int32} {P : Nat → Nat → Nat} (hd : 20 ≤ d) (H : qMc (qW0 r6) 192 [(188, 5), (187, 0), (64, 11)] I P)
    (h : ∀ P2, qMc (qW0 r6) 202 [(188, 5), (187, 0), (64, 11)] I P2 → qwq d 51 37 [(0, .ref 188)] [.ref 192, .ref 188] (mc 202 138 2306 L I P2) Q) :
    qwq d 51 28 [(0, .ref 188)] [] (mc 192 128 2225 L I P) Q := qY_sound qU_ok (fun p => bif Nat.beq p 37 then some [0, 1, 2, 3, 4] else none) 12 true (⟨⟨rfl, by decide, by decide, by decide, by decide⟩, mc_to (mc_mm H rfl (fun i hi => q2c (n := 9) (fun i => qSH L (192 + 1 + i) = (1, 8)) ⟨rfl, rfl, rfl, rfl, rfl, rfl, rfl, rfl, rfl, trivial⟩ i hi) rfl rfl rfl) (h (mmP 192 9 P) (pk_mm H (fun b => q2_if 9 192 b) (fun i hi => q2c (n := 9) (fun i => ∀ b, qPf (qW0 r6) (192 + 1 + i) b = 0) ⟨fun _ => rfl, fun _ => rfl, fun _ => rfl, fun _ => rfl, fun _ => rfl, fun _ => rfl, fun _ => rfl, fun _ => rfl, fun _ => rfl, trivial⟩ i hi) (llt rfl) rfl))⟩)
theorem s51_188_37 {d r6 L : Nat} {Q : qR → Prop} {I : Nat → Nat → Int32} {P : Nat → Nat → Nat} (hd : 20 ≤ d) (H : qMc (qW0 r6) 202 [(188, 5), (187, 0), (64, 11)] I P)
    (h : ∀ P2, qMc (qW0 r6) 202 [(188, 6), (187, 0), (64, 11)] I P2 → qwq d 51 40 [(0, .ref 188)] [] (mc 202 138 2306 L I P2) Q) :
    qwq d 51 37 [(0, .ref 188)] [.ref 192, .ref 188] (mc 202 138 2306 L I P) Q := qY_sound qU_ok (fun p => bif Nat.beq p 40 then some [0, 1, 2, 3, 4] else none) 12 true (⟨rfl, h (qup P 188 5 192) (pk_put H (by omega) (by omega) (fun b h1 h2 => by omega) rfl (lne rfl) rfl)⟩)
theorem s51_188_40 {d r6 L : Nat} {Q : qR → Prop} {I : Nat → Nat → Int32} {P : Nat → Nat → Nat} (hd : 20 ≤ d) (H : qMc (qW0 r6) 202 [(188, 6), (187, 0), (64, 11)] I P)
    (h : ∀ P2, qMc (qW0 r6) 203 [(188, 6), (187, 0), (64, 11)] I P2 → qwq d 51 45 [(0, .ref 188)] [.ref 202, .ref 188] (mc 203 139 2314 L I P2) Q) :
    qwq d 51 40 [(0, .ref 188)] [] (mc 202 138 2306 L I P) Q := qY_sound qU_ok (fun p => bif Nat.beq p 45 then some [0, 1, 2, 3, 4] else none) 12 true (⟨⟨rfl, by decide, by decide⟩, mc_to (mc_mk H rfl rfl rfl rfl) (h P (pk_leaf H (fun _ => rfl) rfl))⟩)
theorem s51_188_45 {d r6 L : Nat} {Q : qR → Prop} {I : Nat → Nat → Int32} {P : Nat → Nat → Nat} (hd : 20 ≤ d) (H : qMc (qW0 r6) 203 [(188, 6), (187, 0), (64, 11)] I P)
    (h : ∀ P2, qMc (qW0 r6) 203 [(188, 7), (187, 0), (64, 11)] I P2 → qwq d 51 48 [(0, .ref 188)] [] (mc 203 139 2314 L I P2) Q) :
    qwq d 51 45 [(0, .ref 188)] [.ref 202, .ref 188] (mc 203 139 2314 L I P) Q := qY_sound qU_ok (fun p => bif Nat.beq p 48 then some [0, 1, 2, 3, 4] else none) 12 true (⟨rfl, h (qup P 188 6 202) (pk_put H (by omega) (by omega) (fun b h1 h2 => by omega) rfl (lne rfl) rfl)⟩)
theorem s51_188_48 {d r6 L : Nat} {Q : qR → Prop} {I : Nat → Nat → Int32} {P : Nat → Nat → Nat} (hd : 20 ≤ d) (H : qMc (qW0 r6) 203 [(188, 7), (187, 0), (64, 11)] I P)
    (h : ∀ P2, qMc (qW0 r6) 204 [(188, 7), (187, 0), (64, 11)] I P2 → qwq d 51 53 [(0, .ref 188)] [.ref 203, .ref 188] (mc 204 140 2322 L I P2) Q) :
    qwq d 51 48 [(0, .ref 188)] [] (mc 203 139 2314 L I P) Q := qY_sound qU_ok (fun p => bif Nat.beq p 53 then some [0, 1, 2, 3, 4] else none) 12 true (⟨⟨rfl, by decide, by decide⟩, mc_to (mc_mk H rfl rfl rfl rfl) (h P (pk_leaf H (fun _ => rfl) rfl))⟩)
theorem s51_188_53 {d r6 L : Nat} {Q : qR → Prop} {I : Nat → Nat → Int32} {P : Nat → Nat → Nat} (hd : 20 ≤ d) (H : qMc (qW0 r6) 204 [(188, 7), (187, 0), (64, 11)] I P)
    (h : ∀ P2, qMc (qW0 r6) 204 [(188, 8), (187, 0), (64, 11)] I P2 → qwq d 51 56 [(0, .ref 188)] [] (mc 204 140 2322 L I P2) Q) :
    qwq d 51 53 [(0, .ref 188)] [.ref 203, .ref 188] (mc 204 140 2322 L I P) Q := qY_sound qU_ok (fun p => bif Nat.beq p 56 then some [0, 1, 2, 3, 4] else none) 12 true (⟨rfl, h (qup P 188 7 203) (pk_put H (by omega) (by omega) (fun b h1 h2 => by omega) rfl (lne rfl) rfl)⟩)
theorem s51_188_56 {d r6 L : Nat} {Q : qR → Prop} {I : Nat → Nat → Int32} {P : Nat → Nat → Nat} (hd : 20 ≤ d) (H : qMc (qW0 r6) 204 [(188, 8), (187, 0), (64, 11)] I P)
    (h : Q (.inl (none, mc 204 140 2322 L I P))) :
    qwq d 51 56 [(0, .ref 188)] [] (mc 204 140 2322 L I P) Q := qY_sound qU_ok (fun _ => none) 12 true (⟨rfl, h⟩)
theorem n51_188 {d r6 L : Nat} {Q : qR → Prop} {I : Nat → Nat → Int32} {P : Nat → Nat → Nat} (hd : 20 ≤ d) (H : qMc (qW0 r6) 189 [(188, 0), (187, 0), (64, 11)] I P)
    (h : ∀ P2, qMc (qW0 r6) 204 [(188, 8), (187, 0), (64, 11)] I P2 → Q (.inl (none, mc 204 140 2322 L I P2))) : qwp d 51 [.ref 188] (mc 189 125 2198 L I P) Q := by
  refine s51_188_0 hd H (fun P H => ?_)
  refine s51_188_9 hd H (fun P H => ?_)
  refine s51_188_12 hd H (fun P H => ?_)
  refine s51_188_17 hd H (fun P H => ?_)
  refine s51_188_20 hd H (fun P H => ?_)
  refine s51_188_25 hd H (fun P H => ?_)
  refine s51_188_28 hd H (fun P H => ?_)
  refine s51_188_37 hd H (fun P H => ?_)
  refine s51_188_40 hd H (fun P H => ?_)
  refine s51_188_45 hd H (fun P H => ?_)
  refine s51_188_48 hd H (fun P H => ?_)
  refine s51_188_53 hd H (fun P H => ?_)
  exact s51_188_56 hd H (h _ H)
theorem s84_64_124 {d r6 L : Nat} {Q : qR → Prop} {I : Nat → Nat → Int32} {P : Nat → Nat → Nat} (hd : 30 ≤ d) (H : qMc (qW0 r6) 189 [(188, 0), (187, 0), (64, 11)] I P)
    (h : ∀ P2, qMc (qW0 r6) 204 [(188, 8), (187, 0), (64, 11)] I P2 → qwq d 84 128 [(0, .ref 64)] [.ref 188, .int (qj 0), .ref 187, .ref 187, .ref 64] (mc 204 140 2322 L I P2) Q) :
    qwq d 84 124 [(0, .ref 64)] [.ref 188, .int (qj 0), .ref 187, .ref 187, .ref 64] (mc 189 125 2198 L I P) Q := qY_sound qU_ok (fun p => bif Nat.beq p 128 then some [0, 1, 2, 3, 4] else none) 12 true (⟨by omega, rfl, n51_188 (by omega) H (fun P2 H2 => h P2 H2)⟩)
theorem s84_64_128 {d r6 L : Nat} {Q : qR → Prop} {I : Nat → Nat → Int32} {P : Nat → Nat → Nat} (hd : 30 ≤ d) (H : qMc (qW0 r6) 204 [(188, 8), (187, 0), (64, 11)] I P)
    (h : ∀ P2, qMc (qW0 r6) 204 [(187, 1), (64, 11)] I P2 → qwq d 84 129 [(0, .ref 64)] [.ref 187, .ref 64] (mc 204 140 2322 L I P2) Q) :
    qwq d 84 128 [(0, .ref 64)] [.ref 188, .int (qj 0), .ref 187, .ref 187, .ref 64] (mc 204 140 2322 L I P) Q := qY_sound qU_ok (fun p => bif Nat.beq p 129 then some [0, 1, 2, 3, 4] else none) 12 true (⟨⟨⟨rfl, by decide, (by show (Int32.ofInt 0).toInt < ((3 : Nat) : Int); decide)⟩, rfl⟩, h (qup P 187 0 188) (pk_put (pk_close H (fun b hb => by show (bif Nat.blt b 5 then (bif Nat.blt b 3 then (bif Nat.blt b 2 then 0 else 189) else (bif Nat.blt b 4 then 190 else 191)) else (bif Nat.blt b 7 then (bif Nat.blt b 6 then 192 else 202) else (bif Nat.blt b 8 then 203 else 0))) = 0; repeat (first | rfl | refine bfz (bltF (by omega)) ?_))) (by omega) (by omega) (fun b h1 h2 => by omega) rfl (lne rfl) rfl)⟩)
theorem s84_64_129 {d r6 L : Nat} {Q : qR → Prop} {I : Nat → Nat → Int32} {P : Nat → Nat → Nat} (hd : 30 ≤ d) (H : qMc (qW0 r6) 204 [(187, 1), (64, 11)] I P)
    (h : ∀ P2, qMc (qW0 r6) 205 [(204, 0), (187, 1), (64, 11)] I P2 → qwq d 84 134 [(0, .ref 64)] [.ref 204, .int (qj 1), .ref 187, .ref 187, .ref 64] (mc 205 141 2330 L I P2) Q) :
    qwq d 84 129 [(0, .ref 64)] [.ref 187, .ref 64] (mc 204 140 2322 L I P) Q := qY_sound qU_ok (fun p => bif Nat.beq p 134 then some [0, 1, 2, 3, 4] else none) 12 true (⟨rfl, mc_to (mc_mk H rfl rfl rfl rfl) (h P (pk_new H rfl))⟩)
theorem s51_204_0 {d r6 L : Nat} {Q : qR → Prop} {I : Nat → Nat → Int32} {P : Nat → Nat → Nat} (hd : 20 ≤ d) (H : qMc (qW0 r6) 205 [(204, 0), (187, 1), (64, 11)] I P)
    (h : ∀ P2, qMc (qW0 r6) 206 [(204, 0), (187, 1), (64, 11)] I P2 → qwq d 51 9 [(0, .ref 204)] [.ref 205, .ref 204] (mc 206 142 2339 L I P2) Q) :
    qwq d 51 0 [(0, .ref 204)] [] (mc 205 141 2330 L I P) Q := qY_sound qU_ok (fun p => bif Nat.beq p 9 then some [0, 1, 2, 3, 4] else none) 12 true (⟨⟨by omega, rfl⟩, ⟨⟨rfl, by decide, by decide⟩, mc_to (mc_mk H rfl rfl rfl rfl) (h P (pk_leaf H (fun _ => rfl) rfl))⟩⟩)
theorem s51_204_9 {d r6 L : Nat} {Q : qR → Prop} {I : Nat → Nat → Int32} {P : Nat → Nat → Nat} (hd : 20 ≤ d) (H : qMc (qW0 r6) 206 [(204, 0), (187, 1), (64, 11)] I P)
    (h : ∀ P2, qMc (qW0 r6) 206 [(204, 3), (187, 1), (64, 11)] I P2 → qwq d 51 12 [(0, .ref 204)] [] (mc 206 142 2339 L I P2) Q) :
    qwq d 51 9 [(0, .ref 204)] [.ref 205, .ref 204] (mc 206 142 2339 L I P) Q := qY_sound qU_ok (fun p => bif Nat.beq p 12 then some [0, 1, 2, 3, 4] else none) 12 true (⟨rfl, h (qup P 204 2 205) (pk_put H (by omega) (by omega) (fun b h1 h2 => by have hb : b = 0 ∨ b = 1 := (by omega); rcases hb with rfl | rfl <;> rfl) rfl (lne rfl) rfl)⟩)
theorem s51_204_12 {d r6 L : Nat} {Q : qR → Prop} {I : Nat → Nat → Int32} {P : Nat → Nat → Nat} (hd : 20 ≤ d) (H : qMc (qW0 r6) 206 [(204, 3), (187, 1), (64, 11)] I P)
    (h : ∀ P2, qMc (qW0 r6) 207 [(204, 3), (187, 1), (64, 11)] I P2 → qwq d 51 17 [(0, .ref 204)] [.ref 206, .ref 204] (mc 207 143 2348 L I P2) Q) :
    qwq d 51 12 [(0, .ref 204)] [] (mc 206 142 2339 L I P) Q := qY_sound qU_ok (fun p => bif Nat.beq p 17 then some [0, 1, 2, 3, 4] else none) 12 true (⟨⟨rfl, by decide, by decide⟩, mc_to (mc_mk H rfl rfl rfl rfl) (h P (pk_leaf H (fun _ => rfl) rfl))⟩)
theorem s51_204_17 {d r6 L : Nat} {Q : qR → Prop} {I : Nat → Nat → Int32} {P : Nat → Nat → Nat} (hd : 20 ≤ d) (H : qMc (qW0 r6) 207 [(204, 3), (187, 1), (64, 11)] I P)
    (h : ∀ P2, qMc (qW0 r6) 207 [(204, 4), (187, 1), (64, 11)] I P2 → qwq d 51 20 [(0, .ref 204)] [] (mc 207 143 2348 L I P2) Q) :
    qwq d 51 17 [(0, .ref 204)] [.ref 206, .ref 204] (mc 207 143 2348 L I P) Q := qY_sound qU_ok (fun p => bif Nat.beq p 20 then some [0, 1, 2, 3, 4] else none) 12 true (⟨rfl, h (qup P 204 3 206) (pk_put H (by omega) (by omega) (fun b h1 h2 => by omega) rfl (lne rfl) rfl)⟩)
theorem s51_204_20 {d r6 L : Nat} {Q : qR → Prop} {I : Nat → Nat → Int32} {P : Nat → Nat → Nat} (hd : 20 ≤ d) (H : qMc (qW0 r6) 207 [(204, 4), (187, 1), (64, 11)] I P)
    (h : ∀ P2, qMc (qW0 r6) 208 [(204, 4), (187, 1), (64, 11)] I P2 → qwq d 51 25 [(0, .ref 204)] [.ref 207, .ref 204] (mc 208 144 2357 L I P2) Q) :
    qwq d 51 20 [(0, .ref 204)] [] (mc 207 143 2348 L I P) Q := qY_sound qU_ok (fun p => bif Nat.beq p 25 then some [0, 1, 2, 3, 4] else none) 12 true (⟨⟨rfl, by decide, by decide⟩, mc_to (mc_mk H rfl rfl rfl rfl) (h P (pk_leaf H (fun _ => rfl) rfl))⟩)
theorem s51_204_25 {d r6 L : Nat} {Q : qR → Prop} {I : Nat → Nat → Int32} {P : Nat → Nat → Nat} (hd : 20 ≤ d) (H : qMc (qW0 r6) 208 [(204, 4), (187, 1), (64, 11)] I P)
    (h : ∀ P2, qMc (qW0 r6) 208 [(204, 5), (187, 1), (64, 11)] I P2 → qwq d 51 28 [(0, .ref 204)] [] (mc 208 144 2357 L I P2) Q) :
    qwq d 51 25 [(0, .ref 204)] [.ref 207, .ref 204] (mc 208 144 2357 L I P) Q := qY_sound qU_ok (fun p => bif Nat.beq p 28 then some [0, 1, 2, 3, 4] else none) 12 true (⟨rfl, h (qup P 204 4 207) (pk_put H (by omega) (by omega) (fun b h1 h2 => by omega) rfl (lne rfl) rfl)⟩)
theorem s51_204_28 {d r6 L : Nat} {Q : qR → Prop} {I : Nat → Nat → Int32} {P : Nat → Nat → Nat} (hd : 20 ≤ d) (H : qMc (qW0 r6) 208 [(204, 5), (187, 1), (64, 11)] I P)
    (h : ∀ P2, qMc (qW0 r6) 218 [(204, 5), (187, 1), (64, 11)] I P2 → qwq d 51 37 [(0, .ref 204)] [.ref 208, .ref 204] (mc 218 154 2438 L I P2) Q) :
    qwq d 51 28 [(0, .ref 204)] [] (mc 208 144 2357 L I P) Q := qY_sound qU_ok (fun p => bif Nat.beq p 37 then some [0, 1, 2, 3, 4] else none) 12 true (⟨⟨rfl, by decide, by decide, by decide, by decide⟩, mc_to (mc_mm H rfl (fun i hi => q2c (n := 9) (fun i => qSH L (208 + 1 + i) = (1, 8)) ⟨rfl, rfl, rfl, rfl, rfl, rfl, rfl, rfl, rfl, trivial⟩ i hi) rfl rfl rfl) (h (mmP 208 9 P) (pk_mm H (fun b => q2_if 9 208 b) (fun i hi => q2c (n := 9) (fun i => ∀ b, qPf (qW0 r6) (208 + 1 + i) b = 0) ⟨fun _ => rfl, fun _ => rfl, fun _ => rfl, fun _ => rfl, fun _ => rfl, fun _ => rfl, fun _ => rfl, fun _ => rfl, fun _ => rfl, trivial⟩ i hi) (llt rfl) rfl))⟩)
theorem s51_204_37 {d r6 L : Nat} {Q : qR → Prop} {I : Nat → Nat → Int32} {P : Nat → Nat → Nat} (hd : 20 ≤ d) (H : qMc (qW0 r6) 218 [(204, 5), (187, 1), (64, 11)] I P)
    (h : ∀ P2, qMc (qW0 r6) 218 [(204, 6), (187, 1), (64, 11)] I P2 → qwq d 51 40 [(0, .ref 204)] [] (mc 218 154 2438 L I P2) Q) :
    qwq d 51 37 [(0, .ref 204)] [.ref 208, .ref 204] (mc 218 154 2438 L I P) Q := qY_sound qU_ok (fun p => bif Nat.beq p 40 then some [0, 1, 2, 3, 4] else none) 12 true (⟨rfl, h (qup P 204 5 208) (pk_put H (by omega) (by omega) (fun b h1 h2 => by omega) rfl (lne rfl) rfl)⟩)
theorem s51_204_40 {d r6 L : Nat} {Q : qR → Prop} {I : Nat → Nat → Int32} {P : Nat → Nat → Nat} (hd : 20 ≤ d) (H : qMc (qW0 r6) 218 [(204, 6), (187, 1), (64, 11)] I P)
    (h : ∀ P2, qMc (qW0 r6) 219 [(204, 6), (187, 1), (64, 11)] I P2 → qwq d 51 45 [(0, .ref 204)] [.ref 218, .ref 204] (mc 219 155 2446 L I P2) Q) :
    qwq d 51 40 [(0, .ref 204)] [] (mc 218 154 2438 L I P) Q := qY_sound qU_ok (fun p => bif Nat.beq p 45 then some [0, 1, 2, 3, 4] else none) 12 true (⟨⟨rfl, by decide, by decide⟩, mc_to (mc_mk H rfl rfl rfl rfl) (h P (pk_leaf H (fun _ => rfl) rfl))⟩)
theorem s51_204_45 {d r6 L : Nat} {Q : qR → Prop} {I : Nat → Nat → Int32} {P : Nat → Nat → Nat} (hd : 20 ≤ d) (H : qMc (qW0 r6) 219 [(204, 6), (187, 1), (64, 11)] I P)
    (h : ∀ P2, qMc (qW0 r6) 219 [(204, 7), (187, 1), (64, 11)] I P2 → qwq d 51 48 [(0, .ref 204)] [] (mc 219 155 2446 L I P2) Q) :
    qwq d 51 45 [(0, .ref 204)] [.ref 218, .ref 204] (mc 219 155 2446 L I P) Q := qY_sound qU_ok (fun p => bif Nat.beq p 48 then some [0, 1, 2, 3, 4] else none) 12 true (⟨rfl, h (qup P 204 6 218) (pk_put H (by omega) (by omega) (fun b h1 h2 => by omega) rfl (lne rfl) rfl)⟩)
theorem s51_204_48 {d r6 L : Nat} {Q : qR → Prop} {I : Nat → Nat → Int32} {P : Nat → Nat → Nat} (hd : 20 ≤ d) (H : qMc (qW0 r6) 219 [(204, 7), (187, 1), (64, 11)] I P)
    (h : ∀ P2, qMc (qW0 r6) 220 [(204, 7), (187, 1), (64, 11)] I P2 → qwq d 51 53 [(0, .ref 204)] [.ref 219, .ref 204] (mc 220 156 2454 L I P2) Q) :
    qwq d 51 48 [(0, .ref 204)] [] (mc 219 155 2446 L I P) Q := qY_sound qU_ok (fun p => bif Nat.beq p 53 then some [0, 1, 2, 3, 4] else none) 12 true (⟨⟨rfl, by decide, by decide⟩, mc_to (mc_mk H rfl rfl rfl rfl) (h P (pk_leaf H (fun _ => rfl) rfl))⟩)
theorem s51_204_53 {d r6 L : Nat} {Q : qR → Prop} {I : Nat → Nat → Int32} {P : Nat → Nat → Nat} (hd : 20 ≤ d) (H : qMc (qW0 r6) 220 [(204, 7), (187, 1), (64, 11)] I P)
    (h : ∀ P2, qMc (qW0 r6) 220 [(204, 8), (187, 1), (64, 11)] I P2 → qwq d 51 56 [(0, .ref 204)] [] (mc 220 156 2454 L I P2) Q) :
    qwq d 51 53 [(0, .ref 204)] [.ref 219, .ref 204] (mc 220 156 2454 L I P) Q := qY_sound qU_ok (fun p => bif Nat.beq p 56 then some [0, 1, 2, 3, 4] else none) 12 true (⟨rfl, h (qup P 204 7 219) (pk_put H (by omega) (by omega) (fun b h1 h2 => by omega) rfl (lne rfl) rfl)⟩)
theorem s51_204_56 {d r6 L : Nat} {Q : qR → Prop} {I : Nat → Nat → Int32} {P : Nat → Nat → Nat} (hd : 20 ≤ d) (H : qMc (qW0 r6) 220 [(204, 8), (187, 1), (64, 11)] I P)
    (h : Q (.inl (none, mc 220 156 2454 L I P))) :
    qwq d 51 56 [(0, .ref 204)] [] (mc 220 156 2454 L I P) Q := qY_sound qU_ok (fun _ => none) 12 true (⟨rfl, h⟩)
theorem n51_204 {d r6 L : Nat} {Q : qR → Prop} {I : Nat → Nat → Int32} {P : Nat → Nat → Nat} (hd : 20 ≤ d) (H : qMc (qW0 r6) 205 [(204, 0), (187, 1), (64, 11)] I P)
    (h : ∀ P2, qMc (qW0 r6) 220 [(204, 8), (187, 1), (64, 11)] I P2 → Q (.inl (none, mc 220 156 2454 L I P2))) : qwp d 51 [.ref 204] (mc 205 141 2330 L I P) Q := by
  refine s51_204_0 hd H (fun P H => ?_)
  refine s51_204_9 hd H (fun P H => ?_)
  refine s51_204_12 hd H (fun P H => ?_)
  refine s51_204_17 hd H (fun P H => ?_)
  refine s51_204_20 hd H (fun P H => ?_)
  refine s51_204_25 hd H (fun P H => ?_)
  refine s51_204_28 hd H (fun P H => ?_)
  refine s51_204_37 hd H (fun P H => ?_)
  refine s51_204_40 hd H (fun P H => ?_)
  refine s51_204_45 hd H (fun P H => ?_)
  refine s51_204_48 hd H (fun P H => ?_)
  refine s51_204_53 hd H (fun P H => ?_)
  exact s51_204_56 hd H (h _ H)
theorem s84_64_134 {d r6 L : Nat} {Q : qR → Prop} {I : Nat → Nat → Int32} {P : Nat → Nat → Nat} (hd : 30 ≤ d) (H : qMc (qW0 r6) 205 [(204, 0), (187, 1), (64, 11)] I P)
    (h : ∀ P2, qMc (qW0 r6) 220 [(204, 8), (187, 1), (64, 11)] I P2 → qwq d 84 138 [(0, .ref 64)] [.ref 204, .int (qj 1), .ref 187, .ref 187, .ref 64] (mc 220 156 2454 L I P2) Q) :
    qwq d 84 134 [(0, .ref 64)] [.ref 204, .int (qj 1), .ref 187, .ref 187, .ref 64] (mc 205 141 2330 L I P) Q := qY_sound qU_ok (fun p => bif Nat.beq p 138 then some [0, 1, 2, 3, 4] else none) 12 true (⟨by omega, rfl, n51_204 (by omega) H (fun P2 H2 => h P2 H2)⟩)
theorem s84_64_138 {d r6 L : Nat} {Q : qR → Prop} {I : Nat → Nat → Int32} {P : Nat → Nat → Nat} (hd : 30 ≤ d) (H : qMc (qW0 r6) 220 [(204, 8), (187, 1), (64, 11)] I P)
    (h : ∀ P2, qMc (qW0 r6) 220 [(187, 2), (64, 11)] I P2 → qwq d 84 139 [(0, .ref 64)] [.ref 187, .ref 64] (mc 220 156 2454 L I P2) Q) :
    qwq d 84 138 [(0, .ref 64)] [.ref 204, .int (qj 1), .ref 187, .ref 187, .ref 64] (mc 220 156 2454 L I P) Q := qY_sound qU_ok (fun p => bif Nat.beq p 139 then some [0, 1, 2, 3, 4] else none) 12 true (⟨⟨⟨rfl, by decide, (by show (Int32.ofInt 1).toInt < ((3 : Nat) : Int); decide)⟩, rfl⟩, h (qup P 187 1 204) (pk_put (pk_close H (fun b hb => by show (bif Nat.blt b 5 then (bif Nat.blt b 3 then (bif Nat.blt b 2 then 0 else 205) else (bif Nat.blt b 4 then 206 else 207)) else (bif Nat.blt b 7 then (bif Nat.blt b 6 then 208 else 218) else (bif Nat.blt b 8 then 219 else 0))) = 0; repeat (first | rfl | refine bfz (bltF (by omega)) ?_))) (by omega) (by omega) (fun b h1 h2 => by omega) rfl (lne rfl) rfl)⟩)
theorem s84_64_139 {d r6 L : Nat} {Q : qR → Prop} {I : Nat → Nat → Int32} {P : Nat → Nat → Nat} (hd : 30 ≤ d) (H : qMc (qW0 r6) 220 [(187, 2), (64, 11)] I P)
    (h : ∀ P2, qMc (qW0 r6) 221 [(220, 0), (187, 2), (64, 11)] I P2 → qwq d 84 144 [(0, .ref 64)] [.ref 220, .int (qj 2), .ref 187, .ref 187, .ref 64] (mc 221 157 2462 L I P2) Q) :
    qwq d 84 139 [(0, .ref 64)] [.ref 187, .ref 64] (mc 220 156 2454 L I P) Q := qY_sound qU_ok (fun p => bif Nat.beq p 144 then some [0, 1, 2, 3, 4] else none) 12 true (⟨rfl, mc_to (mc_mk H rfl rfl rfl rfl) (h P (pk_new H rfl))⟩)
theorem s51_220_0 {d r6 L : Nat} {Q : qR → Prop} {I : Nat → Nat → Int32} {P : Nat → Nat → Nat} (hd : 20 ≤ d) (H : qMc (qW0 r6) 221 [(220, 0), (187, 2), (64, 11)] I P)
    (h : ∀ P2, qMc (qW0 r6) 222 [(220, 0), (187, 2), (64, 11)] I P2 → qwq d 51 9 [(0, .ref 220)] [.ref 221, .ref 220] (mc 222 158 2471 L I P2) Q) :
    qwq d 51 0 [(0, .ref 220)] [] (mc 221 157 2462 L I P) Q := qY_sound qU_ok (fun p => bif Nat.beq p 9 then some [0, 1, 2, 3, 4] else none) 12 true (⟨⟨by omega, rfl⟩, ⟨⟨rfl, by decide, by decide⟩, mc_to (mc_mk H rfl rfl rfl rfl) (h P (pk_leaf H (fun _ => rfl) rfl))⟩⟩)
theorem s51_220_9 {d r6 L : Nat} {Q : qR → Prop} {I : Nat → Nat → Int32} {P : Nat → Nat → Nat} (hd : 20 ≤ d) (H : qMc (qW0 r6) 222 [(220, 0), (187, 2), (64, 11)] I P)
    (h : ∀ P2, qMc (qW0 r6) 222 [(220, 3), (187, 2), (64, 11)] I P2 → qwq d 51 12 [(0, .ref 220)] [] (mc 222 158 2471 L I P2) Q) :
    qwq d 51 9 [(0, .ref 220)] [.ref 221, .ref 220] (mc 222 158 2471 L I P) Q := qY_sound qU_ok (fun p => bif Nat.beq p 12 then some [0, 1, 2, 3, 4] else none) 12 true (⟨rfl, h (qup P 220 2 221) (pk_put H (by omega) (by omega) (fun b h1 h2 => by have hb : b = 0 ∨ b = 1 := (by omega); rcases hb with rfl | rfl <;> rfl) rfl (lne rfl) rfl)⟩)
theorem s51_220_12 {d r6 L : Nat} {Q : qR → Prop} {I : Nat → Nat → Int32} {P : Nat → Nat → Nat} (hd : 20 ≤ d) (H : qMc (qW0 r6) 222 [(220, 3), (187, 2), (64, 11)] I P)
    (h : ∀ P2, qMc (qW0 r6) 223 [(220, 3), (187, 2), (64, 11)] I P2 → qwq d 51 17 [(0, .ref 220)] [.ref 222, .ref 220] (mc 223 159 2480 L I P2) Q) :
    qwq d 51 12 [(0, .ref 220)] [] (mc 222 158 2471 L I P) Q := qY_sound qU_ok (fun p => bif Nat.beq p 17 then some [0, 1, 2, 3, 4] else none) 12 true (⟨⟨rfl, by decide, by decide⟩, mc_to (mc_mk H rfl rfl rfl rfl) (h P (pk_leaf H (fun _ => rfl) rfl))⟩)
theorem s51_220_17 {d r6 L : Nat} {Q : qR → Prop} {I : Nat → Nat → Int32} {P : Nat → Nat → Nat} (hd : 20 ≤ d) (H : qMc (qW0 r6) 223 [(220, 3), (187, 2), (64, 11)] I P)
    (h : ∀ P2, qMc (qW0 r6) 223 [(220, 4), (187, 2), (64, 11)] I P2 → qwq d 51 20 [(0, .ref 220)] [] (mc 223 159 2480 L I P2) Q) :
    qwq d 51 17 [(0, .ref 220)] [.ref 222, .ref 220] (mc 223 159 2480 L I P) Q := qY_sound qU_ok (fun p => bif Nat.beq p 20 then some [0, 1, 2, 3, 4] else none) 12 true (⟨rfl, h (qup P 220 3 222) (pk_put H (by omega) (by omega) (fun b h1 h2 => by omega) rfl (lne rfl) rfl)⟩)
theorem s51_220_20 {d r6 L : Nat} {Q : qR → Prop} {I : Nat → Nat → Int32} {P : Nat → Nat → Nat} (hd : 20 ≤ d) (H : qMc (qW0 r6) 223 [(220, 4), (187, 2), (64, 11)] I P)
    (h : ∀ P2, qMc (qW0 r6) 224 [(220, 4), (187, 2), (64, 11)] I P2 → qwq d 51 25 [(0, .ref 220)] [.ref 223, .ref 220] (mc 224 160 2489 L I P2) Q) :
    qwq d 51 20 [(0, .ref 220)] [] (mc 223 159 2480 L I P) Q := qY_sound qU_ok (fun p => bif Nat.beq p 25 then some [0, 1, 2, 3, 4] else none) 12 true (⟨⟨rfl, by decide, by decide⟩, mc_to (mc_mk H rfl rfl rfl rfl) (h P (pk_leaf H (fun _ => rfl) rfl))⟩)
theorem s51_220_25 {d r6 L : Nat} {Q : qR → Prop} {I : Nat → Nat → Int32} {P : Nat → Nat → Nat} (hd : 20 ≤ d) (H : qMc (qW0 r6) 224 [(220, 4), (187, 2), (64, 11)] I P)
    (h : ∀ P2, qMc (qW0 r6) 224 [(220, 5), (187, 2), (64, 11)] I P2 → qwq d 51 28 [(0, .ref 220)] [] (mc 224 160 2489 L I P2) Q) :
    qwq d 51 25 [(0, .ref 220)] [.ref 223, .ref 220] (mc 224 160 2489 L I P) Q := qY_sound qU_ok (fun p => bif Nat.beq p 28 then some [0, 1, 2, 3, 4] else none) 12 true (⟨rfl, h (qup P 220 4 223) (pk_put H (by omega) (by omega) (fun b h1 h2 => by omega) rfl (lne rfl) rfl)⟩)
theorem s51_220_28 {d r6 L : Nat} {Q : qR → Prop} {I : Nat → Nat → Int32} {P : Nat → Nat → Nat} (hd : 20 ≤ d) (H : qMc (qW0 r6) 224 [(220, 5), (187, 2), (64, 11)] I P)
    (h : ∀ P2, qMc (qW0 r6) 234 [(220, 5), (187, 2), (64, 11)] I P2 → qwq d 51 37 [(0, .ref 220)] [.ref 224, .ref 220] (mc 234 170 2570 L I P2) Q) :
    qwq d 51 28 [(0, .ref 220)] [] (mc 224 160 2489 L I P) Q := qY_sound qU_ok (fun p => bif Nat.beq p 37 then some [0, 1, 2, 3, 4] else none) 12 true (⟨⟨rfl, by decide, by decide, by decide, by decide⟩, mc_to (mc_mm H rfl (fun i hi => q2c (n := 9) (fun i => qSH L (224 + 1 + i) = (1, 8)) ⟨rfl, rfl, rfl, rfl, rfl, rfl, rfl, rfl, rfl, trivial⟩ i hi) rfl rfl rfl) (h (mmP 224 9 P) (pk_mm H (fun b => q2_if 9 224 b) (fun i hi => q2c (n := 9) (fun i => ∀ b, qPf (qW0 r6) (224 + 1 + i) b = 0) ⟨fun _ => rfl, fun _ => rfl, fun _ => rfl, fun _ => rfl, fun _ => rfl, fun _ => rfl, fun _ => rfl, fun _ => rfl, fun _ => rfl, trivial⟩ i hi) (llt rfl) rfl))⟩)
theorem s51_220_37 {d r6 L : Nat} {Q : qR → Prop} {I : Nat → Nat → Int32} {P : Nat → Nat → Nat} (hd : 20 ≤ d) (H : qMc (qW0 r6) 234 [(220, 5), (187, 2), (64, 11)] I P)
    (h : ∀ P2, qMc (qW0 r6) 234 [(220, 6), (187, 2), (64, 11)] I P2 → qwq d 51 40 [(0, .ref 220)] [] (mc 234 170 2570 L I P2) Q) :
    qwq d 51 37 [(0, .ref 220)] [.ref 224, .ref 220] (mc 234 170 2570 L I P) Q := qY_sound qU_ok (fun p => bif Nat.beq p 40 then some [0, 1, 2, 3, 4] else none) 12 true (⟨rfl, h (qup P 220 5 224) (pk_put H (by omega) (by omega) (fun b h1 h2 => by omega) rfl (lne rfl) rfl)⟩)
theorem s51_220_40 {d r6 L : Nat} {Q : qR → Prop} {I : Nat → Nat → Int32} {P : Nat → Nat → Nat} (hd : 20 ≤ d) (H : qMc (qW0 r6) 234 [(220, 6), (187, 2), (64, 11)] I P)
    (h : ∀ P2, qMc (qW0 r6) 235 [(220, 6), (187, 2), (64, 11)] I P2 → qwq d 51 45 [(0, .ref 220)] [.ref 234, .ref 220] (mc 235 171 2578 L I P2) Q) :
    qwq d 51 40 [(0, .ref 220)] [] (mc 234 170 2570 L I P) Q := qY_sound qU_ok (fun p => bif Nat.beq p 45 then some [0, 1, 2, 3, 4] else none) 12 true (⟨⟨rfl, by decide, by decide⟩, mc_to (mc_mk H rfl rfl rfl rfl) (h P (pk_leaf H (fun _ => rfl) rfl))⟩)
theorem s51_220_45 {d r6 L : Nat} {Q : qR → Prop} {I : Nat → Nat → Int32} {P : Nat → Nat → Nat} (hd : 20 ≤ d) (H : qMc (qW0 r6) 235 [(220, 6), (187, 2), (64, 11)] I P)
    (h : ∀ P2, qMc (qW0 r6) 235 [(220, 7), (187, 2), (64, 11)] I P2 → qwq d 51 48 [(0, .ref 220)] [] (mc 235 171 2578 L I P2) Q) :
    qwq d 51 45 [(0, .ref 220)] [.ref 234, .ref 220] (mc 235 171 2578 L I P) Q := qY_sound qU_ok (fun p => bif Nat.beq p 48 then some [0, 1, 2, 3, 4] else none) 12 true (⟨rfl, h (qup P 220 6 234) (pk_put H (by omega) (by omega) (fun b h1 h2 => by omega) rfl (lne rfl) rfl)⟩)
theorem s51_220_48 {d r6 L : Nat} {Q : qR → Prop} {I : Nat → Nat → Int32} {P : Nat → Nat → Nat} (hd : 20 ≤ d) (H : qMc (qW0 r6) 235 [(220, 7), (187, 2), (64, 11)] I P)
    (h : ∀ P2, qMc (qW0 r6) 236 [(220, 7), (187, 2), (64, 11)] I P2 → qwq d 51 53 [(0, .ref 220)] [.ref 235, .ref 220] (mc 236 172 2586 L I P2) Q) :
    qwq d 51 48 [(0, .ref 220)] [] (mc 235 171 2578 L I P) Q := qY_sound qU_ok (fun p => bif Nat.beq p 53 then some [0, 1, 2, 3, 4] else none) 12 true (⟨⟨rfl, by decide, by decide⟩, mc_to (mc_mk H rfl rfl rfl rfl) (h P (pk_leaf H (fun _ => rfl) rfl))⟩)
theorem s51_220_53 {d r6 L : Nat} {Q : qR → Prop} {I : Nat → Nat → Int32} {P : Nat → Nat → Nat} (hd : 20 ≤ d) (H : qMc (qW0 r6) 236 [(220, 7), (187, 2), (64, 11)] I P)
    (h : ∀ P2, qMc (qW0 r6) 236 [(220, 8), (187, 2), (64, 11)] I P2 → qwq d 51 56 [(0, .ref 220)] [] (mc 236 172 2586 L I P2) Q) :
    qwq d 51 53 [(0, .ref 220)] [.ref 235, .ref 220] (mc 236 172 2586 L I P) Q := qY_sound qU_ok (fun p => bif Nat.beq p 56 then some [0, 1, 2, 3, 4] else none) 12 true (⟨rfl, h (qup P 220 7 235) (pk_put H (by omega) (by omega) (fun b h1 h2 => by omega) rfl (lne rfl) rfl)⟩)
theorem s51_220_56 {d r6 L : Nat} {Q : qR → Prop} {I : Nat → Nat → Int32} {P : Nat → Nat → Nat} (hd : 20 ≤ d) (H : qMc (qW0 r6) 236 [(220, 8), (187, 2), (64, 11)] I P)
    (h : Q (.inl (none, mc 236 172 2586 L I P))) :
    qwq d 51 56 [(0, .ref 220)] [] (mc 236 172 2586 L I P) Q := qY_sound qU_ok (fun _ => none) 12 true (⟨rfl, h⟩)
theorem n51_220 {d r6 L : Nat} {Q : qR → Prop} {I : Nat → Nat → Int32} {P : Nat → Nat → Nat} (hd : 20 ≤ d) (H : qMc (qW0 r6) 221 [(220, 0), (187, 2), (64, 11)] I P)
    (h : ∀ P2, qMc (qW0 r6) 236 [(220, 8), (187, 2), (64, 11)] I P2 → Q (.inl (none, mc 236 172 2586 L I P2))) : qwp d 51 [.ref 220] (mc 221 157 2462 L I P) Q := by
  refine s51_220_0 hd H (fun P H => ?_)
  refine s51_220_9 hd H (fun P H => ?_)
  refine s51_220_12 hd H (fun P H => ?_)
  refine s51_220_17 hd H (fun P H => ?_)
  refine s51_220_20 hd H (fun P H => ?_)
  refine s51_220_25 hd H (fun P H => ?_)
  refine s51_220_28 hd H (fun P H => ?_)
  refine s51_220_37 hd H (fun P H => ?_)
  refine s51_220_40 hd H (fun P H => ?_)
  refine s51_220_45 hd H (fun P H => ?_)
  refine s51_220_48 hd H (fun P H => ?_)
  refine s51_220_53 hd H (fun P H => ?_)
  exact s51_220_56 hd H (h _ H)
theorem s84_64_144 {d r6 L : Nat} {Q : qR → Prop} {I : Nat → Nat → Int32} {P : Nat → Nat → Nat} (hd : 30 ≤ d) (H : qMc (qW0 r6) 221 [(220, 0), (187, 2), (64, 11)] I P)
    (h : ∀ P2, qMc (qW0 r6) 236 [(220, 8), (187, 2), (64, 11)] I P2 → qwq d 84 148 [(0, .ref 64)] [.ref 220, .int (qj 2), .ref 187, .ref 187, .ref 64] (mc 236 172 2586 L I P2) Q) :
    qwq d 84 144 [(0, .ref 64)] [.ref 220, .int (qj 2), .ref 187, .ref 187, .ref 64] (mc 221 157 2462 L I P) Q := qY_sound qU_ok (fun p => bif Nat.beq p 148 then some [0, 1, 2, 3, 4] else none) 12 true (⟨by omega, rfl, n51_220 (by omega) H (fun P2 H2 => h P2 H2)⟩)
theorem s84_64_148 {d r6 L : Nat} {Q : qR → Prop} {I : Nat → Nat → Int32} {P : Nat → Nat → Nat} (hd : 30 ≤ d) (H : qMc (qW0 r6) 236 [(220, 8), (187, 2), (64, 11)] I P)
    (h : ∀ P2, qMc (qW0 r6) 236 [(187, 3), (64, 11)] I P2 → qwq d 84 149 [(0, .ref 64)] [.ref 187, .ref 64] (mc 236 172 2586 L I P2) Q) :
    qwq d 84 148 [(0, .ref 64)] [.ref 220, .int (qj 2), .ref 187, .ref 187, .ref 64] (mc 236 172 2586 L I P) Q := qY_sound qU_ok (fun p => bif Nat.beq p 149 then some [0, 1, 2, 3, 4] else none) 12 true (⟨⟨⟨rfl, by decide, (by show (Int32.ofInt 2).toInt < ((3 : Nat) : Int); decide)⟩, rfl⟩, h (qup P 187 2 220) (pk_put (pk_close H (fun b hb => by show (bif Nat.blt b 5 then (bif Nat.blt b 3 then (bif Nat.blt b 2 then 0 else 221) else (bif Nat.blt b 4 then 222 else 223)) else (bif Nat.blt b 7 then (bif Nat.blt b 6 then 224 else 234) else (bif Nat.blt b 8 then 235 else 0))) = 0; repeat (first | rfl | refine bfz (bltF (by omega)) ?_))) (by omega) (by omega) (fun b h1 h2 => by omega) rfl (lne rfl) rfl)⟩)
theorem s84_64_149 {d r6 L : Nat} {Q : qR → Prop} {I : Nat → Nat → Int32} {P : Nat → Nat → Nat} (hd : 30 ≤ d) (H : qMc (qW0 r6) 236 [(187, 3), (64, 11)] I P)
    (h : ∀ P2, qMc (qW0 r6) 236 [(64, 12)] I P2 → qwq d 84 152 [(0, .ref 64)] [] (mc 236 172 2586 L I P2) Q) :
    qwq d 84 149 [(0, .ref 64)] [.ref 187, .ref 64] (mc 236 172 2586 L I P) Q := qY_sound qU_ok (fun p => bif Nat.beq p 152 then some [0, 1, 2, 3, 4] else none) 12 true (⟨rfl, h (qup P 64 11 187) (pk_put (pk_close H (fun b hb => by show (bif Nat.blt b 2 then (bif Nat.blt b 1 then 188 else 204) else (bif Nat.blt b 3 then 220 else 0)) = 0; repeat (first | rfl | refine bfz (bltF (by omega)) ?_))) (by omega) (by omega) (fun b h1 h2 => by omega) rfl (lne rfl) rfl)⟩)
theorem s84_64_152 {d r6 L : Nat} {Q : qR → Prop} {I : Nat → Nat → Int32} {P : Nat → Nat → Nat} (hd : 30 ≤ d) (H : qMc (qW0 r6) 236 [(64, 12)] I P)
    (h : ∀ P2, qMc (qW0 r6) 237 [(236, 0), (64, 12)] I P2 → qwq d 84 156 [(0, .ref 64)] [.ref 236, .ref 64] (mc 237 173 2597 L I P2) Q) :
    qwq d 84 152 [(0, .ref 64)] [] (mc 236 172 2586 L I P) Q := qY_sound qU_ok (fun p => bif Nat.beq p 156 then some [0, 1, 2, 3, 4] else none) 12 true (⟨rfl, mc_to (mc_mk H rfl rfl rfl rfl) (h P (pk_new H rfl))⟩)
theorem s5_236_0 {d r6 L : Nat} {Q : qR → Prop} {I : Nat → Nat → Int32} {P : Nat → Nat → Nat} (hd : 20 ≤ d) (H : qMc (qW0 r6) 237 [(236, 0), (64, 12)] I P)
    (h : ∀ P2, qMc (qW0 r6) 238 [(236, 0), (64, 12)] I P2 → qwq d 5 9 [(0, .ref 236)] [.ref 237, .ref 236] (mc 238 174 2605 L I P2) Q) :
    qwq d 5 0 [(0, .ref 236)] [] (mc 237 173 2597 L I P) Q := qY_sound qU_ok (fun p => bif Nat.beq p 9 then some [0, 1, 2, 3, 4] else none) 12 true (⟨⟨by omega, rfl⟩, ⟨⟨rfl, by decide, by decide⟩, mc_to (mc_mk H rfl rfl rfl rfl) (h P (pk_leaf H (fun _ => rfl) rfl))⟩⟩)
theorem s5_236_9 {d r6 L : Nat} {Q : qR → Prop} {I : Nat → Nat → Int32} {P : Nat → Nat → Nat} (hd : 20 ≤ d) (H : qMc (qW0 r6) 238 [(236, 0), (64, 12)] I P)
    (h : ∀ P2, qMc (qW0 r6) 238 [(236, 4), (64, 12)] I P2 → qwq d 5 12 [(0, .ref 236)] [] (mc 238 174 2605 L I P2) Q) :
    qwq d 5 9 [(0, .ref 236)] [.ref 237, .ref 236] (mc 238 174 2605 L I P) Q := qY_sound qU_ok (fun p => bif Nat.beq p 12 then some [0, 1, 2, 3, 4] else none) 12 true (⟨rfl, h (qup P 236 3 237) (pk_put H (by omega) (by omega) (fun b h1 h2 => by have hb : b = 0 ∨ b = 1 ∨ b = 2 := (by omega); rcases hb with rfl | rfl | rfl <;> rfl) rfl (lne rfl) rfl)⟩)
theorem s5_236_12 {d r6 L : Nat} {Q : qR → Prop} {I : Nat → Nat → Int32} {P : Nat → Nat → Nat} (hd : 20 ≤ d) (H : qMc (qW0 r6) 238 [(236, 4), (64, 12)] I P)
    (h : ∀ P2, qMc (qW0 r6) 239 [(236, 4), (64, 12)] I P2 → qwq d 5 17 [(0, .ref 236)] [.ref 238, .ref 236] (mc 239 175 2613 L I P2) Q) :
    qwq d 5 12 [(0, .ref 236)] [] (mc 238 174 2605 L I P) Q := qY_sound qU_ok (fun p => bif Nat.beq p 17 then some [0, 1, 2, 3, 4] else none) 12 true (⟨⟨rfl, by decide, by decide⟩, mc_to (mc_mk H rfl rfl rfl rfl) (h P (pk_leaf H (fun _ => rfl) rfl))⟩)
theorem s5_236_17 {d r6 L : Nat} {Q : qR → Prop} {I : Nat → Nat → Int32} {P : Nat → Nat → Nat} (hd : 20 ≤ d) (H : qMc (qW0 r6) 239 [(236, 4), (64, 12)] I P)
    (h : ∀ P2, qMc (qW0 r6) 239 [(236, 5), (64, 12)] I P2 → qwq d 5 20 [(0, .ref 236)] [] (mc 239 175 2613 L I P2) Q) :
    qwq d 5 17 [(0, .ref 236)] [.ref 238, .ref 236] (mc 239 175 2613 L I P) Q := qY_sound qU_ok (fun p => bif Nat.beq p 20 then some [0, 1, 2, 3, 4] else none) 12 true (⟨rfl, h (qup P 236 4 238) (pk_put H (by omega) (by omega) (fun b h1 h2 => by omega) rfl (lne rfl) rfl)⟩)
theorem s5_236_20 {d r6 L : Nat} {Q : qR → Prop} {I : Nat → Nat → Int32} {P : Nat → Nat → Nat} (hd : 20 ≤ d) (H : qMc (qW0 r6) 239 [(236, 5), (64, 12)] I P)
    (h : ∀ P2, qMc (qW0 r6) 240 [(236, 5), (64, 12)] I P2 → qwq d 5 25 [(0, .ref 236)] [.ref 239, .ref 236] (mc 240 176 2621 L I P2) Q) :
    qwq d 5 20 [(0, .ref 236)] [] (mc 239 175 2613 L I P) Q := qY_sound qU_ok (fun p => bif Nat.beq p 25 then some [0, 1, 2, 3, 4] else none) 12 true (⟨⟨rfl, by decide, by decide⟩, mc_to (mc_mk H rfl rfl rfl rfl) (h P (pk_leaf H (fun _ => rfl) rfl))⟩)
theorem s5_236_25 {d r6 L : Nat} {Q : qR → Prop} {I : Nat → Nat → Int32} {P : Nat → Nat → Nat} (hd : 20 ≤ d) (H : qMc (qW0 r6) 240 [(236, 5), (64, 12)] I P)
    (h : ∀ P2, qMc (qW0 r6) 240 [(236, 6), (64, 12)] I P2 → qwq d 5 28 [(0, .ref 236)] [] (mc 240 176 2621 L I P2) Q) :
    qwq d 5 25 [(0, .ref 236)] [.ref 239, .ref 236] (mc 240 176 2621 L I P) Q := qY_sound qU_ok (fun p => bif Nat.beq p 28 then some [0, 1, 2, 3, 4] else none) 12 true (⟨rfl, h (qup P 236 5 239) (pk_put H (by omega) (by omega) (fun b h1 h2 => by omega) rfl (lne rfl) rfl)⟩)
theorem s5_236_28 {d r6 L : Nat} {Q : qR → Prop} {I : Nat → Nat → Int32} {P : Nat → Nat → Nat} (hd : 20 ≤ d) (H : qMc (qW0 r6) 240 [(236, 6), (64, 12)] I P)
    (h : ∀ P2, qMc (qW0 r6) 241 [(236, 6), (64, 12)] I P2 → qwq d 5 33 [(0, .ref 236)] [.ref 240, .ref 236] (mc 241 177 2631 L I P2) Q) :
    qwq d 5 28 [(0, .ref 236)] [] (mc 240 176 2621 L I P) Q := qY_sound qU_ok (fun p => bif Nat.beq p 33 then some [0, 1, 2, 3, 4] else none) 12 true (⟨⟨rfl, by decide, by decide⟩, mc_to (mc_mk H rfl rfl rfl rfl) (h P (pk_leaf H (fun _ => rfl) rfl))⟩)
theorem s5_236_33 {d r6 L : Nat} {Q : qR → Prop} {I : Nat → Nat → Int32} {P : Nat → Nat → Nat} (hd : 20 ≤ d) (H : qMc (qW0 r6) 241 [(236, 6), (64, 12)] I P)
    (h : ∀ P2, qMc (qW0 r6) 241 [(236, 7), (64, 12)] I P2 → qwq d 5 36 [(0, .ref 236)] [] (mc 241 177 2631 L I P2) Q) :
    qwq d 5 33 [(0, .ref 236)] [.ref 240, .ref 236] (mc 241 177 2631 L I P) Q := qY_sound qU_ok (fun p => bif Nat.beq p 36 then some [0, 1, 2, 3, 4] else none) 12 true (⟨rfl, h (qup P 236 6 240) (pk_put H (by omega) (by omega) (fun b h1 h2 => by omega) rfl (lne rfl) rfl)⟩)
theorem s5_236_36 {d r6 L : Nat} {Q : qR → Prop} {I : Nat → Nat → Int32} {P : Nat → Nat → Nat} (hd : 20 ≤ d) (H : qMc (qW0 r6) 241 [(236, 7), (64, 12)] I P)
    (h : ∀ P2, qMc (qW0 r6) 242 [(236, 7), (64, 12)] I P2 → qwq d 5 42 [(0, .ref 236)] [.ref 241, .ref 236] (mc 242 178 3143 L I P2) Q) :
    qwq d 5 36 [(0, .ref 236)] [] (mc 241 177 2631 L I P) Q := qY_sound qU_ok (fun p => bif Nat.beq p 42 then some [0, 1, 2, 3, 4] else none) 12 true (⟨⟨rfl, by decide, by decide⟩, mc_to (mc_mk H rfl rfl rfl rfl) (h P (pk_leaf H (fun _ => rfl) rfl))⟩)
theorem s5_236_42 {d r6 L : Nat} {Q : qR → Prop} {I : Nat → Nat → Int32} {P : Nat → Nat → Nat} (hd : 20 ≤ d) (H : qMc (qW0 r6) 242 [(236, 7), (64, 12)] I P)
    (h : ∀ P2, qMc (qW0 r6) 242 [(236, 8), (64, 12)] I P2 → qwq d 5 45 [(0, .ref 236)] [] (mc 242 178 3143 L I P2) Q) :
    qwq d 5 42 [(0, .ref 236)] [.ref 241, .ref 236] (mc 242 178 3143 L I P) Q := qY_sound qU_ok (fun p => bif Nat.beq p 45 then some [0, 1, 2, 3, 4] else none) 12 true (⟨rfl, h (qup P 236 7 241) (pk_put H (by omega) (by omega) (fun b h1 h2 => by omega) rfl (lne rfl) rfl)⟩)
theorem s5_236_45 {d r6 L : Nat} {Q : qR → Prop} {I : Nat → Nat → Int32} {P : Nat → Nat → Nat} (hd : 20 ≤ d) (H : qMc (qW0 r6) 242 [(236, 8), (64, 12)] I P)
    (h : ∀ P2, qMc (qW0 r6) 243 [(236, 8), (64, 12)] I P2 → qwq d 5 51 [(0, .ref 236)] [.ref 242, .ref 236] (mc 243 179 3655 L I P2) Q) :
    qwq d 5 45 [(0, .ref 236)] [] (mc 242 178 3143 L I P) Q := qY_sound qU_ok (fun p => bif Nat.beq p 51 then some [0, 1, 2, 3, 4] else none) 12 true (⟨⟨rfl, by decide, by decide⟩, mc_to (mc_mk H rfl rfl rfl rfl) (h P (pk_leaf H (fun _ => rfl) rfl))⟩)
theorem s5_236_51 {d r6 L : Nat} {Q : qR → Prop} {I : Nat → Nat → Int32} {P : Nat → Nat → Nat} (hd : 20 ≤ d) (H : qMc (qW0 r6) 243 [(236, 8), (64, 12)] I P)
    (h : ∀ P2, qMc (qW0 r6) 243 [(236, 9), (64, 12)] I P2 → qwq d 5 54 [(0, .ref 236)] [] (mc 243 179 3655 L I P2) Q) :
    qwq d 5 51 [(0, .ref 236)] [.ref 242, .ref 236] (mc 243 179 3655 L I P) Q := qY_sound qU_ok (fun p => bif Nat.beq p 54 then some [0, 1, 2, 3, 4] else none) 12 true (⟨rfl, h (qup P 236 8 242) (pk_put H (by omega) (by omega) (fun b h1 h2 => by omega) rfl (lne rfl) rfl)⟩)
theorem s5_236_54 {d r6 L : Nat} {Q : qR → Prop} {I : Nat → Nat → Int32} {P : Nat → Nat → Nat} (hd : 20 ≤ d) (H : qMc (qW0 r6) 243 [(236, 9), (64, 12)] I P)
    (h : Q (.inl (none, mc 243 179 3655 L I P))) :
    qwq d 5 54 [(0, .ref 236)] [] (mc 243 179 3655 L I P) Q := qY_sound qU_ok (fun _ => none) 12 true (⟨rfl, h⟩)
theorem n5_236 {d r6 L : Nat} {Q : qR → Prop} {I : Nat → Nat → Int32} {P : Nat → Nat → Nat} (hd : 20 ≤ d) (H : qMc (qW0 r6) 237 [(236, 0), (64, 12)] I P)
    (h : ∀ P2, qMc (qW0 r6) 243 [(236, 9), (64, 12)] I P2 → Q (.inl (none, mc 243 179 3655 L I P2))) : qwp d 5 [.ref 236] (mc 237 173 2597 L I P) Q := by
  refine s5_236_0 hd H (fun P H => ?_)
  refine s5_236_9 hd H (fun P H => ?_)
  refine s5_236_12 hd H (fun P H => ?_)
  refine s5_236_17 hd H (fun P H => ?_)
  refine s5_236_20 hd H (fun P H => ?_)
  refine s5_236_25 hd H (fun P H => ?_)
  refine s5_236_28 hd H (fun P H => ?_)
  refine s5_236_33 hd H (fun P H => ?_)
  refine s5_236_36 hd H (fun P H => ?_)
  refine s5_236_42 hd H (fun P H => ?_)
  refine s5_236_45 hd H (fun P H => ?_)
  refine s5_236_51 hd H (fun P H => ?_)
  exact s5_236_54 hd H (h _ H)
theorem s84_64_156 {d r6 L : Nat} {Q : qR → Prop} {I : Nat → Nat → Int32} {P : Nat → Nat → Nat} (hd : 30 ≤ d) (H : qMc (qW0 r6) 237 [(236, 0), (64, 12)] I P)
    (h : ∀ P2, qMc (qW0 r6) 243 [(236, 9), (64, 12)] I P2 → qwq d 84 160 [(0, .ref 64)] [.ref 236, .ref 64] (mc 243 179 3655 L I P2) Q) :
    qwq d 84 156 [(0, .ref 64)] [.ref 236, .ref 64] (mc 237 173 2597 L I P) Q := qY_sound qU_ok (fun p => bif Nat.beq p 160 then some [0, 1, 2, 3, 4] else none) 12 true (⟨by omega, rfl, n5_236 (by omega) H (fun P2 H2 => h P2 H2)⟩)
theorem s84_64_160 {d r6 L : Nat} {Q : qR → Prop} {I : Nat → Nat → Int32} {P : Nat → Nat → Nat} (hd : 30 ≤ d) (H : qMc (qW0 r6) 243 [(236, 9), (64, 12)] I P)
    (h : ∀ P2, qMc (qW0 r6) 243 [(64, 14)] I P2 → qwq d 84 163 [(0, .ref 64)] [] (mc 243 179 3655 L I P2) Q) :
    qwq d 84 160 [(0, .ref 64)] [.ref 236, .ref 64] (mc 243 179 3655 L I P) Q := qY_sound qU_ok (fun p => bif Nat.beq p 163 then some [0, 1, 2, 3, 4] else none) 12 true (⟨rfl, h (qup P 64 13 236) (pk_put (pk_close H (fun b hb => by show (bif Nat.blt b 6 then (bif Nat.blt b 4 then (bif Nat.blt b 3 then 0 else 237) else (bif Nat.blt b 5 then 238 else 239)) else (bif Nat.blt b 8 then (bif Nat.blt b 7 then 240 else 241) else (bif Nat.blt b 9 then 242 else 0))) = 0; repeat (first | rfl | refine bfz (bltF (by omega)) ?_))) (by omega) (by omega) (fun b h1 h2 => by have hb : b = 12 := (by omega); subst hb; rfl) rfl (lne rfl) rfl)⟩)
theorem s84_64_163 {d r6 L : Nat} {Q : qR → Prop} {I : Nat → Nat → Int32} {P : Nat → Nat → Nat} (hd : 30 ≤ d) (H : qMc (qW0 r6) 243 [(64, 14)] I P)
    (h : ∀ P2, qMc (qW0 r6) 244 [(64, 14)] I P2 → qwq d 84 168 [(0, .ref 64)] [.ref 243, .ref 64] (mc 244 180 3664 L I P2) Q) :
    qwq d 84 163 [(0, .ref 64)] [] (mc 243 179 3655 L I P) Q := qY_sound qU_ok (fun p => bif Nat.beq p 168 then some [0, 1, 2, 3, 4] else none) 12 true (⟨⟨rfl, by decide, by decide⟩, mc_to (mc_mk H rfl rfl rfl rfl) (h P (pk_leaf H (fun _ => rfl) rfl))⟩)
theorem s84_64_168 {d r6 L : Nat} {Q : qR → Prop} {I : Nat → Nat → Int32} {P : Nat → Nat → Nat} (hd : 30 ≤ d) (H : qMc (qW0 r6) 244 [(64, 14)] I P)
    (h : ∀ P2, qMc (qW0 r6) 244 [(64, 15)] I P2 → qwq d 84 171 [(0, .ref 64)] [] (mc 244 180 3664 L I P2) Q) :
    qwq d 84 168 [(0, .ref 64)] [.ref 243, .ref 64] (mc 244 180 3664 L I P) Q := qY_sound qU_ok (fun p => bif Nat.beq p 171 then some [0, 1, 2, 3, 4] else none) 12 true (⟨rfl, h (qup P 64 14 243) (pk_put H (by omega) (by omega) (fun b h1 h2 => by omega) rfl (lne rfl) rfl)⟩)
theorem s84_64_171 {d r6 L : Nat} {Q : qR → Prop} {I : Nat → Nat → Int32} {P : Nat → Nat → Nat} (hd : 30 ≤ d) (H : qMc (qW0 r6) 244 [(64, 15)] I P)
    (h : ∀ P2, qMc (qW0 r6) 245 [(64, 15)] I P2 → qwq d 84 175 [(0, .ref 64)] [.ref 244, .ref 64] (mc 245 181 3665 L I P2) Q) :
    qwq d 84 171 [(0, .ref 64)] [] (mc 244 180 3664 L I P) Q := qY_sound qU_ok (fun p => bif Nat.beq p 175 then some [0, 1, 2, 3, 4] else none) 12 true (⟨rfl, mc_to (mc_mk H rfl rfl rfl rfl) (h P (pk_leaf H (fun _ => rfl) rfl))⟩)
theorem s48_244_0 {d r6 L : Nat} {Q : qR → Prop} {I : Nat → Nat → Int32} {P : Nat → Nat → Nat} (hd : 20 ≤ d) (H : qMc (qW0 r6) 245 [(64, 15)] I P)
    (h : Q (.inl (none, mc 245 181 3665 L I P))) :
    qwq d 48 0 [(0, .ref 244)] [] (mc 245 181 3665 L I P) Q := qY_sound qU_ok (fun _ => none) 12 true (⟨⟨by omega, rfl⟩, ⟨rfl, h⟩⟩)
theorem n48_244 {d r6 L : Nat} {Q : qR → Prop} {I : Nat → Nat → Int32} {P : Nat → Nat → Nat} (hd : 20 ≤ d) (H : qMc (qW0 r6) 245 [(64, 15)] I P)
    (h : ∀ P2, qMc (qW0 r6) 245 [(64, 15)] I P2 → Q (.inl (none, mc 245 181 3665 L I P2))) : qwp d 48 [.ref 244] (mc 245 181 3665 L I P) Q := by
  exact s48_244_0 hd H (h _ H)
theorem s84_64_175 {d r6 L : Nat} {Q : qR → Prop} {I : Nat → Nat → Int32} {P : Nat → Nat → Nat} (hd : 30 ≤ d) (H : qMc (qW0 r6) 245 [(64, 15)] I P)
    (h : ∀ P2, qMc (qW0 r6) 245 [(64, 15)] I P2 → qwq d 84 179 [(0, .ref 64)] [.ref 244, .ref 64] (mc 245 181 3665 L I P2) Q) :
    qwq d 84 175 [(0, .ref 64)] [.ref 244, .ref 64] (mc 245 181 3665 L I P) Q := qY_sound qU_ok (fun p => bif Nat.beq p 179 then some [0, 1, 2, 3, 4] else none) 12 true (⟨by omega, rfl, n48_244 (by omega) H (fun P2 H2 => h P2 H2)⟩)
theorem s84_64_179 {d r6 L : Nat} {Q : qR → Prop} {I : Nat → Nat → Int32} {P : Nat → Nat → Nat} (hd : 30 ≤ d) (H : qMc (qW0 r6) 245 [(64, 15)] I P)
    (h : ∀ P2, qMc (qW0 r6) 245 [(64, 16)] I P2 → qwq d 84 182 [(0, .ref 64)] [] (mc 245 181 3665 L I P2) Q) :
    qwq d 84 179 [(0, .ref 64)] [.ref 244, .ref 64] (mc 245 181 3665 L I P) Q := qY_sound qU_ok (fun p => bif Nat.beq p 182 then some [0, 1, 2, 3, 4] else none) 12 true (⟨rfl, h (qup P 64 15 244) (pk_put H (by omega) (by omega) (fun b h1 h2 => by omega) rfl (lne rfl) rfl)⟩)
theorem n84_64 {d r6 L : Nat} {Q : qR → Prop} {I : Nat → Nat → Int32} {P : Nat → Nat → Nat} (hd : 40 ≤ d) (H : qMc (qW0 r6) 65 [(64, 0)] I P)
    (h : ∀ P2, qMc (qW0 r6) 245 [] (qup (qup (qup I 65 5 (qj (-1))) 67 16 (qj 1)) 96 16 (qj 1)) P2 → qwq d 84 182 [(0, .ref 64)] [] (mc 245 181 3665 L (qup (qup (qup I 65 5 (qj (-1))) 67 16 (qj 1)) 96 16 (qj 1)) P2) Q) : qwp d 84 [.ref 64] (mc 65 1 18 L I P) Q := by
  refine s84_64_0 (by omega) H (fun P H => ?_)
  refine s84_64_8 (by omega) H (fun P H => ?_)
  refine s84_64_12 (by omega) H (fun P H => ?_)
  refine s84_64_15 (by omega) H (fun P H => ?_)
  refine s84_64_19 (by omega) H (fun P H => ?_)
  refine s84_64_23 (by omega) H (fun P H => ?_)
  refine s84_64_26 (by omega) H (fun P H => ?_)
  refine s84_64_30 (by omega) H (fun P H => ?_)
  refine s84_64_34 (by omega) H (fun P H => ?_)
  refine s84_64_37 (by omega) H (fun P H => ?_)
  refine s84_64_41 (by omega) H (fun P H => ?_)
  refine s84_64_45 (by omega) H (fun P H => ?_)
  refine s84_64_48 (by omega) H (fun P H => ?_)
  refine s84_64_52 (by omega) H (fun P H => ?_)
  refine s84_64_56 (by omega) H (fun P H => ?_)
  refine s84_64_59 (by omega) H (fun P H => ?_)
  refine s84_64_63 (by omega) H (fun P H => ?_)
  refine s84_64_67 (by omega) H (fun P H => ?_)
  refine s84_64_70 (by omega) H (fun P H => ?_)
  refine s84_64_74 (by omega) H (fun P H => ?_)
  refine s84_64_78 (by omega) H (fun P H => ?_)
  refine s84_64_81 (by omega) H (fun P H => ?_)
  refine s84_64_85 (by omega) H (fun P H => ?_)
  refine s84_64_89 (by omega) H (fun P H => ?_)
  refine s84_64_92 (by omega) H (fun P H => ?_)
  refine s84_64_96 (by omega) H (fun P H => ?_)
  refine s84_64_100 (by omega) H (fun P H => ?_)
  refine s84_64_103 (by omega) H (fun P H => ?_)
  refine s84_64_107 (by omega) H (fun P H => ?_)
  refine s84_64_111 (by omega) H (fun P H => ?_)
  refine s84_64_114 (by omega) H (fun P H => ?_)
  refine s84_64_119 (by omega) H (fun P H => ?_)
  refine s84_64_124 (by omega) H (fun P H => ?_)
  refine s84_64_128 (by omega) H (fun P H => ?_)
  refine s84_64_129 (by omega) H (fun P H => ?_)
  refine s84_64_134 (by omega) H (fun P H => ?_)
  refine s84_64_138 (by omega) H (fun P H => ?_)
  refine s84_64_139 (by omega) H (fun P H => ?_)
  refine s84_64_144 (by omega) H (fun P H => ?_)
  refine s84_64_148 (by omega) H (fun P H => ?_)
  refine s84_64_149 (by omega) H (fun P H => ?_)
  refine s84_64_152 (by omega) H (fun P H => ?_)
  refine s84_64_156 (by omega) H (fun P H => ?_)
  refine s84_64_160 (by omega) H (fun P H => ?_)
  refine s84_64_163 (by omega) H (fun P H => ?_)
  refine s84_64_168 (by omega) H (fun P H => ?_)
  refine s84_64_171 (by omega) H (fun P H => ?_)
  refine s84_64_175 (by omega) H (fun P H => ?_)
  refine s84_64_179 (by omega) H (fun P H => ?_)
  exact h _ (pk_close H (fun b hb => by show (bif Nat.blt b 8 then (bif Nat.blt b 4 then (bif Nat.blt b 2 then (bif Nat.blt b 1 then 65 else qW0 r6 1) else (bif Nat.blt b 3 then qW0 r6 2 else qW0 r6 3)) else (bif Nat.blt b 6 then (bif Nat.blt b 5 then qW0 r6 4 else qW0 r6 5) else (bif Nat.blt b 7 then qW0 r6 6 else 139))) else (bif Nat.blt b 12 then (bif Nat.blt b 10 then (bif Nat.blt b 9 then 155 else 0) else (bif Nat.blt b 11 then 171 else 187)) else (bif Nat.blt b 14 then (bif Nat.blt b 13 then 0 else 236) else (bif Nat.blt b 15 then 243 else (bif Nat.blt b 16 then 244 else 0))))) = 0; repeat (first | rfl | refine bfz (bltF (by omega)) ?_)))
theorem s164_245_0 {d r6 L : Nat} {Q : qR → Prop} {I : Nat → Nat → Int32} {P : Nat → Nat → Nat} (hd : 30 ≤ d) (H : qMc (qW0 r6) 246 [(245, 0)] I P)
    (h : ∀ P2, qMc (qW0 r6) 246 [(245, 0)] (qup I 245 3 (qj (-1))) P2 → qwq d 164 9 [(0, .ref 245)] [] (mc 246 182 3721 L (qup I 245 3 (qj (-1))) P2) Q) :
    qwq d 164 0 [(0, .ref 245)] [] (mc 246 182 3721 L I P) Q := qY_sound qU_ok (fun p => bif Nat.beq p 9 then some [0, 1, 2, 3, 4] else none) 12 true (⟨⟨by omega, rfl⟩, ⟨rfl, h P (pk_int H (by omega))⟩⟩)
theorem s164_245_9 {d r6 L : Nat} {Q : qR → Prop} {I : Nat → Nat → Int32} {P : Nat → Nat → Nat} (hd : 30 ≤ d) (H : qMc (qW0 r6) 246 [(245, 0)] I P)
    (h : ∀ P2, qMc (qW0 r6) 247 [(245, 0)] I P2 → qwq d 164 15 [(0, .ref 245)] [.ref 246, .ref 245] (mc 247 183 4321 L I P2) Q) :
    qwq d 164 9 [(0, .ref 245)] [] (mc 246 182 3721 L I P) Q := qY_sound qU_ok (fun p => bif Nat.beq p 15 then some [0, 1, 2, 3, 4] else none) 12 true (⟨⟨rfl, by decide, by decide⟩, mc_to (mc_mk H rfl rfl rfl rfl) (h P (pk_leaf H (fun _ => rfl) rfl))⟩)
theorem s164_245_15 {d r6 L : Nat} {Q : qR → Prop} {I : Nat → Nat → Int32} {P : Nat → Nat → Nat} (hd : 30 ≤ d) (H : qMc (qW0 r6) 247 [(245, 0)] I P)
    (h : ∀ P2, qMc (qW0 r6) 247 [(245, 10)] I P2 → qwq d 164 18 [(0, .ref 245)] [] (mc 247 183 4321 L I P2) Q) :
    qwq d 164 15 [(0, .ref 245)] [.ref 246, .ref 245] (mc 247 183 4321 L I P) Q := qY_sound qU_ok (fun p => bif Nat.beq p 18 then some [0, 1, 2, 3, 4] else none) 12 true (⟨rfl, h (qup P 245 9 246) (pk_put H (by omega) (by omega) (fun b h1 h2 => by have hb : b = 0 ∨ b = 1 ∨ b = 2 ∨ b = 3 ∨ b = 4 ∨ b = 5 ∨ b = 6 ∨ b = 7 ∨ b = 8 := (by omega); rcases hb with rfl | rfl | rfl | rfl | rfl | rfl | rfl | rfl | rfl <;> rfl) rfl (lne rfl) rfl)⟩)
theorem s164_245_18 {d r6 L : Nat} {Q : qR → Prop} {I : Nat → Nat → Int32} {P : Nat → Nat → Nat} (hd : 30 ≤ d) (H : qMc (qW0 r6) 247 [(245, 10)] I P)
    (h : ∀ P2, qMc (qW0 r6) 248 [(245, 10)] I P2 → qwq d 164 22 [(0, .ref 245)] [.ref 247, .ref 245] (mc 248 184 4323 L I P2) Q) :
    qwq d 164 18 [(0, .ref 245)] [] (mc 247 183 4321 L I P) Q := qY_sound qU_ok (fun p => bif Nat.beq p 22 then some [0, 1, 2, 3, 4] else none) 12 true (⟨⟨rfl, by decide, by decide⟩, mc_to (mc_mk H rfl rfl rfl rfl) (h P (pk_leaf H (fun _ => rfl) rfl))⟩)
theorem s164_245_22 {d r6 L : Nat} {Q : qR → Prop} {I : Nat → Nat → Int32} {P : Nat → Nat → Nat} (hd : 30 ≤ d) (H : qMc (qW0 r6) 248 [(245, 10)] I P)
    (h : ∀ P2, qMc (qW0 r6) 248 [(245, 11)] I P2 → qwq d 164 25 [(0, .ref 245)] [] (mc 248 184 4323 L I P2) Q) :
    qwq d 164 22 [(0, .ref 245)] [.ref 247, .ref 245] (mc 248 184 4323 L I P) Q := qY_sound qU_ok (fun p => bif Nat.beq p 25 then some [0, 1, 2, 3, 4] else none) 12 true (⟨rfl, h (qup P 245 10 247) (pk_put H (by omega) (by omega) (fun b h1 h2 => by omega) rfl (lne rfl) rfl)⟩)
theorem s164_245_25 {d r6 L : Nat} {Q : qR → Prop} {I : Nat → Nat → Int32} {P : Nat → Nat → Nat} (hd : 30 ≤ d) (H : qMc (qW0 r6) 248 [(245, 11)] I P)
    (h : ∀ P2, qMc (qW0 r6) 249 [(245, 11)] I P2 → qwq d 164 29 [(0, .ref 245)] [.ref 248, .ref 245] (mc 249 185 4327 L I P2) Q) :
    qwq d 164 25 [(0, .ref 245)] [] (mc 248 184 4323 L I P) Q := qY_sound qU_ok (fun p => bif Nat.beq p 29 then some [0, 1, 2, 3, 4] else none) 12 true (⟨⟨rfl, by decide, by decide⟩, mc_to (mc_mk H rfl rfl rfl rfl) (h P (pk_leaf H (fun _ => rfl) rfl))⟩)
theorem s164_245_29 {d r6 L : Nat} {Q : qR → Prop} {I : Nat → Nat → Int32} {P : Nat → Nat → Nat} (hd : 30 ≤ d) (H : qMc (qW0 r6) 249 [(245, 11)] I P)
    (h : ∀ P2, qMc (qW0 r6) 249 [(245, 12)] I P2 → qwq d 164 32 [(0, .ref 245)] [] (mc 249 185 4327 L I P2) Q) :
    qwq d 164 29 [(0, .ref 245)] [.ref 248, .ref 245] (mc 249 185 4327 L I P) Q := qY_sound qU_ok (fun p => bif Nat.beq p 32 then some [0, 1, 2, 3, 4] else none) 12 true (⟨rfl, h (qup P 245 11 248) (pk_put H (by omega) (by omega) (fun b h1 h2 => by omega) rfl (lne rfl) rfl)⟩)
theorem s164_245_32 {d r6 L : Nat} {Q : qR → Prop} {I : Nat → Nat → Int32} {P : Nat → Nat → Nat} (hd : 30 ≤ d) (H : qMc (qW0 r6) 249 [(245, 12)] I P)
    (h : ∀ P2, qMc (qW0 r6) 250 [(245, 12)] I P2 → qwq d 164 36 [(0, .ref 245)] [.ref 249, .ref 245] (mc 250 186 4331 L I P2) Q) :
    qwq d 164 32 [(0, .ref 245)] [] (mc 249 185 4327 L I P) Q := qY_sound qU_ok (fun p => bif Nat.beq p 36 then some [0, 1, 2, 3, 4] else none) 12 true (⟨⟨rfl, by decide, by decide⟩, mc_to (mc_mk H rfl rfl rfl rfl) (h P (pk_leaf H (fun _ => rfl) rfl))⟩)
theorem s164_245_36 {d r6 L : Nat} {Q : qR → Prop} {I : Nat → Nat → Int32} {P : Nat → Nat → Nat} (hd : 30 ≤ d) (H : qMc (qW0 r6) 250 [(245, 12)] I P)
    (h : ∀ P2, qMc (qW0 r6) 250 [(245, 13)] I P2 → qwq d 164 39 [(0, .ref 245)] [] (mc 250 186 4331 L I P2) Q) :
    qwq d 164 36 [(0, .ref 245)] [.ref 249, .ref 245] (mc 250 186 4331 L I P) Q := qY_sound qU_ok (fun p => bif Nat.beq p 39 then some [0, 1, 2, 3, 4] else none) 12 true (⟨rfl, h (qup P 245 12 249) (pk_put H (by omega) (by omega) (fun b h1 h2 => by omega) rfl (lne rfl) rfl)⟩)
theorem s164_245_39 {d r6 L : Nat} {Q : qR → Prop} {I : Nat → Nat → Int32} {P : Nat → Nat → Nat} (hd : 30 ≤ d) (H : qMc (qW0 r6) 250 [(245, 13)] I P)
    (h : ∀ P2, qMc (qW0 r6) 251 [(245, 13)] I P2 → qwq d 164 44 [(0, .ref 245)] [.ref 250, .ref 245] (mc 251 187 4339 L I P2) Q) :
    qwq d 164 39 [(0, .ref 245)] [] (mc 250 186 4331 L I P) Q := qY_sound qU_ok (fun p => bif Nat.beq p 44 then some [0, 1, 2, 3, 4] else none) 12 true (⟨⟨rfl, by decide, by decide⟩, mc_to (mc_mk H rfl rfl rfl rfl) (h P (pk_leaf H (fun _ => rfl) rfl))⟩)
theorem s164_245_44 {d r6 L : Nat} {Q : qR → Prop} {I : Nat → Nat → Int32} {P : Nat → Nat → Nat} (hd : 30 ≤ d) (H : qMc (qW0 r6) 251 [(245, 13)] I P)
    (h : ∀ P2, qMc (qW0 r6) 251 [(245, 14)] I P2 → qwq d 164 47 [(0, .ref 245)] [] (mc 251 187 4339 L I P2) Q) :
    qwq d 164 44 [(0, .ref 245)] [.ref 250, .ref 245] (mc 251 187 4339 L I P) Q := qY_sound qU_ok (fun p => bif Nat.beq p 47 then some [0, 1, 2, 3, 4] else none) 12 true (⟨rfl, h (qup P 245 13 250) (pk_put H (by omega) (by omega) (fun b h1 h2 => by omega) rfl (lne rfl) rfl)⟩)
theorem s164_245_47 {d r6 L : Nat} {Q : qR → Prop} {I : Nat → Nat → Int32} {P : Nat → Nat → Nat} (hd : 30 ≤ d) (H : qMc (qW0 r6) 251 [(245, 14)] I P)
    (h : ∀ P2, qMc (qW0 r6) 252 [(245, 14)] I P2 → qwq d 164 52 [(0, .ref 245)] [.ref 251, .ref 245] (mc 252 188 4347 L I P2) Q) :
    qwq d 164 47 [(0, .ref 245)] [] (mc 251 187 4339 L I P) Q := qY_sound qU_ok (fun p => bif Nat.beq p 52 then some [0, 1, 2, 3, 4] else none) 12 true (⟨⟨rfl, by decide, by decide⟩, mc_to (mc_mk H rfl rfl rfl rfl) (h P (pk_leaf H (fun _ => rfl) rfl))⟩)
theorem s164_245_52 {d r6 L : Nat} {Q : qR → Prop} {I : Nat → Nat → Int32} {P : Nat → Nat → Nat} (hd : 30 ≤ d) (H : qMc (qW0 r6) 252 [(245, 14)] I P)
    (h : ∀ P2, qMc (qW0 r6) 252 [(245, 15)] I P2 → qwq d 164 55 [(0, .ref 245)] [] (mc 252 188 4347 L I P2) Q) :
    qwq d 164 52 [(0, .ref 245)] [.ref 251, .ref 245] (mc 252 188 4347 L I P) Q := qY_sound qU_ok (fun p => bif Nat.beq p 55 then some [0, 1, 2, 3, 4] else none) 12 true (⟨rfl, h (qup P 245 14 251) (pk_put H (by omega) (by omega) (fun b h1 h2 => by omega) rfl (lne rfl) rfl)⟩)
theorem s164_245_55 {d r6 L : Nat} {Q : qR → Prop} {I : Nat → Nat → Int32} {P : Nat → Nat → Nat} (hd : 30 ≤ d) (H : qMc (qW0 r6) 252 [(245, 15)] I P)
    (h : ∀ P2, qMc (qW0 r6) 253 [(245, 15)] I P2 → qwq d 164 60 [(0, .ref 245)] [.ref 252, .ref 245] (mc 253 189 4355 L I P2) Q) :
    qwq d 164 55 [(0, .ref 245)] [] (mc 252 188 4347 L I P) Q := qY_sound qU_ok (fun p => bif Nat.beq p 60 then some [0, 1, 2, 3, 4] else none) 12 true (⟨⟨rfl, by decide, by decide⟩, mc_to (mc_mk H rfl rfl rfl rfl) (h P (pk_leaf H (fun _ => rfl) rfl))⟩)
theorem s164_245_60 {d r6 L : Nat} {Q : qR → Prop} {I : Nat → Nat → Int32} {P : Nat → Nat → Nat} (hd : 30 ≤ d) (H : qMc (qW0 r6) 253 [(245, 15)] I P)
    (h : ∀ P2, qMc (qW0 r6) 253 [(245, 16)] I P2 → qwq d 164 63 [(0, .ref 245)] [] (mc 253 189 4355 L I P2) Q) :
    qwq d 164 60 [(0, .ref 245)] [.ref 252, .ref 245] (mc 253 189 4355 L I P) Q := qY_sound qU_ok (fun p => bif Nat.beq p 63 then some [0, 1, 2, 3, 4] else none) 12 true (⟨rfl, h (qup P 245 15 252) (pk_put H (by omega) (by omega) (fun b h1 h2 => by omega) rfl (lne rfl) rfl)⟩)
theorem s164_245_63 {d r6 L : Nat} {Q : qR → Prop} {I : Nat → Nat → Int32} {P : Nat → Nat → Nat} (hd : 30 ≤ d) (H : qMc (qW0 r6) 253 [(245, 16)] I P)
    (h : ∀ P2, qMc (qW0 r6) 254 [(245, 16)] I P2 → qwq d 164 68 [(0, .ref 245)] [.ref 253, .ref 245] (mc 254 190 4363 L I P2) Q) :
    qwq d 164 63 [(0, .ref 245)] [] (mc 253 189 4355 L I P) Q := qY_sound qU_ok (fun p => bif Nat.beq p 68 then some [0, 1, 2, 3, 4] else none) 12 true (⟨⟨rfl, by decide, by decide⟩, mc_to (mc_mk H rfl rfl rfl rfl) (h P (pk_leaf H (fun _ => rfl) rfl))⟩)
theorem s164_245_68 {d r6 L : Nat} {Q : qR → Prop} {I : Nat → Nat → Int32} {P : Nat → Nat → Nat} (hd : 30 ≤ d) (H : qMc (qW0 r6) 254 [(245, 16)] I P)
    (h : ∀ P2, qMc (qW0 r6) 254 [(245, 17)] I P2 → qwq d 164 71 [(0, .ref 245)] [] (mc 254 190 4363 L I P2) Q) :
    qwq d 164 68 [(0, .ref 245)] [.ref 253, .ref 245] (mc 254 190 4363 L I P) Q := qY_sound qU_ok (fun p => bif Nat.beq p 71 then some [0, 1, 2, 3, 4] else none) 12 true (⟨rfl, h (qup P 245 16 253) (pk_put H (by omega) (by omega) (fun b h1 h2 => by omega) rfl (lne rfl) rfl)⟩)
theorem s164_245_71 {d r6 L : Nat} {Q : qR → Prop} {I : Nat → Nat → Int32} {P : Nat → Nat → Nat} (hd : 30 ≤ d) (H : qMc (qW0 r6) 254 [(245, 17)] I P)
    (h : ∀ P2, qMc (qW0 r6) 255 [(245, 17)] I P2 → qwq d 164 76 [(0, .ref 245)] [.ref 254, .ref 245] (mc 255 191 4372 L I P2) Q) :
    qwq d 164 71 [(0, .ref 245)] [] (mc 254 190 4363 L I P) Q := qY_sound qU_ok (fun p => bif Nat.beq p 76 then some [0, 1, 2, 3, 4] else none) 12 true (⟨⟨rfl, by decide, by decide⟩, mc_to (mc_mk H rfl rfl rfl rfl) (h P (pk_leaf H (fun _ => rfl) rfl))⟩)
theorem s164_245_76 {d r6 L : Nat} {Q : qR → Prop} {I : Nat → Nat → Int32} {P : Nat → Nat → Nat} (hd : 30 ≤ d) (H : qMc (qW0 r6) 255 [(245, 17)] I P)
    (h : ∀ P2, qMc (qW0 r6) 255 [(245, 18)] I P2 → qwq d 164 79 [(0, .ref 245)] [] (mc 255 191 4372 L I P2) Q) :
    qwq d 164 76 [(0, .ref 245)] [.ref 254, .ref 245] (mc 255 191 4372 L I P) Q := qY_sound qU_ok (fun p => bif Nat.beq p 79 then some [0, 1, 2, 3, 4] else none) 12 true (⟨rfl, h (qup P 245 17 254) (pk_put H (by omega) (by omega) (fun b h1 h2 => by omega) rfl (lne rfl) rfl)⟩)
theorem s164_245_79 {d r6 L : Nat} {Q : qR → Prop} {I : Nat → Nat → Int32} {P : Nat → Nat → Nat} (hd : 30 ≤ d) (H : qMc (qW0 r6) 255 [(245, 18)] I P)
    (h : ∀ P2, qMc (qW0 r6) 256 [(245, 18)] I P2 → qwq d 164 84 [(0, .ref 245)] [.ref 255, .ref 245] (mc 256 192 4381 L I P2) Q) :
    qwq d 164 79 [(0, .ref 245)] [] (mc 255 191 4372 L I P) Q := qY_sound qU_ok (fun p => bif Nat.beq p 84 then some [0, 1, 2, 3, 4] else none) 12 true (⟨⟨rfl, by decide, by decide⟩, mc_to (mc_mk H rfl rfl rfl rfl) (h P (pk_leaf H (fun _ => rfl) rfl))⟩)
theorem s164_245_84 {d r6 L : Nat} {Q : qR → Prop} {I : Nat → Nat → Int32} {P : Nat → Nat → Nat} (hd : 30 ≤ d) (H : qMc (qW0 r6) 256 [(245, 18)] I P)
    (h : ∀ P2, qMc (qW0 r6) 256 [(245, 19)] I P2 → qwq d 164 87 [(0, .ref 245)] [] (mc 256 192 4381 L I P2) Q) :
    qwq d 164 84 [(0, .ref 245)] [.ref 255, .ref 245] (mc 256 192 4381 L I P) Q := qY_sound qU_ok (fun p => bif Nat.beq p 87 then some [0, 1, 2, 3, 4] else none) 12 true (⟨rfl, h (qup P 245 18 255) (pk_put H (by omega) (by omega) (fun b h1 h2 => by omega) rfl (lne rfl) rfl)⟩)
theorem s164_245_87 {d r6 L : Nat} {Q : qR → Prop} {I : Nat → Nat → Int32} {P : Nat → Nat → Nat} (hd : 30 ≤ d) (H : qMc (qW0 r6) 256 [(245, 19)] I P)
    (h : ∀ P2, qMc (qW0 r6) 266 [(245, 19)] I P2 → qwq d 164 95 [(0, .ref 245)] [.ref 256, .ref 245] (mc 266 202 4417 L I P2) Q) :
    qwq d 164 87 [(0, .ref 245)] [] (mc 256 192 4381 L I P) Q := qY_sound qU_ok (fun p => bif Nat.beq p 95 then some [0, 1, 2, 3, 4] else none) 12 true (⟨⟨rfl, by decide, by decide, by decide, by decide⟩, mc_to (mc_mm H rfl (fun i hi => q2c (n := 9) (fun i => qSH L (256 + 1 + i) = (1, 3)) ⟨rfl, rfl, rfl, rfl, rfl, rfl, rfl, rfl, rfl, trivial⟩ i hi) rfl rfl rfl) (h (mmP 256 9 P) (pk_mm H (fun b => q2_if 9 256 b) (fun i hi => q2c (n := 9) (fun i => ∀ b, qPf (qW0 r6) (256 + 1 + i) b = 0) ⟨fun _ => rfl, fun _ => rfl, fun _ => rfl, fun _ => rfl, fun _ => rfl, fun _ => rfl, fun _ => rfl, fun _ => rfl, fun _ => rfl, trivial⟩ i hi) (llt rfl) rfl))⟩)
theorem s164_245_95 {d r6 L : Nat} {Q : qR → Prop} {I : Nat → Nat → Int32} {P : Nat → Nat → Nat} (hd : 30 ≤ d) (H : qMc (qW0 r6) 266 [(245, 19)] I P)
    (h : ∀ P2, qMc (qW0 r6) 266 [(245, 20)] I P2 → qwq d 164 98 [(0, .ref 245)] [] (mc 266 202 4417 L I P2) Q) :
    qwq d 164 95 [(0, .ref 245)] [.ref 256, .ref 245] (mc 266 202 4417 L I P) Q := qY_sound qU_ok (fun p => bif Nat.beq p 98 then some [0, 1, 2, 3, 4] else none) 12 true (⟨rfl, h (qup P 245 19 256) (pk_put H (by omega) (by omega) (fun b h1 h2 => by omega) rfl (lne rfl) rfl)⟩)
theorem s164_245_98 {d r6 L : Nat} {Q : qR → Prop} {I : Nat → Nat → Int32} {P : Nat → Nat → Nat} (hd : 30 ≤ d) (H : qMc (qW0 r6) 266 [(245, 20)] I P)
    (h : ∀ P2, qMc (qW0 r6) 276 [(245, 20)] I P2 → qwq d 164 106 [(0, .ref 245)] [.ref 266, .ref 245] (mc 276 212 4453 L I P2) Q) :
    qwq d 164 98 [(0, .ref 245)] [] (mc 266 202 4417 L I P) Q := qY_sound qU_ok (fun p => bif Nat.beq p 106 then some [0, 1, 2, 3, 4] else none) 12 true (⟨⟨rfl, by decide, by decide, by decide, by decide⟩, mc_to (mc_mm H rfl (fun i hi => q2c (n := 9) (fun i => qSH L (266 + 1 + i) = (1, 3)) ⟨rfl, rfl, rfl, rfl, rfl, rfl, rfl, rfl, rfl, trivial⟩ i hi) rfl rfl rfl) (h (mmP 266 9 P) (pk_mm H (fun b => q2_if 9 266 b) (fun i hi => q2c (n := 9) (fun i => ∀ b, qPf (qW0 r6) (266 + 1 + i) b = 0) ⟨fun _ => rfl, fun _ => rfl, fun _ => rfl, fun _ => rfl, fun _ => rfl, fun _ => rfl, fun _ => rfl, fun _ => rfl, fun _ => rfl, trivial⟩ i hi) (llt rfl) rfl))⟩)
theorem s164_245_106 {d r6 L : Nat} {Q : qR → Prop} {I : Nat → Nat → Int32} {P : Nat → Nat → Nat} (hd : 30 ≤ d) (H : qMc (qW0 r6) 276 [(245, 20)] I P)
    (h : ∀ P2, qMc (qW0 r6) 276 [(245, 21)] I P2 → qwq d 164 109 [(0, .ref 245)] [] (mc 276 212 4453 L I P2) Q) :
    qwq d 164 106 [(0, .ref 245)] [.ref 266, .ref 245] (mc 276 212 4453 L I P) Q := qY_sound qU_ok (fun p => bif Nat.beq p 109 then some [0, 1, 2, 3, 4] else none) 12 true (⟨rfl, h (qup P 245 20 266) (pk_put H (by omega) (by omega) (fun b h1 h2 => by omega) rfl (lne rfl) rfl)⟩)
theorem s164_245_109 {d r6 L : Nat} {Q : qR → Prop} {I : Nat → Nat → Int32} {P : Nat → Nat → Nat} (hd : 30 ≤ d) (H : qMc (qW0 r6) 276 [(245, 21)] I P)
    (h : ∀ P2, qMc (qW0 r6) 285 [(245, 21)] I P2 → qwq d 164 117 [(0, .ref 245)] [.ref 276, .ref 245] (mc 285 221 4485 L I P2) Q) :
    qwq d 164 109 [(0, .ref 245)] [] (mc 276 212 4453 L I P) Q := qY_sound qU_ok (fun p => bif Nat.beq p 117 then some [0, 1, 2, 3, 4] else none) 12 true (⟨⟨rfl, by decide, by decide, by decide, by decide⟩, mc_to (mc_mm H rfl (fun i hi => q2c (n := 8) (fun i => qSH L (276 + 1 + i) = (1, 3)) ⟨rfl, rfl, rfl, rfl, rfl, rfl, rfl, rfl, trivial⟩ i hi) rfl rfl rfl) (h (mmP 276 8 P) (pk_mm H (fun b => q2_if 8 276 b) (fun i hi => q2c (n := 8) (fun i => ∀ b, qPf (qW0 r6) (276 + 1 + i) b = 0) ⟨fun _ => rfl, fun _ => rfl, fun _ => rfl, fun _ => rfl, fun _ => rfl, fun _ => rfl, fun _ => rfl, fun _ => rfl, trivial⟩ i hi) (llt rfl) rfl))⟩)
theorem s164_245_117 {d r6 L : Nat} {Q : qR → Prop} {I : Nat → Nat → Int32} {P : Nat → Nat → Nat} (hd : 30 ≤ d) (H : qMc (qW0 r6) 285 [(245, 21)] I P)
    (h : ∀ P2, qMc (qW0 r6) 285 [(245, 22)] I P2 → qwq d 164 120 [(0, .ref 245)] [] (mc 285 221 4485 L I P2) Q) :
    qwq d 164 117 [(0, .ref 245)] [.ref 276, .ref 245] (mc 285 221 4485 L I P) Q := qY_sound qU_ok (fun p => bif Nat.beq p 120 then some [0, 1, 2, 3, 4] else none) 12 true (⟨rfl, h (qup P 245 21 276) (pk_put H (by omega) (by omega) (fun b h1 h2 => by omega) rfl (lne rfl) rfl)⟩)
theorem s164_245_120 {d r6 L : Nat} {Q : qR → Prop} {I : Nat → Nat → Int32} {P : Nat → Nat → Nat} (hd : 30 ≤ d) (H : qMc (qW0 r6) 285 [(245, 22)] I P)
    (h : ∀ P2, qMc (qW0 r6) 294 [(245, 22)] I P2 → qwq d 164 128 [(0, .ref 245)] [.ref 285, .ref 245] (mc 294 230 4517 L I P2) Q) :
    qwq d 164 120 [(0, .ref 245)] [] (mc 285 221 4485 L I P) Q := qY_sound qU_ok (fun p => bif Nat.beq p 128 then some [0, 1, 2, 3, 4] else none) 12 true (⟨⟨rfl, by decide, by decide, by decide, by decide⟩, mc_to (mc_mm H rfl (fun i hi => q2c (n := 8) (fun i => qSH L (285 + 1 + i) = (1, 3)) ⟨rfl, rfl, rfl, rfl, rfl, rfl, rfl, rfl, trivial⟩ i hi) rfl rfl rfl) (h (mmP 285 8 P) (pk_mm H (fun b => q2_if 8 285 b) (fun i hi => q2c (n := 8) (fun i => ∀ b, qPf (qW0 r6) (285 + 1 + i) b = 0) ⟨fun _ => rfl, fun _ => rfl, fun _ => rfl, fun _ => rfl, fun _ => rfl, fun _ => rfl, fun _ => rfl, fun _ => rfl, trivial⟩ i hi) (llt rfl) rfl))⟩)
theorem s164_245_128 {d r6 L : Nat} {Q : qR → Prop} {I : Nat → Nat → Int32} {P : Nat → Nat → Nat} (hd : 30 ≤ d) (H : qMc (qW0 r6) 294 [(245, 22)] I P)
    (h : ∀ P2, qMc (qW0 r6) 294 [(245, 23)] I P2 → qwq d 164 131 [(0, .ref 245)] [] (mc 294 230 4517 L I P2) Q) :
    qwq d 164 128 [(0, .ref 245)] [.ref 285, .ref 245] (mc 294 230 4517 L I P) Q := qY_sound qU_ok (fun p => bif Nat.beq p 131 then some [0, 1, 2, 3, 4] else none) 12 true (⟨rfl, h (qup P 245 22 285) (pk_put H (by omega) (by omega) (fun b h1 h2 => by omega) rfl (lne rfl) rfl)⟩)
theorem s164_245_131 {d r6 L : Nat} {Q : qR → Prop} {I : Nat → Nat → Int32} {P : Nat → Nat → Nat} (hd : 30 ≤ d) (H : qMc (qW0 r6) 294 [(245, 23)] I P)
    (h : ∀ P2, qMc (qW0 r6) 301 [(245, 23)] I P2 → qwq d 164 140 [(0, .ref 245)] [.ref 294, .ref 245] (mc 301 237 4571 L I P2) Q) :
    qwq d 164 131 [(0, .ref 245)] [] (mc 294 230 4517 L I P) Q := qY_sound qU_ok (fun p => bif Nat.beq p 140 then some [0, 1, 2, 3, 4] else none) 12 true (⟨⟨rfl, by decide, by decide, by decide, by decide⟩, mc_to (mc_mm H rfl (fun i hi => q2c (n := 6) (fun i => qSH L (294 + 1 + i) = (1, 8)) ⟨rfl, rfl, rfl, rfl, rfl, rfl, trivial⟩ i hi) rfl rfl rfl) (h (mmP 294 6 P) (pk_mm H (fun b => q2_if 6 294 b) (fun i hi => q2c (n := 6) (fun i => ∀ b, qPf (qW0 r6) (294 + 1 + i) b = 0) ⟨fun _ => rfl, fun _ => rfl, fun _ => rfl, fun _ => rfl, fun _ => rfl, fun _ => rfl, trivial⟩ i hi) (llt rfl) rfl))⟩)
theorem s164_245_140 {d r6 L : Nat} {Q : qR → Prop} {I : Nat → Nat → Int32} {P : Nat → Nat → Nat} (hd : 30 ≤ d) (H : qMc (qW0 r6) 301 [(245, 23)] I P)
    (h : ∀ P2, qMc (qW0 r6) 301 [(245, 24)] I P2 → qwq d 164 143 [(0, .ref 245)] [] (mc 301 237 4571 L I P2) Q) :
    qwq d 164 140 [(0, .ref 245)] [.ref 294, .ref 245] (mc 301 237 4571 L I P) Q := qY_sound qU_ok (fun p => bif Nat.beq p 143 then some [0, 1, 2, 3, 4] else none) 12 true (⟨rfl, h (qup P 245 23 294) (pk_put H (by omega) (by omega) (fun b h1 h2 => by omega) rfl (lne rfl) rfl)⟩)
theorem s164_245_143 {d r6 L : Nat} {Q : qR → Prop} {I : Nat → Nat → Int32} {P : Nat → Nat → Nat} (hd : 30 ≤ d) (H : qMc (qW0 r6) 301 [(245, 24)] I P)
    (h : ∀ P2, qMc (qW0 r6) 308 [(245, 24)] I P2 → qwq d 164 152 [(0, .ref 245)] [.ref 301, .ref 245] (mc 308 244 4625 L I P2) Q) :
    qwq d 164 143 [(0, .ref 245)] [] (mc 301 237 4571 L I P) Q := qY_sound qU_ok (fun p => bif Nat.beq p 152 then some [0, 1, 2, 3, 4] else none) 12 true (⟨⟨rfl, by decide, by decide, by decide, by decide⟩, mc_to (mc_mm H rfl (fun i hi => q2c (n := 6) (fun i => qSH L (301 + 1 + i) = (1, 8)) ⟨rfl, rfl, rfl, rfl, rfl, rfl, trivial⟩ i hi) rfl rfl rfl) (h (mmP 301 6 P) (pk_mm H (fun b => q2_if 6 301 b) (fun i hi => q2c (n := 6) (fun i => ∀ b, qPf (qW0 r6) (301 + 1 + i) b = 0) ⟨fun _ => rfl, fun _ => rfl, fun _ => rfl, fun _ => rfl, fun _ => rfl, fun _ => rfl, trivial⟩ i hi) (llt rfl) rfl))⟩)
theorem s164_245_152 {d r6 L : Nat} {Q : qR → Prop} {I : Nat → Nat → Int32} {P : Nat → Nat → Nat} (hd : 30 ≤ d) (H : qMc (qW0 r6) 308 [(245, 24)] I P)
    (h : ∀ P2, qMc (qW0 r6) 308 [(245, 25)] I P2 → qwq d 164 155 [(0, .ref 245)] [] (mc 308 244 4625 L I P2) Q) :
    qwq d 164 152 [(0, .ref 245)] [.ref 301, .ref 245] (mc 308 244 4625 L I P) Q := qY_sound qU_ok (fun p => bif Nat.beq p 155 then some [0, 1, 2, 3, 4] else none) 12 true (⟨rfl, h (qup P 245 24 301) (pk_put H (by omega) (by omega) (fun b h1 h2 => by omega) rfl (lne rfl) rfl)⟩)
theorem s164_245_155 {d r6 L : Nat} {Q : qR → Prop} {I : Nat → Nat → Int32} {P : Nat → Nat → Nat} (hd : 30 ≤ d) (H : qMc (qW0 r6) 308 [(245, 25)] I P)
    (h : ∀ P2, qMc (qW0 r6) 318 [(245, 25)] I P2 → qwq d 164 164 [(0, .ref 245)] [.ref 308, .ref 245] (mc 318 254 4715 L I P2) Q) :
    qwq d 164 155 [(0, .ref 245)] [] (mc 308 244 4625 L I P) Q := qY_sound qU_ok (fun p => bif Nat.beq p 164 then some [0, 1, 2, 3, 4] else none) 12 true (⟨⟨rfl, by decide, by decide, by decide, by decide⟩, mc_to (mc_mm H rfl (fun i hi => q2c (n := 9) (fun i => qSH L (308 + 1 + i) = (1, 9)) ⟨rfl, rfl, rfl, rfl, rfl, rfl, rfl, rfl, rfl, trivial⟩ i hi) rfl rfl rfl) (h (mmP 308 9 P) (pk_mm H (fun b => q2_if 9 308 b) (fun i hi => q2c (n := 9) (fun i => ∀ b, qPf (qW0 r6) (308 + 1 + i) b = 0) ⟨fun _ => rfl, fun _ => rfl, fun _ => rfl, fun _ => rfl, fun _ => rfl, fun _ => rfl, fun _ => rfl, fun _ => rfl, fun _ => rfl, trivial⟩ i hi) (llt rfl) rfl))⟩)
theorem s164_245_164 {d r6 L : Nat} {Q : qR → Prop} {I : Nat → Nat → Int32} {P : Nat → Nat → Nat} (hd : 30 ≤ d) (H : qMc (qW0 r6) 318 [(245, 25)] I P)
    (h : ∀ P2, qMc (qW0 r6) 318 [(245, 26)] I P2 → qwq d 164 167 [(0, .ref 245)] [] (mc 318 254 4715 L I P2) Q) :
    qwq d 164 164 [(0, .ref 245)] [.ref 308, .ref 245] (mc 318 254 4715 L I P) Q := qY_sound qU_ok (fun p => bif Nat.beq p 167 then some [0, 1, 2, 3, 4] else none) 12 true (⟨rfl, h (qup P 245 25 308) (pk_put H (by omega) (by omega) (fun b h1 h2 => by omega) rfl (lne rfl) rfl)⟩)
theorem s164_245_167 {d r6 L : Nat} {Q : qR → Prop} {I : Nat → Nat → Int32} {P : Nat → Nat → Nat} (hd : 30 ≤ d) (H : qMc (qW0 r6) 318 [(245, 26)] I P)
    (h : ∀ P2, qMc (qW0 r6) 328 [(245, 26)] I P2 → qwq d 164 176 [(0, .ref 245)] [.ref 318, .ref 245] (mc 328 264 4805 L I P2) Q) :
    qwq d 164 167 [(0, .ref 245)] [] (mc 318 254 4715 L I P) Q := qY_sound qU_ok (fun p => bif Nat.beq p 176 then some [0, 1, 2, 3, 4] else none) 12 true (⟨⟨rfl, by decide, by decide, by decide, by decide⟩, mc_to (mc_mm H rfl (fun i hi => q2c (n := 9) (fun i => qSH L (318 + 1 + i) = (1, 9)) ⟨rfl, rfl, rfl, rfl, rfl, rfl, rfl, rfl, rfl, trivial⟩ i hi) rfl rfl rfl) (h (mmP 318 9 P) (pk_mm H (fun b => q2_if 9 318 b) (fun i hi => q2c (n := 9) (fun i => ∀ b, qPf (qW0 r6) (318 + 1 + i) b = 0) ⟨fun _ => rfl, fun _ => rfl, fun _ => rfl, fun _ => rfl, fun _ => rfl, fun _ => rfl, fun _ => rfl, fun _ => rfl, fun _ => rfl, trivial⟩ i hi) (llt rfl) rfl))⟩)
theorem s164_245_176 {d r6 L : Nat} {Q : qR → Prop} {I : Nat → Nat → Int32} {P : Nat → Nat → Nat} (hd : 30 ≤ d) (H : qMc (qW0 r6) 328 [(245, 26)] I P)
    (h : ∀ P2, qMc (qW0 r6) 328 [(245, 27)] I P2 → qwq d 164 179 [(0, .ref 245)] [] (mc 328 264 4805 L I P2) Q) :
    qwq d 164 176 [(0, .ref 245)] [.ref 318, .ref 245] (mc 328 264 4805 L I P) Q := qY_sound qU_ok (fun p => bif Nat.beq p 179 then some [0, 1, 2, 3, 4] else none) 12 true (⟨rfl, h (qup P 245 26 318) (pk_put H (by omega) (by omega) (fun b h1 h2 => by omega) rfl (lne rfl) rfl)⟩)
theorem s164_245_179 {d r6 L : Nat} {Q : qR → Prop} {I : Nat → Nat → Int32} {P : Nat → Nat → Nat} (hd : 30 ≤ d) (H : qMc (qW0 r6) 328 [(245, 27)] I P)
    (h : ∀ P2, qMc (qW0 r6) 489 [(245, 27)] I P2 → qwq d 164 188 [(0, .ref 245)] [.ref 328, .ref 245] (mc 489 425 5285 L I P2) Q) :
    qwq d 164 179 [(0, .ref 245)] [] (mc 328 264 4805 L I P) Q := qY_sound qU_ok (fun p => bif Nat.beq p 188 then some [0, 1, 2, 3, 4] else none) 12 true (⟨⟨rfl, by decide, by decide, by decide, by decide⟩, mc_to (mc_mm H rfl (fun i hi => q2c (n := 160) (fun i => qSH L (328 + 1 + i) = (1, 2)) ⟨rfl, rfl, rfl, rfl, rfl, rfl, rfl, rfl, rfl, rfl, rfl, rfl, rfl, rfl, rfl, rfl, rfl, rfl, rfl, rfl, rfl, rfl, rfl, rfl, rfl, rfl, rfl, rfl, rfl, rfl, rfl, rfl, rfl, rfl, rfl, rfl, rfl, rfl, rfl, rfl, rfl, rfl, rfl, rfl, rfl, rfl, rfl, rfl, rfl, rfl, rfl, rfl, rfl, rfl, rfl, rfl, rfl, rfl, rfl, rfl, rfl, rfl, rfl, rfl, rfl, rfl, rfl, rfl, rfl, rfl, rfl, rfl, rfl, rfl, rfl, rfl, rfl, rfl, rfl, rfl, rfl, rfl, rfl, rfl, rfl, rfl, rfl, rfl, rfl, rfl, rfl, rfl, rfl, rfl, rfl, rfl, rfl, rfl, rfl, rfl, rfl, rfl, rfl, rfl, rfl, rfl, rfl, rfl, rfl, rfl, rfl, rfl, rfl, rfl, rfl, rfl, rfl, rfl, rfl, rfl, rfl, rfl, rfl, rfl, rfl, rfl, rfl, rfl, rfl, rfl, rfl, rfl, rfl, rfl, rfl, rfl, rfl, rfl, rfl, rfl, rfl, rfl, rfl, rfl, rfl, rfl, rfl, rfl, rfl, rfl, rfl, rfl, rfl, rfl, rfl, rfl, rfl, rfl, rfl, rfl, trivial⟩ i hi) rfl rfl rfl) (h (mmP 328 160 P) (pk_mm H (fun b => q2_if 160 328 b) (fun i hi => q2c (n := 160) (fun i => ∀ b, qPf (qW0 r6) (328 + 1 + i) b = 0) ⟨fun _ => rfl, fun _ => rfl, fun _ => rfl, fun _ => rfl, fun _ => rfl, fun _ => rfl, fun _ => rfl, fun _ => rfl, fun _ => rfl, fun _ => rfl, fun _ => rfl, fun _ => rfl, fun _ => rfl, fun _ => rfl, fun _ => rfl, fun _ => rfl, fun _ => rfl, fun _ => rfl, fun _ => rfl, fun _ => rfl, fun _ => rfl, fun _ => rfl, fun _ => rfl, fun _ => rfl, fun _ => rfl, fun _ => rfl, fun _ => rfl, fun _ => rfl, fun _ => rfl, fun _ => rfl, fun _ => rfl, fun _ => rfl, fun _ => rfl, fun _ => rfl, fun _ => rfl, fun _ => rfl, fun _ => rfl, fun _ => rfl, fun _ => rfl, fun _ => rfl, fun _ => rfl, fun _ => rfl, fun _ => rfl, fun _ => rfl, fun _ => rfl, fun _ => rfl, fun _ => rfl, fun _ => rfl, fun _ => rfl, fun _ => rfl, fun _ => rfl, fun _ => rfl, fun _ => rfl, fun _ => rfl, fun _ => rfl, fun _ => rfl, fun _ => rfl, fun _ => rfl, fun _ => rfl, fun _ => rfl, fun _ => rfl, fun _ => rfl, fun _ => rfl, fun _ => rfl, fun _ => rfl, fun _ => rfl, fun _ => rfl, fun _ => rfl, fun _ => rfl, fun _ => rfl, fun _ => rfl, fun _ => rfl, fun _ => rfl, fun _ => rfl, fun _ => rfl, fun _ => rfl, fun _ => rfl, fun _ => rfl, fun _ => rfl, fun _ => rfl, fun _ => rfl, fun _ => rfl, fun _ => rfl, fun _ => rfl, fun _ => rfl, fun _ => rfl, fun _ => rfl, fun _ => rfl, fun _ => rfl, fun _ => rfl, fun _ => rfl, fun _ => rfl, fun _ => rfl, fun _ => rfl, fun _ => rfl, fun _ => rfl, fun _ => rfl, fun _ => rfl, fun _ => rfl, fun _ => rfl, fun _ => rfl, fun _ => rfl, fun _ => rfl, fun _ => rfl, fun _ => rfl, fun _ => rfl, fun _ => rfl, fun _ => rfl, fun _ => rfl, fun _ => rfl, fun _ => rfl, fun _ => rfl, fun _ => rfl, fun _ => rfl, fun _ => rfl, fun _ => rfl, fun _ => rfl, fun _ => rfl, fun _ => rfl, fun _ => rfl, fun _ => rfl, fun _ => rfl, fun _ => rfl, fun _ => rfl, fun _ => rfl, fun _ => rfl, fun _ => rfl, fun _ => rfl, fun _ => rfl, fun _ => rfl, fun _ => rfl, fun _ => rfl, fun _ => rfl, fun _ => rfl, fun _ => rfl, fun _ => rfl, fun _ => rfl, fun _ => rfl, fun _ => rfl, fun _ => rfl, fun _ => rfl, fun _ => rfl, fun _ => rfl, fun _ => rfl, fun _ => rfl, fun _ => rfl, fun _ => rfl, fun _ => rfl, fun _ => rfl, fun _ => rfl, fun _ => rfl, fun _ => rfl, fun _ => rfl, fun _ => rfl, fun _ => rfl, fun _ => rfl, fun _ => rfl, fun _ => rfl, fun _ => rfl, fun _ => rfl, trivial⟩ i hi) (llt rfl) rfl))⟩)
theorem s164_245_188 {d r6 L : Nat} {Q : qR → Prop} {I : Nat → Nat → Int32} {P : Nat → Nat → Nat} (hd : 30 ≤ d) (H : qMc (qW0 r6) 489 [(245, 27)] I P)
    (h : ∀ P2, qMc (qW0 r6) 489 [(245, 30)] I P2 → qwq d 164 191 [(0, .ref 245)] [] (mc 489 425 5285 L I P2) Q) :
    qwq d 164 188 [(0, .ref 245)] [.ref 328, .ref 245] (mc 489 425 5285 L I P) Q := qY_sound qU_ok (fun p => bif Nat.beq p 191 then some [0, 1, 2, 3, 4] else none) 12 true (⟨rfl, h (qup P 245 29 328) (pk_put H (by omega) (by omega) (fun b h1 h2 => by have hb : b = 27 ∨ b = 28 := (by omega); rcases hb with rfl | rfl <;> rfl) rfl (lne rfl) rfl)⟩)
theorem s164_245_191 {d r6 L : Nat} {Q : qR → Prop} {I : Nat → Nat → Int32} {P : Nat → Nat → Nat} (hd : 30 ≤ d) (H : qMc (qW0 r6) 489 [(245, 30)] I P)
    (h : ∀ P2, qMc (qW0 r6) 650 [(245, 30)] I P2 → qwq d 164 200 [(0, .ref 245)] [.ref 489, .ref 245] (mc 650 586 5765 L I P2) Q) :
    qwq d 164 191 [(0, .ref 245)] [] (mc 489 425 5285 L I P) Q := qY_sound qU_ok (fun p => bif Nat.beq p 200 then some [0, 1, 2, 3, 4] else none) 12 true (⟨⟨rfl, by decide, by decide, by decide, by decide⟩, mc_to (mc_mm H rfl (fun i hi => q2c (n := 160) (fun i => qSH L (489 + 1 + i) = (1, 2)) ⟨rfl, rfl, rfl, rfl, rfl, rfl, rfl, rfl, rfl, rfl, rfl, rfl, rfl, rfl, rfl, rfl, rfl, rfl, rfl, rfl, rfl, rfl, rfl, rfl, rfl, rfl, rfl, rfl, rfl, rfl, rfl, rfl, rfl, rfl, rfl, rfl, rfl, rfl, rfl, rfl, rfl, rfl, rfl, rfl, rfl, rfl, rfl, rfl, rfl, rfl, rfl, rfl, rfl, rfl, rfl, rfl, rfl, rfl, rfl, rfl, rfl, rfl, rfl, rfl, rfl, rfl, rfl, rfl, rfl, rfl, rfl, rfl, rfl, rfl, rfl, rfl, rfl, rfl, rfl, rfl, rfl, rfl, rfl, rfl, rfl, rfl, rfl, rfl, rfl, rfl, rfl, rfl, rfl, rfl, rfl, rfl, rfl, rfl, rfl, rfl, rfl, rfl, rfl, rfl, rfl, rfl, rfl, rfl, rfl, rfl, rfl, rfl, rfl, rfl, rfl, rfl, rfl, rfl, rfl, rfl, rfl, rfl, rfl, rfl, rfl, rfl, rfl, rfl, rfl, rfl, rfl, rfl, rfl, rfl, rfl, rfl, rfl, rfl, rfl, rfl, rfl, rfl, rfl, rfl, rfl, rfl, rfl, rfl, rfl, rfl, rfl, rfl, rfl, rfl, rfl, rfl, rfl, rfl, rfl, rfl, trivial⟩ i hi) rfl rfl rfl) (h (mmP 489 160 P) (pk_mm H (fun b => q2_if 160 489 b) (fun i hi => q2c (n := 160) (fun i => ∀ b, qPf (qW0 r6) (489 + 1 + i) b = 0) ⟨fun _ => rfl, fun _ => rfl, fun _ => rfl, fun _ => rfl, fun _ => rfl, fun _ => rfl, fun _ => rfl, fun _ => rfl, fun _ => rfl, fun _ => rfl, fun _ => rfl, fun _ => rfl, fun _ => rfl, fun _ => rfl, fun _ => rfl, fun _ => rfl, fun _ => rfl, fun _ => rfl, fun _ => rfl, fun _ => rfl, fun _ => rfl, fun _ => rfl, fun _ => rfl, fun _ => rfl, fun _ => rfl, fun _ => rfl, fun _ => rfl, fun _ => rfl, fun _ => rfl, fun _ => rfl, fun _ => rfl, fun _ => rfl, fun _ => rfl, fun _ => rfl, fun _ => rfl, fun _ => rfl, fun _ => rfl, fun _ => rfl, fun _ => rfl, fun _ => rfl, fun _ => rfl, fun _ => rfl, fun _ => rfl, fun _ => rfl, fun _ => rfl, fun _ => rfl, fun _ => rfl, fun _ => rfl, fun _ => rfl, fun _ => rfl, fun _ => rfl, fun _ => rfl, fun _ => rfl, fun _ => rfl, fun _ => rfl, fun _ => rfl, fun _ => rfl, fun _ => rfl, fun _ => rfl, fun _ => rfl, fun _ => rfl, fun _ => rfl, fun _ => rfl, fun _ => rfl, fun _ => rfl, fun _ => rfl, fun _ => rfl, fun _ => rfl, fun _ => rfl, fun _ => rfl, fun _ => rfl, fun _ => rfl, fun _ => rfl, fun _ => rfl, fun _ => rfl, fun _ => rfl, fun _ => rfl, fun _ => rfl, fun _ => rfl, fun _ => rfl, fun _ => rfl, fun _ => rfl, fun _ => rfl, fun _ => rfl, fun _ => rfl, fun _ => rfl, fun _ => rfl, fun _ => rfl, fun _ => rfl, fun _ => rfl, fun _ => rfl, fun _ => rfl, fun _ => rfl, fun _ => rfl, fun _ => rfl, fun _ => rfl, fun _ => rfl, fun _ => rfl, fun _ => rfl, fun _ => rfl, fun _ => rfl, fun _ => rfl, fun _ => rfl, fun _ => rfl, fun _ => rfl, fun _ => rfl, fun _ => rfl, fun _ => rfl, fun _ => rfl, fun _ => rfl, fun _ => rfl, fun _ => rfl, fun _ => rfl, fun _ => rfl, fun _ => rfl, fun _ => rfl, fun _ => rfl, fun _ => rfl, fun _ => rfl, fun _ => rfl, fun _ => rfl, fun _ => rfl, fun _ => rfl, fun _ => rfl, fun _ => rfl, fun _ => rfl, fun _ => rfl, fun _ => rfl, fun _ => rfl, fun _ => rfl, fun _ => rfl, fun _ => rfl, fun _ => rfl, fun _ => rfl, fun _ => rfl, fun _ => rfl, fun _ => rfl, fun _ => rfl, fun _ => rfl, fun _ => rfl, fun _ => rfl, fun _ => rfl, fun _ => rfl, fun _ => rfl, fun _ => rfl, fun _ => rfl, fun _ => rfl, fun _ => rfl, fun _ => rfl, fun _ => rfl, fun _ => rfl, fun _ => rfl, fun _ => rfl, fun _ => rfl, fun _ => rfl, fun _ => rfl, fun _ => rfl, fun _ => rfl, fun _ => rfl, fun _ => rfl, trivial⟩ i hi) (llt rfl) rfl))⟩)
theorem s164_245_200 {d r6 L : Nat} {Q : qR → Prop} {I : Nat → Nat → Int32} {P : Nat → Nat → Nat} (hd : 30 ≤ d) (H : qMc (qW0 r6) 650 [(245, 30)] I P)
    (h : ∀ P2, qMc (qW0 r6) 650 [(245, 31)] I P2 → qwq d 164 203 [(0, .ref 245)] [] (mc 650 586 5765 L I P2) Q) :
    qwq d 164 200 [(0, .ref 245)] [.ref 489, .ref 245] (mc 650 586 5765 L I P) Q := qY_sound qU_ok (fun p => bif Nat.beq p 203 then some [0, 1, 2, 3, 4] else none) 12 true (⟨rfl, h (qup P 245 30 489) (pk_put H (by omega) (by omega) (fun b h1 h2 => by omega) rfl (lne rfl) rfl)⟩)
theorem s164_245_203 {d r6 L : Nat} {Q : qR → Prop} {I : Nat → Nat → Int32} {P : Nat → Nat → Nat} (hd : 30 ≤ d) (H : qMc (qW0 r6) 650 [(245, 31)] I P)
    (h : ∀ P2, qMc (qW0 r6) 663 [(245, 31)] I P2 → qwq d 164 211 [(0, .ref 245)] [.ref 650, .ref 245] (mc 663 599 5813 L I P2) Q) :
    qwq d 164 203 [(0, .ref 245)] [] (mc 650 586 5765 L I P) Q := qY_sound qU_ok (fun p => bif Nat.beq p 211 then some [0, 1, 2, 3, 4] else none) 12 true (⟨⟨rfl, by decide, by decide, by decide, by decide⟩, mc_to (mc_mm H rfl (fun i hi => q2c (n := 12) (fun i => qSH L (650 + 1 + i) = (1, 3)) ⟨rfl, rfl, rfl, rfl, rfl, rfl, rfl, rfl, rfl, rfl, rfl, rfl, trivial⟩ i hi) rfl rfl rfl) (h (mmP 650 12 P) (pk_mm H (fun b => q2_if 12 650 b) (fun i hi => q2c (n := 12) (fun i => ∀ b, qPf (qW0 r6) (650 + 1 + i) b = 0) ⟨fun _ => rfl, fun _ => rfl, fun _ => rfl, fun _ => rfl, fun _ => rfl, fun _ => rfl, fun _ => rfl, fun _ => rfl, fun _ => rfl, fun _ => rfl, fun _ => rfl, fun _ => rfl, trivial⟩ i hi) (llt rfl) rfl))⟩)
theorem s164_245_211 {d r6 L : Nat} {Q : qR → Prop} {I : Nat → Nat → Int32} {P : Nat → Nat → Nat} (hd : 30 ≤ d) (H : qMc (qW0 r6) 663 [(245, 31)] I P)
    (h : ∀ P2, qMc (qW0 r6) 663 [(245, 32)] I P2 → qwq d 164 214 [(0, .ref 245)] [] (mc 663 599 5813 L I P2) Q) :
    qwq d 164 211 [(0, .ref 245)] [.ref 650, .ref 245] (mc 663 599 5813 L I P) Q := qY_sound qU_ok (fun p => bif Nat.beq p 214 then some [0, 1, 2, 3, 4] else none) 12 true (⟨rfl, h (qup P 245 31 650) (pk_put H (by omega) (by omega) (fun b h1 h2 => by omega) rfl (lne rfl) rfl)⟩)
theorem s164_245_214 {d r6 L : Nat} {Q : qR → Prop} {I : Nat → Nat → Int32} {P : Nat → Nat → Nat} (hd : 30 ≤ d) (H : qMc (qW0 r6) 663 [(245, 32)] I P)
    (h : ∀ P2, qMc (qW0 r6) 676 [(245, 32)] I P2 → qwq d 164 222 [(0, .ref 245)] [.ref 663, .ref 245] (mc 676 612 5861 L I P2) Q) :
    qwq d 164 214 [(0, .ref 245)] [] (mc 663 599 5813 L I P) Q := qY_sound qU_ok (fun p => bif Nat.beq p 222 then some [0, 1, 2, 3, 4] else none) 12 true (⟨⟨rfl, by decide, by decide, by decide, by decide⟩, mc_to (mc_mm H rfl (fun i hi => q2c (n := 12) (fun i => qSH L (663 + 1 + i) = (1, 3)) ⟨rfl, rfl, rfl, rfl, rfl, rfl, rfl, rfl, rfl, rfl, rfl, rfl, trivial⟩ i hi) rfl rfl rfl) (h (mmP 663 12 P) (pk_mm H (fun b => q2_if 12 663 b) (fun i hi => q2c (n := 12) (fun i => ∀ b, qPf (qW0 r6) (663 + 1 + i) b = 0) ⟨fun _ => rfl, fun _ => rfl, fun _ => rfl, fun _ => rfl, fun _ => rfl, fun _ => rfl, fun _ => rfl, fun _ => rfl, fun _ => rfl, fun _ => rfl, fun _ => rfl, fun _ => rfl, trivial⟩ i hi) (llt rfl) rfl))⟩)
theorem s164_245_222 {d r6 L : Nat} {Q : qR → Prop} {I : Nat → Nat → Int32} {P : Nat → Nat → Nat} (hd : 30 ≤ d) (H : qMc (qW0 r6) 676 [(245, 32)] I P)
    (h : ∀ P2, qMc (qW0 r6) 676 [(245, 33)] I P2 → qwq d 164 225 [(0, .ref 245)] [] (mc 676 612 5861 L I P2) Q) :
    qwq d 164 222 [(0, .ref 245)] [.ref 663, .ref 245] (mc 676 612 5861 L I P) Q := qY_sound qU_ok (fun p => bif Nat.beq p 225 then some [0, 1, 2, 3, 4] else none) 12 true (⟨rfl, h (qup P 245 32 663) (pk_put H (by omega) (by omega) (fun b h1 h2 => by omega) rfl (lne rfl) rfl)⟩)
theorem s164_245_225 {d r6 L : Nat} {Q : qR → Prop} {I : Nat → Nat → Int32} {P : Nat → Nat → Nat} (hd : 30 ≤ d) (H : qMc (qW0 r6) 676 [(245, 33)] I P)
    (h : ∀ P2, qMc (qW0 r6) 680 [(245, 33)] I P2 → qwq d 164 233 [(0, .ref 245)] [.ref 676, .ref 245] (mc 680 616 6185 L I P2) Q) :
    qwq d 164 225 [(0, .ref 245)] [] (mc 676 612 5861 L I P) Q := qY_sound qU_ok (fun p => bif Nat.beq p 233 then some [0, 1, 2, 3, 4] else none) 12 true (⟨⟨rfl, by decide, by decide, by decide, by decide⟩, mc_to (mc_mm H rfl (fun i hi => q2c (n := 3) (fun i => qSH L (676 + 1 + i) = (1, 107)) ⟨rfl, rfl, rfl, trivial⟩ i hi) rfl rfl rfl) (h (mmP 676 3 P) (pk_mm H (fun b => q2_if 3 676 b) (fun i hi => q2c (n := 3) (fun i => ∀ b, qPf (qW0 r6) (676 + 1 + i) b = 0) ⟨fun _ => rfl, fun _ => rfl, fun _ => rfl, trivial⟩ i hi) (llt rfl) rfl))⟩)
theorem s164_245_233 {d r6 L : Nat} {Q : qR → Prop} {I : Nat → Nat → Int32} {P : Nat → Nat → Nat} (hd : 30 ≤ d) (H : qMc (qW0 r6) 680 [(245, 33)] I P)
    (h : ∀ P2, qMc (qW0 r6) 680 [(245, 34)] I P2 → qwq d 164 236 [(0, .ref 245)] [] (mc 680 616 6185 L I P2) Q) :
    qwq d 164 233 [(0, .ref 245)] [.ref 676, .ref 245] (mc 680 616 6185 L I P) Q := qY_sound qU_ok (fun p => bif Nat.beq p 236 then some [0, 1, 2, 3, 4] else none) 12 true (⟨rfl, h (qup P 245 33 676) (pk_put H (by omega) (by omega) (fun b h1 h2 => by omega) rfl (lne rfl) rfl)⟩)
theorem s164_245_236 {d r6 L : Nat} {Q : qR → Prop} {I : Nat → Nat → Int32} {P : Nat → Nat → Nat} (hd : 30 ≤ d) (H : qMc (qW0 r6) 680 [(245, 34)] I P)
    (h : ∀ P2, qMc (qW0 r6) 681 [(245, 34)] I P2 → qwq d 164 242 [(0, .ref 245)] [.ref 680, .ref 245] (mc 681 617 6345 L I P2) Q) :
    qwq d 164 236 [(0, .ref 245)] [] (mc 680 616 6185 L I P) Q := qY_sound qU_ok (fun p => bif Nat.beq p 242 then some [0, 1, 2, 3, 4] else none) 12 true (⟨⟨rfl, by decide, by decide⟩, mc_to (mc_mk H rfl rfl rfl rfl) (h P (pk_leaf H (fun _ => rfl) rfl))⟩)
theorem s164_245_242 {d r6 L : Nat} {Q : qR → Prop} {I : Nat → Nat → Int32} {P : Nat → Nat → Nat} (hd : 30 ≤ d) (H : qMc (qW0 r6) 681 [(245, 34)] I P)
    (h : ∀ P2, qMc (qW0 r6) 681 [(245, 35)] I P2 → qwq d 164 245 [(0, .ref 245)] [] (mc 681 617 6345 L I P2) Q) :
    qwq d 164 242 [(0, .ref 245)] [.ref 680, .ref 245] (mc 681 617 6345 L I P) Q := qY_sound qU_ok (fun p => bif Nat.beq p 245 then some [0, 1, 2, 3, 4] else none) 12 true (⟨rfl, h (qup P 245 34 680) (pk_put H (by omega) (by omega) (fun b h1 h2 => by omega) rfl (lne rfl) rfl)⟩)
theorem s164_245_245 {d r6 L : Nat} {Q : qR → Prop} {I : Nat → Nat → Int32} {P : Nat → Nat → Nat} (hd : 30 ≤ d) (H : qMc (qW0 r6) 681 [(245, 35)] I P)
    (h : ∀ P2, qMc (qW0 r6) 682 [(245, 35)] I P2 → qwq d 164 250 [(0, .ref 245)] [.ref 681, .ref 245] (mc 682 618 6354 L I P2) Q) :
    qwq d 164 245 [(0, .ref 245)] [] (mc 681 617 6345 L I P) Q := qY_sound qU_ok (fun p => bif Nat.beq p 250 then some [0, 1, 2, 3, 4] else none) 12 true (⟨⟨rfl, by decide, by decide⟩, mc_to (mc_mk H rfl rfl rfl rfl) (h P (pk_leaf H (fun _ => rfl) rfl))⟩)
theorem s164_245_250 {d r6 L : Nat} {Q : qR → Prop} {I : Nat → Nat → Int32} {P : Nat → Nat → Nat} (hd : 30 ≤ d) (H : qMc (qW0 r6) 682 [(245, 35)] I P)
    (h : ∀ P2, qMc (qW0 r6) 682 [(245, 36)] I P2 → qwq d 164 253 [(0, .ref 245)] [] (mc 682 618 6354 L I P2) Q) :
    qwq d 164 250 [(0, .ref 245)] [.ref 681, .ref 245] (mc 682 618 6354 L I P) Q := qY_sound qU_ok (fun p => bif Nat.beq p 253 then some [0, 1, 2, 3, 4] else none) 12 true (⟨rfl, h (qup P 245 35 681) (pk_put H (by omega) (by omega) (fun b h1 h2 => by omega) rfl (lne rfl) rfl)⟩)
theorem s164_245_253 {d r6 L : Nat} {Q : qR → Prop} {I : Nat → Nat → Int32} {P : Nat → Nat → Nat} (hd : 30 ≤ d) (H : qMc (qW0 r6) 682 [(245, 36)] I P)
    (h : ∀ P2, qMc (qW0 r6) 683 [(245, 36)] I P2 → qwq d 164 258 [(0, .ref 245)] [.ref 682, .ref 245] (mc 683 619 6461 L I P2) Q) :
    qwq d 164 253 [(0, .ref 245)] [] (mc 682 618 6354 L I P) Q := qY_sound qU_ok (fun p => bif Nat.beq p 258 then some [0, 1, 2, 3, 4] else none) 12 true (⟨⟨rfl, by decide, by decide⟩, mc_to (mc_mk H rfl rfl rfl rfl) (h P (pk_leaf H (fun _ => rfl) rfl))⟩)
theorem s164_245_258 {d r6 L : Nat} {Q : qR → Prop} {I : Nat → Nat → Int32} {P : Nat → Nat → Nat} (hd : 30 ≤ d) (H : qMc (qW0 r6) 683 [(245, 36)] I P)
    (h : ∀ P2, qMc (qW0 r6) 683 [(245, 37)] I P2 → qwq d 164 261 [(0, .ref 245)] [] (mc 683 619 6461 L I P2) Q) :
    qwq d 164 258 [(0, .ref 245)] [.ref 682, .ref 245] (mc 683 619 6461 L I P) Q := qY_sound qU_ok (fun p => bif Nat.beq p 261 then some [0, 1, 2, 3, 4] else none) 12 true (⟨rfl, h (qup P 245 36 682) (pk_put H (by omega) (by omega) (fun b h1 h2 => by omega) rfl (lne rfl) rfl)⟩)
theorem s164_245_261 {d r6 L : Nat} {Q : qR → Prop} {I : Nat → Nat → Int32} {P : Nat → Nat → Nat} (hd : 30 ≤ d) (H : qMc (qW0 r6) 683 [(245, 37)] I P)
    (h : ∀ P2, qMc (qW0 r6) 684 [(245, 37)] I P2 → qwq d 164 266 [(0, .ref 245)] [.ref 683, .ref 245] (mc 684 620 6568 L I P2) Q) :
    qwq d 164 261 [(0, .ref 245)] [] (mc 683 619 6461 L I P) Q := qY_sound qU_ok (fun p => bif Nat.beq p 266 then some [0, 1, 2, 3, 4] else none) 12 true (⟨⟨rfl, by decide, by decide⟩, mc_to (mc_mk H rfl rfl rfl rfl) (h P (pk_leaf H (fun _ => rfl) rfl))⟩)
theorem s164_245_266 {d r6 L : Nat} {Q : qR → Prop} {I : Nat → Nat → Int32} {P : Nat → Nat → Nat} (hd : 30 ≤ d) (H : qMc (qW0 r6) 684 [(245, 37)] I P)
    (h : ∀ P2, qMc (qW0 r6) 684 [(245, 38)] I P2 → qwq d 164 269 [(0, .ref 245)] [] (mc 684 620 6568 L I P2) Q) :
    qwq d 164 266 [(0, .ref 245)] [.ref 683, .ref 245] (mc 684 620 6568 L I P) Q := qY_sound qU_ok (fun p => bif Nat.beq p 269 then some [0, 1, 2, 3, 4] else none) 12 true (⟨rfl, h (qup P 245 37 683) (pk_put H (by omega) (by omega) (fun b h1 h2 => by omega) rfl (lne rfl) rfl)⟩)
theorem s164_245_269 {d r6 L : Nat} {Q : qR → Prop} {I : Nat → Nat → Int32} {P : Nat → Nat → Nat} (hd : 30 ≤ d) (H : qMc (qW0 r6) 684 [(245, 38)] I P)
    (h : ∀ P2, qMc (qW0 r6) 685 [(245, 38)] I P2 → qwq d 164 274 [(0, .ref 245)] [.ref 684, .ref 245] (mc 685 621 6675 L I P2) Q) :
    qwq d 164 269 [(0, .ref 245)] [] (mc 684 620 6568 L I P) Q := qY_sound qU_ok (fun p => bif Nat.beq p 274 then some [0, 1, 2, 3, 4] else none) 12 true (⟨⟨rfl, by decide, by decide⟩, mc_to (mc_mk H rfl rfl rfl rfl) (h P (pk_leaf H (fun _ => rfl) rfl))⟩)
theorem s164_245_274 {d r6 L : Nat} {Q : qR → Prop} {I : Nat → Nat → Int32} {P : Nat → Nat → Nat} (hd : 30 ≤ d) (H : qMc (qW0 r6) 685 [(245, 38)] I P)
    (h : ∀ P2, qMc (qW0 r6) 685 [(245, 39)] I P2 → qwq d 164 277 [(0, .ref 245)] [] (mc 685 621 6675 L I P2) Q) :
    qwq d 164 274 [(0, .ref 245)] [.ref 684, .ref 245] (mc 685 621 6675 L I P) Q := qY_sound qU_ok (fun p => bif Nat.beq p 277 then some [0, 1, 2, 3, 4] else none) 12 true (⟨rfl, h (qup P 245 38 684) (pk_put H (by omega) (by omega) (fun b h1 h2 => by omega) rfl (lne rfl) rfl)⟩)
theorem s164_245_277 {d r6 L : Nat} {Q : qR → Prop} {I : Nat → Nat → Int32} {P : Nat → Nat → Nat} (hd : 30 ≤ d) (H : qMc (qW0 r6) 685 [(245, 39)] I P)
    (h : ∀ P2, qMc (qW0 r6) 686 [(245, 39)] I P2 → qwq d 164 282 [(0, .ref 245)] [.ref 685, .ref 245] (mc 686 622 6782 L I P2) Q) :
    qwq d 164 277 [(0, .ref 245)] [] (mc 685 621 6675 L I P) Q := qY_sound qU_ok (fun p => bif Nat.beq p 282 then some [0, 1, 2, 3, 4] else none) 12 true (⟨⟨rfl, by decide, by decide⟩, mc_to (mc_mk H rfl rfl rfl rfl) (h P (pk_leaf H (fun _ => rfl) rfl))⟩)
theorem s164_245_282 {d r6 L : Nat} {Q : qR → Prop} {I : Nat → Nat → Int32} {P : Nat → Nat → Nat} (hd : 30 ≤ d) (H : qMc (qW0 r6) 686 [(245, 39)] I P)
    (h : ∀ P2, qMc (qW0 r6) 686 [(245, 40)] I P2 → qwq d 164 285 [(0, .ref 245)] [] (mc 686 622 6782 L I P2) Q) :
    qwq d 164 282 [(0, .ref 245)] [.ref 685, .ref 245] (mc 686 622 6782 L I P) Q := qY_sound qU_ok (fun p => bif Nat.beq p 285 then some [0, 1, 2, 3, 4] else none) 12 true (⟨rfl, h (qup P 245 39 685) (pk_put H (by omega) (by omega) (fun b h1 h2 => by omega) rfl (lne rfl) rfl)⟩)
theorem s164_245_285 {d r6 L : Nat} {Q : qR → Prop} {I : Nat → Nat → Int32} {P : Nat → Nat → Nat} (hd : 30 ≤ d) (H : qMc (qW0 r6) 686 [(245, 40)] I P)
    (h : ∀ P2, qMc (qW0 r6) 687 [(245, 40)] I P2 → qwq d 164 290 [(0, .ref 245)] [.ref 686, .ref 245] (mc 687 623 6889 L I P2) Q) :
    qwq d 164 285 [(0, .ref 245)] [] (mc 686 622 6782 L I P) Q := qY_sound qU_ok (fun p => bif Nat.beq p 290 then some [0, 1, 2, 3, 4] else none) 12 true (⟨⟨rfl, by decide, by decide⟩, mc_to (mc_mk H rfl rfl rfl rfl) (h P (pk_leaf H (fun _ => rfl) rfl))⟩)
theorem s164_245_290 {d r6 L : Nat} {Q : qR → Prop} {I : Nat → Nat → Int32} {P : Nat → Nat → Nat} (hd : 30 ≤ d) (H : qMc (qW0 r6) 687 [(245, 40)] I P)
    (h : ∀ P2, qMc (qW0 r6) 687 [(245, 41)] I P2 → qwq d 164 293 [(0, .ref 245)] [] (mc 687 623 6889 L I P2) Q) :
    qwq d 164 290 [(0, .ref 245)] [.ref 686, .ref 245] (mc 687 623 6889 L I P) Q := qY_sound qU_ok (fun p => bif Nat.beq p 293 then some [0, 1, 2, 3, 4] else none) 12 true (⟨rfl, h (qup P 245 40 686) (pk_put H (by omega) (by omega) (fun b h1 h2 => by omega) rfl (lne rfl) rfl)⟩)
theorem s164_245_293 {d r6 L : Nat} {Q : qR → Prop} {I : Nat → Nat → Int32} {P : Nat → Nat → Nat} (hd : 30 ≤ d) (H : qMc (qW0 r6) 687 [(245, 41)] I P)
    (h : ∀ P2, qMc (qW0 r6) 688 [(245, 41)] I P2 → qwq d 164 298 [(0, .ref 245)] [.ref 687, .ref 245] (mc 688 624 6901 L I P2) Q) :
    qwq d 164 293 [(0, .ref 245)] [] (mc 687 623 6889 L I P) Q := qY_sound qU_ok (fun p => bif Nat.beq p 298 then some [0, 1, 2, 3, 4] else none) 12 true (⟨⟨rfl, by decide, by decide⟩, mc_to (mc_mk H rfl rfl rfl rfl) (h P (pk_leaf H (fun _ => rfl) rfl))⟩)
theorem s164_245_298 {d r6 L : Nat} {Q : qR → Prop} {I : Nat → Nat → Int32} {P : Nat → Nat → Nat} (hd : 30 ≤ d) (H : qMc (qW0 r6) 688 [(245, 41)] I P)
    (h : ∀ P2, qMc (qW0 r6) 688 [(245, 47)] I P2 → qwq d 164 301 [(0, .ref 245)] [] (mc 688 624 6901 L I P2) Q) :
    qwq d 164 298 [(0, .ref 245)] [.ref 687, .ref 245] (mc 688 624 6901 L I P) Q := qY_sound qU_ok (fun p => bif Nat.beq p 301 then some [0, 1, 2, 3, 4] else none) 12 true (⟨rfl, h (qup P 245 46 687) (pk_put H (by omega) (by omega) (fun b h1 h2 => by have hb : b = 41 ∨ b = 42 ∨ b = 43 ∨ b = 44 ∨ b = 45 := (by omega); rcases hb with rfl | rfl | rfl | rfl | rfl <;> rfl) rfl (lne rfl) rfl)⟩)
theorem s164_245_301 {d r6 L : Nat} {Q : qR → Prop} {I : Nat → Nat → Int32} {P : Nat → Nat → Nat} (hd : 30 ≤ d) (H : qMc (qW0 r6) 688 [(245, 47)] I P)
    (h : ∀ P2, qMc (qW0 r6) 689 [(245, 47)] I P2 → qwq d 164 306 [(0, .ref 245)] [.ref 688, .ref 245] (mc 689 625 6913 L I P2) Q) :
    qwq d 164 301 [(0, .ref 245)] [] (mc 688 624 6901 L I P) Q := qY_sound qU_ok (fun p => bif Nat.beq p 306 then some [0, 1, 2, 3, 4] else none) 12 true (⟨⟨rfl, by decide, by decide⟩, mc_to (mc_mk H rfl rfl rfl rfl) (h P (pk_leaf H (fun _ => rfl) rfl))⟩)
theorem s164_245_306 {d r6 L : Nat} {Q : qR → Prop} {I : Nat → Nat → Int32} {P : Nat → Nat → Nat} (hd : 30 ≤ d) (H : qMc (qW0 r6) 689 [(245, 47)] I P)
    (h : ∀ P2, qMc (qW0 r6) 689 [(245, 48)] I P2 → qwq d 164 309 [(0, .ref 245)] [] (mc 689 625 6913 L I P2) Q) :
    qwq d 164 306 [(0, .ref 245)] [.ref 688, .ref 245] (mc 689 625 6913 L I P) Q := qY_sound qU_ok (fun p => bif Nat.beq p 309 then some [0, 1, 2, 3, 4] else none) 12 true (⟨rfl, h (qup P 245 47 688) (pk_put H (by omega) (by omega) (fun b h1 h2 => by omega) rfl (lne rfl) rfl)⟩)
theorem s164_245_309 {d r6 L : Nat} {Q : qR → Prop} {I : Nat → Nat → Int32} {P : Nat → Nat → Nat} (hd : 30 ≤ d) (H : qMc (qW0 r6) 689 [(245, 48)] I P)
    (h : ∀ P2, qMc (qW0 r6) 690 [(245, 48)] I P2 → qwq d 164 314 [(0, .ref 245)] [.ref 689, .ref 245] (mc 690 626 6925 L I P2) Q) :
    qwq d 164 309 [(0, .ref 245)] [] (mc 689 625 6913 L I P) Q := qY_sound qU_ok (fun p => bif Nat.beq p 314 then some [0, 1, 2, 3, 4] else none) 12 true (⟨⟨rfl, by decide, by decide⟩, mc_to (mc_mk H rfl rfl rfl rfl) (h P (pk_leaf H (fun _ => rfl) rfl))⟩)
theorem s164_245_314 {d r6 L : Nat} {Q : qR → Prop} {I : Nat → Nat → Int32} {P : Nat → Nat → Nat} (hd : 30 ≤ d) (H : qMc (qW0 r6) 690 [(245, 48)] I P)
    (h : ∀ P2, qMc (qW0 r6) 690 [(245, 49)] I P2 → qwq d 164 317 [(0, .ref 245)] [] (mc 690 626 6925 L I P2) Q) :
    qwq d 164 314 [(0, .ref 245)] [.ref 689, .ref 245] (mc 690 626 6925 L I P) Q := qY_sound qU_ok (fun p => bif Nat.beq p 317 then some [0, 1, 2, 3, 4] else none) 12 true (⟨rfl, h (qup P 245 48 689) (pk_put H (by omega) (by omega) (fun b h1 h2 => by omega) rfl (lne rfl) rfl)⟩)
theorem s164_245_317 {d r6 L : Nat} {Q : qR → Prop} {I : Nat → Nat → Int32} {P : Nat → Nat → Nat} (hd : 30 ≤ d) (H : qMc (qW0 r6) 690 [(245, 49)] I P)
    (h : ∀ P2, qMc (qW0 r6) 691 [(245, 49)] I P2 → qwq d 164 322 [(0, .ref 245)] [.ref 690, .ref 245] (mc 691 627 6937 L I P2) Q) :
    qwq d 164 317 [(0, .ref 245)] [] (mc 690 626 6925 L I P) Q := qY_sound qU_ok (fun p => bif Nat.beq p 322 then some [0, 1, 2, 3, 4] else none) 12 true (⟨⟨rfl, by decide, by decide⟩, mc_to (mc_mk H rfl rfl rfl rfl) (h P (pk_leaf H (fun _ => rfl) rfl))⟩)
theorem s164_245_322 {d r6 L : Nat} {Q : qR → Prop} {I : Nat → Nat → Int32} {P : Nat → Nat → Nat} (hd : 30 ≤ d) (H : qMc (qW0 r6) 691 [(245, 49)] I P)
    (h : ∀ P2, qMc (qW0 r6) 691 [(245, 50)] I P2 → qwq d 164 325 [(0, .ref 245)] [] (mc 691 627 6937 L I P2) Q) :
    qwq d 164 322 [(0, .ref 245)] [.ref 690, .ref 245] (mc 691 627 6937 L I P) Q := qY_sound qU_ok (fun p => bif Nat.beq p 325 then some [0, 1, 2, 3, 4] else none) 12 true (⟨rfl, h (qup P 245 49 690) (pk_put H (by omega) (by omega) (fun b h1 h2 => by omega) rfl (lne rfl) rfl)⟩)
theorem s164_245_325 {d r6 L : Nat} {Q : qR → Prop} {I : Nat → Nat → Int32} {P : Nat → Nat → Nat} (hd : 30 ≤ d) (H : qMc (qW0 r6) 691 [(245, 50)] I P)
    (h : ∀ P2, qMc (qW0 r6) 692 [(245, 50)] I P2 → qwq d 164 330 [(0, .ref 245)] [.ref 691, .ref 245] (mc 692 628 6949 L I P2) Q) :
    qwq d 164 325 [(0, .ref 245)] [] (mc 691 627 6937 L I P) Q := qY_sound qU_ok (fun p => bif Nat.beq p 330 then some [0, 1, 2, 3, 4] else none) 12 true (⟨⟨rfl, by decide, by decide⟩, mc_to (mc_mk H rfl rfl rfl rfl) (h P (pk_leaf H (fun _ => rfl) rfl))⟩)
theorem s164_245_330 {d r6 L : Nat} {Q : qR → Prop} {I : Nat → Nat → Int32} {P : Nat → Nat → Nat} (hd : 30 ≤ d) (H : qMc (qW0 r6) 692 [(245, 50)] I P)
    (h : ∀ P2, qMc (qW0 r6) 692 [(245, 51)] I P2 → qwq d 164 333 [(0, .ref 245)] [] (mc 692 628 6949 L I P2) Q) :
    qwq d 164 330 [(0, .ref 245)] [.ref 691, .ref 245] (mc 692 628 6949 L I P) Q := qY_sound qU_ok (fun p => bif Nat.beq p 333 then some [0, 1, 2, 3, 4] else none) 12 true (⟨rfl, h (qup P 245 50 691) (pk_put H (by omega) (by omega) (fun b h1 h2 => by omega) rfl (lne rfl) rfl)⟩)
theorem s164_245_333 {d r6 L : Nat} {Q : qR → Prop} {I : Nat → Nat → Int32} {P : Nat → Nat → Nat} (hd : 30 ≤ d) (H : qMc (qW0 r6) 692 [(245, 51)] I P)
    (h : ∀ P2, qMc (qW0 r6) 693 [(245, 51)] I P2 → qwq d 164 338 [(0, .ref 245)] [.ref 692, .ref 245] (mc 693 629 6961 L I P2) Q) :
    qwq d 164 333 [(0, .ref 245)] [] (mc 692 628 6949 L I P) Q := qY_sound qU_ok (fun p => bif Nat.beq p 338 then some [0, 1, 2, 3, 4] else none) 12 true (⟨⟨rfl, by decide, by decide⟩, mc_to (mc_mk H rfl rfl rfl rfl) (h P (pk_leaf H (fun _ => rfl) rfl))⟩)
theorem s164_245_338 {d r6 L : Nat} {Q : qR → Prop} {I : Nat → Nat → Int32} {P : Nat → Nat → Nat} (hd : 30 ≤ d) (H : qMc (qW0 r6) 693 [(245, 51)] I P)
    (h : ∀ P2, qMc (qW0 r6) 693 [(245, 55)] I P2 → qwq d 164 341 [(0, .ref 245)] [] (mc 693 629 6961 L I P2) Q) :
    qwq d 164 338 [(0, .ref 245)] [.ref 692, .ref 245] (mc 693 629 6961 L I P) Q := qY_sound qU_ok (fun p => bif Nat.beq p 341 then some [0, 1, 2, 3, 4] else none) 12 true (⟨rfl, h (qup P 245 54 692) (pk_put H (by omega) (by omega) (fun b h1 h2 => by have hb : b = 51 ∨ b = 52 ∨ b = 53 := (by omega); rcases hb with rfl | rfl | rfl <;> rfl) rfl (lne rfl) rfl)⟩)
theorem s164_245_341 {d r6 L : Nat} {Q : qR → Prop} {I : Nat → Nat → Int32} {P : Nat → Nat → Nat} (hd : 30 ≤ d) (H : qMc (qW0 r6) 693 [(245, 55)] I P)
    (h : ∀ P2, qMc (qW0 r6) 694 [(245, 55)] I P2 → qwq d 164 346 [(0, .ref 245)] [.ref 693, .ref 245] (mc 694 630 6970 L I P2) Q) :
    qwq d 164 341 [(0, .ref 245)] [] (mc 693 629 6961 L I P) Q := qY_sound qU_ok (fun p => bif Nat.beq p 346 then some [0, 1, 2, 3, 4] else none) 12 true (⟨⟨rfl, by decide, by decide⟩, mc_to (mc_mk H rfl rfl rfl rfl) (h P (pk_leaf H (fun _ => rfl) rfl))⟩)
theorem s164_245_346 {d r6 L : Nat} {Q : qR → Prop} {I : Nat → Nat → Int32} {P : Nat → Nat → Nat} (hd : 30 ≤ d) (H : qMc (qW0 r6) 694 [(245, 55)] I P)
    (h : ∀ P2, qMc (qW0 r6) 694 [(245, 56)] I P2 → qwq d 164 349 [(0, .ref 245)] [] (mc 694 630 6970 L I P2) Q) :
    qwq d 164 346 [(0, .ref 245)] [.ref 693, .ref 245] (mc 694 630 6970 L I P) Q := qY_sound qU_ok (fun p => bif Nat.beq p 349 then some [0, 1, 2, 3, 4] else none) 12 true (⟨rfl, h (qup P 245 55 693) (pk_put H (by omega) (by omega) (fun b h1 h2 => by omega) rfl (lne rfl) rfl)⟩)
theorem n164_245 {d r6 L : Nat} {Q : qR → Prop} {I : Nat → Nat → Int32} {P : Nat → Nat → Nat} (hd : 40 ≤ d) (H : qMc (qW0 r6) 246 [(245, 0)] I P)
    (h : ∀ P2, qMc (qW0 r6) 694 [] (qup I 245 3 (qj (-1))) P2 → qwq d 164 349 [(0, .ref 245)] [] (mc 694 630 6970 L (qup I 245 3 (qj (-1))) P2) Q) : qwp d 164 [.ref 245] (mc 246 182 3721 L I P) Q := by
  refine s164_245_0 (by omega) H (fun P H => ?_)
  refine s164_245_9 (by omega) H (fun P H => ?_)
  refine s164_245_15 (by omega) H (fun P H => ?_)
  refine s164_245_18 (by omega) H (fun P H => ?_)
  refine s164_245_22 (by omega) H (fun P H => ?_)
  refine s164_245_25 (by omega) H (fun P H => ?_)
  refine s164_245_29 (by omega) H (fun P H => ?_)
  refine s164_245_32 (by omega) H (fun P H => ?_)
  refine s164_245_36 (by omega) H (fun P H => ?_)
  refine s164_245_39 (by omega) H (fun P H => ?_)
  refine s164_245_44 (by omega) H (fun P H => ?_)
  refine s164_245_47 (by omega) H (fun P H => ?_)
  refine s164_245_52 (by omega) H (fun P H => ?_)
  refine s164_245_55 (by omega) H (fun P H => ?_)
  refine s164_245_60 (by omega) H (fun P H => ?_)
  refine s164_245_63 (by omega) H (fun P H => ?_)
  refine s164_245_68 (by omega) H (fun P H => ?_)
  refine s164_245_71 (by omega) H (fun P H => ?_)
  refine s164_245_76 (by omega) H (fun P H => ?_)
  refine s164_245_79 (by omega) H (fun P H => ?_)
  refine s164_245_84 (by omega) H (fun P H => ?_)
  refine s164_245_87 (by omega) H (fun P H => ?_)
  refine s164_245_95 (by omega) H (fun P H => ?_)
  refine s164_245_98 (by omega) H (fun P H => ?_)
  refine s164_245_106 (by omega) H (fun P H => ?_)
  refine s164_245_109 (by omega) H (fun P H => ?_)
  refine s164_245_117 (by omega) H (fun P H => ?_)
  refine s164_245_120 (by omega) H (fun P H => ?_)
  refine s164_245_128 (by omega) H (fun P H => ?_)
  refine s164_245_131 (by omega) H (fun P H => ?_)
  refine s164_245_140 (by omega) H (fun P H => ?_)
  refine s164_245_143 (by omega) H (fun P H => ?_)
  refine s164_245_152 (by omega) H (fun P H => ?_)
  refine s164_245_155 (by omega) H (fun P H => ?_)
  refine s164_245_164 (by omega) H (fun P H => ?_)
  refine s164_245_167 (by omega) H (fun P H => ?_)
  refine s164_245_176 (by omega) H (fun P H => ?_)
  refine s164_245_179 (by omega) H (fun P H => ?_)
  refine s164_245_188 (by omega) H (fun P H => ?_)
  refine s164_245_191 (by omega) H (fun P H => ?_)
  refine s164_245_200 (by omega) H (fun P H => ?_)
  refine s164_245_203 (by omega) H (fun P H => ?_)
  refine s164_245_211 (by omega) H (fun P H => ?_)
  refine s164_245_214 (by omega) H (fun P H => ?_)
  refine s164_245_222 (by omega) H (fun P H => ?_)
  refine s164_245_225 (by omega) H (fun P H => ?_)
  refine s164_245_233 (by omega) H (fun P H => ?_)
  refine s164_245_236 (by omega) H (fun P H => ?_)
  refine s164_245_242 (by omega) H (fun P H => ?_)
  refine s164_245_245 (by omega) H (fun P H => ?_)
  refine s164_245_250 (by omega) H (fun P H => ?_)
  refine s164_245_253 (by omega) H (fun P H => ?_)
  refine s164_245_258 (by omega) H (fun P H => ?_)
  refine s164_245_261 (by omega) H (fun P H => ?_)
  refine s164_245_266 (by omega) H (fun P H => ?_)
  refine s164_245_269 (by omega) H (fun P H => ?_)
  refine s164_245_274 (by omega) H (fun P H => ?_)
  refine s164_245_277 (by omega) H (fun P H => ?_)
  refine s164_245_282 (by omega) H (fun P H => ?_)
  refine s164_245_285 (by omega) H (fun P H => ?_)
  refine s164_245_290 (by omega) H (fun P H => ?_)
  refine s164_245_293 (by omega) H (fun P H => ?_)
  refine s164_245_298 (by omega) H (fun P H => ?_)
  refine s164_245_301 (by omega) H (fun P H => ?_)
  refine s164_245_306 (by omega) H (fun P H => ?_)
  refine s164_245_309 (by omega) H (fun P H => ?_)
  refine s164_245_314 (by omega) H (fun P H => ?_)
  refine s164_245_317 (by omega) H (fun P H => ?_)
  refine s164_245_322 (by omega) H (fun P H => ?_)
  refine s164_245_325 (by omega) H (fun P H => ?_)
  refine s164_245_330 (by omega) H (fun P H => ?_)
  refine s164_245_333 (by omega) H (fun P H => ?_)
  refine s164_245_338 (by omega) H (fun P H => ?_)
  refine s164_245_341 (by omega) H (fun P H => ?_)
  refine s164_245_346 (by omega) H (fun P H => ?_)
  exact h _ (pk_close H (fun b hb => by show (bif Nat.blt b 30 then (bif Nat.blt b 18 then (bif Nat.blt b 13 then (bif Nat.blt b 10 then (bif Nat.blt b 9 then 0 else 246) else (bif Nat.blt b 11 then 247 else (bif Nat.blt b 12 then 248 else 249))) else (bif Nat.blt b 15 then (bif Nat.blt b 14 then 250 else 251) else (bif Nat.blt b 16 then 252 else (bif Nat.blt b 17 then 253 else 254)))) else (bif Nat.blt b 23 then (bif Nat.blt b 20 then (bif Nat.blt b 19 then 255 else 256) else (bif Nat.blt b 21 then 266 else (bif Nat.blt b 22 then 276 else 285))) else (bif Nat.blt b 26 then (bif Nat.blt b 24 then 294 else (bif Nat.blt b 25 then 301 else 308)) else (bif Nat.blt b 27 then 318 else (bif Nat.blt b 29 then 0 else 328))))) else (bif Nat.blt b 40 then (bif Nat.blt b 35 then (bif Nat.blt b 32 then (bif Nat.blt b 31 then 489 else 650) else (bif Nat.blt b 33 then 663 else (bif Nat.blt b 34 then 676 else 680))) else (bif Nat.blt b 37 then (bif Nat.blt b 36 then 681 else 682) else (bif Nat.blt b 38 then 683 else (bif Nat.blt b 39 then 684 else 685)))) else (bif Nat.blt b 49 then (bif Nat.blt b 46 then (bif Nat.blt b 41 then 686 else 0) else (bif Nat.blt b 47 then 687 else (bif Nat.blt b 48 then 688 else 689))) else (bif Nat.blt b 54 then (bif Nat.blt b 50 then 690 else (bif Nat.blt b 51 then 691 else 0)) else (bif Nat.blt b 55 then 692 else (bif Nat.blt b 56 then 693 else 0)))))) = 0; repeat (first | rfl | refine bfz (bltF (by omega)) ?_)))
