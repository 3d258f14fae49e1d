/-! ===== texts: words ===== -/
/-- the bytes of the words -/
def wB (n : Nat) : List Nat := match n with
  | 0 => [104, 97, 110, 100]
  | 1 => [112, 117, 112, 112, 101, 116]
  | 2 => [119, 111, 114, 107, 115]
  | 3 => [113, 117, 97, 114, 114, 101, 108]
  | 4 => [115, 105, 108, 101, 110, 116]
  | 5 => [97, 99, 116]
  | 6 => [111, 119, 101, 115]
  | 7 => [119, 101, 97, 114]
  | 8 => [101, 110, 100]
  | 9 => [108, 105, 109, 112]
  | 10 => [102, 97, 108, 108]
  | 11 => [97, 103, 101]
  | 12 => [119, 111, 114, 107, 115]
  | 13 => [115, 116, 114, 105, 110, 103, 115]
  | 14 => [121, 101, 97, 114]
  | 15 => [110, 117, 109, 98, 101, 114]
  | 16 => [112, 117, 112, 112, 101, 116]
  | 17 => [107, 105, 110]
  | 18 => [108, 101, 97, 115, 116]
  | 19 => [109, 111, 115, 116]
  | _ => []
theorem wB_q : ∀ n, n < 20 → (qsb n).length = (wB n).length ∧ (wB n).length ≤ 7 ∧ 3 ≤ (wB n).length ∧ ∀ k, k < (wB n).length → (qsb n).getD k 0 = qj ((wB n).getD k 0 : Int) ∧ 97 ≤ (wB n).getD k 0 ∧ (wB n).getD k 0 ≤ 122 := by decide +kernel
theorem wch : ∀ n, n < 20 → ∀ k, k < (wB n).length → ((qj ((wB n).getD k 0 : Int) &&& qj 255).toUInt32 % 65536).toInt32 = qj ((wB n).getD k 0 : Int) := by decide +kernel
/-- what stands from b to e is word n -/
def aIs (T : Nat → Nat) (b e n : Nat) : Bool := (e - b == (wB n).length) && !anb (wB n).length (fun k => !(T (b + k) == (wB n).getD k 0))
section WORD
variable {d : Nat} {g : qG1} {I : Nat → Nat → Int32} {T : Nat → Nat} {n i : Nat}
theorem c302 (hd : 1 ≤ d) {w : Nat} (hw : qisW w) (h : I w 1 = qj 0) : qRun d 302 [.ref w] (qw g I) (.inl (some (.int (qj 0)), qw g I)) := by
  refine qRun_of fun Q hQ => b302_0 hw (by omega) ?_
  rw [h]; exact ⟨rfl, hQ⟩
theorem c303 (hd : 1 ≤ d) {w : Nat} (hw : qisW w) (h : I w 1 = qj 0) : qRun d 303 [.ref w] (qw g I) (.inl (some (.int (qb true)), qw g I)) := by
  refine qRun_of fun Q hQ => b303_0 hw (by omega) ?_
  rw [h]; exact ⟨fun q => absurd rfl q, fun _ => hQ⟩
theorem c306 (hd : 1 ≤ d) {k m : Nat} (hk : k < m) (hm : m ≤ 1000) : qRun d 306 [.int (qj k), .int (qj m), .ref (g.2.2.1 1000)] (qw g I) (.inl (some (.int (qj k)), qw g I)) := by
  refine qRun_of fun Q hQ => b306_0 (by omega) ?_
  simp (disch := omega) only [qz0, qj_lt]
  exact ⟨fun q => by omega, fun _ => ⟨fun _ => hQ, fun q => by omega⟩⟩
theorem c304 (hd : 2 ≤ d) {k m : Nat} (hk : k < m) (hm : m ≤ 1000) : qRun d 304 [.int (qj k), .int (qj m)] (qw g I) (.inl (none, qw g I)) :=
  qRun_of fun Q hQ => b304_0 (by omega) ⟨_, _, c306 (by omega) hk hm, hQ⟩
theorem wok {n k : Nat} (hn : n < 20) (hk : k < (wB n).length) : qok (some .char) (qj ((wB n).getD k 0 : Int)) := by
  have h := ((wB_q n hn).2.2.2 k hk).2
  show 0 ≤ (qj ((wB n).getD k 0 : Int)).toInt ∧ (qj ((wB n).getD k 0 : Int)).toInt < 128
  rw [qj_toInt (by omega) (by omega)]; omega
theorem wrow (C : qCon I) {n k : Nat} (hn : n < 20) (hk : k < (wB n).length) : I (30 + n) k = qj ((wB n).getD k 0 : Int) := by
  have h := wB_q n hn
  rw [C.2.2.1 n k hn (by rw [h.1]; exact hk)]
  exact (h.2.2.2 k hk).1
theorem c300w0 (hd : 2 ≤ d) (C : qCon I) : qRun d 300 [.ref 10] (qw g I) (.inl (some (.int (qj (((wB 0).length : Nat) : Int))), qw g I)) := qRun_of fun Q hQ => b300w0_0 (by omega) ⟨_, _, c302 (by omega) (show qisW 10 by unfold qisW; decide) (C.2.2.2 0 (by omega)), by rw [show qj 4 >>> (qj 0 &&& 31) = qj 4 from by decide]; exact hQ⟩
theorem c305w0 (hd : 3 ≤ d) (C : qCon I) {k : Nat} (hk : k < (wB 0).length) : qRun d 305 [.ref 30, .int (qj k)] (qw g I) (.inl (some (.int (qj ((wB 0).getD k 0 : Int))), qw g I)) := by
  have hl : k < 4 := hk
  have e := wrow C (n := 0) (by omega) hk
  have e2 := wch 0 (by omega) k hk
  refine qRun_of fun Q hQ => b305w0_0 (by omega) ⟨_, c304 (by omega) (m := 4) hl (by omega), qIx_z (by omega) (by omega) (by omega), ?_⟩
  rw [qj_nat (by omega), show I 30 k = I (30 + 0) k from rfl, e, e2]
  exact ⟨wok (by omega) hk, hQ⟩
theorem c301w0 (hd : 4 ≤ d) (C : qCon I) {k : Nat} (hk : k < (wB 0).length) : qRun d 301 [.ref 10, .int (qj k)] (qw g I) (.inl (some (.int (qj ((wB 0).getD k 0 : Int))), qw g I)) := qRun_of fun Q hQ => b301w0_0 (by omega) ⟨_, _, c303 (by omega) (show qisW 10 by unfold qisW; decide) (C.2.2.2 0 (by omega)), fun q => Bool.noConfusion q, fun _ => ⟨_, _, c305w0 (by omega) C hk, wok (by omega) hk, hQ⟩⟩
theorem c300w1 (hd : 2 ≤ d) (C : qCon I) : qRun d 300 [.ref 11] (qw g I) (.inl (some (.int (qj (((wB 1).length : Nat) : Int))), qw g I)) := qRun_of fun Q hQ => b300w1_0 (by omega) ⟨_, _, c302 (by omega) (show qisW 11 by unfold qisW; decide) (C.2.2.2 1 (by omega)), by rw [show qj 6 >>> (qj 0 &&& 31) = qj 6 from by decide]; exact hQ⟩
theorem c305w1 (hd : 3 ≤ d) (C : qCon I) {k : Nat} (hk : k < (wB 1).length) : qRun d 305 [.ref 31, .int (qj k)] (qw g I) (.inl (some (.int (qj ((wB 1).getD k 0 : Int))), qw g I)) := by
  have hl : k < 6 := hk
  have e := wrow C (n := 1) (by omega) hk
  have e2 := wch 1 (by omega) k hk
  refine qRun_of fun Q hQ => b305w1_0 (by omega) ⟨_, c304 (by omega) (m := 6) hl (by omega), qIx_z (by omega) (by omega) (by omega), ?_⟩
  rw [qj_nat (by omega), show I 31 k = I (30 + 1) k from rfl, e, e2]
  exact ⟨wok (by omega) hk, hQ⟩
theorem c301w1 (hd : 4 ≤ d) (C : qCon I) {k : Nat} (hk : k < (wB 1).length) : qRun d 301 [.ref 11, .int (qj k)] (qw g I) (.inl (some (.int (qj ((wB 1).getD k 0 : Int))), qw g I)) := qRun_of fun Q hQ => b301w1_0 (by omega) ⟨_, _, c303 (by omega) (show qisW 11 by unfold qisW; decide) (C.2.2.2 1 (by omega)), fun q => Bool.noConfusion q, fun _ => ⟨_, _, c305w1 (by omega) C hk, wok (by omega) hk, hQ⟩⟩
theorem c300w2 (hd : 2 ≤ d) (C : qCon I) : qRun d 300 [.ref 12] (qw g I) (.inl (some (.int (qj (((wB 2).length : Nat) : Int))), qw g I)) := qRun_of fun Q hQ => b300w2_0 (by omega) ⟨_, _, c302 (by omega) (show qisW 12 by unfold qisW; decide) (C.2.2.2 2 (by omega)), by rw [show qj 5 >>> (qj 0 &&& 31) = qj 5 from by decide]; exact hQ⟩
theorem c305w2 (hd : 3 ≤ d) (C : qCon I) {k : Nat} (hk : k < (wB 2).length) : qRun d 305 [.ref 32, .int (qj k)] (qw g I) (.inl (some (.int (qj ((wB 2).getD k 0 : Int))), qw g I)) := by
  have hl : k < 5 := hk
  have e := wrow C (n := 2) (by omega) hk
  have e2 := wch 2 (by omega) k hk
  refine qRun_of fun Q hQ => b305w2_0 (by omega) ⟨_, c304 (by omega) (m := 5) hl (by omega), qIx_z (by omega) (by omega) (by omega), ?_⟩
  rw [qj_nat (by omega), show I 32 k = I (30 + 2) k from rfl, e, e2]
  exact ⟨wok (by omega) hk, hQ⟩
theorem c301w2 (hd : 4 ≤ d) (C : qCon I) {k : Nat} (hk : k < (wB 2).length) : qRun d 301 [.ref 12, .int (qj k)] (qw g I) (.inl (some (.int (qj ((wB 2).getD k 0 : Int))), qw g I)) := qRun_of fun Q hQ => b301w2_0 (by omega) ⟨_, _, c303 (by omega) (show qisW 12 by unfold qisW; decide) (C.2.2.2 2 (by omega)), fun q => Bool.noConfusion q, fun _ => ⟨_, _, c305w2 (by omega) C hk, wok (by omega) hk, hQ⟩⟩
theorem c300w3 (hd : 2 ≤ d) (C : qCon I) : qRun d 300 [.ref 13] (qw g I) (.inl (some (.int (qj (((wB 3).length : Nat) : Int))), qw g I)) := qRun_of fun Q hQ => b300w3_0 (by omega) ⟨_, _, c302 (by omega) (show qisW 13 by unfold qisW; decide) (C.2.2.2 3 (by omega)), by rw [show qj 7 >>> (qj 0 &&& 31) = qj 7 from by decide]; exact hQ⟩
theorem c305w3 (hd : 3 ≤ d) (C : qCon I) {k : Nat} (hk : k < (wB 3).length) : qRun d 305 [.ref 33, .int (qj k)] (qw g I) (.inl (some (.int (qj ((wB 3).getD k 0 : Int))), qw g I)) := by
  have hl : k < 7 := hk
  have e := wrow C (n := 3) (by omega) hk
  have e2 := wch 3 (by omega) k hk
  refine qRun_of fun Q hQ => b305w3_0 (by omega) ⟨_, c304 (by omega) (m := 7) hl (by omega), qIx_z (by omega) (by omega) (by omega), ?_⟩
  rw [qj_nat (by omega), show I 33 k = I (30 + 3) k from rfl, e, e2]
  exact ⟨wok (by omega) hk, hQ⟩
theorem c301w3 (hd : 4 ≤ d) (C : qCon I) {k : Nat} (hk : k < (wB 3).length) : qRun d 301 [.ref 13, .int (qj k)] (qw g I) (.inl (some (.int (qj ((wB 3).getD k 0 : Int))), qw g I)) := qRun_of fun Q hQ => b301w3_0 (by omega) ⟨_, _, c303 (by omega) (show qisW 13 by unfold qisW; decide) (C.2.2.2 3 (by omega)), fun q => Bool.noConfusion q, fun _ => ⟨_, _, c305w3 (by omega) C hk, wok (by omega) hk, hQ⟩⟩
theorem c300w4 (hd : 2 ≤ d) (C : qCon I) : qRun d 300 [.ref 14] (qw g I) (.inl (some (.int (qj (((wB 4).length : Nat) : Int))), qw g I)) := qRun_of fun Q hQ => b300w4_0 (by omega) ⟨_, _, c302 (by omega) (show qisW 14 by unfold qisW; decide) (C.2.2.2 4 (by omega)), by rw [show qj 6 >>> (qj 0 &&& 31) = qj 6 from by decide]; exact hQ⟩
theorem c305w4 (hd : 3 ≤ d) (C : qCon I) {k : Nat} (hk : k < (wB 4).length) : qRun d 305 [.ref 34, .int (qj k)] (qw g I) (.inl (some (.int (qj ((wB 4).getD k 0 : Int))), qw g I)) := by
  have hl : k < 6 := hk
  have e := wrow C (n := 4) (by omega) hk
  have e2 := wch 4 (by omega) k hk
  refine qRun_of fun Q hQ => b305w4_0 (by omega) ⟨_, c304 (by omega) (m := 6) hl (by omega), qIx_z (by omega) (by omega) (by omega), ?_⟩
  rw [qj_nat (by omega), show I 34 k = I (30 + 4) k from rfl, e, e2]
  exact ⟨wok (by omega) hk, hQ⟩
theorem c301w4 (hd : 4 ≤ d) (C : qCon I) {k : Nat} (hk : k < (wB 4).length) : qRun d 301 [.ref 14, .int (qj k)] (qw g I) (.inl (some (.int (qj ((wB 4).getD k 0 : Int))), qw g I)) := qRun_of fun Q hQ => b301w4_0 (by omega) ⟨_, _, c303 (by omega) (show qisW 14 by unfold qisW; decide) (C.2.2.2 4 (by omega)), fun q => Bool.noConfusion q, fun _ => ⟨_, _, c305w4 (by omega) C hk, wok (by omega) hk, hQ⟩⟩
theorem c300w5 (hd : 2 ≤ d) (C : qCon I) : qRun d 300 [.ref 15] (qw g I) (.inl (some (.int (qj (((wB 5).length : Nat) : Int))), qw g I)) := qRun_of fun Q hQ => b300w5_0 (by omega) ⟨_, _, c302 (by omega) (show qisW 15 by unfold qisW; decide) (C.2.2.2 5 (by omega)), by rw [show qj 3 >>> (qj 0 &&& 31) = qj 3 from by decide]; exact hQ⟩
theorem c305w5 (hd : 3 ≤ d) (C : qCon I) {k : Nat} (hk : k < (wB 5).length) : qRun d 305 [.ref 35, .int (qj k)] (qw g I) (.inl (some (.int (qj ((wB 5).getD k 0 : Int))), qw g I)) := by
  have hl : k < 3 := hk
  have e := wrow C (n := 5) (by omega) hk
  have e2 := wch 5 (by omega) k hk
  refine qRun_of fun Q hQ => b305w5_0 (by omega) ⟨_, c304 (by omega) (m := 3) hl (by omega), qIx_z (by omega) (by omega) (by omega), ?_⟩
  rw [qj_nat (by omega), show I 35 k = I (30 + 5) k from rfl, e, e2]
  exact ⟨wok (by omega) hk, hQ⟩
theorem c301w5 (hd : 4 ≤ d) (C : qCon I) {k : Nat} (hk : k < (wB 5).length) : qRun d 301 [.ref 15, .int (qj k)] (qw g I) (.inl (some (.int (qj ((wB 5).getD k 0 : Int))), qw g I)) := qRun_of fun Q hQ => b301w5_0 (by omega) ⟨_, _, c303 (by omega) (show qisW 15 by unfold qisW; decide) (C.2.2.2 5 (by omega)), fun q => Bool.noConfusion q, fun _ => ⟨_, _, c305w5 (by omega) C hk, wok (by omega) hk, hQ⟩⟩
theorem c300w6 (hd : 2 ≤ d) (C : qCon I) : qRun d 300 [.ref 16] (qw g I) (.inl (some (.int (qj (((wB 6).length : Nat) : Int))), qw g I)) := qRun_of fun Q hQ => b300w6_0 (by omega) ⟨_, _, c302 (by omega) (show qisW 16 by unfold qisW; decide) (C.2.2.2 6 (by omega)), by rw [show qj 4 >>> (qj 0 &&& 31) = qj 4 from by decide]; exact hQ⟩
theorem c305w6 (hd : 3 ≤ d) (C : qCon I) {k : Nat} (hk : k < (wB 6).length) : qRun d 305 [.ref 36, .int (qj k)] (qw g I) (.inl (some (.int (qj ((wB 6).getD k 0 : Int))), qw g I)) := by
  have hl : k < 4 := hk
  have e := wrow C (n := 6) (by omega) hk
  have e2 := wch 6 (by omega) k hk
  refine qRun_of fun Q hQ => b305w6_0 (by omega) ⟨_, c304 (by omega) (m := 4) hl (by omega), qIx_z (by omega) (by omega) (by omega), ?_⟩
  rw [qj_nat (by omega), show I 36 k = I (30 + 6) k from rfl, e, e2]
  exact ⟨wok (by omega) hk, hQ⟩
theorem c301w6 (hd : 4 ≤ d) (C : qCon I) {k : Nat} (hk : k < (wB 6).length) : qRun d 301 [.ref 16, .int (qj k)] (qw g I) (.inl (some (.int (qj ((wB 6).getD k 0 : Int))), qw g I)) := qRun_of fun Q hQ => b301w6_0 (by omega) ⟨_, _, c303 (by omega) (show qisW 16 by unfold qisW; decide) (C.2.2.2 6 (by omega)), fun q => Bool.noConfusion q, fun _ => ⟨_, _, c305w6 (by omega) C hk, wok (by omega) hk, hQ⟩⟩
theorem c300w7 (hd : 2 ≤ d) (C : qCon I) : qRun d 300 [.ref 17] (qw g I) (.inl (some (.int (qj (((wB 7).length : Nat) : Int))), qw g I)) := qRun_of fun Q hQ => b300w7_0 (by omega) ⟨_, _, c302 (by omega) (show qisW 17 by unfold qisW; decide) (C.2.2.2 7 (by omega)), by rw [show qj 4 >>> (qj 0 &&& 31) = qj 4 from by decide]; exact hQ⟩
theorem c305w7 (hd : 3 ≤ d) (C : qCon I) {k : Nat} (hk : k < (wB 7).length) : qRun d 305 [.ref 37, .int (qj k)] (qw g I) (.inl (some (.int (qj ((wB 7).getD k 0 : Int))), qw g I)) := by
  have hl : k < 4 := hk
  have e := wrow C (n := 7) (by omega) hk
  have e2 := wch 7 (by omega) k hk
  refine qRun_of fun Q hQ => b305w7_0 (by omega) ⟨_, c304 (by omega) (m := 4) hl (by omega), qIx_z (by omega) (by omega) (by omega), ?_⟩
  rw [qj_nat (by omega), show I 37 k = I (30 + 7) k from rfl, e, e2]
  exact ⟨wok (by omega) hk, hQ⟩
theorem c301w7 (hd : 4 ≤ d) (C : qCon I) {k : Nat} (hk : k < (wB 7).length) : qRun d 301 [.ref 17, .int (qj k)] (qw g I) (.inl (some (.int (qj ((wB 7).getD k 0 : Int))), qw g I)) := qRun_of fun Q hQ => b301w7_0 (by omega) ⟨_, _, c303 (by omega) (show qisW 17 by unfold qisW; decide) (C.2.2.2 7 (by omega)), fun q => Bool.noConfusion q, fun _ => ⟨_, _, c305w7 (by omega) C hk, wok (by omega) hk, hQ⟩⟩
theorem c300w8 (hd : 2 ≤ d) (C : qCon I) : qRun d 300 [.ref 18] (qw g I) (.inl (some (.int (qj (((wB 8).length : Nat) : Int))), qw g I)) := qRun_of fun Q hQ => b300w8_0 (by omega) ⟨_, _, c302 (by omega) (show qisW 18 by unfold qisW; decide) (C.2.2.2 8 (by omega)), by rw [show qj 3 >>> (qj 0 &&& 31) = qj 3 from by decide]; exact hQ⟩
theorem c305w8 (hd : 3 ≤ d) (C : qCon I) {k : Nat} (hk : k < (wB 8).length) : qRun d 305 [.ref 38, .int (qj k)] (qw g I) (.inl (some (.int (qj ((wB 8).getD k 0 : Int))), qw g I)) := by
  have hl : k < 3 := hk
  have e := wrow C (n := 8) (by omega) hk
  have e2 := wch 8 (by omega) k hk
  refine qRun_of fun Q hQ => b305w8_0 (by omega) ⟨_, c304 (by omega) (m := 3) hl (by omega), qIx_z (by omega) (by omega) (by omega), ?_⟩
  rw [qj_nat (by omega), show I 38 k = I (30 + 8) k from rfl, e, e2]
  exact ⟨wok (by omega) hk, hQ⟩
theorem c301w8 (hd : 4 ≤ d) (C : qCon I) {k : Nat} (hk : k < (wB 8).length) : qRun d 301 [.ref 18, .int (qj k)] (qw g I) (.inl (some (.int (qj ((wB 8).getD k 0 : Int))), qw g I)) := qRun_of fun Q hQ => b301w8_0 (by omega) ⟨_, _, c303 (by omega) (show qisW 18 by unfold qisW; decide) (C.2.2.2 8 (by omega)), fun q => Bool.noConfusion q, fun _ => ⟨_, _, c305w8 (by omega) C hk, wok (by omega) hk, hQ⟩⟩
theorem c300w9 (hd : 2 ≤ d) (C : qCon I) : qRun d 300 [.ref 19] (qw g I) (.inl (some (.int (qj (((wB 9).length : Nat) : Int))), qw g I)) := qRun_of fun Q hQ => b300w9_0 (by omega) ⟨_, _, c302 (by omega) (show qisW 19 by unfold qisW; decide) (C.2.2.2 9 (by omega)), by rw [show qj 4 >>> (qj 0 &&& 31) = qj 4 from by decide]; exact hQ⟩
theorem c305w9 (hd : 3 ≤ d) (C : qCon I) {k : Nat} (hk : k < (wB 9).length) : qRun d 305 [.ref 39, .int (qj k)] (qw g I) (.inl (some (.int (qj ((wB 9).getD k 0 : Int))), qw g I)) := by
  have hl : k < 4 := hk
  have e := wrow C (n := 9) (by omega) hk
  have e2 := wch 9 (by omega) k hk
  refine qRun_of fun Q hQ => b305w9_0 (by omega) ⟨_, c304 (by omega) (m := 4) hl (by omega), qIx_z (by omega) (by omega) (by omega), ?_⟩
  rw [qj_nat (by omega), show I 39 k = I (30 + 9) k from rfl, e, e2]
  exact ⟨wok (by omega) hk, hQ⟩
theorem c301w9 (hd : 4 ≤ d) (C : qCon I) {k : Nat} (hk : k < (wB 9).length) : qRun d 301 [.ref 19, .int (qj k)] (qw g I) (.inl (some (.int (qj ((wB 9).getD k 0 : Int))), qw g I)) := qRun_of fun Q hQ => b301w9_0 (by omega) ⟨_, _, c303 (by omega) (show qisW 19 by unfold qisW; decide) (C.2.2.2 9 (by omega)), fun q => Bool.noConfusion q, fun _ => ⟨_, _, c305w9 (by omega) C hk, wok (by omega) hk, hQ⟩⟩
theorem c300w10 (hd : 2 ≤ d) (C : qCon I) : qRun d 300 [.ref 20] (qw g I) (.inl (some (.int (qj (((wB 10).length : Nat) : Int))), qw g I)) := qRun_of fun Q hQ => b300w10_0 (by omega) ⟨_, _, c302 (by omega) (show qisW 20 by unfold qisW; decide) (C.2.2.2 10 (by omega)), by rw [show qj 4 >>> (qj 0 &&& 31) = qj 4 from by decide]; exact hQ⟩
theorem c305w10 (hd : 3 ≤ d) (C : qCon I) {k : Nat} (hk : k < (wB 10).length) : qRun d 305 [.ref 40, .int (qj k)] (qw g I) (.inl (some (.int (qj ((wB 10).getD k 0 : Int))), qw g I)) := by
  have hl : k < 4 := hk
  have e := wrow C (n := 10) (by omega) hk
  have e2 := wch 10 (by omega) k hk
  refine qRun_of fun Q hQ => b305w10_0 (by omega) ⟨_, c304 (by omega) (m := 4) hl (by omega), qIx_z (by omega) (by omega) (by omega), ?_⟩
  rw [qj_nat (by omega), show I 40 k = I (30 + 10) k from rfl, e, e2]
  exact ⟨wok (by omega) hk, hQ⟩
theorem c301w10 (hd : 4 ≤ d) (C : qCon I) {k : Nat} (hk : k < (wB 10).length) : qRun d 301 [.ref 20, .int (qj k)] (qw g I) (.inl (some (.int (qj ((wB 10).getD k 0 : Int))), qw g I)) := qRun_of fun Q hQ => b301w10_0 (by omega) ⟨_, _, c303 (by omega) (show qisW 20 by unfold qisW; decide) (C.2.2.2 10 (by omega)), fun q => Bool.noConfusion q, fun _ => ⟨_, _, c305w10 (by omega) C hk, wok (by omega) hk, hQ⟩⟩
theorem c300w11 (hd : 2 ≤ d) (C : qCon I) : qRun d 300 [.ref 21] (qw g I) (.inl (some (.int (qj (((wB 11).length : Nat) : Int))), qw g I)) := qRun_of fun Q hQ => b300w11_0 (by omega) ⟨_, _, c302 (by omega) (show qisW 21 by unfold qisW; decide) (C.2.2.2 11 (by omega)), by rw [show qj 3 >>> (qj 0 &&& 31) = qj 3 from by decide]; exact hQ⟩
theorem c305w11 (hd : 3 ≤ d) (C : qCon I) {k : Nat} (hk : k < (wB 11).length) : qRun d 305 [.ref 41, .int (qj k)] (qw g I) (.inl (some (.int (qj ((wB 11).getD k 0 : Int))), qw g I)) := by
  have hl : k < 3 := hk
  have e := wrow C (n := 11) (by omega) hk
  have e2 := wch 11 (by omega) k hk
  refine qRun_of fun Q hQ => b305w11_0 (by omega) ⟨_, c304 (by omega) (m := 3) hl (by omega), qIx_z (by omega) (by omega) (by omega), ?_⟩
  rw [qj_nat (by omega), show I 41 k = I (30 + 11) k from rfl, e, e2]
  exact ⟨wok (by omega) hk, hQ⟩
theorem c301w11 (hd : 4 ≤ d) (C : qCon I) {k : Nat} (hk : k < (wB 11).length) : qRun d 301 [.ref 21, .int (qj k)] (qw g I) (.inl (some (.int (qj ((wB 11).getD k 0 : Int))), qw g I)) := qRun_of fun Q hQ => b301w11_0 (by omega) ⟨_, _, c303 (by omega) (show qisW 21 by unfold qisW; decide) (C.2.2.2 11 (by omega)), fun q => Bool.noConfusion q, fun _ => ⟨_, _, c305w11 (by omega) C hk, wok (by omega) hk, hQ⟩⟩
theorem c300w12 (hd : 2 ≤ d) (C : qCon I) : qRun d 300 [.ref 22] (qw g I) (.inl (some (.int (qj (((wB 12).length : Nat) : Int))), qw g I)) := qRun_of fun Q hQ => b300w12_0 (by omega) ⟨_, _, c302 (by omega) (show qisW 22 by unfold qisW; decide) (C.2.2.2 12 (by omega)), by rw [show qj 5 >>> (qj 0 &&& 31) = qj 5 from by decide]; exact hQ⟩
theorem c305w12 (hd : 3 ≤ d) (C : qCon I) {k : Nat} (hk : k < (wB 12).length) : qRun d 305 [.ref 42, .int (qj k)] (qw g I) (.inl (some (.int (qj ((wB 12).getD k 0 : Int))), qw g I)) := by
  have hl : k < 5 := hk
  have e := wrow C (n := 12) (by omega) hk
  have e2 := wch 12 (by omega) k hk
  refine qRun_of fun Q hQ => b305w12_0 (by omega) ⟨_, c304 (by omega) (m := 5) hl (by omega), qIx_z (by omega) (by omega) (by omega), ?_⟩
  rw [qj_nat (by omega), show I 42 k = I (30 + 12) k from rfl, e, e2]
  exact ⟨wok (by omega) hk, hQ⟩
theorem c301w12 (hd : 4 ≤ d) (C : qCon I) {k : Nat} (hk : k < (wB 12).length) : qRun d 301 [.ref 22, .int (qj k)] (qw g I) (.inl (some (.int (qj ((wB 12).getD k 0 : Int))), qw g I)) := qRun_of fun Q hQ => b301w12_0 (by omega) ⟨_, _, c303 (by omega) (show qisW 22 by unfold qisW; decide) (C.2.2.2 12 (by omega)), fun q => Bool.noConfusion q, fun _ => ⟨_, _, c305w12 (by omega) C hk, wok (by omega) hk, hQ⟩⟩
theorem c300w13 (hd : 2 ≤ d) (C : qCon I) : qRun d 300 [.ref 23] (qw g I) (.inl (some (.int (qj (((wB 13).length : Nat) : Int))), qw g I)) := qRun_of fun Q hQ => b300w13_0 (by omega) ⟨_, _, c302 (by omega) (show qisW 23 by unfold qisW; decide) (C.2.2.2 13 (by omega)), by rw [show qj 7 >>> (qj 0 &&& 31) = qj 7 from by decide]; exact hQ⟩
theorem c305w13 (hd : 3 ≤ d) (C : qCon I) {k : Nat} (hk : k < (wB 13).length) : qRun d 305 [.ref 43, .int (qj k)] (qw g I) (.inl (some (.int (qj ((wB 13).getD k 0 : Int))), qw g I)) := by
  have hl : k < 7 := hk
  have e := wrow C (n := 13) (by omega) hk
  have e2 := wch 13 (by omega) k hk
  refine qRun_of fun Q hQ => b305w13_0 (by omega) ⟨_, c304 (by omega) (m := 7) hl (by omega), qIx_z (by omega) (by omega) (by omega), ?_⟩
  rw [qj_nat (by omega), show I 43 k = I (30 + 13) k from rfl, e, e2]
  exact ⟨wok (by omega) hk, hQ⟩
theorem c301w13 (hd : 4 ≤ d) (C : qCon I) {k : Nat} (hk : k < (wB 13).length) : qRun d 301 [.ref 23, .int (qj k)] (qw g I) (.inl (some (.int (qj ((wB 13).getD k 0 : Int))), qw g I)) := qRun_of fun Q hQ => b301w13_0 (by omega) ⟨_, _, c303 (by omega) (show qisW 23 by unfold qisW; decide) (C.2.2.2 13 (by omega)), fun q => Bool.noConfusion q, fun _ => ⟨_, _, c305w13 (by omega) C hk, wok (by omega) hk, hQ⟩⟩
theorem c300w14 (hd : 2 ≤ d) (C : qCon I) : qRun d 300 [.ref 24] (qw g I) (.inl (some (.int (qj (((wB 14).length : Nat) : Int))), qw g I)) := qRun_of fun Q hQ => b300w14_0 (by omega) ⟨_, _, c302 (by omega) (show qisW 24 by unfold qisW; decide) (C.2.2.2 14 (by omega)), by rw [show qj 4 >>> (qj 0 &&& 31) = qj 4 from by decide]; exact hQ⟩
theorem c305w14 (hd : 3 ≤ d) (C : qCon I) {k : Nat} (hk : k < (wB 14).length) : qRun d 305 [.ref 44, .int (qj k)] (qw g I) (.inl (some (.int (qj ((wB 14).getD k 0 : Int))), qw g I)) := by
  have hl : k < 4 := hk
  have e := wrow C (n := 14) (by omega) hk
  have e2 := wch 14 (by omega) k hk
  refine qRun_of fun Q hQ => b305w14_0 (by omega) ⟨_, c304 (by omega) (m := 4) hl (by omega), qIx_z (by omega) (by omega) (by omega), ?_⟩
  rw [qj_nat (by omega), show I 44 k = I (30 + 14) k from rfl, e, e2]
  exact ⟨wok (by omega) hk, hQ⟩
theorem c301w14 (hd : 4 ≤ d) (C : qCon I) {k : Nat} (hk : k < (wB 14).length) : qRun d 301 [.ref 24, .int (qj k)] (qw g I) (.inl (some (.int (qj ((wB 14).getD k 0 : Int))), qw g I)) := qRun_of fun Q hQ => b301w14_0 (by omega) ⟨_, _, c303 (by omega) (show qisW 24 by unfold qisW; decide) (C.2.2.2 14 (by omega)), fun q => Bool.noConfusion q, fun _ => ⟨_, _, c305w14 (by omega) C hk, wok (by omega) hk, hQ⟩⟩
theorem c300w15 (hd : 2 ≤ d) (C : qCon I) : qRun d 300 [.ref 25] (qw g I) (.inl (some (.int (qj (((wB 15).length : Nat) : Int))), qw g I)) := qRun_of fun Q hQ => b300w15_0 (by omega) ⟨_, _, c302 (by omega) (show qisW 25 by unfold qisW; decide) (C.2.2.2 15 (by omega)), by rw [show qj 6 >>> (qj 0 &&& 31) = qj 6 from by decide]; exact hQ⟩
theorem c305w15 (hd : 3 ≤ d) (C : qCon I) {k : Nat} (hk : k < (wB 15).length) : qRun d 305 [.ref 45, .int (qj k)] (qw g I) (.inl (some (.int (qj ((wB 15).getD k 0 : Int))), qw g I)) := by
  have hl : k < 6 := hk
  have e := wrow C (n := 15) (by omega) hk
  have e2 := wch 15 (by omega) k hk
  refine qRun_of fun Q hQ => b305w15_0 (by omega) ⟨_, c304 (by omega) (m := 6) hl (by omega), qIx_z (by omega) (by omega) (by omega), ?_⟩
  rw [qj_nat (by omega), show I 45 k = I (30 + 15) k from rfl, e, e2]
  exact ⟨wok (by omega) hk, hQ⟩
theorem c301w15 (hd : 4 ≤ d) (C : qCon I) {k : Nat} (hk : k < (wB 15).length) : qRun d 301 [.ref 25, .int (qj k)] (qw g I) (.inl (some (.int (qj ((wB 15).getD k 0 : Int))), qw g I)) := qRun_of fun Q hQ => b301w15_0 (by omega) ⟨_, _, c303 (by omega) (show qisW 25 by unfold qisW; decide) (C.2.2.2 15 (by omega)), fun q => Bool.noConfusion q, fun _ => ⟨_, _, c305w15 (by omega) C hk, wok (by omega) hk, hQ⟩⟩
theorem c300w16 (hd : 2 ≤ d) (C : qCon I) : qRun d 300 [.ref 26] (qw g I) (.inl (some (.int (qj (((wB 16).length : Nat) : Int))), qw g I)) := qRun_of fun Q hQ => b300w16_0 (by omega) ⟨_, _, c302 (by omega) (show qisW 26 by unfold qisW; decide) (C.2.2.2 16 (by omega)), by rw [show qj 6 >>> (qj 0 &&& 31) = qj 6 from by decide]; exact hQ⟩
theorem c305w16 (hd : 3 ≤ d) (C : qCon I) {k : Nat} (hk : k < (wB 16).length) : qRun d 305 [.ref 46, .int (qj k)] (qw g I) (.inl (some (.int (qj ((wB 16).getD k 0 : Int))), qw g I)) := by
  have hl : k < 6 := hk
  have e := wrow C (n := 16) (by omega) hk
  have e2 := wch 16 (by omega) k hk
  refine qRun_of fun Q hQ => b305w16_0 (by omega) ⟨_, c304 (by omega) (m := 6) hl (by omega), qIx_z (by omega) (by omega) (by omega), ?_⟩
  rw [qj_nat (by omega), show I 46 k = I (30 + 16) k from rfl, e, e2]
  exact ⟨wok (by omega) hk, hQ⟩
theorem c301w16 (hd : 4 ≤ d) (C : qCon I) {k : Nat} (hk : k < (wB 16).length) : qRun d 301 [.ref 26, .int (qj k)] (qw g I) (.inl (some (.int (qj ((wB 16).getD k 0 : Int))), qw g I)) := qRun_of fun Q hQ => b301w16_0 (by omega) ⟨_, _, c303 (by omega) (show qisW 26 by unfold qisW; decide) (C.2.2.2 16 (by omega)), fun q => Bool.noConfusion q, fun _ => ⟨_, _, c305w16 (by omega) C hk, wok (by omega) hk, hQ⟩⟩
theorem c300w17 (hd : 2 ≤ d) (C : qCon I) : qRun d 300 [.ref 27] (qw g I) (.inl (some (.int (qj (((wB 17).length : Nat) : Int))), qw g I)) := qRun_of fun Q hQ => b300w17_0 (by omega) ⟨_, _, c302 (by omega) (show qisW 27 by unfold qisW; decide) (C.2.2.2 17 (by omega)), by rw [show qj 3 >>> (qj 0 &&& 31) = qj 3 from by decide]; exact hQ⟩
theorem c305w17 (hd : 3 ≤ d) (C : qCon I) {k : Nat} (hk : k < (wB 17).length) : qRun d 305 [.ref 47, .int (qj k)] (qw g I) (.inl (some (.int (qj ((wB 17).getD k 0 : Int))), qw g I)) := by
  have hl : k < 3 := hk
  have e := wrow C (n := 17) (by omega) hk
  have e2 := wch 17 (by omega) k hk
  refine qRun_of fun Q hQ => b305w17_0 (by omega) ⟨_, c304 (by omega) (m := 3) hl (by omega), qIx_z (by omega) (by omega) (by omega), ?_⟩
  rw [qj_nat (by omega), show I 47 k = I (30 + 17) k from rfl, e, e2]
  exact ⟨wok (by omega) hk, hQ⟩
theorem c301w17 (hd : 4 ≤ d) (C : qCon I) {k : Nat} (hk : k < (wB 17).length) : qRun d 301 [.ref 27, .int (qj k)] (qw g I) (.inl (some (.int (qj ((wB 17).getD k 0 : Int))), qw g I)) := qRun_of fun Q hQ => b301w17_0 (by omega) ⟨_, _, c303 (by omega) (show qisW 27 by unfold qisW; decide) (C.2.2.2 17 (by omega)), fun q => Bool.noConfusion q, fun _ => ⟨_, _, c305w17 (by omega) C hk, wok (by omega) hk, hQ⟩⟩
theorem c300w18 (hd : 2 ≤ d) (C : qCon I) : qRun d 300 [.ref 28] (qw g I) (.inl (some (.int (qj (((wB 18).length : Nat) : Int))), qw g I)) := qRun_of fun Q hQ => b300w18_0 (by omega) ⟨_, _, c302 (by omega) (show qisW 28 by unfold qisW; decide) (C.2.2.2 18 (by omega)), by rw [show qj 5 >>> (qj 0 &&& 31) = qj 5 from by decide]; exact hQ⟩
theorem c305w18 (hd : 3 ≤ d) (C : qCon I) {k : Nat} (hk : k < (wB 18).length) : qRun d 305 [.ref 48, .int (qj k)] (qw g I) (.inl (some (.int (qj ((wB 18).getD k 0 : Int))), qw g I)) := by
  have hl : k < 5 := hk
  have e := wrow C (n := 18) (by omega) hk
  have e2 := wch 18 (by omega) k hk
  refine qRun_of fun Q hQ => b305w18_0 (by omega) ⟨_, c304 (by omega) (m := 5) hl (by omega), qIx_z (by omega) (by omega) (by omega), ?_⟩
  rw [qj_nat (by omega), show I 48 k = I (30 + 18) k from rfl, e, e2]
  exact ⟨wok (by omega) hk, hQ⟩
theorem c301w18 (hd : 4 ≤ d) (C : qCon I) {k : Nat} (hk : k < (wB 18).length) : qRun d 301 [.ref 28, .int (qj k)] (qw g I) (.inl (some (.int (qj ((wB 18).getD k 0 : Int))), qw g I)) := qRun_of fun Q hQ => b301w18_0 (by omega) ⟨_, _, c303 (by omega) (show qisW 28 by unfold qisW; decide) (C.2.2.2 18 (by omega)), fun q => Bool.noConfusion q, fun _ => ⟨_, _, c305w18 (by omega) C hk, wok (by omega) hk, hQ⟩⟩
theorem c300w19 (hd : 2 ≤ d) (C : qCon I) : qRun d 300 [.ref 29] (qw g I) (.inl (some (.int (qj (((wB 19).length : Nat) : Int))), qw g I)) := qRun_of fun Q hQ => b300w19_0 (by omega) ⟨_, _, c302 (by omega) (show qisW 29 by unfold qisW; decide) (C.2.2.2 19 (by omega)), by rw [show qj 4 >>> (qj 0 &&& 31) = qj 4 from by decide]; exact hQ⟩
theorem c305w19 (hd : 3 ≤ d) (C : qCon I) {k : Nat} (hk : k < (wB 19).length) : qRun d 305 [.ref 49, .int (qj k)] (qw g I) (.inl (some (.int (qj ((wB 19).getD k 0 : Int))), qw g I)) := by
  have hl : k < 4 := hk
  have e := wrow C (n := 19) (by omega) hk
  have e2 := wch 19 (by omega) k hk
  refine qRun_of fun Q hQ => b305w19_0 (by omega) ⟨_, c304 (by omega) (m := 4) hl (by omega), qIx_z (by omega) (by omega) (by omega), ?_⟩
  rw [qj_nat (by omega), show I 49 k = I (30 + 19) k from rfl, e, e2]
  exact ⟨wok (by omega) hk, hQ⟩
theorem c301w19 (hd : 4 ≤ d) (C : qCon I) {k : Nat} (hk : k < (wB 19).length) : qRun d 301 [.ref 29, .int (qj k)] (qw g I) (.inl (some (.int (qj ((wB 19).getD k 0 : Int))), qw g I)) := qRun_of fun Q hQ => b301w19_0 (by omega) ⟨_, _, c303 (by omega) (show qisW 29 by unfold qisW; decide) (C.2.2.2 19 (by omega)), fun q => Bool.noConfusion q, fun _ => ⟨_, _, c305w19 (by omega) C hk, wok (by omega) hk, hQ⟩⟩
theorem w20 {n : Nat} (h : n < 20) : n = 0 ∨ n = 1 ∨ n = 2 ∨ n = 3 ∨ n = 4 ∨ n = 5 ∨ n = 6 ∨ n = 7 ∨ n = 8 ∨ n = 9 ∨ n = 10 ∨ n = 11 ∨ n = 12 ∨ n = 13 ∨ n = 14 ∨ n = 15 ∨ n = 16 ∨ n = 17 ∨ n = 18 ∨ n = 19 := by omega
theorem qisW_n {n : Nat} (h : n < 20) : qisW (10 + n) := by
  rcases w20 h with rfl | rfl | rfl | rfl | rfl | rfl | rfl | rfl | rfl | rfl | rfl | rfl | rfl | rfl | rfl | rfl | rfl | rfl | rfl | rfl <;> (unfold qisW; decide)
theorem c300 (hd : 2 ≤ d) (C : qCon I) {n : Nat} (hn : n < 20) : qRun d 300 [.ref (10 + n)] (qw g I) (.inl (some (.int (qj (((wB n).length : Nat) : Int))), qw g I)) := by
  rcases w20 hn with rfl | rfl | rfl | rfl | rfl | rfl | rfl | rfl | rfl | rfl | rfl | rfl | rfl | rfl | rfl | rfl | rfl | rfl | rfl | rfl
  · exact c300w0 hd C
  · exact c300w1 hd C
  · exact c300w2 hd C
  · exact c300w3 hd C
  · exact c300w4 hd C
  · exact c300w5 hd C
  · exact c300w6 hd C
  · exact c300w7 hd C
  · exact c300w8 hd C
  · exact c300w9 hd C
  · exact c300w10 hd C
  · exact c300w11 hd C
  · exact c300w12 hd C
  · exact c300w13 hd C
  · exact c300w14 hd C
  · exact c300w15 hd C
  · exact c300w16 hd C
  · exact c300w17 hd C
  · exact c300w18 hd C
  · exact c300w19 hd C
theorem c301 (hd : 4 ≤ d) (C : qCon I) {n : Nat} (hn : n < 20) {k : Nat} (hk : k < (wB n).length) : qRun d 301 [.ref (10 + n), .int (qj k)] (qw g I) (.inl (some (.int (qj ((wB n).getD k 0 : Int))), qw g I)) := by
  rcases w20 hn with rfl | rfl | rfl | rfl | rfl | rfl | rfl | rfl | rfl | rfl | rfl | rfl | rfl | rfl | rfl | rfl | rfl | rfl | rfl | rfl
  · exact c301w0 hd C hk
  · exact c301w1 hd C hk
  · exact c301w2 hd C hk
  · exact c301w3 hd C hk
  · exact c301w4 hd C hk
  · exact c301w5 hd C hk
  · exact c301w6 hd C hk
  · exact c301w7 hd C hk
  · exact c301w8 hd C hk
  · exact c301w9 hd C hk
  · exact c301w10 hd C hk
  · exact c301w11 hd C hk
  · exact c301w12 hd C hk
  · exact c301w13 hd C hk
  · exact c301w14 hd C hk
  · exact c301w15 hd C hk
  · exact c301w16 hd C hk
  · exact c301w17 hd C hk
  · exact c301w18 hd C hk
  · exact c301w19 hd C hk
theorem c81 (hd : 5 ≤ d) {m : Nat} (C : qCon I) (X : tX T m I i) {b : Nat} (hb : b ≤ i) (h6 : I 65 6 = qj (b : Int)) {n : Nat} (hn : n < 20) : qRun d 81 [.ref 65, .ref (10 + n)] (qw g I) (.inl (some (.int (qb (aIs T b i n))), qw g I)) := by
  have e3 := X.2.2.2.1
  have hm := X.1
  have hi := X.2.1
  obtain ⟨w1, w2, w3, w4⟩ := wB_q n hn
  have k300 := c300 (d := d - 1) (g := g) (by omega) C hn
  have es : qj (i : Int) - qj (b : Int) = qj ((i - b : Nat) : Int) := by rw [qj_sub]; congr 1; omega
  refine qRun_of fun Q hQ => b81_0 (qisW_n hn) (by omega) ⟨_, _, k300, ?_⟩
  rw [e3, h6, es]
  unfold aIs at hQ
  by_cases c : i - b = (wB n).length
  · rw [beq_iff_eq.mpr c, Bool.true_and] at hQ
    simp (disch := omega) only [qj_eq]
    refine ⟨fun _ => ?_, fun q => absurd (by omega) q⟩
    have key : ∀ k, k ≤ (wB n).length → (∀ j, j < k → T (b + j) = (wB n).getD j 0) → qwq d 81 24 [(0, .ref 65), (1, .ref (10 + n)), (2, .int (qj k))] [] (qw g I) Q := by
      refine upto _ (fun hj => b81_24 (qisW_n hn) (by omega) ⟨_, _, k300, ?_⟩) (fun k hk ih hj => b81_24 (qisW_n hn) (by omega) ⟨_, _, k300, ?_⟩)
      · have ea : anb (wB n).length (fun k => !(T (b + k) == (wB n).getD k 0)) = false := (anb_false _ _).mpr (fun k hk => by rw [hj k hk, beq_self_eq_true]; rfl)
        rw [ea] at hQ
        simp (disch := omega) only [qz0, qj_lt, qj_le, qj_eq, qtk, qfk, qbtt, qbft, qbtf, qbff, qIx_z, qj_nat, true_and, and_true, true_implies, false_implies, not_true_eq_false, not_false_eq_true, Bool.true_eq_false, Bool.false_eq_true]
        exact hQ
      · have k74 := c74 (d := d - 1) (g := g) (by omega) X (k := b + k) (by omega)
        rw [tb_i (by omega)] at k74
        have k301 := c301 (d := d - 1) (g := g) (by omega) C hn hk
        have hT := X.2.2.2.2.2 (b + k) (by omega)
        have hw := (w4 k hk).2
        simp (disch := omega) only [qz0, qj_lt, qj_le, qj_eq, qtk, qfk, qbtt, qbft, qbtf, qbff, qIx_z, qj_nat, true_and, and_true, true_implies, false_implies, not_true_eq_false, not_false_eq_true, Bool.true_eq_false, Bool.false_eq_true, h6, qj_add]
        refine ⟨_, _, k74, _, _, k301, ?_⟩
        by_cases ce : T (b + k) = (wB n).getD k 0
        · simp (disch := omega) only [qz0, qj_lt, qj_le, qj_eq, qtk, qfk, qbtt, qbft, qbtf, qbff, qIx_z, qj_nat, true_and, and_true, true_implies, false_implies, not_true_eq_false, not_false_eq_true, Bool.true_eq_false, Bool.false_eq_true, qj_add, qj_s1]
          exact ih (fun j hj2 => by
            by_cases e : j = k
            · rw [e]; exact ce
            · exact hj j (by omega))
        · have ea : anb (wB n).length (fun k => !(T (b + k) == (wB n).getD k 0)) = true := by
            cases hq : anb (wB n).length (fun k => !(T (b + k) == (wB n).getD k 0)) with
            | true => rfl
            | false =>
              have := (anb_false _ _).mp hq k hk
              rw [beq_eq_false_iff_ne.mpr ce] at this
              exact Bool.noConfusion this
          rw [ea] at hQ
          simp (disch := omega) only [qz0, qj_lt, qj_le, qj_eq, qtk, qfk, qbtt, qbft, qbtf, qbff, qIx_z, qj_nat, true_and, and_true, true_implies, false_implies, not_true_eq_false, not_false_eq_true, Bool.true_eq_false, Bool.false_eq_true]
          exact hQ
    exact key 0 (Nat.zero_le _) (fun j hj => absurd hj (Nat.not_lt_zero j))
  · rw [beq_eq_false_iff_ne.mpr c, Bool.false_and] at hQ
    simp (disch := omega) only [qj_eq]
    exact ⟨fun q => absurd (by omega) c, fun _ => hQ⟩
end WORD
