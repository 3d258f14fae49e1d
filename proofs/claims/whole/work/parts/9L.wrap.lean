/-! ===== the law's wrappers, by program (wip/whole/gen/mkwrap.py) ===== -/
theorem w307_n {d : Nat} {g g1 : qG1} {I I1 : Nat → Nat → Int32} {x1 : Int32} {v : Int32} (hd : 2 ≤ d) (h : qRun (d - 1) 86 [.ref 64, .int x1] (qw g I) (.inl (some (.int v), qw g1 I1))) : qRun d 307 [.ref 64, .int x1, .ref 694] (qw g I) (.inl (some (.int (qj 0)), qw (qgL g1 694 0 v.toInt64) I1)) := qRun_of fun Q hQ => qY_sound qU_ok (fun _ => none) 30 true ⟨by omega, rfl, qRun_to h (by
  show qwq d 307 7 [(0, .ref 64), (1, .int x1), (2, .ref 694)] [.int v, .int (qj 0), .ref 694] (qw g1 I1) Q
  exact qY_sound qU_ok (fun _ => none) 30 true ⟨qinJ_mk rfl (qIx_c (by decide) (by decide)), ⟨trivial, hQ⟩⟩)⟩
theorem w307_t1 {d : Nat} {g g1 : qG1} {I I1 : Nat → Nat → Int32} {x1 : Int32} (hd : 2 ≤ d) (h : qRun (d - 1) 86 [.ref 64, .int x1] (qw g I) (.inr (1, qw g1 I1))) : qRun d 307 [.ref 64, .int x1, .ref 694] (qw g I) (.inl (some (.int (qj 1)), qw g1 I1)) := qRun_of fun Q hQ => qY_sound qU_ok (fun _ => none) 30 true ⟨by omega, rfl, qRun_to h (by
  show qwq d 307 13 (qclr (qcut [(0, .ref 64), (1, .int x1), (2, .ref 694)] 3) 3) [] (qw g1 I1) Q
  exact qY_sound qU_ok (fun _ => none) 30 true ⟨trivial, hQ⟩)⟩
theorem w308_n {d : Nat} {g g1 : qG1} {I I1 : Nat → Nat → Int32} {x1 : Int32} {v : Int32} (hd : 2 ≤ d) (h : qRun (d - 1) 87 [.ref 64, .int x1] (qw g I) (.inl (some (.int v), qw g1 I1))) : qRun d 308 [.ref 64, .int x1, .ref 694] (qw g I) (.inl (some (.int (qj 0)), qw (qgL g1 694 0 v.toInt64) I1)) := qRun_of fun Q hQ => qY_sound qU_ok (fun _ => none) 30 true ⟨by omega, rfl, qRun_to h (by
  show qwq d 308 7 [(0, .ref 64), (1, .int x1), (2, .ref 694)] [.int v, .int (qj 0), .ref 694] (qw g1 I1) Q
  exact qY_sound qU_ok (fun _ => none) 30 true ⟨qinJ_mk rfl (qIx_c (by decide) (by decide)), ⟨trivial, hQ⟩⟩)⟩
theorem w308_t1 {d : Nat} {g g1 : qG1} {I I1 : Nat → Nat → Int32} {x1 : Int32} (hd : 2 ≤ d) (h : qRun (d - 1) 87 [.ref 64, .int x1] (qw g I) (.inr (1, qw g1 I1))) : qRun d 308 [.ref 64, .int x1, .ref 694] (qw g I) (.inl (some (.int (qj 1)), qw g1 I1)) := qRun_of fun Q hQ => qY_sound qU_ok (fun _ => none) 30 true ⟨by omega, rfl, qRun_to h (by
  show qwq d 308 13 (qclr (qcut [(0, .ref 64), (1, .int x1), (2, .ref 694)] 3) 3) [] (qw g1 I1) Q
  exact qY_sound qU_ok (fun _ => none) 30 true ⟨trivial, hQ⟩)⟩
theorem w309_n {d : Nat} {g g1 : qG1} {I I1 : Nat → Nat → Int32} {x1 : Int32} {v : Int32} (hd : 2 ≤ d) (h : qRun (d - 1) 88 [.ref 64, .int x1] (qw g I) (.inl (some (.int v), qw g1 I1))) : qRun d 309 [.ref 64, .int x1, .ref 694] (qw g I) (.inl (some (.int (qj 0)), qw (qgL g1 694 0 v.toInt64) I1)) := qRun_of fun Q hQ => qY_sound qU_ok (fun _ => none) 30 true ⟨by omega, rfl, qRun_to h (by
  show qwq d 309 7 [(0, .ref 64), (1, .int x1), (2, .ref 694)] [.int v, .int (qj 0), .ref 694] (qw g1 I1) Q
  exact qY_sound qU_ok (fun _ => none) 30 true ⟨qinJ_mk rfl (qIx_c (by decide) (by decide)), ⟨trivial, hQ⟩⟩)⟩
theorem w309_t1 {d : Nat} {g g1 : qG1} {I I1 : Nat → Nat → Int32} {x1 : Int32} (hd : 2 ≤ d) (h : qRun (d - 1) 88 [.ref 64, .int x1] (qw g I) (.inr (1, qw g1 I1))) : qRun d 309 [.ref 64, .int x1, .ref 694] (qw g I) (.inl (some (.int (qj 1)), qw g1 I1)) := qRun_of fun Q hQ => qY_sound qU_ok (fun _ => none) 30 true ⟨by omega, rfl, qRun_to h (by
  show qwq d 309 13 (qclr (qcut [(0, .ref 64), (1, .int x1), (2, .ref 694)] 3) 3) [] (qw g1 I1) Q
  exact qY_sound qU_ok (fun _ => none) 30 true ⟨trivial, hQ⟩)⟩
theorem w310_n {d : Nat} {g g1 : qG1} {I I1 : Nat → Nat → Int32} {x1 : Int32} {v : Int32} (hd : 2 ≤ d) (h : qRun (d - 1) 90 [.ref 64, .int x1] (qw g I) (.inl (some (.int v), qw g1 I1))) : qRun d 310 [.ref 64, .int x1, .ref 694] (qw g I) (.inl (some (.int (qj 0)), qw (qgL g1 694 0 v.toInt64) I1)) := qRun_of fun Q hQ => qY_sound qU_ok (fun _ => none) 30 true ⟨by omega, rfl, qRun_to h (by
  show qwq d 310 7 [(0, .ref 64), (1, .int x1), (2, .ref 694)] [.int v, .int (qj 0), .ref 694] (qw g1 I1) Q
  exact qY_sound qU_ok (fun _ => none) 30 true ⟨qinJ_mk rfl (qIx_c (by decide) (by decide)), ⟨trivial, hQ⟩⟩)⟩
theorem w310_t1 {d : Nat} {g g1 : qG1} {I I1 : Nat → Nat → Int32} {x1 : Int32} (hd : 2 ≤ d) (h : qRun (d - 1) 90 [.ref 64, .int x1] (qw g I) (.inr (1, qw g1 I1))) : qRun d 310 [.ref 64, .int x1, .ref 694] (qw g I) (.inl (some (.int (qj 1)), qw g1 I1)) := qRun_of fun Q hQ => qY_sound qU_ok (fun _ => none) 30 true ⟨by omega, rfl, qRun_to h (by
  show qwq d 310 13 (qclr (qcut [(0, .ref 64), (1, .int x1), (2, .ref 694)] 3) 3) [] (qw g1 I1) Q
  exact qY_sound qU_ok (fun _ => none) 30 true ⟨trivial, hQ⟩)⟩
theorem w311_n {d : Nat} {g g1 : qG1} {I I1 : Nat → Nat → Int32} {x1 x2 : Int32} {v : Int32} (hd : 2 ≤ d) (h : qRun (d - 1) 91 [.ref 64, .int x1, .int x2] (qw g I) (.inl (some (.int v), qw g1 I1))) : qRun d 311 [.ref 64, .int x1, .int x2, .ref 694] (qw g I) (.inl (some (.int (qj 0)), qw (qgL g1 694 0 v.toInt64) I1)) := qRun_of fun Q hQ => qY_sound qU_ok (fun _ => none) 30 true ⟨by omega, rfl, qRun_to h (by
  show qwq d 311 8 [(0, .ref 64), (1, .int x1), (2, .int x2), (3, .ref 694)] [.int v, .int (qj 0), .ref 694] (qw g1 I1) Q
  exact qY_sound qU_ok (fun _ => none) 30 true ⟨qinJ_mk rfl (qIx_c (by decide) (by decide)), ⟨trivial, hQ⟩⟩)⟩
theorem w311_t0 {d : Nat} {g g1 : qG1} {I I1 : Nat → Nat → Int32} {x1 x2 : Int32} (hd : 2 ≤ d) (h : qRun (d - 1) 91 [.ref 64, .int x1, .int x2] (qw g I) (.inr (0, qw g1 I1))) : qRun d 311 [.ref 64, .int x1, .int x2, .ref 694] (qw g I) (.inl (some (.int (qj 1)), qw g1 I1)) := qRun_of fun Q hQ => qY_sound qU_ok (fun _ => none) 30 true ⟨by omega, rfl, qRun_to h (by
  show qwq d 311 15 (qclr (qcut [(0, .ref 64), (1, .int x1), (2, .int x2), (3, .ref 694)] 4) 4) [] (qw g1 I1) Q
  exact qY_sound qU_ok (fun _ => none) 30 true ⟨trivial, hQ⟩)⟩
theorem w311_t1 {d : Nat} {g g1 : qG1} {I I1 : Nat → Nat → Int32} {x1 x2 : Int32} (hd : 2 ≤ d) (h : qRun (d - 1) 91 [.ref 64, .int x1, .int x2] (qw g I) (.inr (1, qw g1 I1))) : qRun d 311 [.ref 64, .int x1, .int x2, .ref 694] (qw g I) (.inl (some (.int (qj 2)), qw g1 I1)) := qRun_of fun Q hQ => qY_sound qU_ok (fun _ => none) 30 true ⟨by omega, rfl, qRun_to h (by
  show qwq d 311 19 (qclr (qcut [(0, .ref 64), (1, .int x1), (2, .int x2), (3, .ref 694)] 4) 4) [] (qw g1 I1) Q
  exact qY_sound qU_ok (fun _ => none) 30 true ⟨trivial, hQ⟩)⟩
theorem w312_n {d : Nat} {g g1 : qG1} {I I1 : Nat → Nat → Int32} {x1 x2 : Int32} {v : Int32} (hd : 2 ≤ d) (h : qRun (d - 1) 92 [.ref 64, .int x1, .int x2] (qw g I) (.inl (some (.int v), qw g1 I1))) : qRun d 312 [.ref 64, .int x1, .int x2, .ref 694] (qw g I) (.inl (some (.int (qj 0)), qw (qgL g1 694 0 v.toInt64) I1)) := qRun_of fun Q hQ => qY_sound qU_ok (fun _ => none) 30 true ⟨by omega, rfl, qRun_to h (by
  show qwq d 312 8 [(0, .ref 64), (1, .int x1), (2, .int x2), (3, .ref 694)] [.int v, .int (qj 0), .ref 694] (qw g1 I1) Q
  exact qY_sound qU_ok (fun _ => none) 30 true ⟨qinJ_mk rfl (qIx_c (by decide) (by decide)), ⟨trivial, hQ⟩⟩)⟩
theorem w312_t0 {d : Nat} {g g1 : qG1} {I I1 : Nat → Nat → Int32} {x1 x2 : Int32} (hd : 2 ≤ d) (h : qRun (d - 1) 92 [.ref 64, .int x1, .int x2] (qw g I) (.inr (0, qw g1 I1))) : qRun d 312 [.ref 64, .int x1, .int x2, .ref 694] (qw g I) (.inl (some (.int (qj 1)), qw g1 I1)) := qRun_of fun Q hQ => qY_sound qU_ok (fun _ => none) 30 true ⟨by omega, rfl, qRun_to h (by
  show qwq d 312 15 (qclr (qcut [(0, .ref 64), (1, .int x1), (2, .int x2), (3, .ref 694)] 4) 4) [] (qw g1 I1) Q
  exact qY_sound qU_ok (fun _ => none) 30 true ⟨trivial, hQ⟩)⟩
theorem w312_t1 {d : Nat} {g g1 : qG1} {I I1 : Nat → Nat → Int32} {x1 x2 : Int32} (hd : 2 ≤ d) (h : qRun (d - 1) 92 [.ref 64, .int x1, .int x2] (qw g I) (.inr (1, qw g1 I1))) : qRun d 312 [.ref 64, .int x1, .int x2, .ref 694] (qw g I) (.inl (some (.int (qj 2)), qw g1 I1)) := qRun_of fun Q hQ => qY_sound qU_ok (fun _ => none) 30 true ⟨by omega, rfl, qRun_to h (by
  show qwq d 312 19 (qclr (qcut [(0, .ref 64), (1, .int x1), (2, .int x2), (3, .ref 694)] 4) 4) [] (qw g1 I1) Q
  exact qY_sound qU_ok (fun _ => none) 30 true ⟨trivial, hQ⟩)⟩
theorem w313_n {d : Nat} {g g1 : qG1} {I I1 : Nat → Nat → Int32} {x1 x2 : Int32} {v : Int32} (hd : 2 ≤ d) (h : qRun (d - 1) 93 [.ref 64, .int x1, .int x2] (qw g I) (.inl (some (.int v), qw g1 I1))) : qRun d 313 [.ref 64, .int x1, .int x2, .ref 694] (qw g I) (.inl (some (.int (qj 0)), qw (qgL g1 694 0 v.toInt64) I1)) := qRun_of fun Q hQ => qY_sound qU_ok (fun _ => none) 30 true ⟨by omega, rfl, qRun_to h (by
  show qwq d 313 8 [(0, .ref 64), (1, .int x1), (2, .int x2), (3, .ref 694)] [.int v, .int (qj 0), .ref 694] (qw g1 I1) Q
  exact qY_sound qU_ok (fun _ => none) 30 true ⟨qinJ_mk rfl (qIx_c (by decide) (by decide)), ⟨trivial, hQ⟩⟩)⟩
theorem w313_t0 {d : Nat} {g g1 : qG1} {I I1 : Nat → Nat → Int32} {x1 x2 : Int32} (hd : 2 ≤ d) (h : qRun (d - 1) 93 [.ref 64, .int x1, .int x2] (qw g I) (.inr (0, qw g1 I1))) : qRun d 313 [.ref 64, .int x1, .int x2, .ref 694] (qw g I) (.inl (some (.int (qj 1)), qw g1 I1)) := qRun_of fun Q hQ => qY_sound qU_ok (fun _ => none) 30 true ⟨by omega, rfl, qRun_to h (by
  show qwq d 313 15 (qclr (qcut [(0, .ref 64), (1, .int x1), (2, .int x2), (3, .ref 694)] 4) 4) [] (qw g1 I1) Q
  exact qY_sound qU_ok (fun _ => none) 30 true ⟨trivial, hQ⟩)⟩
theorem w313_t1 {d : Nat} {g g1 : qG1} {I I1 : Nat → Nat → Int32} {x1 x2 : Int32} (hd : 2 ≤ d) (h : qRun (d - 1) 93 [.ref 64, .int x1, .int x2] (qw g I) (.inr (1, qw g1 I1))) : qRun d 313 [.ref 64, .int x1, .int x2, .ref 694] (qw g I) (.inl (some (.int (qj 2)), qw g1 I1)) := qRun_of fun Q hQ => qY_sound qU_ok (fun _ => none) 30 true ⟨by omega, rfl, qRun_to h (by
  show qwq d 313 19 (qclr (qcut [(0, .ref 64), (1, .int x1), (2, .int x2), (3, .ref 694)] 4) 4) [] (qw g1 I1) Q
  exact qY_sound qU_ok (fun _ => none) 30 true ⟨trivial, hQ⟩)⟩
theorem w314_n {d : Nat} {g g1 : qG1} {I I1 : Nat → Nat → Int32} {x1 x2 : Int32} {v : Int32} (hd : 2 ≤ d) (h : qRun (d - 1) 94 [.ref 64, .int x1, .int x2] (qw g I) (.inl (some (.int v), qw g1 I1))) : qRun d 314 [.ref 64, .int x1, .int x2, .ref 694] (qw g I) (.inl (some (.int (qj 0)), qw (qgL g1 694 0 v.toInt64) I1)) := qRun_of fun Q hQ => qY_sound qU_ok (fun _ => none) 30 true ⟨by omega, rfl, qRun_to h (by
  show qwq d 314 8 [(0, .ref 64), (1, .int x1), (2, .int x2), (3, .ref 694)] [.int v, .int (qj 0), .ref 694] (qw g1 I1) Q
  exact qY_sound qU_ok (fun _ => none) 30 true ⟨qinJ_mk rfl (qIx_c (by decide) (by decide)), ⟨trivial, hQ⟩⟩)⟩
theorem w314_t0 {d : Nat} {g g1 : qG1} {I I1 : Nat → Nat → Int32} {x1 x2 : Int32} (hd : 2 ≤ d) (h : qRun (d - 1) 94 [.ref 64, .int x1, .int x2] (qw g I) (.inr (0, qw g1 I1))) : qRun d 314 [.ref 64, .int x1, .int x2, .ref 694] (qw g I) (.inl (some (.int (qj 1)), qw g1 I1)) := qRun_of fun Q hQ => qY_sound qU_ok (fun _ => none) 30 true ⟨by omega, rfl, qRun_to h (by
  show qwq d 314 15 (qclr (qcut [(0, .ref 64), (1, .int x1), (2, .int x2), (3, .ref 694)] 4) 4) [] (qw g1 I1) Q
  exact qY_sound qU_ok (fun _ => none) 30 true ⟨trivial, hQ⟩)⟩
theorem w315_n {d : Nat} {g g1 : qG1} {I I1 : Nat → Nat → Int32} {x1 : Int32} {v : Int32} (hd : 2 ≤ d) (h : qRun (d - 1) 95 [.ref 64, .int x1] (qw g I) (.inl (some (.int v), qw g1 I1))) : qRun d 315 [.ref 64, .int x1, .ref 694] (qw g I) (.inl (some (.int (qj 0)), qw (qgL g1 694 0 v.toInt64) I1)) := qRun_of fun Q hQ => qY_sound qU_ok (fun _ => none) 30 true ⟨by omega, rfl, qRun_to h (by
  show qwq d 315 7 [(0, .ref 64), (1, .int x1), (2, .ref 694)] [.int v, .int (qj 0), .ref 694] (qw g1 I1) Q
  exact qY_sound qU_ok (fun _ => none) 30 true ⟨qinJ_mk rfl (qIx_c (by decide) (by decide)), ⟨trivial, hQ⟩⟩)⟩
theorem w315_t0 {d : Nat} {g g1 : qG1} {I I1 : Nat → Nat → Int32} {x1 : Int32} (hd : 2 ≤ d) (h : qRun (d - 1) 95 [.ref 64, .int x1] (qw g I) (.inr (0, qw g1 I1))) : qRun d 315 [.ref 64, .int x1, .ref 694] (qw g I) (.inl (some (.int (qj 1)), qw g1 I1)) := qRun_of fun Q hQ => qY_sound qU_ok (fun _ => none) 30 true ⟨by omega, rfl, qRun_to h (by
  show qwq d 315 13 (qclr (qcut [(0, .ref 64), (1, .int x1), (2, .ref 694)] 3) 3) [] (qw g1 I1) Q
  exact qY_sound qU_ok (fun _ => none) 30 true ⟨trivial, hQ⟩)⟩
theorem w316_n {d : Nat} {g g1 : qG1} {I I1 : Nat → Nat → Int32} {x1 : Int32} {v : Int32} (hd : 2 ≤ d) (h : qRun (d - 1) 96 [.ref 64, .int x1] (qw g I) (.inl (some (.int v), qw g1 I1))) : qRun d 316 [.ref 64, .int x1, .ref 694] (qw g I) (.inl (some (.int (qj 0)), qw (qgL g1 694 0 v.toInt64) I1)) := qRun_of fun Q hQ => qY_sound qU_ok (fun _ => none) 30 true ⟨by omega, rfl, qRun_to h (by
  show qwq d 316 7 [(0, .ref 64), (1, .int x1), (2, .ref 694)] [.int v, .int (qj 0), .ref 694] (qw g1 I1) Q
  exact qY_sound qU_ok (fun _ => none) 30 true ⟨qinJ_mk rfl (qIx_c (by decide) (by decide)), ⟨trivial, hQ⟩⟩)⟩
theorem w316_t1 {d : Nat} {g g1 : qG1} {I I1 : Nat → Nat → Int32} {x1 : Int32} (hd : 2 ≤ d) (h : qRun (d - 1) 96 [.ref 64, .int x1] (qw g I) (.inr (1, qw g1 I1))) : qRun d 316 [.ref 64, .int x1, .ref 694] (qw g I) (.inl (some (.int (qj 1)), qw g1 I1)) := qRun_of fun Q hQ => qY_sound qU_ok (fun _ => none) 30 true ⟨by omega, rfl, qRun_to h (by
  show qwq d 316 13 (qclr (qcut [(0, .ref 64), (1, .int x1), (2, .ref 694)] 3) 3) [] (qw g1 I1) Q
  exact qY_sound qU_ok (fun _ => none) 30 true ⟨trivial, hQ⟩)⟩
theorem w317_n {d : Nat} {g g1 : qG1} {I I1 : Nat → Nat → Int32} {x1 : Int32} {v : Int32} (hd : 2 ≤ d) (h : qRun (d - 1) 97 [.ref 64, .int x1] (qw g I) (.inl (some (.int v), qw g1 I1))) : qRun d 317 [.ref 64, .int x1, .ref 694] (qw g I) (.inl (some (.int (qj 0)), qw (qgL g1 694 0 v.toInt64) I1)) := qRun_of fun Q hQ => qY_sound qU_ok (fun _ => none) 30 true ⟨by omega, rfl, qRun_to h (by
  show qwq d 317 7 [(0, .ref 64), (1, .int x1), (2, .ref 694)] [.int v, .int (qj 0), .ref 694] (qw g1 I1) Q
  exact qY_sound qU_ok (fun _ => none) 30 true ⟨qinJ_mk rfl (qIx_c (by decide) (by decide)), ⟨trivial, hQ⟩⟩)⟩
theorem w317_t1 {d : Nat} {g g1 : qG1} {I I1 : Nat → Nat → Int32} {x1 : Int32} (hd : 2 ≤ d) (h : qRun (d - 1) 97 [.ref 64, .int x1] (qw g I) (.inr (1, qw g1 I1))) : qRun d 317 [.ref 64, .int x1, .ref 694] (qw g I) (.inl (some (.int (qj 1)), qw g1 I1)) := qRun_of fun Q hQ => qY_sound qU_ok (fun _ => none) 30 true ⟨by omega, rfl, qRun_to h (by
  show qwq d 317 13 (qclr (qcut [(0, .ref 64), (1, .int x1), (2, .ref 694)] 3) 3) [] (qw g1 I1) Q
  exact qY_sound qU_ok (fun _ => none) 30 true ⟨trivial, hQ⟩)⟩
theorem w318_n {d : Nat} {g g1 : qG1} {I I1 : Nat → Nat → Int32} {x1 x2 : Int32} {v : Int32} (hd : 2 ≤ d) (h : qRun (d - 1) 98 [.ref 64, .int x1, .int x2] (qw g I) (.inl (some (.int v), qw g1 I1))) : qRun d 318 [.ref 64, .int x1, .int x2, .ref 694] (qw g I) (.inl (some (.int (qj 0)), qw (qgL g1 694 0 v.toInt64) I1)) := qRun_of fun Q hQ => qY_sound qU_ok (fun _ => none) 30 true ⟨by omega, rfl, qRun_to h (by
  show qwq d 318 8 [(0, .ref 64), (1, .int x1), (2, .int x2), (3, .ref 694)] [.int v, .int (qj 0), .ref 694] (qw g1 I1) Q
  exact qY_sound qU_ok (fun _ => none) 30 true ⟨qinJ_mk rfl (qIx_c (by decide) (by decide)), ⟨trivial, hQ⟩⟩)⟩
theorem w318_t0 {d : Nat} {g g1 : qG1} {I I1 : Nat → Nat → Int32} {x1 x2 : Int32} (hd : 2 ≤ d) (h : qRun (d - 1) 98 [.ref 64, .int x1, .int x2] (qw g I) (.inr (0, qw g1 I1))) : qRun d 318 [.ref 64, .int x1, .int x2, .ref 694] (qw g I) (.inl (some (.int (qj 1)), qw g1 I1)) := qRun_of fun Q hQ => qY_sound qU_ok (fun _ => none) 30 true ⟨by omega, rfl, qRun_to h (by
  show qwq d 318 15 (qclr (qcut [(0, .ref 64), (1, .int x1), (2, .int x2), (3, .ref 694)] 4) 4) [] (qw g1 I1) Q
  exact qY_sound qU_ok (fun _ => none) 30 true ⟨trivial, hQ⟩)⟩
theorem w319_n {d : Nat} {g g1 : qG1} {I I1 : Nat → Nat → Int32} {x1 : Int32} {v : Int32} (hd : 2 ≤ d) (h : qRun (d - 1) 99 [.ref 64, .int x1] (qw g I) (.inl (some (.int v), qw g1 I1))) : qRun d 319 [.ref 64, .int x1, .ref 694] (qw g I) (.inl (some (.int (qj 0)), qw (qgL g1 694 0 v.toInt64) I1)) := qRun_of fun Q hQ => qY_sound qU_ok (fun _ => none) 30 true ⟨by omega, rfl, qRun_to h (by
  show qwq d 319 7 [(0, .ref 64), (1, .int x1), (2, .ref 694)] [.int v, .int (qj 0), .ref 694] (qw g1 I1) Q
  exact qY_sound qU_ok (fun _ => none) 30 true ⟨qinJ_mk rfl (qIx_c (by decide) (by decide)), ⟨trivial, hQ⟩⟩)⟩
theorem w319_t0 {d : Nat} {g g1 : qG1} {I I1 : Nat → Nat → Int32} {x1 : Int32} (hd : 2 ≤ d) (h : qRun (d - 1) 99 [.ref 64, .int x1] (qw g I) (.inr (0, qw g1 I1))) : qRun d 319 [.ref 64, .int x1, .ref 694] (qw g I) (.inl (some (.int (qj 1)), qw g1 I1)) := qRun_of fun Q hQ => qY_sound qU_ok (fun _ => none) 30 true ⟨by omega, rfl, qRun_to h (by
  show qwq d 319 13 (qclr (qcut [(0, .ref 64), (1, .int x1), (2, .ref 694)] 3) 3) [] (qw g1 I1) Q
  exact qY_sound qU_ok (fun _ => none) 30 true ⟨trivial, hQ⟩)⟩
theorem w320_n {d : Nat} {g g1 : qG1} {I I1 : Nat → Nat → Int32} {x1 x2 : Int32} {v : Int32} (hd : 2 ≤ d) (h : qRun (d - 1) 100 [.ref 64, .int x1, .int x2] (qw g I) (.inl (some (.int v), qw g1 I1))) : qRun d 320 [.ref 64, .int x1, .int x2, .ref 694] (qw g I) (.inl (some (.int (qj 0)), qw (qgL g1 694 0 v.toInt64) I1)) := qRun_of fun Q hQ => qY_sound qU_ok (fun _ => none) 30 true ⟨by omega, rfl, qRun_to h (by
  show qwq d 320 8 [(0, .ref 64), (1, .int x1), (2, .int x2), (3, .ref 694)] [.int v, .int (qj 0), .ref 694] (qw g1 I1) Q
  exact qY_sound qU_ok (fun _ => none) 30 true ⟨qinJ_mk rfl (qIx_c (by decide) (by decide)), ⟨trivial, hQ⟩⟩)⟩
theorem w320_t0 {d : Nat} {g g1 : qG1} {I I1 : Nat → Nat → Int32} {x1 x2 : Int32} (hd : 2 ≤ d) (h : qRun (d - 1) 100 [.ref 64, .int x1, .int x2] (qw g I) (.inr (0, qw g1 I1))) : qRun d 320 [.ref 64, .int x1, .int x2, .ref 694] (qw g I) (.inl (some (.int (qj 1)), qw g1 I1)) := qRun_of fun Q hQ => qY_sound qU_ok (fun _ => none) 30 true ⟨by omega, rfl, qRun_to h (by
  show qwq d 320 15 (qclr (qcut [(0, .ref 64), (1, .int x1), (2, .int x2), (3, .ref 694)] 4) 4) [] (qw g1 I1) Q
  exact qY_sound qU_ok (fun _ => none) 30 true ⟨trivial, hQ⟩)⟩
theorem w320_t1 {d : Nat} {g g1 : qG1} {I I1 : Nat → Nat → Int32} {x1 x2 : Int32} (hd : 2 ≤ d) (h : qRun (d - 1) 100 [.ref 64, .int x1, .int x2] (qw g I) (.inr (1, qw g1 I1))) : qRun d 320 [.ref 64, .int x1, .int x2, .ref 694] (qw g I) (.inl (some (.int (qj 2)), qw g1 I1)) := qRun_of fun Q hQ => qY_sound qU_ok (fun _ => none) 30 true ⟨by omega, rfl, qRun_to h (by
  show qwq d 320 19 (qclr (qcut [(0, .ref 64), (1, .int x1), (2, .int x2), (3, .ref 694)] 4) 4) [] (qw g1 I1) Q
  exact qY_sound qU_ok (fun _ => none) 30 true ⟨trivial, hQ⟩)⟩
theorem w321_n {d : Nat} {g g1 : qG1} {I I1 : Nat → Nat → Int32} {x1 x2 : Int32} {v : Int32} (hd : 2 ≤ d) (h : qRun (d - 1) 101 [.ref 64, .int x1, .int x2] (qw g I) (.inl (some (.int v), qw g1 I1))) : qRun d 321 [.ref 64, .int x1, .int x2, .ref 694] (qw g I) (.inl (some (.int (qj 0)), qw (qgL g1 694 0 v.toInt64) I1)) := qRun_of fun Q hQ => qY_sound qU_ok (fun _ => none) 30 true ⟨by omega, rfl, qRun_to h (by
  show qwq d 321 8 [(0, .ref 64), (1, .int x1), (2, .int x2), (3, .ref 694)] [.int v, .int (qj 0), .ref 694] (qw g1 I1) Q
  exact qY_sound qU_ok (fun _ => none) 30 true ⟨qinJ_mk rfl (qIx_c (by decide) (by decide)), ⟨trivial, hQ⟩⟩)⟩
theorem w321_t0 {d : Nat} {g g1 : qG1} {I I1 : Nat → Nat → Int32} {x1 x2 : Int32} (hd : 2 ≤ d) (h : qRun (d - 1) 101 [.ref 64, .int x1, .int x2] (qw g I) (.inr (0, qw g1 I1))) : qRun d 321 [.ref 64, .int x1, .int x2, .ref 694] (qw g I) (.inl (some (.int (qj 1)), qw g1 I1)) := qRun_of fun Q hQ => qY_sound qU_ok (fun _ => none) 30 true ⟨by omega, rfl, qRun_to h (by
  show qwq d 321 15 (qclr (qcut [(0, .ref 64), (1, .int x1), (2, .int x2), (3, .ref 694)] 4) 4) [] (qw g1 I1) Q
  exact qY_sound qU_ok (fun _ => none) 30 true ⟨trivial, hQ⟩)⟩
theorem w322_n {d : Nat} {g g1 : qG1} {I I1 : Nat → Nat → Int32} {x1 : Int32} {v : Int32} (hd : 2 ≤ d) (h : qRun (d - 1) 102 [.ref 64, .int x1] (qw g I) (.inl (some (.int v), qw g1 I1))) : qRun d 322 [.ref 64, .int x1, .ref 694] (qw g I) (.inl (some (.int (qj 0)), qw (qgL g1 694 0 v.toInt64) I1)) := qRun_of fun Q hQ => qY_sound qU_ok (fun _ => none) 30 true ⟨by omega, rfl, qRun_to h (by
  show qwq d 322 7 [(0, .ref 64), (1, .int x1), (2, .ref 694)] [.int v, .int (qj 0), .ref 694] (qw g1 I1) Q
  exact qY_sound qU_ok (fun _ => none) 30 true ⟨qinJ_mk rfl (qIx_c (by decide) (by decide)), ⟨trivial, hQ⟩⟩)⟩
theorem w322_t0 {d : Nat} {g g1 : qG1} {I I1 : Nat → Nat → Int32} {x1 : Int32} (hd : 2 ≤ d) (h : qRun (d - 1) 102 [.ref 64, .int x1] (qw g I) (.inr (0, qw g1 I1))) : qRun d 322 [.ref 64, .int x1, .ref 694] (qw g I) (.inl (some (.int (qj 1)), qw g1 I1)) := qRun_of fun Q hQ => qY_sound qU_ok (fun _ => none) 30 true ⟨by omega, rfl, qRun_to h (by
  show qwq d 322 13 (qclr (qcut [(0, .ref 64), (1, .int x1), (2, .ref 694)] 3) 3) [] (qw g1 I1) Q
  exact qY_sound qU_ok (fun _ => none) 30 true ⟨trivial, hQ⟩)⟩
theorem w323_n {d : Nat} {g g1 : qG1} {I I1 : Nat → Nat → Int32} {x1 : Int32} {v : Int32} (hd : 2 ≤ d) (h : qRun (d - 1) 103 [.ref 64, .int x1] (qw g I) (.inl (some (.int v), qw g1 I1))) : qRun d 323 [.ref 64, .int x1, .ref 694] (qw g I) (.inl (some (.int (qj 0)), qw (qgL g1 694 0 v.toInt64) I1)) := qRun_of fun Q hQ => qY_sound qU_ok (fun _ => none) 30 true ⟨by omega, rfl, qRun_to h (by
  show qwq d 323 7 [(0, .ref 64), (1, .int x1), (2, .ref 694)] [.int v, .int (qj 0), .ref 694] (qw g1 I1) Q
  exact qY_sound qU_ok (fun _ => none) 30 true ⟨qinJ_mk rfl (qIx_c (by decide) (by decide)), ⟨trivial, hQ⟩⟩)⟩
theorem w323_t0 {d : Nat} {g g1 : qG1} {I I1 : Nat → Nat → Int32} {x1 : Int32} (hd : 2 ≤ d) (h : qRun (d - 1) 103 [.ref 64, .int x1] (qw g I) (.inr (0, qw g1 I1))) : qRun d 323 [.ref 64, .int x1, .ref 694] (qw g I) (.inl (some (.int (qj 1)), qw g1 I1)) := qRun_of fun Q hQ => qY_sound qU_ok (fun _ => none) 30 true ⟨by omega, rfl, qRun_to h (by
  show qwq d 323 13 (qclr (qcut [(0, .ref 64), (1, .int x1), (2, .ref 694)] 3) 3) [] (qw g1 I1) Q
  exact qY_sound qU_ok (fun _ => none) 30 true ⟨trivial, hQ⟩)⟩
theorem w324_n {d : Nat} {g g1 : qG1} {I I1 : Nat → Nat → Int32} {x1 x2 : Int32} {v : Int32} (hd : 2 ≤ d) (h : qRun (d - 1) 104 [.ref 64, .int x1, .int x2] (qw g I) (.inl (some (.int v), qw g1 I1))) : qRun d 324 [.ref 64, .int x1, .int x2, .ref 694] (qw g I) (.inl (some (.int (qj 0)), qw (qgL g1 694 0 v.toInt64) I1)) := qRun_of fun Q hQ => qY_sound qU_ok (fun _ => none) 30 true ⟨by omega, rfl, qRun_to h (by
  show qwq d 324 8 [(0, .ref 64), (1, .int x1), (2, .int x2), (3, .ref 694)] [.int v, .int (qj 0), .ref 694] (qw g1 I1) Q
  exact qY_sound qU_ok (fun _ => none) 30 true ⟨qinJ_mk rfl (qIx_c (by decide) (by decide)), ⟨trivial, hQ⟩⟩)⟩
theorem w324_t0 {d : Nat} {g g1 : qG1} {I I1 : Nat → Nat → Int32} {x1 x2 : Int32} (hd : 2 ≤ d) (h : qRun (d - 1) 104 [.ref 64, .int x1, .int x2] (qw g I) (.inr (0, qw g1 I1))) : qRun d 324 [.ref 64, .int x1, .int x2, .ref 694] (qw g I) (.inl (some (.int (qj 1)), qw g1 I1)) := qRun_of fun Q hQ => qY_sound qU_ok (fun _ => none) 30 true ⟨by omega, rfl, qRun_to h (by
  show qwq d 324 15 (qclr (qcut [(0, .ref 64), (1, .int x1), (2, .int x2), (3, .ref 694)] 4) 4) [] (qw g1 I1) Q
  exact qY_sound qU_ok (fun _ => none) 30 true ⟨trivial, hQ⟩)⟩
theorem w324_t1 {d : Nat} {g g1 : qG1} {I I1 : Nat → Nat → Int32} {x1 x2 : Int32} (hd : 2 ≤ d) (h : qRun (d - 1) 104 [.ref 64, .int x1, .int x2] (qw g I) (.inr (1, qw g1 I1))) : qRun d 324 [.ref 64, .int x1, .int x2, .ref 694] (qw g I) (.inl (some (.int (qj 2)), qw g1 I1)) := qRun_of fun Q hQ => qY_sound qU_ok (fun _ => none) 30 true ⟨by omega, rfl, qRun_to h (by
  show qwq d 324 19 (qclr (qcut [(0, .ref 64), (1, .int x1), (2, .int x2), (3, .ref 694)] 4) 4) [] (qw g1 I1) Q
  exact qY_sound qU_ok (fun _ => none) 30 true ⟨trivial, hQ⟩)⟩
theorem w325_n {d : Nat} {g g1 : qG1} {I I1 : Nat → Nat → Int32} {x1 x2 x3 : Int32} {v : Int32} (hd : 2 ≤ d) (h : qRun (d - 1) 105 [.ref 64, .int x1, .int x2, .int x3] (qw g I) (.inl (some (.int v), qw g1 I1))) : qRun d 325 [.ref 64, .int x1, .int x2, .int x3, .ref 694] (qw g I) (.inl (some (.int (qj 0)), qw (qgL g1 694 0 v.toInt64) I1)) := qRun_of fun Q hQ => qY_sound qU_ok (fun _ => none) 30 true ⟨by omega, rfl, qRun_to h (by
  show qwq d 325 10 [(0, .ref 64), (1, .int x1), (2, .int x2), (3, .int x3), (4, .ref 694)] [.int v, .int (qj 0), .ref 694] (qw g1 I1) Q
  exact qY_sound qU_ok (fun _ => none) 30 true ⟨qinJ_mk rfl (qIx_c (by decide) (by decide)), ⟨trivial, hQ⟩⟩)⟩
theorem w325_t0 {d : Nat} {g g1 : qG1} {I I1 : Nat → Nat → Int32} {x1 x2 x3 : Int32} (hd : 2 ≤ d) (h : qRun (d - 1) 105 [.ref 64, .int x1, .int x2, .int x3] (qw g I) (.inr (0, qw g1 I1))) : qRun d 325 [.ref 64, .int x1, .int x2, .int x3, .ref 694] (qw g I) (.inl (some (.int (qj 1)), qw g1 I1)) := qRun_of fun Q hQ => qY_sound qU_ok (fun _ => none) 30 true ⟨by omega, rfl, qRun_to h (by
  show qwq d 325 17 (qclr (qcut [(0, .ref 64), (1, .int x1), (2, .int x2), (3, .int x3), (4, .ref 694)] 5) 5) [] (qw g1 I1) Q
  exact qY_sound qU_ok (fun _ => none) 30 true ⟨trivial, hQ⟩)⟩
theorem w326_n {d : Nat} {g g1 : qG1} {I I1 : Nat → Nat → Int32} {x1 : Int32} {v : Int32} (hd : 2 ≤ d) (h : qRun (d - 1) 106 [.ref 64, .int x1] (qw g I) (.inl (some (.int v), qw g1 I1))) : qRun d 326 [.ref 64, .int x1, .ref 694] (qw g I) (.inl (some (.int (qj 0)), qw (qgL g1 694 0 v.toInt64) I1)) := qRun_of fun Q hQ => qY_sound qU_ok (fun _ => none) 30 true ⟨by omega, rfl, qRun_to h (by
  show qwq d 326 7 [(0, .ref 64), (1, .int x1), (2, .ref 694)] [.int v, .int (qj 0), .ref 694] (qw g1 I1) Q
  exact qY_sound qU_ok (fun _ => none) 30 true ⟨qinJ_mk rfl (qIx_c (by decide) (by decide)), ⟨trivial, hQ⟩⟩)⟩
theorem w326_t0 {d : Nat} {g g1 : qG1} {I I1 : Nat → Nat → Int32} {x1 : Int32} (hd : 2 ≤ d) (h : qRun (d - 1) 106 [.ref 64, .int x1] (qw g I) (.inr (0, qw g1 I1))) : qRun d 326 [.ref 64, .int x1, .ref 694] (qw g I) (.inl (some (.int (qj 1)), qw g1 I1)) := qRun_of fun Q hQ => qY_sound qU_ok (fun _ => none) 30 true ⟨by omega, rfl, qRun_to h (by
  show qwq d 326 13 (qclr (qcut [(0, .ref 64), (1, .int x1), (2, .ref 694)] 3) 3) [] (qw g1 I1) Q
  exact qY_sound qU_ok (fun _ => none) 30 true ⟨trivial, hQ⟩)⟩
theorem w327_n {d : Nat} {g g1 : qG1} {I I1 : Nat → Nat → Int32} {x1 x2 : Int32} {v : Int32} (hd : 2 ≤ d) (h : qRun (d - 1) 107 [.ref 64, .int x1, .int x2] (qw g I) (.inl (some (.int v), qw g1 I1))) : qRun d 327 [.ref 64, .int x1, .int x2, .ref 694] (qw g I) (.inl (some (.int (qj 0)), qw (qgL g1 694 0 v.toInt64) I1)) := qRun_of fun Q hQ => qY_sound qU_ok (fun _ => none) 30 true ⟨by omega, rfl, qRun_to h (by
  show qwq d 327 8 [(0, .ref 64), (1, .int x1), (2, .int x2), (3, .ref 694)] [.int v, .int (qj 0), .ref 694] (qw g1 I1) Q
  exact qY_sound qU_ok (fun _ => none) 30 true ⟨qinJ_mk rfl (qIx_c (by decide) (by decide)), ⟨trivial, hQ⟩⟩)⟩
theorem w327_t0 {d : Nat} {g g1 : qG1} {I I1 : Nat → Nat → Int32} {x1 x2 : Int32} (hd : 2 ≤ d) (h : qRun (d - 1) 107 [.ref 64, .int x1, .int x2] (qw g I) (.inr (0, qw g1 I1))) : qRun d 327 [.ref 64, .int x1, .int x2, .ref 694] (qw g I) (.inl (some (.int (qj 1)), qw g1 I1)) := qRun_of fun Q hQ => qY_sound qU_ok (fun _ => none) 30 true ⟨by omega, rfl, qRun_to h (by
  show qwq d 327 15 (qclr (qcut [(0, .ref 64), (1, .int x1), (2, .int x2), (3, .ref 694)] 4) 4) [] (qw g1 I1) Q
  exact qY_sound qU_ok (fun _ => none) 30 true ⟨trivial, hQ⟩)⟩
theorem w328_n {d : Nat} {g g1 : qG1} {I I1 : Nat → Nat → Int32} {x1 : Int32} {v : Int32} (hd : 2 ≤ d) (h : qRun (d - 1) 108 [.ref 64, .int x1] (qw g I) (.inl (some (.int v), qw g1 I1))) : qRun d 328 [.ref 64, .int x1, .ref 694] (qw g I) (.inl (some (.int (qj 0)), qw (qgL g1 694 0 v.toInt64) I1)) := qRun_of fun Q hQ => qY_sound qU_ok (fun _ => none) 30 true ⟨by omega, rfl, qRun_to h (by
  show qwq d 328 7 [(0, .ref 64), (1, .int x1), (2, .ref 694)] [.int v, .int (qj 0), .ref 694] (qw g1 I1) Q
  exact qY_sound qU_ok (fun _ => none) 30 true ⟨qinJ_mk rfl (qIx_c (by decide) (by decide)), ⟨trivial, hQ⟩⟩)⟩
theorem w328_t0 {d : Nat} {g g1 : qG1} {I I1 : Nat → Nat → Int32} {x1 : Int32} (hd : 2 ≤ d) (h : qRun (d - 1) 108 [.ref 64, .int x1] (qw g I) (.inr (0, qw g1 I1))) : qRun d 328 [.ref 64, .int x1, .ref 694] (qw g I) (.inl (some (.int (qj 1)), qw g1 I1)) := qRun_of fun Q hQ => qY_sound qU_ok (fun _ => none) 30 true ⟨by omega, rfl, qRun_to h (by
  show qwq d 328 13 (qclr (qcut [(0, .ref 64), (1, .int x1), (2, .ref 694)] 3) 3) [] (qw g1 I1) Q
  exact qY_sound qU_ok (fun _ => none) 30 true ⟨trivial, hQ⟩)⟩
theorem w329_n {d : Nat} {g g1 : qG1} {I I1 : Nat → Nat → Int32} {x1 : Int32} {v : Int32} (hd : 2 ≤ d) (h : qRun (d - 1) 110 [.ref 64, .int x1] (qw g I) (.inl (some (.int v), qw g1 I1))) : qRun d 329 [.ref 64, .int x1, .ref 694] (qw g I) (.inl (some (.int (qj 0)), qw (qgL g1 694 0 v.toInt64) I1)) := qRun_of fun Q hQ => qY_sound qU_ok (fun _ => none) 30 true ⟨by omega, rfl, qRun_to h (by
  show qwq d 329 7 [(0, .ref 64), (1, .int x1), (2, .ref 694)] [.int v, .int (qj 0), .ref 694] (qw g1 I1) Q
  exact qY_sound qU_ok (fun _ => none) 30 true ⟨qinJ_mk rfl (qIx_c (by decide) (by decide)), ⟨trivial, hQ⟩⟩)⟩
theorem w329_t0 {d : Nat} {g g1 : qG1} {I I1 : Nat → Nat → Int32} {x1 : Int32} (hd : 2 ≤ d) (h : qRun (d - 1) 110 [.ref 64, .int x1] (qw g I) (.inr (0, qw g1 I1))) : qRun d 329 [.ref 64, .int x1, .ref 694] (qw g I) (.inl (some (.int (qj 1)), qw g1 I1)) := qRun_of fun Q hQ => qY_sound qU_ok (fun _ => none) 30 true ⟨by omega, rfl, qRun_to h (by
  show qwq d 329 13 (qclr (qcut [(0, .ref 64), (1, .int x1), (2, .ref 694)] 3) 3) [] (qw g1 I1) Q
  exact qY_sound qU_ok (fun _ => none) 30 true ⟨trivial, hQ⟩)⟩
theorem w330_n {d : Nat} {g g1 : qG1} {I I1 : Nat → Nat → Int32} {x1 x2 : Int32} {v : Int32} (hd : 2 ≤ d) (h : qRun (d - 1) 115 [.ref 64, .int x1, .int x2] (qw g I) (.inl (some (.int v), qw g1 I1))) : qRun d 330 [.ref 64, .int x1, .int x2, .ref 694] (qw g I) (.inl (some (.int (qj 0)), qw (qgL g1 694 0 v.toInt64) I1)) := qRun_of fun Q hQ => qY_sound qU_ok (fun _ => none) 30 true ⟨by omega, rfl, qRun_to h (by
  show qwq d 330 8 [(0, .ref 64), (1, .int x1), (2, .int x2), (3, .ref 694)] [.int v, .int (qj 0), .ref 694] (qw g1 I1) Q
  exact qY_sound qU_ok (fun _ => none) 30 true ⟨qinJ_mk rfl (qIx_c (by decide) (by decide)), ⟨trivial, hQ⟩⟩)⟩
theorem w330_t0 {d : Nat} {g g1 : qG1} {I I1 : Nat → Nat → Int32} {x1 x2 : Int32} (hd : 2 ≤ d) (h : qRun (d - 1) 115 [.ref 64, .int x1, .int x2] (qw g I) (.inr (0, qw g1 I1))) : qRun d 330 [.ref 64, .int x1, .int x2, .ref 694] (qw g I) (.inl (some (.int (qj 1)), qw g1 I1)) := qRun_of fun Q hQ => qY_sound qU_ok (fun _ => none) 30 true ⟨by omega, rfl, qRun_to h (by
  show qwq d 330 15 (qclr (qcut [(0, .ref 64), (1, .int x1), (2, .int x2), (3, .ref 694)] 4) 4) [] (qw g1 I1) Q
  exact qY_sound qU_ok (fun _ => none) 30 true ⟨trivial, hQ⟩)⟩
theorem w331_n {d : Nat} {g g1 : qG1} {I I1 : Nat → Nat → Int32} {x1 x2 : Int32} {v : Int32} (hd : 2 ≤ d) (h : qRun (d - 1) 116 [.ref 64, .int x1, .int x2] (qw g I) (.inl (some (.int v), qw g1 I1))) : qRun d 331 [.ref 64, .int x1, .int x2, .ref 694] (qw g I) (.inl (some (.int (qj 0)), qw (qgL g1 694 0 v.toInt64) I1)) := qRun_of fun Q hQ => qY_sound qU_ok (fun _ => none) 30 true ⟨by omega, rfl, qRun_to h (by
  show qwq d 331 8 [(0, .ref 64), (1, .int x1), (2, .int x2), (3, .ref 694)] [.int v, .int (qj 0), .ref 694] (qw g1 I1) Q
  exact qY_sound qU_ok (fun _ => none) 30 true ⟨qinJ_mk rfl (qIx_c (by decide) (by decide)), ⟨trivial, hQ⟩⟩)⟩
theorem w331_t0 {d : Nat} {g g1 : qG1} {I I1 : Nat → Nat → Int32} {x1 x2 : Int32} (hd : 2 ≤ d) (h : qRun (d - 1) 116 [.ref 64, .int x1, .int x2] (qw g I) (.inr (0, qw g1 I1))) : qRun d 331 [.ref 64, .int x1, .int x2, .ref 694] (qw g I) (.inl (some (.int (qj 1)), qw g1 I1)) := qRun_of fun Q hQ => qY_sound qU_ok (fun _ => none) 30 true ⟨by omega, rfl, qRun_to h (by
  show qwq d 331 15 (qclr (qcut [(0, .ref 64), (1, .int x1), (2, .int x2), (3, .ref 694)] 4) 4) [] (qw g1 I1) Q
  exact qY_sound qU_ok (fun _ => none) 30 true ⟨trivial, hQ⟩)⟩
theorem w331_t1 {d : Nat} {g g1 : qG1} {I I1 : Nat → Nat → Int32} {x1 x2 : Int32} (hd : 2 ≤ d) (h : qRun (d - 1) 116 [.ref 64, .int x1, .int x2] (qw g I) (.inr (1, qw g1 I1))) : qRun d 331 [.ref 64, .int x1, .int x2, .ref 694] (qw g I) (.inl (some (.int (qj 2)), qw g1 I1)) := qRun_of fun Q hQ => qY_sound qU_ok (fun _ => none) 30 true ⟨by omega, rfl, qRun_to h (by
  show qwq d 331 19 (qclr (qcut [(0, .ref 64), (1, .int x1), (2, .int x2), (3, .ref 694)] 4) 4) [] (qw g1 I1) Q
  exact qY_sound qU_ok (fun _ => none) 30 true ⟨trivial, hQ⟩)⟩
theorem w332_n {d : Nat} {g g1 : qG1} {I I1 : Nat → Nat → Int32} {x1 : Int32} {v : Int32} (hd : 2 ≤ d) (h : qRun (d - 1) 118 [.ref 64, .int x1] (qw g I) (.inl (some (.int v), qw g1 I1))) : qRun d 332 [.ref 64, .int x1, .ref 694] (qw g I) (.inl (some (.int (qj 0)), qw (qgL g1 694 0 v.toInt64) I1)) := qRun_of fun Q hQ => qY_sound qU_ok (fun _ => none) 30 true ⟨by omega, rfl, qRun_to h (by
  show qwq d 332 7 [(0, .ref 64), (1, .int x1), (2, .ref 694)] [.int v, .int (qj 0), .ref 694] (qw g1 I1) Q
  exact qY_sound qU_ok (fun _ => none) 30 true ⟨qinJ_mk rfl (qIx_c (by decide) (by decide)), ⟨trivial, hQ⟩⟩)⟩
theorem w332_t0 {d : Nat} {g g1 : qG1} {I I1 : Nat → Nat → Int32} {x1 : Int32} (hd : 2 ≤ d) (h : qRun (d - 1) 118 [.ref 64, .int x1] (qw g I) (.inr (0, qw g1 I1))) : qRun d 332 [.ref 64, .int x1, .ref 694] (qw g I) (.inl (some (.int (qj 1)), qw g1 I1)) := qRun_of fun Q hQ => qY_sound qU_ok (fun _ => none) 30 true ⟨by omega, rfl, qRun_to h (by
  show qwq d 332 13 (qclr (qcut [(0, .ref 64), (1, .int x1), (2, .ref 694)] 3) 3) [] (qw g1 I1) Q
  exact qY_sound qU_ok (fun _ => none) 30 true ⟨trivial, hQ⟩)⟩
theorem w333_n {d : Nat} {g g1 : qG1} {I I1 : Nat → Nat → Int32} {x1 : Int32} {v : Int32} (hd : 2 ≤ d) (h : qRun (d - 1) 120 [.ref 64, .int x1] (qw g I) (.inl (some (.int v), qw g1 I1))) : qRun d 333 [.ref 64, .int x1, .ref 694] (qw g I) (.inl (some (.int (qj 0)), qw (qgL g1 694 0 v.toInt64) I1)) := qRun_of fun Q hQ => qY_sound qU_ok (fun _ => none) 30 true ⟨by omega, rfl, qRun_to h (by
  show qwq d 333 7 [(0, .ref 64), (1, .int x1), (2, .ref 694)] [.int v, .int (qj 0), .ref 694] (qw g1 I1) Q
  exact qY_sound qU_ok (fun _ => none) 30 true ⟨qinJ_mk rfl (qIx_c (by decide) (by decide)), ⟨trivial, hQ⟩⟩)⟩
theorem w333_t0 {d : Nat} {g g1 : qG1} {I I1 : Nat → Nat → Int32} {x1 : Int32} (hd : 2 ≤ d) (h : qRun (d - 1) 120 [.ref 64, .int x1] (qw g I) (.inr (0, qw g1 I1))) : qRun d 333 [.ref 64, .int x1, .ref 694] (qw g I) (.inl (some (.int (qj 1)), qw g1 I1)) := qRun_of fun Q hQ => qY_sound qU_ok (fun _ => none) 30 true ⟨by omega, rfl, qRun_to h (by
  show qwq d 333 13 (qclr (qcut [(0, .ref 64), (1, .int x1), (2, .ref 694)] 3) 3) [] (qw g1 I1) Q
  exact qY_sound qU_ok (fun _ => none) 30 true ⟨trivial, hQ⟩)⟩
theorem w334_n {d : Nat} {g g1 : qG1} {I I1 : Nat → Nat → Int32} {x1 : Int32} {v : Int32} (hd : 2 ≤ d) (h : qRun (d - 1) 121 [.ref 64, .int x1] (qw g I) (.inl (some (.int v), qw g1 I1))) : qRun d 334 [.ref 64, .int x1, .ref 694] (qw g I) (.inl (some (.int (qj 0)), qw (qgL g1 694 0 v.toInt64) I1)) := qRun_of fun Q hQ => qY_sound qU_ok (fun _ => none) 30 true ⟨by omega, rfl, qRun_to h (by
  show qwq d 334 7 [(0, .ref 64), (1, .int x1), (2, .ref 694)] [.int v, .int (qj 0), .ref 694] (qw g1 I1) Q
  exact qY_sound qU_ok (fun _ => none) 30 true ⟨qinJ_mk rfl (qIx_c (by decide) (by decide)), ⟨trivial, hQ⟩⟩)⟩
theorem w334_t1 {d : Nat} {g g1 : qG1} {I I1 : Nat → Nat → Int32} {x1 : Int32} (hd : 2 ≤ d) (h : qRun (d - 1) 121 [.ref 64, .int x1] (qw g I) (.inr (1, qw g1 I1))) : qRun d 334 [.ref 64, .int x1, .ref 694] (qw g I) (.inl (some (.int (qj 1)), qw g1 I1)) := qRun_of fun Q hQ => qY_sound qU_ok (fun _ => none) 30 true ⟨by omega, rfl, qRun_to h (by
  show qwq d 334 13 (qclr (qcut [(0, .ref 64), (1, .int x1), (2, .ref 694)] 3) 3) [] (qw g1 I1) Q
  exact qY_sound qU_ok (fun _ => none) 30 true ⟨trivial, hQ⟩)⟩
theorem w335_n {d : Nat} {g g1 : qG1} {I I1 : Nat → Nat → Int32} {x1 x2 x3 : Int32} {v : Int32} (hd : 2 ≤ d) (h : qRun (d - 1) 122 [.ref 64, .int x1, .int x2, .int x3] (qw g I) (.inl (some (.int v), qw g1 I1))) : qRun d 335 [.ref 64, .int x1, .int x2, .int x3, .ref 694] (qw g I) (.inl (some (.int (qj 0)), qw (qgL g1 694 0 v.toInt64) I1)) := qRun_of fun Q hQ => qY_sound qU_ok (fun _ => none) 30 true ⟨by omega, rfl, qRun_to h (by
  show qwq d 335 10 [(0, .ref 64), (1, .int x1), (2, .int x2), (3, .int x3), (4, .ref 694)] [.int v, .int (qj 0), .ref 694] (qw g1 I1) Q
  exact qY_sound qU_ok (fun _ => none) 30 true ⟨qinJ_mk rfl (qIx_c (by decide) (by decide)), ⟨trivial, hQ⟩⟩)⟩
theorem w335_t0 {d : Nat} {g g1 : qG1} {I I1 : Nat → Nat → Int32} {x1 x2 x3 : Int32} (hd : 2 ≤ d) (h : qRun (d - 1) 122 [.ref 64, .int x1, .int x2, .int x3] (qw g I) (.inr (0, qw g1 I1))) : qRun d 335 [.ref 64, .int x1, .int x2, .int x3, .ref 694] (qw g I) (.inl (some (.int (qj 1)), qw g1 I1)) := qRun_of fun Q hQ => qY_sound qU_ok (fun _ => none) 30 true ⟨by omega, rfl, qRun_to h (by
  show qwq d 335 17 (qclr (qcut [(0, .ref 64), (1, .int x1), (2, .int x2), (3, .int x3), (4, .ref 694)] 5) 5) [] (qw g1 I1) Q
  exact qY_sound qU_ok (fun _ => none) 30 true ⟨trivial, hQ⟩)⟩
theorem w335_t1 {d : Nat} {g g1 : qG1} {I I1 : Nat → Nat → Int32} {x1 x2 x3 : Int32} (hd : 2 ≤ d) (h : qRun (d - 1) 122 [.ref 64, .int x1, .int x2, .int x3] (qw g I) (.inr (1, qw g1 I1))) : qRun d 335 [.ref 64, .int x1, .int x2, .int x3, .ref 694] (qw g I) (.inl (some (.int (qj 2)), qw g1 I1)) := qRun_of fun Q hQ => qY_sound qU_ok (fun _ => none) 30 true ⟨by omega, rfl, qRun_to h (by
  show qwq d 335 21 (qclr (qcut [(0, .ref 64), (1, .int x1), (2, .int x2), (3, .int x3), (4, .ref 694)] 5) 5) [] (qw g1 I1) Q
  exact qY_sound qU_ok (fun _ => none) 30 true ⟨trivial, hQ⟩)⟩
theorem w336_n {d : Nat} {g g1 : qG1} {I I1 : Nat → Nat → Int32} {x1 x2 : Int32} {v : Int32} (hd : 2 ≤ d) (h : qRun (d - 1) 123 [.ref 64, .int x1, .int x2] (qw g I) (.inl (some (.int v), qw g1 I1))) : qRun d 336 [.ref 64, .int x1, .int x2, .ref 694] (qw g I) (.inl (some (.int (qj 0)), qw (qgL g1 694 0 v.toInt64) I1)) := qRun_of fun Q hQ => qY_sound qU_ok (fun _ => none) 30 true ⟨by omega, rfl, qRun_to h (by
  show qwq d 336 8 [(0, .ref 64), (1, .int x1), (2, .int x2), (3, .ref 694)] [.int v, .int (qj 0), .ref 694] (qw g1 I1) Q
  exact qY_sound qU_ok (fun _ => none) 30 true ⟨qinJ_mk rfl (qIx_c (by decide) (by decide)), ⟨trivial, hQ⟩⟩)⟩
theorem w336_t0 {d : Nat} {g g1 : qG1} {I I1 : Nat → Nat → Int32} {x1 x2 : Int32} (hd : 2 ≤ d) (h : qRun (d - 1) 123 [.ref 64, .int x1, .int x2] (qw g I) (.inr (0, qw g1 I1))) : qRun d 336 [.ref 64, .int x1, .int x2, .ref 694] (qw g I) (.inl (some (.int (qj 1)), qw g1 I1)) := qRun_of fun Q hQ => qY_sound qU_ok (fun _ => none) 30 true ⟨by omega, rfl, qRun_to h (by
  show qwq d 336 15 (qclr (qcut [(0, .ref 64), (1, .int x1), (2, .int x2), (3, .ref 694)] 4) 4) [] (qw g1 I1) Q
  exact qY_sound qU_ok (fun _ => none) 30 true ⟨trivial, hQ⟩)⟩
theorem w337_n {d : Nat} {g g1 : qG1} {I I1 : Nat → Nat → Int32} {x1 : Int32} {v : Int32} (hd : 2 ≤ d) (h : qRun (d - 1) 124 [.ref 64, .int x1] (qw g I) (.inl (some (.int v), qw g1 I1))) : qRun d 337 [.ref 64, .int x1, .ref 694] (qw g I) (.inl (some (.int (qj 0)), qw (qgL g1 694 0 v.toInt64) I1)) := qRun_of fun Q hQ => qY_sound qU_ok (fun _ => none) 30 true ⟨by omega, rfl, qRun_to h (by
  show qwq d 337 7 [(0, .ref 64), (1, .int x1), (2, .ref 694)] [.int v, .int (qj 0), .ref 694] (qw g1 I1) Q
  exact qY_sound qU_ok (fun _ => none) 30 true ⟨qinJ_mk rfl (qIx_c (by decide) (by decide)), ⟨trivial, hQ⟩⟩)⟩
theorem w337_t0 {d : Nat} {g g1 : qG1} {I I1 : Nat → Nat → Int32} {x1 : Int32} (hd : 2 ≤ d) (h : qRun (d - 1) 124 [.ref 64, .int x1] (qw g I) (.inr (0, qw g1 I1))) : qRun d 337 [.ref 64, .int x1, .ref 694] (qw g I) (.inl (some (.int (qj 1)), qw g1 I1)) := qRun_of fun Q hQ => qY_sound qU_ok (fun _ => none) 30 true ⟨by omega, rfl, qRun_to h (by
  show qwq d 337 13 (qclr (qcut [(0, .ref 64), (1, .int x1), (2, .ref 694)] 3) 3) [] (qw g1 I1) Q
  exact qY_sound qU_ok (fun _ => none) 30 true ⟨trivial, hQ⟩)⟩
theorem w338_n {d : Nat} {g g1 : qG1} {I I1 : Nat → Nat → Int32} {x1 x2 : Int32} {v : Int32} (hd : 2 ≤ d) (h : qRun (d - 1) 125 [.ref 64, .int x1, .int x2] (qw g I) (.inl (some (.int v), qw g1 I1))) : qRun d 338 [.ref 64, .int x1, .int x2, .ref 694] (qw g I) (.inl (some (.int (qj 0)), qw (qgL g1 694 0 v.toInt64) I1)) := qRun_of fun Q hQ => qY_sound qU_ok (fun _ => none) 30 true ⟨by omega, rfl, qRun_to h (by
  show qwq d 338 8 [(0, .ref 64), (1, .int x1), (2, .int x2), (3, .ref 694)] [.int v, .int (qj 0), .ref 694] (qw g1 I1) Q
  exact qY_sound qU_ok (fun _ => none) 30 true ⟨qinJ_mk rfl (qIx_c (by decide) (by decide)), ⟨trivial, hQ⟩⟩)⟩
theorem w338_t0 {d : Nat} {g g1 : qG1} {I I1 : Nat → Nat → Int32} {x1 x2 : Int32} (hd : 2 ≤ d) (h : qRun (d - 1) 125 [.ref 64, .int x1, .int x2] (qw g I) (.inr (0, qw g1 I1))) : qRun d 338 [.ref 64, .int x1, .int x2, .ref 694] (qw g I) (.inl (some (.int (qj 1)), qw g1 I1)) := qRun_of fun Q hQ => qY_sound qU_ok (fun _ => none) 30 true ⟨by omega, rfl, qRun_to h (by
  show qwq d 338 15 (qclr (qcut [(0, .ref 64), (1, .int x1), (2, .int x2), (3, .ref 694)] 4) 4) [] (qw g1 I1) Q
  exact qY_sound qU_ok (fun _ => none) 30 true ⟨trivial, hQ⟩)⟩
theorem w339_n {d : Nat} {g g1 : qG1} {I I1 : Nat → Nat → Int32} {x1 x2 : Int32} {v : Int32} (hd : 2 ≤ d) (h : qRun (d - 1) 128 [.ref 64, .int x1, .int x2] (qw g I) (.inl (some (.int v), qw g1 I1))) : qRun d 339 [.ref 64, .int x1, .int x2, .ref 694] (qw g I) (.inl (some (.int (qj 0)), qw (qgL g1 694 0 v.toInt64) I1)) := qRun_of fun Q hQ => qY_sound qU_ok (fun _ => none) 30 true ⟨by omega, rfl, qRun_to h (by
  show qwq d 339 8 [(0, .ref 64), (1, .int x1), (2, .int x2), (3, .ref 694)] [.int v, .int (qj 0), .ref 694] (qw g1 I1) Q
  exact qY_sound qU_ok (fun _ => none) 30 true ⟨qinJ_mk rfl (qIx_c (by decide) (by decide)), ⟨trivial, hQ⟩⟩)⟩
theorem w339_t0 {d : Nat} {g g1 : qG1} {I I1 : Nat → Nat → Int32} {x1 x2 : Int32} (hd : 2 ≤ d) (h : qRun (d - 1) 128 [.ref 64, .int x1, .int x2] (qw g I) (.inr (0, qw g1 I1))) : qRun d 339 [.ref 64, .int x1, .int x2, .ref 694] (qw g I) (.inl (some (.int (qj 1)), qw g1 I1)) := qRun_of fun Q hQ => qY_sound qU_ok (fun _ => none) 30 true ⟨by omega, rfl, qRun_to h (by
  show qwq d 339 15 (qclr (qcut [(0, .ref 64), (1, .int x1), (2, .int x2), (3, .ref 694)] 4) 4) [] (qw g1 I1) Q
  exact qY_sound qU_ok (fun _ => none) 30 true ⟨trivial, hQ⟩)⟩
theorem w340_n {d : Nat} {g g1 : qG1} {I I1 : Nat → Nat → Int32} {x1 : Int32} {v : Int32} (hd : 2 ≤ d) (h : qRun (d - 1) 130 [.ref 64, .int x1] (qw g I) (.inl (some (.int v), qw g1 I1))) : qRun d 340 [.ref 64, .int x1, .ref 694] (qw g I) (.inl (some (.int (qj 0)), qw (qgL g1 694 0 v.toInt64) I1)) := qRun_of fun Q hQ => qY_sound qU_ok (fun _ => none) 30 true ⟨by omega, rfl, qRun_to h (by
  show qwq d 340 7 [(0, .ref 64), (1, .int x1), (2, .ref 694)] [.int v, .int (qj 0), .ref 694] (qw g1 I1) Q
  exact qY_sound qU_ok (fun _ => none) 30 true ⟨qinJ_mk rfl (qIx_c (by decide) (by decide)), ⟨trivial, hQ⟩⟩)⟩
theorem w340_t1 {d : Nat} {g g1 : qG1} {I I1 : Nat → Nat → Int32} {x1 : Int32} (hd : 2 ≤ d) (h : qRun (d - 1) 130 [.ref 64, .int x1] (qw g I) (.inr (1, qw g1 I1))) : qRun d 340 [.ref 64, .int x1, .ref 694] (qw g I) (.inl (some (.int (qj 1)), qw g1 I1)) := qRun_of fun Q hQ => qY_sound qU_ok (fun _ => none) 30 true ⟨by omega, rfl, qRun_to h (by
  show qwq d 340 13 (qclr (qcut [(0, .ref 64), (1, .int x1), (2, .ref 694)] 3) 3) [] (qw g1 I1) Q
  exact qY_sound qU_ok (fun _ => none) 30 true ⟨trivial, hQ⟩)⟩
theorem w341_n {d : Nat} {g g1 : qG1} {I I1 : Nat → Nat → Int32} {x1 : Int32} {v : Int32} (hd : 2 ≤ d) (h : qRun (d - 1) 131 [.ref 64, .int x1] (qw g I) (.inl (some (.int v), qw g1 I1))) : qRun d 341 [.ref 64, .int x1, .ref 694] (qw g I) (.inl (some (.int (qj 0)), qw (qgL g1 694 0 v.toInt64) I1)) := qRun_of fun Q hQ => qY_sound qU_ok (fun _ => none) 30 true ⟨by omega, rfl, qRun_to h (by
  show qwq d 341 7 [(0, .ref 64), (1, .int x1), (2, .ref 694)] [.int v, .int (qj 0), .ref 694] (qw g1 I1) Q
  exact qY_sound qU_ok (fun _ => none) 30 true ⟨qinJ_mk rfl (qIx_c (by decide) (by decide)), ⟨trivial, hQ⟩⟩)⟩
theorem w341_t0 {d : Nat} {g g1 : qG1} {I I1 : Nat → Nat → Int32} {x1 : Int32} (hd : 2 ≤ d) (h : qRun (d - 1) 131 [.ref 64, .int x1] (qw g I) (.inr (0, qw g1 I1))) : qRun d 341 [.ref 64, .int x1, .ref 694] (qw g I) (.inl (some (.int (qj 1)), qw g1 I1)) := qRun_of fun Q hQ => qY_sound qU_ok (fun _ => none) 30 true ⟨by omega, rfl, qRun_to h (by
  show qwq d 341 13 (qclr (qcut [(0, .ref 64), (1, .int x1), (2, .ref 694)] 3) 3) [] (qw g1 I1) Q
  exact qY_sound qU_ok (fun _ => none) 30 true ⟨trivial, hQ⟩)⟩
theorem w342_n {d : Nat} {g g1 : qG1} {I I1 : Nat → Nat → Int32} {x1 x2 : Int32} {v : Bool} (hd : 2 ≤ d) (h : qRun (d - 1) 112 [.ref 64, .int x1, .int x2] (qw g I) (.inl (some (.int (qb v)), qw g1 I1))) : qRun d 342 [.ref 64, .int x1, .int x2, .ref 694] (qw g I) (.inl (some (.int (qj 0)), qw (qgL g1 694 0 (qb v).toInt64) I1)) := qRun_of fun Q hQ => qY_sound qU_ok (fun _ => none) 30 true ⟨by omega, rfl, qRun_to h (by
  show qwq d 342 8 [(0, .ref 64), (1, .int x1), (2, .int x2), (3, .ref 694)] [.int (qb v), .int (qj 0), .ref 694] (qw g1 I1) Q
  refine qY_sound qU_ok (fun _ => none) 30 true ⟨fun q => ⟨qinJ_mk rfl (qIx_c (by decide) (by decide)), ⟨trivial, ?_⟩⟩, fun q => ⟨qinJ_mk rfl (qIx_c (by decide) (by decide)), ⟨trivial, ?_⟩⟩⟩
  · rw [qb_eq0 q] at hQ; exact hQ
  · rw [qb_ne0 q] at hQ; exact hQ)⟩
theorem w342_t0 {d : Nat} {g g1 : qG1} {I I1 : Nat → Nat → Int32} {x1 x2 : Int32} (hd : 2 ≤ d) (h : qRun (d - 1) 112 [.ref 64, .int x1, .int x2] (qw g I) (.inr (0, qw g1 I1))) : qRun d 342 [.ref 64, .int x1, .int x2, .ref 694] (qw g I) (.inl (some (.int (qj 1)), qw g1 I1)) := qRun_of fun Q hQ => qY_sound qU_ok (fun _ => none) 30 true ⟨by omega, rfl, qRun_to h (by
  show qwq d 342 22 (qclr (qcut [(0, .ref 64), (1, .int x1), (2, .int x2), (3, .ref 694)] 4) 4) [] (qw g1 I1) Q
  exact qY_sound qU_ok (fun _ => none) 30 true ⟨trivial, hQ⟩)⟩
theorem w342_t1 {d : Nat} {g g1 : qG1} {I I1 : Nat → Nat → Int32} {x1 x2 : Int32} (hd : 2 ≤ d) (h : qRun (d - 1) 112 [.ref 64, .int x1, .int x2] (qw g I) (.inr (1, qw g1 I1))) : qRun d 342 [.ref 64, .int x1, .int x2, .ref 694] (qw g I) (.inl (some (.int (qj 2)), qw g1 I1)) := qRun_of fun Q hQ => qY_sound qU_ok (fun _ => none) 30 true ⟨by omega, rfl, qRun_to h (by
  show qwq d 342 26 (qclr (qcut [(0, .ref 64), (1, .int x1), (2, .int x2), (3, .ref 694)] 4) 4) [] (qw g1 I1) Q
  exact qY_sound qU_ok (fun _ => none) 30 true ⟨trivial, hQ⟩)⟩
theorem w343_n {d : Nat} {g g1 : qG1} {I I1 : Nat → Nat → Int32} {x1 : Int32} {v : Int32} (hd : 2 ≤ d) (h : qRun (d - 1) 113 [.ref 64, .int x1] (qw g I) (.inl (some (.int v), qw g1 I1))) : qRun d 343 [.ref 64, .int x1, .ref 694] (qw g I) (.inl (some (.int (qj 0)), qw (qgL g1 694 0 v.toInt64) I1)) := qRun_of fun Q hQ => qY_sound qU_ok (fun _ => none) 30 true ⟨by omega, rfl, qRun_to h (by
  show qwq d 343 7 [(0, .ref 64), (1, .int x1), (2, .ref 694)] [.int v, .int (qj 0), .ref 694] (qw g1 I1) Q
  exact qY_sound qU_ok (fun _ => none) 30 true ⟨qinJ_mk rfl (qIx_c (by decide) (by decide)), ⟨trivial, hQ⟩⟩)⟩
theorem w343_t0 {d : Nat} {g g1 : qG1} {I I1 : Nat → Nat → Int32} {x1 : Int32} (hd : 2 ≤ d) (h : qRun (d - 1) 113 [.ref 64, .int x1] (qw g I) (.inr (0, qw g1 I1))) : qRun d 343 [.ref 64, .int x1, .ref 694] (qw g I) (.inl (some (.int (qj 1)), qw g1 I1)) := qRun_of fun Q hQ => qY_sound qU_ok (fun _ => none) 30 true ⟨by omega, rfl, qRun_to h (by
  show qwq d 343 13 (qclr (qcut [(0, .ref 64), (1, .int x1), (2, .ref 694)] 3) 3) [] (qw g1 I1) Q
  exact qY_sound qU_ok (fun _ => none) 30 true ⟨trivial, hQ⟩)⟩
theorem w344_n {d : Nat} {g g1 : qG1} {I I1 : Nat → Nat → Int32} {x1 : Int32} {v : Int32} (hd : 2 ≤ d) (h : qRun (d - 1) 132 [.ref 64, .int x1] (qw g I) (.inl (some (.int v), qw g1 I1))) : qRun d 344 [.ref 64, .int x1, .ref 694] (qw g I) (.inl (some (.int (qj 0)), qw (qgL g1 694 0 v.toInt64) I1)) := qRun_of fun Q hQ => qY_sound qU_ok (fun _ => none) 30 true ⟨by omega, rfl, qRun_to h (by
  show qwq d 344 7 [(0, .ref 64), (1, .int x1), (2, .ref 694)] [.int v, .int (qj 0), .ref 694] (qw g1 I1) Q
  exact qY_sound qU_ok (fun _ => none) 30 true ⟨qinJ_mk rfl (qIx_c (by decide) (by decide)), ⟨trivial, hQ⟩⟩)⟩
theorem w344_t1 {d : Nat} {g g1 : qG1} {I I1 : Nat → Nat → Int32} {x1 : Int32} (hd : 2 ≤ d) (h : qRun (d - 1) 132 [.ref 64, .int x1] (qw g I) (.inr (1, qw g1 I1))) : qRun d 344 [.ref 64, .int x1, .ref 694] (qw g I) (.inl (some (.int (qj 1)), qw g1 I1)) := qRun_of fun Q hQ => qY_sound qU_ok (fun _ => none) 30 true ⟨by omega, rfl, qRun_to h (by
  show qwq d 344 13 (qclr (qcut [(0, .ref 64), (1, .int x1), (2, .ref 694)] 3) 3) [] (qw g1 I1) Q
  exact qY_sound qU_ok (fun _ => none) 30 true ⟨trivial, hQ⟩)⟩
theorem w345_n {d : Nat} {g g1 : qG1} {I I1 : Nat → Nat → Int32} {x1 : Int32} {v : Int32} (hd : 2 ≤ d) (h : qRun (d - 1) 114 [.ref 64, .int x1] (qw g I) (.inl (some (.int v), qw g1 I1))) : qRun d 345 [.ref 64, .int x1, .ref 694] (qw g I) (.inl (some (.int (qj 0)), qw (qgL g1 694 0 v.toInt64) I1)) := qRun_of fun Q hQ => qY_sound qU_ok (fun _ => none) 30 true ⟨by omega, rfl, qRun_to h (by
  show qwq d 345 7 [(0, .ref 64), (1, .int x1), (2, .ref 694)] [.int v, .int (qj 0), .ref 694] (qw g1 I1) Q
  exact qY_sound qU_ok (fun _ => none) 30 true ⟨qinJ_mk rfl (qIx_c (by decide) (by decide)), ⟨trivial, hQ⟩⟩)⟩
theorem w345_t0 {d : Nat} {g g1 : qG1} {I I1 : Nat → Nat → Int32} {x1 : Int32} (hd : 2 ≤ d) (h : qRun (d - 1) 114 [.ref 64, .int x1] (qw g I) (.inr (0, qw g1 I1))) : qRun d 345 [.ref 64, .int x1, .ref 694] (qw g I) (.inl (some (.int (qj 1)), qw g1 I1)) := qRun_of fun Q hQ => qY_sound qU_ok (fun _ => none) 30 true ⟨by omega, rfl, qRun_to h (by
  show qwq d 345 13 (qclr (qcut [(0, .ref 64), (1, .int x1), (2, .ref 694)] 3) 3) [] (qw g1 I1) Q
  exact qY_sound qU_ok (fun _ => none) 30 true ⟨trivial, hQ⟩)⟩
theorem w346_n {d : Nat} {g g1 : qG1} {I I1 : Nat → Nat → Int32} {x1 x2 x3 x4 : Int32} {v : Int32} (hd : 2 ≤ d) (h : qRun (d - 1) 134 [.ref 64, .int x1, .int x2, .int x3, .int x4] (qw g I) (.inl (some (.int v), qw g1 I1))) : qRun d 346 [.ref 64, .int x1, .int x2, .int x3, .int x4, .ref 694] (qw g I) (.inl (some (.int (qj 0)), qw (qgL g1 694 0 v.toInt64) I1)) := qRun_of fun Q hQ => qY_sound qU_ok (fun _ => none) 30 true ⟨by omega, rfl, qRun_to h (by
  show qwq d 346 12 [(0, .ref 64), (1, .int x1), (2, .int x2), (3, .int x3), (4, .int x4), (5, .ref 694)] [.int v, .int (qj 0), .ref 694] (qw g1 I1) Q
  exact qY_sound qU_ok (fun _ => none) 30 true ⟨qinJ_mk rfl (qIx_c (by decide) (by decide)), ⟨trivial, hQ⟩⟩)⟩
theorem w346_t1 {d : Nat} {g g1 : qG1} {I I1 : Nat → Nat → Int32} {x1 x2 x3 x4 : Int32} (hd : 2 ≤ d) (h : qRun (d - 1) 134 [.ref 64, .int x1, .int x2, .int x3, .int x4] (qw g I) (.inr (1, qw g1 I1))) : qRun d 346 [.ref 64, .int x1, .int x2, .int x3, .int x4, .ref 694] (qw g I) (.inl (some (.int (qj 1)), qw g1 I1)) := qRun_of fun Q hQ => qY_sound qU_ok (fun _ => none) 30 true ⟨by omega, rfl, qRun_to h (by
  show qwq d 346 19 (qclr (qcut [(0, .ref 64), (1, .int x1), (2, .int x2), (3, .int x3), (4, .int x4), (5, .ref 694)] 6) 6) [] (qw g1 I1) Q
  exact qY_sound qU_ok (fun _ => none) 30 true ⟨trivial, hQ⟩)⟩
theorem w347_n {d : Nat} {g g1 : qG1} {I I1 : Nat → Nat → Int32} {x1 x2 x3 x4 x5 x6 : Int32} {v : Int32} (hd : 2 ≤ d) (h : qRun (d - 1) 135 [.ref 64, .int x1, .int x2, .int x3, .int x4, .int x5, .int x6] (qw g I) (.inl (some (.int v), qw g1 I1))) : qRun d 347 [.ref 64, .int x1, .int x2, .int x3, .int x4, .int x5, .int x6, .ref 694] (qw g I) (.inl (some (.int (qj 0)), qw (qgL g1 694 0 v.toInt64) I1)) := qRun_of fun Q hQ => qY_sound qU_ok (fun _ => none) 30 true ⟨by omega, rfl, qRun_to h (by
  show qwq d 347 16 [(0, .ref 64), (1, .int x1), (2, .int x2), (3, .int x3), (4, .int x4), (5, .int x5), (6, .int x6), (7, .ref 694)] [.int v, .int (qj 0), .ref 694] (qw g1 I1) Q
  exact qY_sound qU_ok (fun _ => none) 30 true ⟨qinJ_mk rfl (qIx_c (by decide) (by decide)), ⟨trivial, hQ⟩⟩)⟩
theorem w347_t1 {d : Nat} {g g1 : qG1} {I I1 : Nat → Nat → Int32} {x1 x2 x3 x4 x5 x6 : Int32} (hd : 2 ≤ d) (h : qRun (d - 1) 135 [.ref 64, .int x1, .int x2, .int x3, .int x4, .int x5, .int x6] (qw g I) (.inr (1, qw g1 I1))) : qRun d 347 [.ref 64, .int x1, .int x2, .int x3, .int x4, .int x5, .int x6, .ref 694] (qw g I) (.inl (some (.int (qj 1)), qw g1 I1)) := qRun_of fun Q hQ => qY_sound qU_ok (fun _ => none) 30 true ⟨by omega, rfl, qRun_to h (by
  show qwq d 347 23 (qclr (qcut [(0, .ref 64), (1, .int x1), (2, .int x2), (3, .int x3), (4, .int x4), (5, .int x5), (6, .int x6), (7, .ref 694)] 8) 8) [] (qw g1 I1) Q
  exact qY_sound qU_ok (fun _ => none) 30 true ⟨trivial, hQ⟩)⟩
