/-! ===== the tables, checked (wip/whole/gen_chk.py) ===== -/
def qch (k : Nat) : Bool := qscan (qcc k) (qtab k).flatten 0 (qcc k).data.toList && (qtab k).all (fun l => l.all (fun e => qiok k e.1 e.2.1 e.2.2.1 e.2.2.2))
theorem qch_use {k : Nat} (h : qch k = true) {pc nx tg : Nat} {ins : Jvm.ClassFile.Instr} (h1 : qcd k pc = some (ins, nx, tg)) : decode (qcc k) pc = .ok (ins, nx - pc) ∧ qiok k pc ins nx tg = true := by
  unfold qcd at h1
  cases h2 : (qtab k)[pc / 32]? with
  | none => rw [h2] at h1; cases h1
  | some l =>
    rw [h2] at h1
    unfold qch at h
    rw [Bool.and_eq_true] at h
    have h3 := qfd_mem _ _ _ h1
    have h4 := List.mem_of_getElem? h2
    have h5 := qscan_ok (cc := qcc k) (qtab k).flatten 0 (qcc k).data.toList List.drop_zero.symm h.1 (pc, ins, nx, tg) (List.mem_flatten.mpr ⟨l, h4, h3⟩)
    exact ⟨h5, List.all_eq_true.mp (List.all_eq_true.mp h.2 l h4) _ h3⟩
theorem qrg {P : Nat → Prop} {a n k : Nat} (h : ∀ x ∈ List.range' a n, P x) (h1 : a ≤ k) (h2 : k < a + n) : P k := h k (List.mem_range'_1.mpr ⟨h1, h2⟩)
/-- the words by their printed lists -/
def qtc (j : Nat) : List Cond := match j with
  | 0 => k2_sels lw_privs
  | 1 => tables_1_1
  | 2 => tables_1_2
  | 3 => tables_1_3
  | 4 => tables_1_4
  | 5 => tables_1_5
  | 6 => tables_1_6
  | 7 => tables_1_7
  | 8 => tables_1_8
  | 9 => tables_1_9
  | _ => []
theorem qtc_in {j : Nat} {w : Cond} (h : w ∈ qtc j) : w ∈ lw_tbl := by
  show w ∈ k2_sels lw_privs ++ (tables_1_1 ++ (tables_1_2 ++ (tables_1_3 ++ (tables_1_4 ++ (tables_1_5 ++ (tables_1_6 ++ (tables_1_7 ++ (tables_1_8 ++ tables_1_9))))))))
  simp only [List.mem_append]
  unfold qtc at h
  split at h
  · exact Or.inl h
  · exact Or.inr (Or.inl h)
  · exact Or.inr (Or.inr (Or.inl h))
  · exact Or.inr (Or.inr (Or.inr (Or.inl h)))
  · exact Or.inr (Or.inr (Or.inr (Or.inr (Or.inl h))))
  · exact Or.inr (Or.inr (Or.inr (Or.inr (Or.inr (Or.inl h)))))
  · exact Or.inr (Or.inr (Or.inr (Or.inr (Or.inr (Or.inr (Or.inl h))))))
  · exact Or.inr (Or.inr (Or.inr (Or.inr (Or.inr (Or.inr (Or.inr (Or.inl h)))))))
  · exact Or.inr (Or.inr (Or.inr (Or.inr (Or.inr (Or.inr (Or.inr (Or.inr (Or.inl h))))))))
  · exact Or.inr (Or.inr (Or.inr (Or.inr (Or.inr (Or.inr (Or.inr (Or.inr (Or.inr h))))))))
  · cases h
theorem qps {ws : List Cond} (ps : List (Nat × Nat)) (h : ws = ps.filterMap (fun i => (qtc i.1)[i.2]?)) : ∀ w ∈ ws, w ∈ lw_tbl := fun w hw => by
  rw [h] at hw
  obtain ⟨i, -, hi⟩ := List.mem_filterMap.mp hw
  exact qtc_in (List.mem_of_getElem? hi)
theorem qinW {w : Cond} (h : w ∈ lw_tbl) (hg : goodWord w = true) : w ∈ qW := List.mem_filter.mpr ⟨h, hg⟩
theorem qch_g0 : (List.range' 0 50).all qch = true := by decide +kernel
theorem qch_g1 : (List.range' 50 50).all qch = true := by decide +kernel
theorem qch_g2 : (List.range' 100 50).all qch = true := by decide +kernel
theorem qch_g3 : (List.range' 150 30).all qch = true := by decide +kernel
theorem qch_g4 : (List.range' 180 30).all qch = true := by decide +kernel
theorem qch_g5 : (List.range' 210 40).all qch = true := by decide +kernel
theorem qch_g6 : (List.range' 250 40).all qch = true := by decide +kernel
theorem qch_g7 : (List.range' 290 58).all qch = true := by decide +kernel
theorem qch_g8 : (List.range' 348 1).all qch = true := by decide +kernel
theorem qch_all {k : Nat} (h : k < 349) : qch k = true := by
  rcases (by omega : (0 ≤ k ∧ k < 50) ∨ (50 ≤ k ∧ k < 100) ∨ (100 ≤ k ∧ k < 150) ∨ (150 ≤ k ∧ k < 180) ∨ (180 ≤ k ∧ k < 210) ∨ (210 ≤ k ∧ k < 250) ∨ (250 ≤ k ∧ k < 290) ∨ (290 ≤ k ∧ k < 348) ∨ (348 ≤ k ∧ k < 349)) with ⟨h1, h2⟩ | ⟨h1, h2⟩ | ⟨h1, h2⟩ | ⟨h1, h2⟩ | ⟨h1, h2⟩ | ⟨h1, h2⟩ | ⟨h1, h2⟩ | ⟨h1, h2⟩ | ⟨h1, h2⟩
  · exact qrg (List.all_eq_true.mp qch_g0) h1 h2
  · exact qrg (List.all_eq_true.mp qch_g1) h1 h2
  · exact qrg (List.all_eq_true.mp qch_g2) h1 h2
  · exact qrg (List.all_eq_true.mp qch_g3) h1 h2
  · exact qrg (List.all_eq_true.mp qch_g4) h1 h2
  · exact qrg (List.all_eq_true.mp qch_g5) h1 h2
  · exact qrg (List.all_eq_true.mp qch_g6) h1 h2
  · exact qrg (List.all_eq_true.mp qch_g7) h1 h2
  · exact qrg (List.all_eq_true.mp qch_g8) h1 h2
set_option maxRecDepth 100000
theorem qmw_g0 : (List.range' 0 20).flatMap qmw = [(1, 188), (1, 5), (1, 187), (4, 190), (1, 5), (4, 188), (4, 189), (4, 195), (1, 5), (4, 194), (0, 32), (3, 2), (1, 5), (3, 0), (3, 1), (3, 66), (1, 5), (3, 64), (3, 65), (2, 15), (1, 7), (2, 14), (2, 184), (1, 7), (2, 182), (2, 183), (2, 188), (1, 7), (2, 186), (2, 187), (2, 192), (1, 7), (2, 191), (0, 5), (2, 207), (1, 7), (2, 205), (2, 206), (2, 215), (1, 7), (2, 214), (0, 6), (5, 151), (1, 7), (5, 149), (5, 150), (5, 155), (1, 7), (5, 154), (0, 37), (6, 51), (1, 7), (6, 49), (6, 50), (6, 55), (1, 7), (6, 54), (0, 43), (1, 80), (1, 3), (1, 79), (3, 212), (1, 3), (3, 211), (0, 14), (3, 208), (1, 3), (3, 206), (3, 207), (3, 224), (1, 3), (3, 223), (0, 15), (4, 2), (1, 3), (4, 1)].filterMap (fun i => (qtc i.1)[i.2]?) := rfl
theorem qmw_g1 : (List.range' 20 20).flatMap qmw = [(4, 67), (1, 3), (4, 66), (0, 17), (4, 71), (1, 3), (4, 70), (0, 18), (4, 83), (1, 3), (4, 82), (0, 19), (4, 91), (1, 3), (4, 90), (0, 21), (4, 87), (1, 3), (4, 86), (0, 20), (4, 95), (1, 3), (4, 94), (0, 22), (4, 99), (1, 3), (4, 98), (0, 23), (4, 103), (1, 3), (4, 102), (0, 24), (4, 107), (1, 3), (4, 106), (0, 25), (4, 115), (1, 3), (4, 114), (0, 26), (4, 124), (1, 3), (4, 123), (0, 27), (4, 129), (1, 3), (4, 128), (0, 28), (4, 119), (1, 3), (4, 117), (4, 118), (5, 36), (1, 3), (5, 34), (5, 35), (2, 202), (1, 3), (2, 200), (2, 201), (2, 211), (1, 3), (2, 209), (2, 210), (1, 172), (1, 4), (1, 171), (2, 72), (1, 4), (2, 70), (2, 71), (2, 78), (1, 4), (2, 77), (0, 1), (4, 145), (1, 4), (4, 143), (4, 144)].filterMap (fun i => (qtc i.1)[i.2]?) := rfl
theorem qmw_g2 : (List.range' 40 20).flatMap qmw = [(4, 149), (1, 4), (4, 148), (0, 29), (4, 153), (1, 4), (4, 152), (0, 30), (4, 157), (1, 4), (4, 156), (0, 31), (4, 166), (1, 4), (4, 165), (3, 39), (1, 4), (3, 37), (3, 38), (3, 42), (1, 4), (3, 41), (3, 50), (1, 4), (3, 49), (3, 31), (1, 4), (3, 29), (3, 30), (2, 58), (1, 8), (2, 57), (6, 98), (1, 8), (6, 97), (0, 47), (6, 93), (1, 8), (6, 91), (6, 92), (1, 208), (1, 6), (1, 207), (2, 82), (1, 6), (2, 80), (2, 81), (2, 93), (1, 6), (2, 91), (2, 92), (2, 172), (1, 6), (2, 170), (2, 171), (2, 168), (1, 6), (2, 166), (2, 167), (5, 4), (1, 6), (5, 2), (5, 3), (5, 8), (1, 6), (5, 6), (5, 7), (3, 25), (1, 6), (3, 23), (3, 24), (3, 21), (1, 6), (3, 19), (3, 20)].filterMap (fun i => (qtc i.1)[i.2]?) := rfl
theorem qmw_g3 : (List.range' 60 20).flatMap qmw = [(3, 95), (1, 6), (3, 93), (3, 94), (4, 209), (1, 6), (4, 207), (4, 208), (3, 35), (1, 6), (3, 33), (3, 34), (3, 47), (1, 6), (3, 45), (3, 46), (3, 62), (1, 6), (3, 60), (3, 61), (3, 17), (1, 6), (3, 15), (3, 16), (3, 13), (1, 6), (3, 11), (3, 12), (5, 63), (1, 6), (5, 61), (5, 62), (3, 9), (1, 6), (3, 7), (3, 8), (3, 58), (1, 6), (3, 57), (0, 9), (1, 33), (1, 2), (1, 32), (2, 156), (1, 2), (2, 154), (2, 155), (3, 203), (1, 2), (3, 201), (3, 202), (3, 235), (1, 2), (3, 233), (3, 234), (3, 239), (1, 2), (3, 238), (0, 16), (3, 220), (1, 2), (3, 218), (3, 219), (3, 216), (1, 2), (3, 214), (3, 215), (4, 111), (1, 2), (4, 109), (4, 110), (4, 133), (1, 2), (4, 131), (4, 132), (4, 75), (1, 2), (4, 73), (4, 74)].filterMap (fun i => (qtc i.1)[i.2]?) := rfl
theorem qmw_g4 : (List.range' 80 20).flatMap qmw = [(3, 228), (1, 2), (3, 226), (3, 227), (4, 7), (1, 2), (4, 5), (4, 6), (4, 78), (1, 2), (4, 77), (3, 231), (1, 2), (3, 230), (1, 25), (1, 1), (1, 24), (2, 152), (1, 1), (2, 150), (2, 151), (3, 133), (1, 1), (3, 131), (3, 132), (4, 141), (1, 1), (4, 139), (4, 140), (4, 186), (1, 1), (4, 184), (4, 185), (2, 160), (1, 1), (2, 158), (2, 159), (4, 205), (1, 1), (4, 203), (4, 204), (4, 217), (1, 1), (4, 215), (4, 216), (5, 15), (1, 1), (5, 13), (5, 14), (5, 27), (1, 1), (5, 25), (5, 26), (5, 43), (1, 1), (5, 41), (5, 42), (5, 51), (1, 1), (5, 49), (5, 50), (5, 59), (1, 1), (5, 57), (5, 58), (5, 71), (1, 1), (5, 69), (5, 70), (5, 79), (1, 1), (5, 77), (5, 78), (5, 86), (1, 1), (5, 84), (5, 85)].filterMap (fun i => (qtc i.1)[i.2]?) := rfl
theorem qmw_g5 : (List.range' 100 20).flatMap qmw = [(5, 93), (1, 1), (5, 91), (5, 92), (5, 100), (1, 1), (5, 98), (5, 99), (5, 107), (1, 1), (5, 105), (5, 106), (5, 114), (1, 1), (5, 112), (5, 113), (5, 122), (1, 1), (5, 120), (5, 121), (5, 129), (1, 1), (5, 127), (5, 128), (5, 139), (1, 1), (5, 137), (5, 138), (5, 147), (1, 1), (5, 145), (5, 146), (5, 162), (1, 1), (5, 160), (5, 161), (2, 164), (1, 1), (2, 162), (2, 163), (5, 173), (1, 1), (5, 171), (5, 172), (2, 223), (1, 1), (2, 221), (2, 222), (6, 40), (1, 1), (6, 38), (6, 39), (6, 47), (1, 1), (6, 45), (6, 46), (6, 78), (1, 1), (6, 76), (6, 77), (5, 180), (1, 1), (5, 178), (5, 179), (5, 191), (1, 1), (5, 189), (5, 190), (2, 234), (1, 1), (2, 232), (2, 233), (5, 198), (1, 1), (5, 196), (5, 197), (3, 72), (1, 1), (3, 70), (3, 71)].filterMap (fun i => (qtc i.1)[i.2]?) := rfl
theorem qmw_g6 : (List.range' 120 20).flatMap qmw = [(5, 205), (1, 1), (5, 203), (5, 204), (5, 212), (1, 1), (5, 210), (5, 211), (5, 219), (1, 1), (5, 217), (5, 218), (5, 234), (1, 1), (5, 232), (5, 233), (6, 1), (1, 1), (5, 239), (6, 0), (6, 12), (1, 1), (6, 10), (6, 11), (3, 91), (1, 1), (3, 89), (3, 90), (3, 99), (1, 1), (3, 97), (3, 98), (6, 19), (1, 1), (6, 17), (6, 18), (3, 103), (1, 1), (3, 101), (3, 102), (6, 26), (1, 1), (6, 24), (6, 25), (6, 33), (1, 1), (6, 31), (6, 32), (6, 63), (1, 1), (6, 61), (6, 62), (3, 109), (1, 1), (3, 107), (3, 108), (6, 85), (1, 1), (6, 83), (6, 84), (6, 106), (1, 1), (6, 104), (6, 105), (3, 113), (1, 1), (3, 111), (3, 112), (3, 117), (1, 1), (3, 115), (3, 116), (3, 121), (1, 1), (3, 119), (3, 120), (3, 125), (1, 1), (3, 123), (3, 124)].filterMap (fun i => (qtc i.1)[i.2]?) := rfl
theorem qmw_g7 : (List.range' 140 20).flatMap qmw = [(3, 137), (1, 1), (3, 136), (0, 12), (4, 221), (1, 1), (4, 220), (0, 33), (5, 19), (1, 1), (5, 18), (0, 35), (5, 31), (1, 1), (5, 30), (0, 36), (4, 225), (1, 1), (4, 224), (0, 34), (2, 85), (1, 1), (2, 84), (2, 68), (1, 1), (2, 67), (0, 0), (2, 89), (1, 1), (2, 88), (0, 2), (2, 180), (1, 1), (2, 179), (0, 4), (2, 176), (1, 1), (2, 175), (0, 3), (2, 229), (1, 1), (2, 228), (0, 7), (5, 166), (1, 1), (5, 165), (0, 38), (5, 184), (1, 1), (5, 183), (0, 39), (2, 238), (1, 1), (2, 237), (0, 8), (3, 76), (1, 1), (3, 75), (0, 10), (3, 80), (1, 1), (3, 79), (0, 11), (3, 83), (1, 1), (3, 82), (3, 86), (1, 1), (3, 85), (5, 223), (1, 1), (5, 222), (0, 40), (5, 227), (1, 1), (5, 226), (0, 41)].filterMap (fun i => (qtc i.1)[i.2]?) := rfl
theorem qmw_g8 : (List.range' 160 20).flatMap qmw = [(6, 5), (1, 1), (6, 4), (0, 42), (6, 67), (1, 1), (6, 66), (0, 44), (6, 71), (1, 1), (6, 70), (0, 45), (6, 89), (1, 1), (6, 88), (0, 46), (6, 111), (1, 9), (6, 110), (6, 117), (1, 9), (6, 116), (0, 48), (7, 70), (1, 9), (7, 68), (7, 69), (7, 82), (1, 9), (7, 81), (0, 51), (6, 127), (1, 9), (6, 126), (7, 173), (1, 9), (7, 172), (8, 16), (1, 9), (8, 15), (6, 130), (1, 9), (6, 129), (7, 162), (1, 9), (7, 161), (7, 74), (1, 9), (7, 72), (7, 73), (7, 94), (1, 9), (7, 93), (0, 54), (7, 90), (1, 9), (7, 89), (0, 53), (7, 123), (1, 9), (7, 122), (0, 59), (7, 138), (1, 9), (7, 137), (7, 113), (1, 9), (7, 112), (7, 135), (1, 9), (7, 134), (0, 62)].filterMap (fun i => (qtc i.1)[i.2]?) := rfl
theorem qmw_g9 : (List.range' 180 20).flatMap qmw = [(7, 143), (1, 9), (7, 142), (0, 63), (7, 110), (1, 9), (7, 109), (0, 58), (7, 119), (1, 9), (7, 118), (7, 106), (1, 9), (7, 105), (0, 57), (7, 127), (1, 9), (7, 126), (0, 60), (7, 213), (1, 9), (7, 212), (0, 78), (7, 177), (1, 9), (7, 176), (0, 70), (7, 217), (1, 9), (7, 216), (0, 79), (7, 86), (1, 9), (7, 85), (0, 52), (7, 181), (1, 9), (7, 180), (0, 71), (7, 102), (1, 9), (7, 101), (0, 56), (7, 159), (1, 9), (7, 158), (0, 67), (7, 151), (1, 9), (7, 150), (0, 65), (7, 98), (1, 9), (7, 97), (0, 55), (7, 131), (1, 9), (7, 130), (0, 61), (7, 170), (1, 9), (7, 169), (0, 69), (7, 155), (1, 9), (7, 154), (0, 66), (7, 166), (1, 9), (7, 165), (0, 68), (7, 147), (1, 9), (7, 146), (0, 64), (7, 78), (1, 9), (7, 76), (7, 77)].filterMap (fun i => (qtc i.1)[i.2]?) := rfl
theorem qmw_g10 : (List.range' 200 20).flatMap qmw = [(6, 124), (1, 9), (6, 123), (6, 133), (1, 9), (6, 132), (6, 121), (1, 9), (6, 120), (0, 49), (6, 137), (1, 9), (6, 136), (0, 50), (7, 205), (1, 9), (7, 204), (0, 76), (7, 201), (1, 9), (7, 200), (0, 75), (7, 189), (1, 9), (7, 188), (0, 72), (7, 193), (1, 9), (7, 192), (0, 73), (7, 209), (1, 9), (7, 208), (0, 77), (7, 197), (1, 9), (7, 196), (0, 74), (7, 185), (1, 9), (7, 183), (7, 184), (8, 59), (1, 9), (8, 58), (8, 56), (1, 9), (8, 55), (0, 91), (7, 221), (1, 9), (7, 219), (7, 220), (7, 225), (1, 9), (7, 223), (7, 224), (8, 9), (1, 9), (8, 8), (0, 83), (8, 24), (1, 9), (8, 23), (0, 85), (8, 36), (1, 9), (8, 35), (0, 87), (7, 237), (1, 9), (7, 236), (0, 81), (7, 233), (1, 9), (7, 232), (0, 80)].filterMap (fun i => (qtc i.1)[i.2]?) := rfl
theorem qmw_g11 : (List.range' 220 20).flatMap qmw = [(8, 1), (1, 9), (8, 0), (0, 82), (7, 229), (1, 9), (7, 227), (7, 228), (8, 13), (1, 9), (8, 12), (0, 84), (8, 5), (1, 9), (8, 3), (8, 4), (8, 28), (1, 9), (8, 27), (0, 86), (8, 20), (1, 9), (8, 18), (8, 19), (8, 32), (1, 9), (8, 30), (8, 31), (8, 40), (1, 9), (8, 39), (0, 88), (8, 52), (1, 9), (8, 51), (0, 90), (8, 48), (1, 9), (8, 47), (0, 89), (8, 44), (1, 9), (8, 42), (8, 43), (8, 71), (1, 9), (8, 70), (0, 93), (8, 67), (1, 9), (8, 66), (0, 92), (8, 63), (1, 9), (8, 61), (8, 62), (8, 75), (1, 9), (8, 73), (8, 74), (8, 92), (1, 9), (8, 91), (0, 96), (8, 96), (1, 9), (8, 95), (0, 97), (8, 88), (1, 9), (8, 87), (0, 95), (8, 83), (1, 9), (8, 82), (0, 94), (8, 79), (1, 9), (8, 77), (8, 78)].filterMap (fun i => (qtc i.1)[i.2]?) := rfl
theorem qmw_g12 : (List.range' 240 20).flatMap qmw = [(8, 100), (1, 9), (8, 98), (8, 99), (8, 104), (1, 9), (8, 102), (8, 103), (8, 108), (1, 9), (8, 106), (8, 107), (8, 112), (1, 9), (8, 110), (8, 111), (8, 116), (1, 9), (8, 114), (8, 115), (8, 120), (1, 9), (8, 118), (8, 119), (8, 145), (1, 9), (8, 143), (8, 144), (8, 149), (1, 9), (8, 147), (8, 148), (8, 153), (1, 9), (8, 151), (8, 152), (8, 157), (1, 9), (8, 155), (8, 156), (8, 161), (1, 9), (8, 159), (8, 160), (8, 128), (1, 9), (8, 127), (0, 99), (8, 140), (1, 9), (8, 139), (0, 102), (8, 136), (1, 9), (8, 135), (0, 101), (8, 132), (1, 9), (8, 131), (0, 100), (8, 169), (1, 9), (8, 168), (0, 103), (8, 124), (1, 9), (8, 123), (0, 98), (8, 165), (1, 9), (8, 163), (8, 164), (8, 173), (1, 9), (8, 171), (8, 172), (8, 177), (1, 9), (8, 175), (8, 176)].filterMap (fun i => (qtc i.1)[i.2]?) := rfl
theorem qmw_g13 : (List.range' 260 20).flatMap qmw = [(8, 181), (1, 9), (8, 179), (8, 180), (8, 185), (1, 9), (8, 183), (8, 184), (8, 189), (1, 9), (8, 187), (8, 188), (8, 193), (1, 9), (8, 191), (8, 192), (8, 201), (1, 9), (8, 200), (0, 104), (8, 197), (1, 9), (8, 195), (8, 196), (8, 205), (1, 9), (8, 203), (8, 204), (8, 213), (1, 9), (8, 212), (0, 105), (8, 209), (1, 9), (8, 207), (8, 208), (8, 217), (1, 9), (8, 215), (8, 216), (8, 225), (1, 9), (8, 224), (0, 106), (8, 221), (1, 9), (8, 219), (8, 220), (8, 229), (1, 9), (8, 227), (8, 228), (9, 1), (1, 9), (9, 0), (0, 108), (8, 237), (1, 9), (8, 236), (0, 107), (8, 233), (1, 9), (8, 231), (8, 232), (9, 5), (1, 9), (9, 3), (9, 4), (9, 9), (1, 9), (9, 7), (9, 8), (9, 13), (1, 9), (9, 11), (9, 12), (9, 25), (1, 9), (9, 24), (0, 110)].filterMap (fun i => (qtc i.1)[i.2]?) := rfl
theorem qmw_g14 : (List.range' 280 20).flatMap qmw = [(9, 21), (1, 9), (9, 20), (0, 109), (9, 17), (1, 9), (9, 15), (9, 16), (9, 29), (1, 9), (9, 27), (9, 28), (9, 37), (1, 9), (9, 36), (0, 111), (9, 33), (1, 9), (9, 31), (9, 32), (9, 41), (1, 9), (9, 39), (9, 40), (9, 45), (1, 9), (9, 43), (9, 44), (9, 49), (1, 9), (9, 47), (9, 48), (9, 53), (1, 9), (9, 51), (9, 52), (9, 57), (1, 9), (9, 55), (9, 56), (9, 65), (1, 9), (9, 64), (0, 112), (9, 61), (1, 9), (9, 59), (9, 60), (9, 69), (1, 9), (9, 67), (9, 68), (9, 73), (1, 9), (9, 71), (9, 72), (9, 77), (1, 9), (9, 75), (9, 76), (9, 81), (1, 9), (9, 79), (9, 80), (9, 85), (1, 9), (9, 83), (9, 84), (2, 195), (1, 19), (2, 194), (3, 5), (1, 14), (3, 4), (3, 53), (1, 14), (3, 52)].filterMap (fun i => (qtc i.1)[i.2]?) := rfl
theorem qmw_g15 : (List.range' 300 20).flatMap qmw = [(4, 11), (1, 15), (4, 9), (4, 10), (4, 21), (1, 15), (4, 19), (4, 20), (4, 15), (1, 15), (4, 13), (4, 14), (4, 25), (1, 15), (4, 23), (4, 24), (4, 31), (1, 15), (4, 30), (4, 28), (1, 16), (4, 27), (4, 36), (1, 17), (4, 35), (3, 128), (1, 0), (3, 127), (4, 137), (1, 0), (4, 136), (4, 182), (1, 0), (4, 181), (4, 201), (1, 0), (4, 200), (4, 212), (1, 0), (4, 211), (5, 11), (1, 0), (5, 10), (5, 23), (1, 0), (5, 22), (5, 39), (1, 0), (5, 38), (5, 47), (1, 0), (5, 46), (5, 55), (1, 0), (5, 54), (5, 67), (1, 0), (5, 66), (5, 75), (1, 0), (5, 74), (5, 82), (1, 0), (5, 81)].filterMap (fun i => (qtc i.1)[i.2]?) := rfl
theorem qmw_g16 : (List.range' 320 20).flatMap qmw = [(5, 89), (1, 0), (5, 88), (5, 96), (1, 0), (5, 95), (5, 103), (1, 0), (5, 102), (5, 110), (1, 0), (5, 109), (5, 118), (1, 0), (5, 117), (5, 125), (1, 0), (5, 124), (5, 135), (1, 0), (5, 134), (5, 143), (1, 0), (5, 142), (5, 158), (1, 0), (5, 157), (5, 169), (1, 0), (5, 168), (5, 176), (1, 0), (5, 175), (5, 187), (1, 0), (5, 186), (5, 194), (1, 0), (5, 193), (5, 201), (1, 0), (5, 200), (5, 208), (1, 0), (5, 207), (5, 215), (1, 0), (5, 214), (5, 230), (1, 0), (5, 229), (5, 237), (1, 0), (5, 236), (6, 8), (1, 0), (6, 7), (6, 15), (1, 0), (6, 14)].filterMap (fun i => (qtc i.1)[i.2]?) := rfl
theorem qmw_g17 : (List.range' 340 8).flatMap qmw = [(6, 22), (1, 0), (6, 21), (6, 29), (1, 0), (6, 28), (6, 36), (1, 0), (6, 35), (6, 43), (1, 0), (6, 42), (6, 59), (1, 0), (6, 58), (6, 74), (1, 0), (6, 73), (6, 81), (1, 0), (6, 80), (6, 102), (1, 0), (6, 101)].filterMap (fun i => (qtc i.1)[i.2]?) := rfl
theorem qmw_good : ((List.range' 0 348).flatMap qmw).all goodWord = true := by decide +kernel
theorem qmw_all {k : Nat} (h : k < 348) : ∀ w ∈ qmw k, w ∈ qW := fun w hw => by
  have hg := List.all_eq_true.mp qmw_good w (List.mem_flatMap.mpr ⟨k, List.mem_range'_1.mpr ⟨Nat.zero_le _, by omega⟩, hw⟩)
  refine qinW ?_ hg
  rcases (by omega : (0 ≤ k ∧ k < 20) ∨ (20 ≤ k ∧ k < 40) ∨ (40 ≤ k ∧ k < 60) ∨ (60 ≤ k ∧ k < 80) ∨ (80 ≤ k ∧ k < 100) ∨ (100 ≤ k ∧ k < 120) ∨ (120 ≤ k ∧ k < 140) ∨ (140 ≤ k ∧ k < 160) ∨ (160 ≤ k ∧ k < 180) ∨ (180 ≤ k ∧ k < 200) ∨ (200 ≤ k ∧ k < 220) ∨ (220 ≤ k ∧ k < 240) ∨ (240 ≤ k ∧ k < 260) ∨ (260 ≤ k ∧ k < 280) ∨ (280 ≤ k ∧ k < 300) ∨ (300 ≤ k ∧ k < 320) ∨ (320 ≤ k ∧ k < 340) ∨ (340 ≤ k ∧ k < 348)) with ⟨h1, h2⟩ | ⟨h1, h2⟩ | ⟨h1, h2⟩ | ⟨h1, h2⟩ | ⟨h1, h2⟩ | ⟨h1, h2⟩ | ⟨h1, h2⟩ | ⟨h1, h2⟩ | ⟨h1, h2⟩ | ⟨h1, h2⟩ | ⟨h1, h2⟩ | ⟨h1, h2⟩ | ⟨h1, h2⟩ | ⟨h1, h2⟩ | ⟨h1, h2⟩ | ⟨h1, h2⟩ | ⟨h1, h2⟩ | ⟨h1, h2⟩
  · exact qps _ qmw_g0 w (List.mem_flatMap.mpr ⟨k, List.mem_range'_1.mpr ⟨h1, h2⟩, hw⟩)
  · exact qps _ qmw_g1 w (List.mem_flatMap.mpr ⟨k, List.mem_range'_1.mpr ⟨h1, h2⟩, hw⟩)
  · exact qps _ qmw_g2 w (List.mem_flatMap.mpr ⟨k, List.mem_range'_1.mpr ⟨h1, h2⟩, hw⟩)
  · exact qps _ qmw_g3 w (List.mem_flatMap.mpr ⟨k, List.mem_range'_1.mpr ⟨h1, h2⟩, hw⟩)
  · exact qps _ qmw_g4 w (List.mem_flatMap.mpr ⟨k, List.mem_range'_1.mpr ⟨h1, h2⟩, hw⟩)
  · exact qps _ qmw_g5 w (List.mem_flatMap.mpr ⟨k, List.mem_range'_1.mpr ⟨h1, h2⟩, hw⟩)
  · exact qps _ qmw_g6 w (List.mem_flatMap.mpr ⟨k, List.mem_range'_1.mpr ⟨h1, h2⟩, hw⟩)
  · exact qps _ qmw_g7 w (List.mem_flatMap.mpr ⟨k, List.mem_range'_1.mpr ⟨h1, h2⟩, hw⟩)
  · exact qps _ qmw_g8 w (List.mem_flatMap.mpr ⟨k, List.mem_range'_1.mpr ⟨h1, h2⟩, hw⟩)
  · exact qps _ qmw_g9 w (List.mem_flatMap.mpr ⟨k, List.mem_range'_1.mpr ⟨h1, h2⟩, hw⟩)
  · exact qps _ qmw_g10 w (List.mem_flatMap.mpr ⟨k, List.mem_range'_1.mpr ⟨h1, h2⟩, hw⟩)
  · exact qps _ qmw_g11 w (List.mem_flatMap.mpr ⟨k, List.mem_range'_1.mpr ⟨h1, h2⟩, hw⟩)
  · exact qps _ qmw_g12 w (List.mem_flatMap.mpr ⟨k, List.mem_range'_1.mpr ⟨h1, h2⟩, hw⟩)
  · exact qps _ qmw_g13 w (List.mem_flatMap.mpr ⟨k, List.mem_range'_1.mpr ⟨h1, h2⟩, hw⟩)
  · exact qps _ qmw_g14 w (List.mem_flatMap.mpr ⟨k, List.mem_range'_1.mpr ⟨h1, h2⟩, hw⟩)
  · exact qps _ qmw_g15 w (List.mem_flatMap.mpr ⟨k, List.mem_range'_1.mpr ⟨h1, h2⟩, hw⟩)
  · exact qps _ qmw_g16 w (List.mem_flatMap.mpr ⟨k, List.mem_range'_1.mpr ⟨h1, h2⟩, hw⟩)
  · exact qps _ qmw_g17 w (List.mem_flatMap.mpr ⟨k, List.mem_range'_1.mpr ⟨h1, h2⟩, hw⟩)
theorem qcw_0 : (qcpl 0).flatMap (qcpW 0) = ([(1, 189), (1, 192), (1, 193), (1, 194), (1, 190), (4, 191), (4, 192), (4, 196), (4, 197), (4, 198), (3, 3)] : List (Nat × Nat)).filterMap (fun i => (qtc i.1)[i.2]?) := rfl
theorem qcw_1 : (qcpl 1).flatMap (qcpW 1) = ([(2, 16), (2, 20), (2, 21), (2, 22), (2, 23), (2, 24), (2, 25), (2, 17), (2, 18), (2, 19), (2, 189), (2, 193), (2, 199), (2, 208), (2, 212), (2, 216), (2, 218), (5, 152), (2, 26), (2, 28), (6, 52)] : List (Nat × Nat)).filterMap (fun i => (qtc i.1)[i.2]?) := rfl
theorem qcw_2 : (qcpl 2).flatMap (qcpW 2) = ([(1, 81), (1, 90), (1, 93), (1, 97), (1, 100), (1, 102), (1, 105), (1, 82), (1, 107), (1, 113), (1, 116), (1, 120), (1, 124), (1, 127), (1, 129), (1, 131), (1, 84), (1, 109), (1, 122), (3, 209), (3, 213), (3, 221), (3, 225), (4, 0), (4, 63), (4, 64), (4, 68), (4, 80), (4, 84), (4, 96), (4, 100), (4, 104), (4, 121), (4, 126), (4, 130), (4, 4), (4, 72), (4, 88), (4, 92), (4, 108), (4, 112), (4, 116), (4, 125)] : List (Nat × Nat)).filterMap (fun i => (qtc i.1)[i.2]?) := rfl
theorem qcw_3 : (qcpl 3).flatMap (qcpW 3) = ([(1, 173), (1, 174), (1, 176), (1, 175), (2, 73), (2, 75), (4, 146), (4, 179), (4, 161), (4, 150), (4, 160), (4, 162), (4, 154), (4, 158), (4, 159), (4, 163), (4, 164), (4, 168), (3, 40), (3, 48), (3, 43), (3, 44), (3, 51), (3, 54), (3, 32), (3, 36)] : List (Nat × Nat)).filterMap (fun i => (qtc i.1)[i.2]?) := rfl
theorem qcw_4 : (qcpl 4).flatMap (qcpW 4) = ([(2, 59), (2, 60), (6, 99), (6, 94), (6, 95)] : List (Nat × Nat)).filterMap (fun i => (qtc i.1)[i.2]?) := rfl
theorem qcw_5 : (qcpl 5).flatMap (qcpW 5) = ([(1, 209), (1, 216), (1, 219), (1, 223), (1, 210), (1, 225), (1, 227), (1, 231), (1, 211), (1, 215), (2, 169), (3, 27), (3, 22), (3, 26), (3, 18), (3, 14), (5, 64), (3, 10), (3, 28), (3, 55), (3, 59)] : List (Nat × Nat)).filterMap (fun i => (qtc i.1)[i.2]?) := rfl
theorem qcw_6 : (qcpl 6).flatMap (qcpW 6) = ([(1, 34), (1, 35), (1, 44), (1, 37), (3, 204), (1, 38), (1, 39), (1, 46), (1, 42), (3, 217), (4, 76), (3, 232), (1, 53), (1, 55), (3, 236), (4, 79), (3, 229), (4, 8), (4, 18)] : List (Nat × Nat)).filterMap (fun i => (qtc i.1)[i.2]?) := rfl
theorem qcw_7 : (qcpl 7).flatMap (qcpW 7) = ([(1, 26), (1, 29), (2, 94), (1, 76), (2, 95), (2, 96), (1, 168), (2, 97), (2, 98), (1, 184), (2, 99), (2, 100), (1, 204), (2, 101), (2, 102), (2, 104), (2, 105), (2, 11), (2, 107), (2, 108), (2, 54), (2, 109), (2, 65), (2, 153), (3, 134), (3, 200), (3, 205), (4, 142), (2, 86), (4, 187), (2, 165), (2, 230), (4, 206), (4, 218), (5, 1), (5, 5), (5, 16), (3, 104), (5, 20), (5, 28), (5, 32), (5, 33), (5, 44), (5, 52), (5, 60), (2, 103), (5, 72), (2, 90), (3, 68), (2, 177), (2, 225), (5, 115), (5, 130), (5, 131), (5, 132), (5, 140), (5, 148), (5, 163), (2, 173), (2, 224), (2, 226), (2, 181), (2, 185), (2, 204), (6, 48), (5, 181), (2, 79), (2, 235), (3, 73), (3, 87), (5, 220), (5, 224), (6, 2), (3, 92), (3, 105), (6, 64), (6, 68), (6, 86), (2, 106), (2, 110), (2, 111), (3, 138), (4, 222), (4, 226), (2, 69), (2, 239), (3, 6), (3, 63), (3, 77), (3, 81), (3, 84), (6, 90)] : List (Nat × Nat)).filterMap (fun i => (qtc i.1)[i.2]?) := rfl
theorem qcw_8 : (qcpl 8).flatMap (qcpW 8) = ([(6, 112), (6, 141), (6, 147), (6, 148), (6, 149), (6, 150), (6, 151), (6, 152), (6, 153), (6, 154), (6, 155), (6, 156), (6, 113), (6, 157), (6, 158), (6, 159), (6, 160), (6, 161), (6, 162), (6, 163), (6, 164), (6, 167), (6, 168), (6, 169), (6, 170), (6, 171), (6, 172), (6, 173), (6, 174), (6, 175), (6, 176), (6, 177), (6, 178), (6, 184), (6, 185), (6, 186), (6, 187), (6, 188), (6, 192), (6, 193), (6, 114), (6, 118), (6, 138), (6, 139), (6, 140), (6, 142), (7, 91), (6, 143), (6, 144), (7, 87), (7, 136), (7, 120), (7, 139), (6, 125), (7, 111), (7, 114), (7, 115), (7, 116), (7, 107), (7, 117), (7, 103), (7, 124), (6, 145), (6, 146), (7, 132), (7, 99), (7, 128), (7, 144), (7, 152), (7, 163), (7, 156), (7, 167), (7, 171), (7, 174), (7, 140), (7, 148), (6, 128), (7, 160), (7, 79), (7, 83), (7, 95), (7, 178), (6, 122), (6, 131), (6, 165), (6, 179), (6, 181), (6, 134), (6, 180), (6, 166), (7, 190), (7, 214), (7, 202), (7, 194), (7, 210), (7, 198), (7, 186), (7, 206), (8, 14), (8, 57), (7, 234), (7, 230), (7, 238), (8, 6), (8, 10), (8, 21), (8, 25), (8, 33), (8, 37), (8, 49), (8, 53), (8, 45), (8, 68), (8, 64), (8, 89), (6, 183), (6, 182), (8, 84), (8, 85), (8, 93), (8, 80), (8, 121), (6, 189), (6, 190), (6, 191), (8, 137), (8, 133), (8, 141), (8, 125), (8, 129), (8, 166), (8, 198), (8, 210), (8, 222), (8, 238), (8, 234), (9, 22), (9, 18), (9, 34), (9, 62)] : List (Nat × Nat)).filterMap (fun i => (qtc i.1)[i.2]?) := rfl
theorem qcw_9 : (qcpl 9).flatMap (qcpW 9) = ([(9, 101), (9, 102), (4, 16), (4, 12), (4, 22), (4, 26), (4, 32), (4, 34)] : List (Nat × Nat)).filterMap (fun i => (qtc i.1)[i.2]?) := rfl
theorem qcw_10 : (qcpl 10).flatMap (qcpW 10) = ([(4, 29)] : List (Nat × Nat)).filterMap (fun i => (qtc i.1)[i.2]?) := rfl
theorem qcw_11 : (qcpl 11).flatMap (qcpW 11) = ([] : List (Nat × Nat)).filterMap (fun i => (qtc i.1)[i.2]?) := rfl
theorem qcw_12 : (qcpl 12).flatMap (qcpW 12) = ([(2, 196), (2, 197), (2, 198)] : List (Nat × Nat)).filterMap (fun i => (qtc i.1)[i.2]?) := rfl
theorem qcw_13 : (qcpl 13).flatMap (qcpW 13) = ([] : List (Nat × Nat)).filterMap (fun i => (qtc i.1)[i.2]?) := rfl
theorem qcw_14 : (qcpl 14).flatMap (qcpW 14) = ([(3, 130), (1, 21), (3, 129), (4, 138), (4, 183), (4, 202), (4, 214), (4, 213), (5, 12), (5, 24), (5, 40), (5, 48), (5, 56), (5, 68), (5, 76), (5, 83), (5, 90), (5, 97), (5, 104), (5, 111), (5, 119), (5, 126), (5, 136), (5, 144), (5, 159), (5, 170), (5, 177), (5, 188), (5, 195), (5, 202), (5, 209), (5, 216), (5, 231), (5, 238), (6, 9), (6, 16), (6, 23), (6, 30), (6, 37), (6, 44), (6, 60), (6, 75), (6, 82), (6, 103), (1, 23), (6, 107), (6, 109), (2, 149), (7, 71), (3, 126), (7, 75), (7, 67), (4, 135), (7, 182), (4, 180), (7, 218), (2, 157), (7, 222), (4, 199), (7, 226), (4, 210), (8, 2), (5, 9), (8, 17), (5, 21), (8, 29), (5, 37), (8, 41), (5, 45), (8, 60), (5, 53), (8, 76), (5, 65), (8, 97), (5, 73), (8, 101), (5, 80), (8, 105), (5, 87), (8, 109), (5, 94), (8, 113), (5, 101), (8, 117), (5, 108), (8, 146), (5, 116), (8, 150), (5, 123), (8, 154), (5, 133), (8, 162), (5, 141), (8, 170), (5, 156), (8, 186), (2, 161), (8, 190), (5, 167), (8, 194), (2, 220), (8, 202), (5, 174), (8, 206), (5, 185), (8, 214), (2, 231), (8, 218), (5, 192), (8, 226), (3, 69), (8, 230), (5, 199), (9, 2), (5, 206), (9, 10), (5, 213), (9, 14), (5, 228), (9, 26), (5, 235), (9, 30), (6, 6), (8, 158), (3, 88), (9, 42), (3, 96), (9, 46), (6, 13), (8, 72), (3, 100), (9, 50), (6, 20), (9, 54), (6, 27), (8, 142), (6, 34), (8, 182), (6, 41), (8, 174), (6, 57), (9, 38), (6, 72), (8, 178), (3, 106), (9, 6), (6, 79), (9, 58), (6, 100), (9, 66), (3, 110), (9, 70), (3, 114), (9, 74), (3, 118), (9, 78), (3, 122), (9, 82)] : List (Nat × Nat)).filterMap (fun i => (qtc i.1)[i.2]?) := rfl
theorem qcw_good : ((List.range 15).flatMap (fun cl => (qcpl cl).flatMap (qcpW cl))).all goodWord = true := by decide +kernel
theorem qcw_all {cl i x y z : Nat} (h : cl < 15) (he : (i, x, y, z) ∈ qcpl cl) : ∀ w ∈ qcpW cl (i, x, y, z), w ∈ qW := fun w hw => by
  have hw2 : w ∈ (qcpl cl).flatMap (qcpW cl) := List.mem_flatMap.mpr ⟨_, he, hw⟩
  refine qinW ?_ (List.all_eq_true.mp qcw_good w (List.mem_flatMap.mpr ⟨cl, List.mem_range.mpr h, hw2⟩))
  match cl, h, hw2 with
  | 0, _, hw2 => exact qps _ qcw_0 w hw2
  | 1, _, hw2 => exact qps _ qcw_1 w hw2
  | 2, _, hw2 => exact qps _ qcw_2 w hw2
  | 3, _, hw2 => exact qps _ qcw_3 w hw2
  | 4, _, hw2 => exact qps _ qcw_4 w hw2
  | 5, _, hw2 => exact qps _ qcw_5 w hw2
  | 6, _, hw2 => exact qps _ qcw_6 w hw2
  | 7, _, hw2 => exact qps _ qcw_7 w hw2
  | 8, _, hw2 => exact qps _ qcw_8 w hw2
  | 9, _, hw2 => exact qps _ qcw_9 w hw2
  | 10, _, hw2 => exact qps _ qcw_10 w hw2
  | 11, _, hw2 => exact qps _ qcw_11 w hw2
  | 12, _, hw2 => exact qps _ qcw_12 w hw2
  | 13, _, hw2 => exact qps _ qcw_13 w hw2
  | 14, _, hw2 => exact qps _ qcw_14 w hw2
theorem qcl_g0 : (List.range' 0 50).map (fun k => qcn (qcl k)) = (List.range' 0 50).map (fun k => (qmn k).cls) := rfl
theorem qcl_g1 : (List.range' 50 50).map (fun k => qcn (qcl k)) = (List.range' 50 50).map (fun k => (qmn k).cls) := rfl
theorem qcl_g2 : (List.range' 100 50).map (fun k => qcn (qcl k)) = (List.range' 100 50).map (fun k => (qmn k).cls) := rfl
theorem qcl_g3 : (List.range' 150 30).map (fun k => qcn (qcl k)) = (List.range' 150 30).map (fun k => (qmn k).cls) := rfl
theorem qcl_g4 : (List.range' 180 30).map (fun k => qcn (qcl k)) = (List.range' 180 30).map (fun k => (qmn k).cls) := rfl
theorem qcl_g5 : (List.range' 210 40).map (fun k => qcn (qcl k)) = (List.range' 210 40).map (fun k => (qmn k).cls) := rfl
theorem qcl_g6 : (List.range' 250 40).map (fun k => qcn (qcl k)) = (List.range' 250 40).map (fun k => (qmn k).cls) := rfl
theorem qcl_g7 : (List.range' 290 58).map (fun k => qcn (qcl k)) = (List.range' 290 58).map (fun k => (qmn k).cls) := rfl
theorem qcl_g8 : (List.range' 348 1).map (fun k => qcn (qcl k)) = (List.range' 348 1).map (fun k => (qmn k).cls) := rfl
theorem qcl_cn {k : Nat} (h : k < 349) : qcn (qcl k) = (qmn k).cls := by
  rcases (by omega : (0 ≤ k ∧ k < 50) ∨ (50 ≤ k ∧ k < 100) ∨ (100 ≤ k ∧ k < 150) ∨ (150 ≤ k ∧ k < 180) ∨ (180 ≤ k ∧ k < 210) ∨ (210 ≤ k ∧ k < 250) ∨ (250 ≤ k ∧ k < 290) ∨ (290 ≤ k ∧ k < 348) ∨ (348 ≤ k ∧ k < 349)) with ⟨h1, h2⟩ | ⟨h1, h2⟩ | ⟨h1, h2⟩ | ⟨h1, h2⟩ | ⟨h1, h2⟩ | ⟨h1, h2⟩ | ⟨h1, h2⟩ | ⟨h1, h2⟩ | ⟨h1, h2⟩
  · exact qrg (P := fun k => qcn (qcl k) = (qmn k).cls) (List.map_inj_left.mp qcl_g0) h1 h2
  · exact qrg (P := fun k => qcn (qcl k) = (qmn k).cls) (List.map_inj_left.mp qcl_g1) h1 h2
  · exact qrg (P := fun k => qcn (qcl k) = (qmn k).cls) (List.map_inj_left.mp qcl_g2) h1 h2
  · exact qrg (P := fun k => qcn (qcl k) = (qmn k).cls) (List.map_inj_left.mp qcl_g3) h1 h2
  · exact qrg (P := fun k => qcn (qcl k) = (qmn k).cls) (List.map_inj_left.mp qcl_g4) h1 h2
  · exact qrg (P := fun k => qcn (qcl k) = (qmn k).cls) (List.map_inj_left.mp qcl_g5) h1 h2
  · exact qrg (P := fun k => qcn (qcl k) = (qmn k).cls) (List.map_inj_left.mp qcl_g6) h1 h2
  · exact qrg (P := fun k => qcn (qcl k) = (qmn k).cls) (List.map_inj_left.mp qcl_g7) h1 h2
  · exact qrg (P := fun k => qcn (qcl k) = (qmn k).cls) (List.map_inj_left.mp qcl_g8) h1 h2
theorem qcl_n : ∀ c, c < 15 → (c ≠ 13 → plainName (qcn c) = true) ∧ (qcn c ≠ "java/lang/invoke/MethodHandle" ∧ qcn c ≠ "java/lang/invoke/VarHandle") := by decide +kernel
def qclc (k : Nat) : Bool := Nat.blt (qcl k) 15 && (Nat.ble (qml k) 21 && ((Nat.beq k 298 || (Nat.beq k 299 || !Nat.beq (qcl k) 13)) && (qha k).all (fun h => !Nat.beq h.2.2.2 0 && (Nat.beq (qcp (qcl k) h.2.2.2).2.2 40 && (Nat.beq (qcp (qcl k) h.2.2.2).1 100 || Nat.beq (qcp (qcl k) h.2.2.2).1 101)))))
theorem qclc_ok : (List.range' 0 349).all qclc = true := by decide +kernel
theorem qt4_ok (k : Nat) (h : k < 349) : qcl k < 15 ∧ qcn (qcl k) = (qmn k).cls ∧ qml k ≤ 21 ∧ (k ≠ 298 → k ≠ 299 → plainName (qmn k).cls = true) ∧ ((qmn k).cls ≠ "java/lang/invoke/MethodHandle" ∧ (qmn k).cls ≠ "java/lang/invoke/VarHandle") ∧
    (∀ h ∈ qha k, h.2.2.2 ≠ 0 ∧ (qcp (qcl k) h.2.2.2).2.2 = 40 ∧ ((qcp (qcl k) h.2.2.2).1 = 100 ∨ (qcp (qcl k) h.2.2.2).1 = 101)) := by
  have h1 : qclc k = true := qrg (P := fun k => qclc k = true) (List.all_eq_true.mp qclc_ok) (Nat.zero_le k) (by omega)
  unfold qclc at h1
  simp only [Bool.and_eq_true, Bool.or_eq_true, Bool.not_eq_true'] at h1
  obtain ⟨g1, g2, g3, g4⟩ := h1
  have g1 := nlT g1
  obtain ⟨c1, c2, c3⟩ := qcl_n _ g1
  rw [qcl_cn h] at c1 c2 c3
  refine ⟨g1, qcl_cn h, Nat.le_of_ble_eq_true g2, fun h8 h9 => c1 (fun g => ?_), ⟨c2, c3⟩, fun x hx => ?_⟩
  · rcases g3 with g3 | g3 | g3
    · exact h8 (nbT g3)
    · exact h9 (nbT g3)
    · rw [g, qbT] at g3; cases g3
  · have := List.all_eq_true.mp g4 x hx
    simp only [Bool.and_eq_true, Bool.or_eq_true, Bool.not_eq_true'] at this
    obtain ⟨a1, a2, a3⟩ := this
    refine ⟨fun g => ?_, nbT a2, ?_⟩
    · rw [g, qbT] at a1; cases a1
    · rcases a3 with a3 | a3
      · exact Or.inl (nbT a3)
      · exact Or.inr (nbT a3)
theorem qvw_0 : (u_ws (qvw 0).1 (qvw 0).2.1 (qvw 0).2.2 ++ [Cond.instantiable (qvw 0).1 (qvw 0).2.2, Cond.initialized (qvw 0).1]) = ([(1, 195), (1, 197), (1, 199), (1, 201), (1, 185), (1, 5)] : List (Nat × Nat)).filterMap (fun i => (qtc i.1)[i.2]?) := rfl
theorem qvg_0 : (u_ws (qvw 0).1 (qvw 0).2.1 (qvw 0).2.2 ++ [Cond.instantiable (qvw 0).1 (qvw 0).2.2, Cond.initialized (qvw 0).1]).all goodWord = true := by decide +kernel
theorem qvw_1 : (u_ws (qvw 1).1 (qvw 1).2.1 (qvw 1).2.2 ++ [Cond.instantiable (qvw 1).1 (qvw 1).2.2, Cond.initialized (qvw 1).1]) = ([(2, 30), (2, 32), (2, 34), (2, 36), (2, 38), (2, 40), (2, 42), (2, 44), (2, 46), (2, 48), (2, 50), (2, 12), (1, 7)] : List (Nat × Nat)).filterMap (fun i => (qtc i.1)[i.2]?) := rfl
theorem qvg_1 : (u_ws (qvw 1).1 (qvw 1).2.1 (qvw 1).2.2 ++ [Cond.instantiable (qvw 1).1 (qvw 1).2.2, Cond.initialized (qvw 1).1]).all goodWord = true := by decide +kernel
theorem qvw_2 : (u_ws (qvw 2).1 (qvw 2).2.1 (qvw 2).2.2 ++ [Cond.instantiable (qvw 2).1 (qvw 2).2.2, Cond.initialized (qvw 2).1]) = ([(1, 133), (1, 135), (1, 137), (1, 139), (1, 141), (1, 143), (1, 145), (1, 147), (1, 149), (1, 151), (1, 153), (1, 155), (1, 157), (1, 159), (1, 161), (1, 163), (1, 165), (1, 77), (1, 3)] : List (Nat × Nat)).filterMap (fun i => (qtc i.1)[i.2]?) := rfl
theorem qvg_2 : (u_ws (qvw 2).1 (qvw 2).2.1 (qvw 2).2.2 ++ [Cond.instantiable (qvw 2).1 (qvw 2).2.2, Cond.initialized (qvw 2).1]).all goodWord = true := by decide +kernel
theorem qvw_3 : (u_ws (qvw 3).1 (qvw 3).2.1 (qvw 3).2.2 ++ [Cond.instantiable (qvw 3).1 (qvw 3).2.2, Cond.initialized (qvw 3).1]) = ([(1, 177), (1, 179), (1, 181), (1, 169), (1, 4)] : List (Nat × Nat)).filterMap (fun i => (qtc i.1)[i.2]?) := rfl
theorem qvg_3 : (u_ws (qvw 3).1 (qvw 3).2.1 (qvw 3).2.2 ++ [Cond.instantiable (qvw 3).1 (qvw 3).2.2, Cond.initialized (qvw 3).1]).all goodWord = true := by decide +kernel
theorem qvw_4 : (u_ws (qvw 4).1 (qvw 4).2.1 (qvw 4).2.2 ++ [Cond.instantiable (qvw 4).1 (qvw 4).2.2, Cond.initialized (qvw 4).1]) = ([(2, 62), (2, 55), (1, 8)] : List (Nat × Nat)).filterMap (fun i => (qtc i.1)[i.2]?) := rfl
theorem qvg_4 : (u_ws (qvw 4).1 (qvw 4).2.1 (qvw 4).2.2 ++ [Cond.instantiable (qvw 4).1 (qvw 4).2.2, Cond.initialized (qvw 4).1]).all goodWord = true := by decide +kernel
theorem qvw_5 : (u_ws (qvw 5).1 (qvw 5).2.1 (qvw 5).2.2 ++ [Cond.instantiable (qvw 5).1 (qvw 5).2.2, Cond.initialized (qvw 5).1]) = ([(1, 233), (1, 235), (1, 237), (1, 239), (2, 1), (2, 3), (2, 5), (2, 7), (1, 205), (1, 6)] : List (Nat × Nat)).filterMap (fun i => (qtc i.1)[i.2]?) := rfl
theorem qvg_5 : (u_ws (qvw 5).1 (qvw 5).2.1 (qvw 5).2.2 ++ [Cond.instantiable (qvw 5).1 (qvw 5).2.2, Cond.initialized (qvw 5).1]).all goodWord = true := by decide +kernel
theorem qvw_6 : (u_ws (qvw 6).1 (qvw 6).2.1 (qvw 6).2.2 ++ [Cond.instantiable (qvw 6).1 (qvw 6).2.2, Cond.initialized (qvw 6).1]) = ([(1, 56), (1, 58), (1, 60), (1, 62), (1, 64), (1, 66), (1, 68), (1, 70), (1, 72), (1, 30), (1, 2)] : List (Nat × Nat)).filterMap (fun i => (qtc i.1)[i.2]?) := rfl
theorem qvg_6 : (u_ws (qvw 6).1 (qvw 6).2.1 (qvw 6).2.2 ++ [Cond.instantiable (qvw 6).1 (qvw 6).2.2, Cond.initialized (qvw 6).1]).all goodWord = true := by decide +kernel
theorem qvw_7 : (u_ws (qvw 7).1 (qvw 7).2.1 (qvw 7).2.2 ++ [Cond.instantiable (qvw 7).1 (qvw 7).2.2, Cond.initialized (qvw 7).1]) = ([(2, 112), (2, 114), (2, 116), (2, 118), (2, 120), (2, 122), (2, 124), (2, 126), (2, 128), (2, 130), (2, 132), (2, 134), (2, 136), (2, 138), (2, 140), (2, 142), (2, 144), (2, 146), (1, 22), (1, 1)] : List (Nat × Nat)).filterMap (fun i => (qtc i.1)[i.2]?) := rfl
theorem qvg_7 : (u_ws (qvw 7).1 (qvw 7).2.1 (qvw 7).2.2 ++ [Cond.instantiable (qvw 7).1 (qvw 7).2.2, Cond.initialized (qvw 7).1]).all goodWord = true := by decide +kernel
theorem qvw_8 : (u_ws (qvw 8).1 (qvw 8).2.1 (qvw 8).2.2 ++ [Cond.instantiable (qvw 8).1 (qvw 8).2.2, Cond.initialized (qvw 8).1]) = ([(6, 194), (6, 196), (6, 198), (6, 200), (6, 202), (6, 204), (6, 206), (6, 208), (6, 210), (6, 212), (6, 214), (6, 216), (6, 218), (6, 220), (6, 222), (6, 224), (6, 226), (6, 228), (6, 230), (6, 232), (6, 234), (6, 236), (6, 238), (7, 0), (7, 2), (7, 4), (7, 6), (7, 8), (7, 10), (7, 12), (7, 14), (7, 16), (7, 18), (7, 20), (7, 22), (7, 24), (7, 26), (7, 28), (7, 30), (7, 32), (7, 34), (7, 36), (7, 38), (7, 40), (7, 42), (7, 44), (7, 46), (7, 48), (7, 50), (7, 52), (7, 54), (7, 56), (7, 58), (7, 60), (7, 62), (7, 64), (6, 108), (1, 9)] : List (Nat × Nat)).filterMap (fun i => (qtc i.1)[i.2]?) := rfl
theorem qvg_8 : (u_ws (qvw 8).1 (qvw 8).2.1 (qvw 8).2.2 ++ [Cond.instantiable (qvw 8).1 (qvw 8).2.2, Cond.initialized (qvw 8).1]).all goodWord = true := by decide +kernel
theorem qvw_mem {W1 : List Cond} {a b : Cond} (h : ∀ w ∈ W1 ++ [a, b], w ∈ qW) : (∀ w ∈ W1, w ∈ qW) ∧ a ∈ qW ∧ b ∈ qW := ⟨fun w hw => h w (List.mem_append_left _ hw), h a (List.mem_append_right _ List.mem_cons_self), h b (List.mem_append_right _ (List.mem_cons_of_mem _ List.mem_cons_self))⟩
theorem qvw_fld : ∀ ci, ci < 9 → ∀ j, j < (qvw ci).2.2 → (qty ci j = .int ∨ defaultValue (qty ci j) = .null ∧ ¬ qty ci j = .int) := by decide +kernel
theorem qt5_ok : ∀ ci, ci < 9 → (∀ w ∈ u_ws (qvw ci).1 (qvw ci).2.1 (qvw ci).2.2, w ∈ qW) ∧ Cond.instantiable (qvw ci).1 (qvw ci).2.2 ∈ qW ∧ Cond.initialized (qvw ci).1 ∈ qW ∧ (qvw ci).2.2 < 2 ^ 31 ∧
    (∀ j, j < (qvw ci).2.2 → parseFieldDescriptor ((qvw ci).2.1 j).2.2.1 = some (qty ci j)) ∧ (∀ a, a < (qvw ci).2.2 → ∀ b, b < (qvw ci).2.2 → a ≠ b → ((qvw ci).2.1 a).2.1 ≠ ((qvw ci).2.1 b).2.1) ∧
    (∀ j, j < (qvw ci).2.2 → (qty ci j = .int ∨ defaultValue (qty ci j) = .null ∧ ¬ qty ci j = .int)) := fun ci h => by
  have hf := qvw_fld ci h
  match ci, h, hf with
  | 0, _, hf => obtain ⟨a1, a2, a3⟩ := qvw_mem (fun w hw => qinW (qps _ qvw_0 w hw) (List.all_eq_true.mp qvg_0 w hw)); exact ⟨a1, a2, a3, by decide, tyX0_ok, nmX0, hf⟩
  | 1, _, hf => obtain ⟨a1, a2, a3⟩ := qvw_mem (fun w hw => qinW (qps _ qvw_1 w hw) (List.all_eq_true.mp qvg_1 w hw)); exact ⟨a1, a2, a3, by decide, tyX1_ok, nmX1, hf⟩
  | 2, _, hf => obtain ⟨a1, a2, a3⟩ := qvw_mem (fun w hw => qinW (qps _ qvw_2 w hw) (List.all_eq_true.mp qvg_2 w hw)); exact ⟨a1, a2, a3, by decide, tyX2_ok, nmX2, hf⟩
  | 3, _, hf => obtain ⟨a1, a2, a3⟩ := qvw_mem (fun w hw => qinW (qps _ qvw_3 w hw) (List.all_eq_true.mp qvg_3 w hw)); exact ⟨a1, a2, a3, by decide, tyX3_ok, nmX3, hf⟩
  | 4, _, hf => obtain ⟨a1, a2, a3⟩ := qvw_mem (fun w hw => qinW (qps _ qvw_4 w hw) (List.all_eq_true.mp qvg_4 w hw)); exact ⟨a1, a2, a3, by decide, tyX4_ok, nmX4, hf⟩
  | 5, _, hf => obtain ⟨a1, a2, a3⟩ := qvw_mem (fun w hw => qinW (qps _ qvw_5 w hw) (List.all_eq_true.mp qvg_5 w hw)); exact ⟨a1, a2, a3, by decide, tyX5_ok, nmX5, hf⟩
  | 6, _, hf => obtain ⟨a1, a2, a3⟩ := qvw_mem (fun w hw => qinW (qps _ qvw_6 w hw) (List.all_eq_true.mp qvg_6 w hw)); exact ⟨a1, a2, a3, by decide, tyX6_ok, nmX6, hf⟩
  | 7, _, hf => obtain ⟨a1, a2, a3⟩ := qvw_mem (fun w hw => qinW (qps _ qvw_7 w hw) (List.all_eq_true.mp qvg_7 w hw)); exact ⟨a1, a2, a3, by decide, tyX7_ok, nmX7, hf⟩
  | 8, _, hf => obtain ⟨a1, a2, a3⟩ := qvw_mem (fun w hw => qinW (qps _ qvw_8 w hw) (List.all_eq_true.mp qvg_8 w hw)); exact ⟨a1, a2, a3, by decide, tyX8_ok, nmX8, hf⟩
