/-! ===== the words of the start ===== -/
def qfl1 : List Cond := flatC (Jvm.Cond.and given_1 narrow_1)
/-- the String constants: class, entry, text -/
def qsc (n : Nat) : String × Nat := match n with
  | 0 => ("PuppetHeirs$Family", 125)
  | 1 => ("PuppetHeirs$Family", 131)
  | 2 => ("PuppetHeirs$Family", 133)
  | 3 => ("PuppetHeirs$Family", 135)
  | 4 => ("PuppetHeirs$Family", 137)
  | 5 => ("PuppetHeirs$Family", 138)
  | 6 => ("PuppetHeirs$Family", 140)
  | 7 => ("PuppetHeirs$Family", 142)
  | 8 => ("PuppetHeirs$Family", 172)
  | 9 => ("PuppetHeirs$Law", 78)
  | 10 => ("PuppetHeirs$Law", 84)
  | 11 => ("PuppetHeirs$Law", 86)
  | 12 => ("PuppetHeirs$Law", 88)
  | 13 => ("PuppetHeirs$Law", 90)
  | 14 => ("PuppetHeirs$Law", 92)
  | 15 => ("PuppetHeirs$Law", 94)
  | 16 => ("PuppetHeirs$Law", 96)
  | 17 => ("PuppetHeirs$Law", 98)
  | 18 => ("PuppetHeirs$Law", 100)
  | 19 => ("PuppetHeirs$Law", 102)
  | _ => ("", 0)
def qsb (n : Nat) : List Int32 := match n with
  | 0 => [104, 97, 110, 100]
  | 1 => [112, 117, 112, 112, 101, 116]
  | 2 => [119, 111, 114, 107, 115]
  | 3 => [113, 117, 97, 114, 114, 101, 108]
  | 4 => [115, 105, 108, 101, 110, 116]
  | 5 => [97, 99, 116]
  | 6 => [111, 119, 101, 115]
  | 7 => [119, 101, 97, 114]
  | 8 => [101, 110, 100]
  | 9 => [108, 105, 109, 112]
  | 10 => [102, 97, 108, 108]
  | 11 => [97, 103, 101]
  | 12 => [119, 111, 114, 107, 115]
  | 13 => [115, 116, 114, 105, 110, 103, 115]
  | 14 => [121, 101, 97, 114]
  | 15 => [110, 117, 109, 98, 101, 114]
  | 16 => [112, 117, 112, 112, 101, 116]
  | 17 => [107, 105, 110]
  | 18 => [108, 101, 97, 115, 116]
  | 19 => [109, 111, 115, 116]
  | _ => []
def qst (n : Nat) : Term := .string (qsc n).1 (qsc n).2
def qsw0 (n : Nat) : List Cond := [.exactly (qst n) "java/lang/String", .eq (.field (qst n) "java/lang/String" "coder" "B") (.int 0), .arrayOf (.field (qst n) "java/lang/String" "value" "[B") .byte, .eq (.length (.field (qst n) "java/lang/String" "value" "[B")) (.int (Int32.ofNat (qsb n).length))]
def qsw1 (n : Nat) : List Cond := (List.range (qsb n).length).map (fun j => .eq (.elem (.field (qst n) "java/lang/String" "value" "[B") (.int (Int32.ofNat j))) (.int ((qsb n).getD j 0)))
/-- the constant arrays: 2, 3, 4 -/
def qar (x : Nat) : List Int32 := match x with
  | 2 => [1000, 2, 2004, 1003, 3, 2004, 2003, 1008, 2002]
  | 3 => [1, 2, 4, 8, 16, 32, 64, 128, 256]
  | 4 => [3, 5, 6, 9, 10, 12, 17, 18, 20, 24, 33, 34, 36, 40, 48, 65, 66, 68, 72, 80, 96, 129, 130, 132, 136, 144, 160, 192, 257, 258, 260, 264, 272, 288, 320, 384]
  | _ => []
def qat (x : Nat) : Term := .static (qsn x 1).1 (qsn x 1).2.1 (qsn x 1).2.2
def qaw0 (x : Nat) : List Cond := [.arrayOf (qat x) .int, .eq (.length (qat x)) (.int (Int32.ofNat (qar x).length))]
def qaw1 (x : Nat) : List Cond := (List.range (qar x).length).map (fun j => .eq (.elem (qat x) (.int (Int32.ofNat j))) (.int ((qar x).getD j 0)))
def qow : List Cond := [.isRef (.static (qsn 0 2).1 (qsn 0 2).2.1 (qsn 0 2).2.2), .eq (.static (qsn 0 0).1 (qsn 0 0).2.1 (qsn 0 0).2.2) (.int 1), .isRef (.static Bundle.tN "UNASSIGNED_STACK" Bundle.steD), .isRef (.static Bundle.tN "SUPPRESSED_SENTINEL" Bundle.listD), .not (.castable (qen 1) (qen 0)), .not (.castable (qen 0) (qen 1))]
theorem qfl_sub {l : List Cond} {p n : Nat} (h : l = (qfl1.drop p).take n) : ∀ w ∈ l, w ∈ qfl1 := fun w hw => by
  rw [h] at hw
  exact List.mem_of_mem_drop (List.mem_of_mem_take hw)
set_option maxRecDepth 100000
theorem qsw_0 : qsw0 0 ++ qsw1 0 = (qfl1.drop 94).take 8 := rfl
theorem qsw_1 : qsw0 1 ++ qsw1 1 = (qfl1.drop 102).take 10 := rfl
theorem qsw_2 : qsw0 2 ++ qsw1 2 = (qfl1.drop 113).take 9 := rfl
theorem qsw_3 : qsw0 3 ++ qsw1 3 = (qfl1.drop 124).take 11 := rfl
theorem qsw_4 : qsw0 4 ++ qsw1 4 = (qfl1.drop 138).take 10 := rfl
theorem qsw_5 : qsw0 5 ++ qsw1 5 = (qfl1.drop 152).take 7 := rfl
theorem qsw_6 : qsw0 6 ++ qsw1 6 = (qfl1.drop 164).take 8 := rfl
theorem qsw_7 : qsw0 7 ++ qsw1 7 = (qfl1.drop 178).take 8 := rfl
theorem qsw_8 : qsw0 8 ++ qsw1 8 = (qfl1.drop 193).take 7 := rfl
theorem qsw_9 : qsw0 9 ++ qsw1 9 = (qfl1.drop 208).take 8 := rfl
theorem qsw_10 : qsw0 10 ++ qsw1 10 = (qfl1.drop 225).take 8 := rfl
theorem qsw_11 : qsw0 11 ++ qsw1 11 = (qfl1.drop 243).take 7 := rfl
theorem qsw_12 : qsw0 12 ++ qsw1 12 = (qfl1.drop 261).take 9 := rfl
theorem qsw_13 : qsw0 13 ++ qsw1 13 = (qfl1.drop 282).take 11 := rfl
theorem qsw_14 : qsw0 14 ++ qsw1 14 = (qfl1.drop 306).take 8 := rfl
theorem qsw_15 : qsw0 15 ++ qsw1 15 = (qfl1.drop 328).take 10 := rfl
theorem qsw_16 : qsw0 16 ++ qsw1 16 = (qfl1.drop 353).take 10 := rfl
theorem qsw_17 : qsw0 17 ++ qsw1 17 = (qfl1.drop 379).take 7 := rfl
theorem qsw_18 : qsw0 18 ++ qsw1 18 = (qfl1.drop 403).take 9 := rfl
theorem qsw_19 : qsw0 19 ++ qsw1 19 = (qfl1.drop 430).take 8 := rfl
theorem qsw_in : ∀ n, n < 20 → ∀ w ∈ qsw0 n ++ qsw1 n, w ∈ qfl1 := fun n h => match n, h with
  | 0, _ => qfl_sub qsw_0
  | 1, _ => qfl_sub qsw_1
  | 2, _ => qfl_sub qsw_2
  | 3, _ => qfl_sub qsw_3
  | 4, _ => qfl_sub qsw_4
  | 5, _ => qfl_sub qsw_5
  | 6, _ => qfl_sub qsw_6
  | 7, _ => qfl_sub qsw_7
  | 8, _ => qfl_sub qsw_8
  | 9, _ => qfl_sub qsw_9
  | 10, _ => qfl_sub qsw_10
  | 11, _ => qfl_sub qsw_11
  | 12, _ => qfl_sub qsw_12
  | 13, _ => qfl_sub qsw_13
  | 14, _ => qfl_sub qsw_14
  | 15, _ => qfl_sub qsw_15
  | 16, _ => qfl_sub qsw_16
  | 17, _ => qfl_sub qsw_17
  | 18, _ => qfl_sub qsw_18
  | 19, _ => qfl_sub qsw_19
  | n + 20, h => absurd h (by omega)
theorem qaw_2 : qaw0 2 ++ qaw1 2 = (qfl1.drop 5).take 11 := rfl
theorem qaw_3 : qaw0 3 ++ qaw1 3 = (qfl1.drop 17).take 11 := rfl
theorem qaw_4 : qaw0 4 ++ qaw1 4 = (qfl1.drop 29).take 38 := rfl
theorem qow_in : qow = [70, 69, 67, 68, 93, 83].filterMap (fun i => qfl1[i]?) := rfl
theorem qow_mem : ∀ w ∈ qow, w ∈ qfl1 := fun w hw => by
  rw [qow_in] at hw
  obtain ⟨i, -, hi⟩ := List.mem_filterMap.mp hw
  exact List.mem_of_getElem? hi
