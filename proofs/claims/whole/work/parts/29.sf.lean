/-! ===== what a state knows at the start ===== -/
set_option maxRecDepth 100000
theorem qNW_in : qNW = [(1, 47), (1, 50), (1, 110), (1, 86), (1, 212), (1, 220), (3, 67), (1, 128), (1, 130), (1, 228), (1, 125), (1, 117), (6, 56), (1, 48), (1, 52), (1, 54), (2, 203), (1, 41), (1, 40), (1, 51), (1, 49), (1, 217), (1, 115), (1, 214), (1, 96), (1, 222), (1, 230), (1, 89), (1, 85), (1, 91), (1, 101), (2, 83), (1, 121), (1, 94), (1, 87), (1, 118), (1, 112), (1, 103), (1, 99), (1, 132), (1, 31), (1, 78), (1, 170), (1, 186), (1, 206), (2, 13), (2, 56), (1, 36), (1, 43), (1, 111), (1, 191), (1, 45), (1, 88), (1, 123), (1, 213), (1, 92), (1, 95), (1, 98), (1, 221), (1, 114), (1, 119), (1, 229), (1, 232), (1, 126), (1, 226), (1, 224), (2, 27), (2, 29), (1, 218), (1, 108), (1, 106), (1, 104), (2, 61)].filterMap (fun i => (qtc i.1)[i.2]?) := rfl
theorem qNW_ot : qNW.all (fun w => w.onTables) = true := by decide +kernel
def qSRl : List (String × Nat × String × Nat) := (List.range 20).map (fun n => ((qsc n).1, (qsc n).2, qstx (10 + n), 10 + n))
theorem qSR_eq : qSR = qSRl := rfl
theorem qSR_in : (qSRl.map (fun q => Cond.stringRef q.1 q.2.1 q.2.2.1)) = [(4, 3), (4, 56), (4, 57), (4, 58), (4, 59), (4, 60), (4, 61), (4, 62), (4, 120), (4, 167), (4, 169), (4, 170), (4, 171), (4, 172), (4, 173), (4, 174), (4, 175), (4, 176), (4, 177), (4, 178)].filterMap (fun i => (qtc i.1)[i.2]?) := rfl
theorem qsr_arg {s : State} {args : Array Value} {a : String} {k : Nat} {t : String} (h : (Cond.stringRef a k t).before args s = true) : (Cond.stringRef a k t).before #[] s = true := h
theorem qao_arg {s : State} {args : Array Value} {C : String} (h : (Cond.arrayOver (.object C)).before args s = true) : va_AO C s := h
theorem qaa_arg {s : State} {args : Array Value} (h : (Cond.arrayOver (.array .int)).before args s = true) : (Cond.arrayOver (.array .int)).before #[] s = true := h
section QSS
variable {s : State} {args : Array Value}
theorem qk_NW (hts : ∀ w ∈ lw_tbl, w.before args s = true) : ∀ w ∈ qNW, va_Nw w s := fun w hw => va_Nw.of (List.all_eq_true.mp qNW_ot w hw) (hts w (qps _ qNW_in w hw))
theorem qk_AO (hts : ∀ w ∈ lw_tbl, w.before args s = true) : va_AO RX5 s ∧ qAA s := ⟨qao_arg (hts _ (qtc_in (j := 2) (List.mem_of_getElem? (i := 10) rfl))), qaa_arg (hts _ (qtc_in (j := 1) (List.mem_of_getElem? (i := 83) rfl)))⟩
theorem qk_SR (hts : ∀ w ∈ lw_tbl, w.before args s = true) {n : Nat} (hn : n < 20) {a : Nat} (hev : (qst n).eval args s none [] s = some (.ref a)) : vk_R (qsc n).1 (qsc n).2 (qstx (10 + n)) a s :=
  ⟨qsr_arg (hts _ (qps _ qSR_in _ (List.mem_map.mpr ⟨_, List.mem_map.mpr ⟨n, List.mem_range.mpr hn, rfl⟩, rfl⟩))), hev⟩
theorem qk_Nc {C T : String} (h : (Cond.not (.castable C T)).before args s = true) : va_Nc C T s := by
  unfold Cond.before Cond.holds at h
  simp only [Cond.value] at h
  cases h1 : s.vm.findClass C with
  | none => rw [h1] at h; simp at h
  | some c =>
    cases h2 : s.vm.findClass T with
    | none => rw [h1, h2] at h; simp at h
    | some t =>
      rw [h1, h2] at h
      simp at h
      exact ⟨c, t, h1, h2, h⟩
end QSS
