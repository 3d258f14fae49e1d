/-! ===== the tables promise, all of it (wip/whole/gen_chk.py) ===== -/
set_option maxRecDepth 100000
theorem qth_0 : qthW 0 = ([(1, 20), (4, 227), (1, 10), (3, 160), (3, 169), (3, 172), (3, 175), (3, 177), (3, 161), (3, 162), (1, 27), (1, 28), (3, 163), (3, 168), (3, 173), (3, 189), (3, 150), (3, 190), (3, 152), (3, 191), (3, 154), (3, 164), (3, 166), (3, 156), (4, 236), (4, 237), (4, 238), (3, 182), (3, 182), (3, 183), (3, 184), (3, 185), (3, 185), (3, 186), (3, 187), (3, 161), (4, 235), (4, 227), (4, 229), (3, 171), (4, 230), (4, 231), (4, 232), (4, 233), (3, 159), (3, 158), (4, 234)] : List (Nat × Nat)).filterMap (fun i => (qtc i.1)[i.2]?) := rfl
theorem qthg_0 : (qthW 0).all goodWord = true := by decide +kernel
theorem qth_1 : qthW 1 = ([(1, 13), (3, 139), (1, 10), (3, 160), (3, 169), (3, 172), (3, 175), (3, 177), (3, 161), (3, 162), (1, 27), (1, 28), (3, 163), (3, 168), (3, 173), (3, 189), (3, 150), (3, 190), (3, 152), (3, 191), (3, 154), (3, 164), (3, 166), (3, 156), (3, 179), (3, 180), (3, 181), (3, 182), (3, 182), (3, 183), (3, 184), (3, 185), (3, 185), (3, 186), (3, 187), (3, 161), (3, 178), (3, 139), (3, 147), (3, 148), (3, 149), (3, 151), (3, 153), (3, 155), (3, 159), (3, 158), (3, 157)] : List (Nat × Nat)).filterMap (fun i => (qtc i.1)[i.2]?) := rfl
theorem qthg_1 : (qthW 1).all goodWord = true := by decide +kernel
theorem qdc_0 : qdcl (.declares ⟨"java/lang/RuntimeException", "<init>", "()V"⟩) = true := by
  unfold qdcl
  refine Bool.and_eq_true_iff.mpr ⟨decide_eq_true (qinW (List.mem_of_getElem? (i := 775) rfl) rfl), List.any_eq_true.mpr ⟨lw_tbl.getD 776 .tt, qinW (List.mem_of_getElem? (i := 776) rfl) (by decide +kernel), by decide +kernel⟩⟩
theorem qdc_1 : qdcl (.declares ⟨"java/lang/Exception", "<init>", "()V"⟩) = true := by
  unfold qdcl
  refine Bool.and_eq_true_iff.mpr ⟨decide_eq_true (qinW (List.mem_of_getElem? (i := 778) rfl) rfl), List.any_eq_true.mpr ⟨lw_tbl.getD 779 .tt, qinW (List.mem_of_getElem? (i := 779) rfl) (by decide +kernel), by decide +kernel⟩⟩
theorem qdc_2 : qdcl (.declares ⟨"java/lang/Throwable", "<init>", "()V"⟩) = true := by
  unfold qdcl
  refine Bool.and_eq_true_iff.mpr ⟨decide_eq_true (qinW (List.mem_of_getElem? (i := 754) rfl) rfl), List.any_eq_true.mpr ⟨lw_tbl.getD 755 .tt, qinW (List.mem_of_getElem? (i := 755) rfl) (by decide +kernel), by decide +kernel⟩⟩
def qtho (e : Nat) (w : Cond) : Bool := vx_ot w && (goodWord w || (match w with
  | .castable a b => decide (a = qen e) && decide (b = qen e)
  | .declares x => decide (x = ⟨"java/lang/RuntimeException", "<init>", "()V"⟩) || (decide (x = ⟨"java/lang/Exception", "<init>", "()V"⟩) || decide (x = ⟨"java/lang/Throwable", "<init>", "()V"⟩))
  | _ => false))
theorem qtho_0 : (qthA 0).all (qtho 0) = true := by decide +kernel
theorem qtho_1 : (qthA 1).all (qtho 1) = true := by decide +kernel
theorem qtho_use {e : Nat} {w : Cond} (h : qtho e w = true) : vx_ot w = true ∧ (goodWord w = true ∨ w = .castable (qen e) (qen e) ∨ qdcl w = true) := by
  unfold qtho at h
  rw [Bool.and_eq_true, Bool.or_eq_true] at h
  refine ⟨h.1, ?_⟩
  rcases h.2 with h | h
  · exact Or.inl h
  · split at h
    · rw [Bool.and_eq_true] at h
      rw [of_decide_eq_true h.1, of_decide_eq_true h.2]
      exact Or.inr (Or.inl rfl)
    · simp only [Bool.or_eq_true] at h
      refine Or.inr (Or.inr ?_)
      rcases h with h | h | h
      · rw [of_decide_eq_true h]; exact qdc_0
      · rw [of_decide_eq_true h]; exact qdc_1
      · rw [of_decide_eq_true h]; exact qdc_2
    · cases h
theorem qt9_ok : ∀ e, e < 2 → (∀ w ∈ qthW e, w ∈ qW) ∧ (∀ w ∈ qthA e, vx_ot w = true ∧ (goodWord w = true ∨ w = .castable (qen e) (qen e) ∨ qdcl w = true))
  | 0, _ => ⟨fun w hw => qinW (qps _ qth_0 w hw) (List.all_eq_true.mp qthg_0 w hw), fun w hw => qtho_use (List.all_eq_true.mp qtho_0 w hw)⟩
  | 1, _ => ⟨fun w hw => qinW (qps _ qth_1 w hw) (List.all_eq_true.mp qthg_1 w hw), fun w hw => qtho_use (List.all_eq_true.mp qtho_1 w hw)⟩
theorem q_Tab : qTab := ⟨fun k pc ins nx tg hk h => qch_use (qch_all hk) h, fun cl i x y z hc he => qcw_all hc he, fun k hk => qmw_all hk, qt4_ok, qt5_ok, qinW (List.mem_of_getElem? (i := 188) rfl) rfl, qinW (List.mem_of_getElem? (i := 406) rfl) rfl, qinW (List.mem_of_getElem? (i := 2119) rfl) rfl, qt9_ok⟩
theorem q_TabO : qTabO := ⟨qinW (List.mem_of_getElem? (i := 140) rfl) rfl, qinW (List.mem_of_getElem? (i := 141) rfl) rfl⟩
