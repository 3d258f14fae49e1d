/-! ===== the small machine's runs are the machine's ===== -/
section QSD
variable {E : qEnv} {p : Program} {l : Launch} {e : Env} {R : Room} {s : State} {m : MethodId} {args : Array Value} {below : List Frame} {meth : Method} {c : Code} {c0 u0 : Nat} {Q : State → Prop} {k : Nat}
theorem qs_throw (hT : qTab) (hE : qEok E) (C0 : qCx E p l s m args meth c k) (hk : k < 349) {pc nx tg i x y z ex : Nat} (hcd : qcd k pc = some (.new i, nx, tg)) (hcp : qcp (qcl k) i = (x, y, z)) (hx : x = 100 + ex) (hex : ex < 2) (hha : qha k = [])
    (hfr : 6 ≤ R.frames) (hlo : 240 ≤ R.locals) {lv : qV} {M : qM} (hc0 : c0 ≤ qce M) (hu0 : u0 ≤ qus M) (hb1 : qce M + 1 - c0 ≤ R.cells) (hb2 : qus M + 6 - u0 ≤ R.slots) :
    qGo E p l e R s m args below meth c (qml k) c0 u0 (qEnd E below args s c0 u0 (.inr (ex, qth M))) pc lv [] M := fun H locs ls h1 h2 h3 => by
  have hq := hT.1 k pc _ nx tg hk hcd
  obtain ⟨-, hd⟩ := q_len hq 3 rfl (by decide)
  have g2 := hq.2
  unfold qiok at g2
  rw [Bool.and_eq_true] at g2
  have g3 := g2.2
  dsimp only at g3
  rw [hcp] at g3
  simp only [Bool.or_eq_true, Bool.and_eq_true, decide_eq_true_eq] at g3
  obtain ⟨g4, -, g5 | ⟨-, g6, g7, g8, g9⟩⟩ := g3
  · have := nlT g5
    omega
  have d3 := qdq_ok g7
  have d4 := qdq_ok g8
  have d7 := qdq_ok g9
  obtain ⟨t1, t2, t3, t4, t5, tI, tZ, tL, tX⟩ := hT
  obtain ⟨hxe, hb, hml, hown, hts, hret, hlk, hnm, hexc, hsf, hs, hst, hsz⟩ := C0
  obtain ⟨tX1, tX2⟩ := tX ex hex
  have hU := hsf.2.2.2.2.2.2.2.2.1
  have hN := hsf.2.2.2.2.2.2.2.2.2
  have ini : (Cond.initialized (qen ex)).before args s = true := hts _ (tX1 _ List.mem_cons_self)
  have ins : (Cond.instantiable (qen ex) 6).before args s = true := hts _ (tX1 _ (List.mem_cons_of_mem _ List.mem_cons_self))
  have hat : ∀ w ∈ qthA ex, w.before args s = true := fun w hw => by
    rcases (tX2 w hw).2 with h | h | h
    · exact hts _ (tX1 _ (List.mem_cons_of_mem _ (List.mem_cons_of_mem _ (List.mem_filter.mpr ⟨hw, h⟩))))
    · rw [h]
      exact qcastable ins
    · exact qdcl_at h hts
  have hck : (Cond.classLink RX7 i (qen ex)).before args s = true := by
    have hz : 10 ≤ z := by have := nbT g4; omega
    have h9 := t2 _ _ _ _ _ (t4 k hk).1 (qcp_mem hcp hz)
    have hcl : qcn (qcl k) = RX7 := (t4 k hk).2.1.trans g6
    have g4 := nbT g4
    subst g4
    subst hx
    refine hts _ (h9 _ ?_)
    rcases (by omega : ex = 0 ∨ ex = 1) with rfl | rfl
    · show _ ∈ [Cond.classLink (qcn (qcl k)) i (qen 0)]
      rw [hcl]
      exact List.mem_cons_self
    · show _ ∈ [Cond.classLink (qcn (qcl k)) i (qen 1)]
      rw [hcl]
      exact List.mem_cons_self
  have hic : (if x = 100 then 360 else 354) = (if ex = 0 then 360 else 354) := by
    subst hx
    rcases (by omega : ex = 0 ∨ ex = 1) with rfl | rfl <;> rfl
  rw [hic] at d4
  rw [g6] at hown
  refine vx_throw0 (names := ["java/lang/RuntimeException", "java/lang/Exception"]) (A := qA E) hxe hb hst hown ?_ (by decide) hck ini hat ?_ (vx_Zq.kept hU (qro_kept hs hE)) (vx_Zq.kept hN (qro_kept hs hE)) h2 (by rw [h3.1, hml]) hd d3 d4 d7 ?_ (by show 2 + 3 < R.frames; omega) (by show 0 + (13 * (2 + 1) + 42) ≤ R.locals; omega) (by omega) (by omega) hlk ?_ h2.2.2 ?_ ?_
  · rcases (by omega : ex = 0 ∨ ex = 1) with rfl | rfl <;> decide
  · intro w hw
    rcases List.mem_cons.mp hw with rfl | hw
    · rfl
    · rcases List.mem_cons.mp hw with rfl | hw
      · rfl
      · exact (tX2 w hw).1
  · intro q hq
    rw [hexc, hha] at hq
    cases hq
  · intro t hvm hz o
    refine ⟨⟨_, _, rfl, rfl, qHR_th h1 hz o⟩, Nat.le_trans h2.1 hz, fun q hq hA => ?_⟩
    rw [o q (Nat.lt_of_lt_of_le hq h2.1)]
    exact h2.2.1 q hq hA
  · show _ ≤ qce M + 1 - c0
    omega
  · show _ ≤ qus M + 6 - u0
    omega
/-- behind a call -/
theorem q_after {H : Heap} {locs : List Loc} {cells slots mc ms pc : Nat} {ls : Array Slot} {st0 rest : List Value} {a : Array Value} {R1 : qR}
    (hr : vx_Run p l e R s m args below meth c H locs cells slots mc ms (F0 m pc ls st0) rest (qQc E R1 a) (qXc E R1) (qA E)) (hS : va_S (qA E) s.heap H locs)
    (k1 : ∀ v M1, R1 = .inl (v, M1) → ∀ (H1 : Heap) (locs1 : List Loc), qHR E M1 H1 → va_S (qA E) s.heap H1 locs1 → W p l e R s m args below meth c H1 locs1 (cells + mc) (slots + ms) Q (F0 m (pc + 3) ls ((v.map (qtv E)).toList ++ rest)))
    (k2 : ∀ ex M1, R1 = .inr (ex, M1) → ∀ (H1 : Heap) (locs1 : List Loc) (q : Addr) (ce : Cell), qHR E M1 H1 → va_S (qA E) s.heap H1 locs1 → H1[q]? = some ce → ce.vm = .none → s.vm.findClass (qen ex) = some ce.cls → vx_W p l e R s m args below meth c H1 locs1 (cells + mc) (slots + ms) Q (F0 m pc ls rest) q) :
    W p l e R s m args below meth c H locs cells slots Q (F0 m pc ls st0) := by
  intro T hT X
  rcases hr T hT X with ⟨v, st₀, t, T', L, h0, X', hL, e1, e2, ⟨⟨v9, M9, hR, hv, hH⟩, hF⟩, st⟩ | ⟨q, st₀, t, T', L, E9, ce, h0, X', hL, e1, e2, ⟨⟨e9, M9, hR, hN, hH⟩, hF⟩, hce, hcv, hcl, st⟩
  · cases hv
    obtain ⟨-, -, i3⟩ := vx_keep h0 e1 hS (fun _ _ h => h) (fun _ h => h) hL hF
    obtain ⟨t2, a1, b1⟩ := k1 v9 M9 hR T'.heap (locs ++ L) (by rw [e1]; exact hH) i3 T' rfl X'
    exact ⟨t2, st t2 a1, b1⟩
  · obtain ⟨-, -, i3⟩ := vx_keep h0 e1 hS (fun _ _ h => h) (fun _ h => h) hL hF
    subst hN
    obtain ⟨t2, a1, b1⟩ := k2 e9 M9 hR T'.heap (locs ++ L) q ce (by rw [e1]; exact hH) i3 (by rw [e1]; exact hce) hcv hcl T' rfl X'
    exact ⟨t2, st.trans a1, b1⟩
end QSD
