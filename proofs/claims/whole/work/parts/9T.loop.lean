/-! ===== the law's loop, and its whole run, by program (wip/whole/gen/mkloop.py) ===== -/
section LOOP
variable {d Ls : Nat} {xs : Nat → Int32}
theorem qofn (n : Nat) : Int32.ofNat n = qj (n : Int) := by
  first | rfl | exact Int32.ofInt_eq_ofNat.symm | (unfold qj; simp)
set_option maxHeartbeats 2000000 in
theorem lw_loop (hd : 300 ≤ d) (hL : Ls ≤ 3584) : ∀ (m t : Nat) (g : qG1) (I : Nat → Nat → Int32), Ls < 7 * t + m → 7 * t ≤ Ls → qInv xs Ls t g I →
    qwq d 348 23 [(0, .ref 1), (1, .ref 64), (2, .ref 245), (3, .ref 694), (4, .int (qj ((7 * t : Nat) : Int)))] [] (qw g I) (fun R => ∃ M2, R = .inl (some (.int 1), M2) ∧ qce M2 ≤ 601024 ∧ qus M2 ≤ 7293034)
  | 0, t, g, I, h1, h2, _ => by omega
  | m + 1, t, g, I, h1, h2, V => by
    obtain ⟨V0, V1, V2, V3, V4⟩ := V
    have e : Int32.ofNat (qSH g.2.1 1).2 - qj 7 = qj ((Ls : Int) - 7) := by
      show Int32.ofNat g.2.1 - qj 7 = _
      rw [V1, qofn, qj_sub]
    by_cases c : 7 * t + 7 ≤ Ls
    · have V : qInv xs Ls t g I := ⟨V0, V1, V2, V3, V4⟩
      have ih := lw_loop hd hL m (t + 1)
      have e7 : qj ((7 * t : Nat) : Int) + qj 7 = qj ((7 * (t + 1) : Nat) : Int) := by
        rw [qj_add]; congr 1
      have go : ∀ g2 I2, qInv xs Ls (t + 1) g2 I2 → qwq d 348 3171 [(0, .ref 1), (1, .ref 64), (2, .ref 245), (3, .ref 694), (4, .int (qj ((7 * t : Nat) : Int)))] [] (qw g2 I2) (fun R => ∃ M2, R = .inl (some (.int 1), M2) ∧ qce M2 ≤ 601024 ∧ qus M2 ≤ 7293034) := fun g2 I2 V2 => b348_3171 (by omega) (by
        rw [e7]
        exact ih g2 I2 (by omega) (by omega) V2)
      have go0 : qwq d 348 3171 [(0, .ref 1), (1, .ref 64), (2, .ref 245), (3, .ref 694), (4, .int (qj ((7 * t : Nat) : Int)))] [] (qw g I) (fun R => ∃ M2, R = .inl (some (.int 1), M2) ∧ qce M2 ≤ 601024 ∧ qus M2 ≤ 7293034) := go g I ⟨V0, V1, V2, by omega, by omega⟩
      refine b348_23 (by omega) ⟨fun q => ?_, fun _ => ⟨by rw [V1]; exact qIx_z (by omega) (by omega) (by omega), ⟨fun _ => lc_276 (by omega) c hL V go, fun _ => ⟨fun _ => lc_349 (by omega) c hL V go, fun _ => ⟨fun _ => lc_405 (by omega) c hL V go, fun _ => ⟨fun _ => lc_461 (by omega) c hL V go, fun _ => ⟨fun _ => lc_517 (by omega) c hL V go, fun _ => ⟨fun _ => lc_530 (by omega) c hL V go, fun _ => ⟨fun _ => lc_586 (by omega) c hL V go, fun _ => ⟨fun _ => lc_654 (by omega) c hL V go, fun _ => ⟨fun _ => lc_722 (by omega) c hL V go, fun _ => ⟨fun _ => lc_790 (by omega) c hL V go, fun _ => ⟨fun _ => lc_858 (by omega) c hL V go, fun _ => ⟨fun _ => lc_914 (by omega) c hL V go, fun _ => ⟨fun _ => lc_970 (by omega) c hL V go, fun _ => ⟨fun _ => lc_1026 (by omega) c hL V go, fun _ => ⟨fun _ => lc_1094 (by omega) c hL V go, fun _ => ⟨fun _ => lc_1150 (by omega) c hL V go, fun _ => ⟨fun _ => lc_1218 (by omega) c hL V go, fun _ => ⟨fun _ => lc_1286 (by omega) c hL V go, fun _ => ⟨fun _ => lc_1342 (by omega) c hL V go, fun _ => ⟨fun _ => lc_1398 (by omega) c hL V go, fun _ => ⟨fun _ => lc_1466 (by omega) c hL V go, fun _ => ⟨fun _ => lc_1546 (by omega) c hL V go, fun _ => ⟨fun _ => lc_1602 (by omega) c hL V go, fun _ => ⟨fun _ => lc_1670 (by omega) c hL V go, fun _ => ⟨fun _ => lc_1726 (by omega) c hL V go, fun _ => ⟨fun _ => lc_1739 (by omega) c hL V go, fun _ => ⟨fun _ => lc_1795 (by omega) c hL V go, fun _ => ⟨fun _ => lc_1808 (by omega) c hL V go, fun _ => ⟨fun _ => lc_1876 (by omega) c hL V go, fun _ => ⟨fun _ => lc_1944 (by omega) c hL V go, fun _ => ⟨fun _ => lc_1957 (by omega) c hL V go, fun _ => ⟨fun _ => lc_2013 (by omega) c hL V go, fun _ => ⟨fun _ => lc_2026 (by omega) c hL V go, fun _ => ⟨fun _ => lc_2082 (by omega) c hL V go, fun _ => ⟨fun _ => lc_2138 (by omega) c hL V go, fun _ => ⟨fun _ => lc_2218 (by omega) c hL V go, fun _ => ⟨fun _ => lc_2286 (by omega) c hL V go, fun _ => ⟨fun _ => lc_2342 (by omega) c hL V go, fun _ => ⟨fun _ => lc_2410 (by omega) c hL V go, fun _ => ⟨fun _ => lc_2423 (by omega) c hL V go, fun _ => ⟨fun _ => lc_2436 (by omega) c hL V go, fun _ => ⟨fun _ => lc_2504 (by omega) c hL V go, fun _ => ⟨fun _ => lc_2517 (by omega) c hL V go, fun _ => ⟨fun _ => lc_2573 (by omega) c hL V go, fun _ => ⟨fun _ => lc_2629 (by omega) c hL V go, fun _ => ⟨fun _ => lc_2704 (by omega) c hL V go, fun _ => ⟨fun _ => lc_2760 (by omega) c hL V go, fun _ => ⟨fun _ => lc_2816 (by omega) c hL V go, fun _ => ⟨fun _ => lc_2872 (by omega) c hL V go, fun _ => ⟨fun _ => lc_2885 (by omega) c hL V go, fun _ => ⟨fun _ => lc_2977 (by omega) c hL V go, fun _ => ⟨fun _ => lc_3095 (by omega) c hL V go, fun _ => ⟨fun _ => lc_3108 (by omega) c hL V go, fun _ => ⟨fun _ => lc_3121 (by omega) c hL V go, fun _ => ⟨fun _ => lc_3146 (by omega) c hL V go, fun _ => go0⟩⟩⟩⟩⟩⟩⟩⟩⟩⟩⟩⟩⟩⟩⟩⟩⟩⟩⟩⟩⟩⟩⟩⟩⟩⟩⟩⟩⟩⟩⟩⟩⟩⟩⟩⟩⟩⟩⟩⟩⟩⟩⟩⟩⟩⟩⟩⟩⟩⟩⟩⟩⟩⟩⟩⟩⟩
      rw [e, qj_lt (by omega) (by omega) (by omega) (by omega)] at q
      omega
    · refine b348_23 (by omega) ⟨fun _ => ⟨qw g I, ?_, ?_, ?_⟩, fun q => ?_⟩
      · rw [show qb true = (1 : Int32) from by decide]
      · show g.1.2.2.1 ≤ _
        omega
      · show g.1.2.2.2 ≤ _
        omega
      · refine absurd ?_ q
        rw [e, qj_lt (by omega) (by omega) (by omega) (by omega)]
        omega
theorem law_all (hL : Ls ≤ 3584) (r6 : Nat) : ∃ n M2, qX n 2000 348 0 (lv_args 0 [.ref 1]) [] (qM0 Ls xs r6) (fun R => R = .inl (some (.int 1), M2)) ∧ qce M2 ≤ 601024 ∧ qus M2 ≤ 7293034 := by
  have run : qwq 2000 348 0 [(0, .ref 1)] [] (qM0 Ls xs r6) (fun R => ∃ M2, R = .inl (some (.int 1), M2) ∧ qce M2 ≤ 601024 ∧ qus M2 ≤ 7293034) := by
    rw [m0_eq]
    refine qY_sound qU_ok (fun p => bif Nat.beq p 3 then some [0, 1, 2, 3, 4] else none) 12 true ⟨rfl, mc_to (mc_mk m0_pk rfl rfl rfl rfl) ?_⟩
    refine qY_sound qU_ok (fun p => bif Nat.beq p 7 then some [0, 1, 2, 3, 4] else none) 12 true ⟨by omega, rfl, c84 (by omega) (pk_new m0_pk rfl) m0_z m0_con (fun P2 J hP hJ => ?_)⟩
    show qwq 2000 348 7 [(0, .ref 1)] [.ref 64] (mc 245 181 3665 Ls (qIm 245 J) P2) _
    refine qY_sound qU_ok (fun p => bif Nat.beq p 11 then some [0, 1, 2, 3, 4] else none) 12 true ⟨rfl, mc_to (mc_mk hP rfl rfl rfl rfl) ?_⟩
    refine qY_sound qU_ok (fun p => bif Nat.beq p 15 then some [0, 1, 2, 3, 4] else none) 12 true ⟨by omega, rfl, c164 (by omega) (pk_new hP rfl) (fun a ha => if_neg (by omega)) (fun P3 K hP3 hK => ?_)⟩
    show qwq 2000 348 15 [(0, .ref 1), (1, .ref 64)] [.ref 245] (mc 694 630 6970 Ls (qIm 694 K) P3) _
    refine qY_sound qU_ok (fun p => bif Nat.beq p 19 then some [0, 1, 2, 3, 4] else none) 12 true ⟨⟨rfl, by decide, by decide⟩, mc_to (mc_mk hP3 rfl rfl rfl rfl) ?_⟩
    refine qY_sound qU_ok (fun p => bif Nat.beq p 23 then some [0, 1, 2, 3, 4] else none) 12 true ?_
    show qwq 2000 348 23 [(0, .ref 1), (1, .ref 64), (2, .ref 245), (3, .ref 694), (4, .int (qj ((7 * 0 : Nat) : Int)))] [] (mc 695 631 6971 Ls (qIm 694 K) P3) _
    rw [mc_end (pk_leaf hP3 (fun _ => rfl) rfl)]
    refine lw_loop (xs := xs) (by omega) hL (Ls + 1) 0 _ _ (by omega) (by omega) ⟨obj0 rfl hJ m0_con hK, rfl, ?_, Nat.le_refl _, Nat.le_refl _⟩
    have e1 : qIm 694 K 1 = K 1 := if_pos (by omega)
    have e2 : qIm 245 J 1 = J 1 := if_pos (by omega)
    rw [e1, hK.2.2.2 1 (by omega), e2, hJ.2.2.2.2.2.2 1 (by omega)]
    rfl
  obtain ⟨n, hn⟩ := run
  obtain ⟨R, ⟨M2, e, h1, h2⟩, h3⟩ := qX_det n hn
  subst e
  exact ⟨n, M2, h3, h1, h2⟩
end LOOP
