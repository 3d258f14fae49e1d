/-! ===== the class' states: copied, as told; who is doomed ===== -/
theorem qisS_ap {s s2 : Nat} (h : qisS s) (h2 : qisS s2) (hn : ¬ s = s2) : s + 16 ≤ s2 ∨ s2 + 16 ≤ s := by unfold qisS at h h2; omega
theorem qisS_F {s f : Nat} (h : qisS s) (h2 : qisF f) : s + 16 ≤ f ∨ f + 29 ≤ s := by unfold qisS at h; unfold qisF at h2; omega
def aTold (F : qFam) : qSt := (fun r j => if r = 1 then F.1 1 j else if r = 3 then F.1 6 j else if 5 ≤ r then (if F.2 0 (r - 5) j = true then 1 else 0) else 0, F.2 0, fun _ => false)
theorem qWS_told {F : qFam} (W : qWF F) : qWS F (aTold F) := by
  refine ⟨fun h p e => ?_, fun h => Nat.zero_le _, fun p hp => ?_, fun p => Nat.zero_le _⟩
  · have := W.2.2.2.2.2.2.2.2.1 h p e
    exact ⟨this.1, this.2.1⟩
  · exact (W.2.2.2.2.2.1 p hp).2.2.2
def sdN (x : Int32) : Int32 := x * qj 1103515245 + qj 12345
def aLot (x : Int32) : Int32 := (x >>> (qj 16 &&& 31)) &&& qj 15
/-- the seed when so many hands have been asked -/
def aSd (F : qFam) (S : qSt) (x : Int32) : Nat → Int32
  | 0 => x
  | h + 1 => if aAl F S h = true then sdN (aSd F S x h) else aSd F S x h
def aDm (F : qFam) (S : qSt) (x q : Int32) (h : Nat) : Bool := aAl F S h && decide (aLot (aSd F S x (h + 1)) < q)
theorem qlow (y : Int32) : ∃ n : Nat, n < 32768 ∧ y &&& qj 32767 = qj n ∧ y &&& qj 15 = qj (n % 16 : Nat) := by
  refine ⟨y.toBitVec.toNat % 32768, Nat.mod_lt _ (by decide), qj_bits _ _ (fun i hi => ?_), qj_bits _ _ (fun i hi => ?_)⟩
  · have e := qj_lsb 32767 hi
    have e1 : (32767 : Nat).testBit i = decide (i < 15) := Nat.testBit_two_pow_sub_one 15 i
    have e2 := Nat.testBit_mod_two_pow y.toBitVec.toNat 15 i
    rw [Int32.toBitVec_and, BitVec.getLsbD_and, show (qj 32767).toBitVec.getLsbD i = (32767 : Nat).testBit i from e, e1]
    rw [show (32768 : Nat) = 2 ^ 15 from rfl, e2, BitVec.getLsbD, Bool.and_comm]
  · have e := qj_lsb 15 hi
    have e1 : (15 : Nat).testBit i = decide (i < 4) := Nat.testBit_two_pow_sub_one 4 i
    have e2 := Nat.testBit_mod_two_pow y.toBitVec.toNat 4 i
    have e3 : y.toBitVec.toNat % 32768 % 16 = y.toBitVec.toNat % 16 := by omega
    rw [Int32.toBitVec_and, BitVec.getLsbD_and, show (qj 15).toBitVec.getLsbD i = (15 : Nat).testBit i from e, e1]
    rw [e3, show (16 : Nat) = 2 ^ 4 from rfl, e2, BitVec.getLsbD, Bool.and_comm]
theorem qj_div {a b : Nat} (ha : a < 2147483648) (hb : b < 2147483648) : qj (a : Int) / qj (b : Int) = qj ((a / b : Nat) : Int) := by
  have m1 : Int32.minValue.toInt = -2147483648 := by decide
  have m2 : Int32.maxValue.toInt = 2147483647 := by decide
  have h := Int32.ofInt_tdiv (a := (a : Int)) (b := (b : Int)) (by omega) (by omega) (by omega) (by omega)
  unfold qj
  rw [← h]
  congr 1
theorem qlot (y : Int32) : (y &&& qj 32767) - (y &&& qj 32767) / qj 16 * qj 16 = y &&& qj 15 := by
  obtain ⟨n, hn, h1, h2⟩ := qlow y
  rw [h1, h2, show qj 16 = qj ((16 : Nat) : Int) from rfl, qj_div (by omega) (by omega), qj_mul, qj_sub]
  congr 1
  omega
section ST2
variable {d : Nat} {g : qG1} {I : Nat → Nat → Int32} {F : qFam} {S : qSt} {f s s2 : Nat}
theorem c53 (hd : 1 ≤ d) (hs : qisS s) (hs2 : qisS s2) (hn : ¬ s = s2) (W : qWF F) (R : qRS F I s2 S) :
    ∃ I', qRun d 53 [.ref s, .ref s2] (qw g I) (.inl (none, qw g I')) ∧ qRS F I' s S ∧ ∀ a, (a < s ∨ s + 16 ≤ a) → I' a = I a := by
  have hap := qisS_ap hs hs2 hn
  have h9 := W.1
  have h8 := W.2.1
  let A : Nat → (Nat → Nat → Int32) → Prop := fun i J => (∀ a, (a < s ∨ s + 16 ≤ a) → J a = I a) ∧ J s 0 = I s2 0 ∧ J s 1 = I s2 1 ∧ ∀ h, h < i → J (s + 1) h = I (s2 + 1) h ∧ J (s + 2) h = I (s2 + 2) h ∧ J (s + 3) h = I (s2 + 3) h ∧ ∀ p, p < 8 → J (s + 4 + 1 + h) p = I (s2 + 4 + 1 + h) p
  have K2 : ∀ i, i ≤ 8 → ∀ J, A 9 J → (∀ p, p < i → J (s + 14) p = I (s2 + 14) p ∧ J (s + 15) p = I (s2 + 15) p) →
      ∃ I', (qRS F I' s S ∧ ∀ a, (a < s ∨ s + 16 ≤ a) → I' a = I a) ∧ ∀ Q : qR → Prop, Q (.inl (none, qw g I')) → qwq d 53 98 [(0, .ref s), (1, .ref s2), (2, .int (qj i))] [] (qw g J) Q := by
    refine upto _ (fun J hA hB => ?_) (fun i hi ih J hA hB => ?_)
    · refine ⟨J, ⟨?_, hA.1⟩, fun Q hQ => b53_98 hs hs2 (by omega) ?_⟩
      · obtain ⟨a0, a1, a2, a3⟩ := hA
        obtain ⟨s1, s2, s3, s4, s5, s6, s7, s8⟩ := R
        exact ⟨a1.trans s1, a2.trans s2, fun h hh => ((a3 h (by omega)).1).trans (s3 h hh), fun h hh => ((a3 h hh).2.1).trans (s4 h hh), fun h hh => ((a3 h hh).2.2.1).trans (s5 h hh), fun h p hh hp => ((a3 h hh).2.2.2 p hp).trans (s6 h p hh hp), fun p hp => ((hB p (by omega)).1).trans (s7 p hp), fun p hp => ((hB p hp).2).trans (s8 p hp)⟩
      · simp (disch := omega) only [qj_le]
        exact ⟨fun _ => hQ, fun c => by omega⟩
    · obtain ⟨a0, a1, a2, a3⟩ := hA
      obtain ⟨I', k1, k2⟩ := ih (qup (qup J (s + 14) i (I (s2 + 14) i)) (s + 15) i (I (s2 + 15) i)) ⟨fun a ha => by rw [qup_ne (by omega), qup_ne (by omega)]; exact a0 a ha, by rw [qup_ne (by omega), qup_ne (by omega)]; exact a1, by rw [qup_ne (by omega), qup_ne (by omega)]; exact a2, fun h hh => by
          simp (disch := omega) only [qup_ne]; exact a3 h hh⟩ (fun p hp => by
          simp (disch := omega) only [qup_ne, qup_at]
          by_cases e : p = i
          · rw [if_pos e, if_pos e, e]; exact ⟨rfl, rfl⟩
          · rw [if_neg e, if_neg e]; exact hB p (by omega))
      refine ⟨I', k1, fun Q hQ => b53_98 hs hs2 (by omega) ?_⟩
      have e1 := a0 (s2 + 14) (by omega)
      have e2 := a0 (s2 + 15) (by omega)
      simp (disch := omega) only [qj_le, qIx_z, qj_nat, qup_ne, e1, e2, qj_add, qj_s1, true_and]
      exact ⟨fun c => by omega, fun _ => k2 Q hQ⟩
  have K1 : ∀ i, i ≤ 9 → ∀ J, A i J →
      ∃ I', (qRS F I' s S ∧ ∀ a, (a < s ∨ s + 16 ≤ a) → I' a = I a) ∧ ∀ Q : qR → Prop, Q (.inl (none, qw g I')) → qwq d 53 18 [(0, .ref s), (1, .ref s2), (2, .int (qj i))] [] (qw g J) Q := by
    refine upto _ (fun J hA => ?_) (fun i hi ih J hA => ?_)
    · obtain ⟨I', k1, k2⟩ := K2 0 (Nat.zero_le _) J hA (fun p hp => absurd hp (Nat.not_lt_zero _))
      refine ⟨I', k1, fun Q hQ => b53_18 hs hs2 (by omega) ?_⟩
      simp (disch := omega) only [qj_le]
      exact ⟨fun _ => k2 Q hQ, fun c => by omega⟩
    · have K : ∀ j, j ≤ 8 → ∀ J, A i J → (J (s + 1) i = I (s2 + 1) i ∧ J (s + 2) i = I (s2 + 2) i ∧ J (s + 3) i = I (s2 + 3) i) → (∀ p, p < j → J (s + 4 + 1 + i) p = I (s2 + 4 + 1 + i) p) →
          ∃ I', (qRS F I' s S ∧ ∀ a, (a < s ∨ s + 16 ≤ a) → I' a = I a) ∧ ∀ Q : qR → Prop, Q (.inl (none, qw g I')) → qwq d 53 62 [(0, .ref s), (1, .ref s2), (2, .int (qj i)), (3, .int (qj j))] [] (qw g J) Q := by
        refine upto _ (fun J hA hB hC => ?_) (fun j hj ihj J hA hB hC => ?_)
        · obtain ⟨I', k1, k2⟩ := ih J ⟨hA.1, hA.2.1, hA.2.2.1, fun h hh => by
            by_cases e : h = i
            · subst e; exact ⟨hB.1, hB.2.1, hB.2.2, hC⟩
            · exact hA.2.2.2 h (by omega)⟩
          refine ⟨I', k1, fun Q hQ => b53_62 hs hs2 (by omega) ?_⟩
          simp (disch := omega) only [qj_le, qj_add, qj_s1]
          exact ⟨fun _ => k2 Q hQ, fun c => by omega⟩
        · obtain ⟨a0, a1, a2, a3⟩ := hA
          obtain ⟨I', k1, k2⟩ := ihj (qup J (s + 4 + 1 + i) j (I (s2 + 4 + 1 + i) j)) ⟨fun a ha => by rw [qup_ne (by omega)]; exact a0 a ha, by rw [qup_ne (by omega)]; exact a1, by rw [qup_ne (by omega)]; exact a2, fun h hh => by
              simp (disch := omega) only [qup_ne]; exact a3 h hh⟩ (by simp (disch := omega) only [qup_ne]; exact hB) (fun p hp => by
              simp (disch := omega) only [qup_at]
              by_cases e : p = j
              · rw [if_pos e, e]
              · rw [if_neg e]; exact hC p (by omega))
          refine ⟨I', k1, fun Q hQ => b53_62 hs hs2 (by omega) ?_⟩
          have e1 := a0 (s2 + 4 + 1 + i) (by omega)
          simp (disch := omega) only [qj_le, qIx_z, qj_nat, q2_e, e1, qj_add, qj_s1, true_and]
          exact ⟨fun c => by omega, fun _ => k2 Q hQ⟩
      obtain ⟨a0, a1, a2, a3⟩ := hA
      obtain ⟨I', k1, k2⟩ := K 0 (Nat.zero_le _) (qup (qup (qup J (s + 1) i (I (s2 + 1) i)) (s + 2) i (I (s2 + 2) i)) (s + 3) i (I (s2 + 3) i)) ⟨fun a ha => by simp (disch := omega) only [qup_ne]; exact a0 a ha, by simp (disch := omega) only [qup_ne]; exact a1, by simp (disch := omega) only [qup_ne]; exact a2, fun h hh => by
          simp (disch := omega) only [qup_ne, qup_at, if_neg]; exact a3 h hh⟩ (by simp (disch := omega) only [qup_ne, qup_at, if_true]; exact ⟨trivial, trivial, trivial⟩) (fun p hp => absurd hp (Nat.not_lt_zero _))
      refine ⟨I', k1, fun Q hQ => b53_18 hs hs2 (by omega) ?_⟩
      have e1 := a0 (s2 + 1) (by omega)
      have e2 := a0 (s2 + 2) (by omega)
      have e3 := a0 (s2 + 3) (by omega)
      simp (disch := omega) only [qj_le, qIx_z, qj_nat, qup_ne, e1, e2, e3, true_and]
      exact ⟨fun c => by omega, fun _ => k2 Q hQ⟩
  obtain ⟨I', ⟨k1, k2⟩, k3⟩ := K1 0 (Nat.zero_le _) (qup (qup I s 0 (I s2 0)) s 1 (I s2 1)) ⟨fun a ha => by simp (disch := omega) only [qup_ne], by simp (disch := omega) only [qup_at]; rfl, by simp (disch := omega) only [qup_at]; rfl, fun h hh => absurd hh (Nat.not_lt_zero _)⟩
  refine ⟨I', qRun_of fun Q hQ => b53_0 hs hs2 (by omega) ?_, k1, k2⟩
  rw [qup_ne (b := s2) (by omega)]
  exact k3 Q hQ
theorem c52 (hd : 2 ≤ d) (hs : qisS s) (hf : qisF f) (W : qWF F) (RF : qRF F I f) :
    ∃ I', qRun d 52 [.ref s, .ref f] (qw g I) (.inl (none, qw g I')) ∧ qRS F I' s (aTold F) ∧ ∀ a, (a < s ∨ s + 16 ≤ a) → I' a = I a := by
  have hap := qisS_F hs hf
  have h9 := W.1
  have h8 := W.2.1
  obtain ⟨f1, f2, f3, f4, f5, f6, f7, f8, f9, f10, f11, f12, f13, f14, -⟩ := RF
  let A : Nat → (Nat → Nat → Int32) → Prop := fun i J => (∀ a, (a < s ∨ s + 16 ≤ a) → J a = I a) ∧ J s 0 = qj 0 ∧ J s 1 = qj 0 ∧ ∀ h, h < i → J (s + 1) h = I (f + 1) h ∧ J (s + 2) h = I (f + 4) h ∧ J (s + 3) h = qj (-1) ∧ ∀ p, p < 8 → J (s + 4 + 1 + h) p = qj (if F.2 0 h p = true then 0 else -1)
  have K2 : ∀ i, i ≤ 8 → ∀ J, A 9 J → (∀ p, p < i → J (s + 14) p = I (f + 19) p ∧ J (s + 15) p = qj (-1)) →
      ∃ I', (qRS F I' s (aTold F) ∧ ∀ a, (a < s ∨ s + 16 ≤ a) → I' a = I a) ∧ ∀ Q : qR → Prop, Q (.inl (none, qw g I')) → qwq d 52 97 [(0, .ref s), (1, .ref f), (2, .int (qj i))] [] (qw g J) Q := by
    refine upto _ (fun J hA hB => ?_) (fun i hi ih J hA hB => ?_)
    · refine ⟨J, ⟨?_, hA.1⟩, fun Q hQ => b52_97 hf hs (by omega) ?_⟩
      · obtain ⟨a0, a1, a2, a3⟩ := hA
        refine ⟨a1, a2.trans ?_, fun h hh => ((a3 h (by omega)).1).trans (f5 h hh), fun h hh => ((a3 h hh).2.1).trans (f8 h hh), fun h hh => (a3 h hh).2.2.1, fun h p hh hp => ((a3 h hh).2.2.2 p hp).trans ?_, fun p hp => ((hB p (by omega)).1).trans (f14 p hp), fun p hp => (hB p hp).2⟩
        · have : bm 9 (aTold F).2.2 = 0 := bm_zero.mpr (fun k hk => rfl)
          rw [this]; rfl
        · have : (aTold F).1 (5 + h) p = if F.2 0 h p = true then 1 else 0 := by
            show (if 5 + h = 1 then _ else if 5 + h = 3 then _ else if 5 ≤ 5 + h then _ else _) = _
            rw [if_neg (by omega), if_neg (by omega), if_pos (by omega), Nat.add_sub_cancel_left]
          rw [this]
          cases F.2 0 h p <;> rfl
      · simp (disch := omega) only [qj_le]
        exact ⟨fun _ => hQ, fun c => by omega⟩
    · obtain ⟨a0, a1, a2, a3⟩ := hA
      obtain ⟨I', k1, k2⟩ := ih (qup (qup J (s + 14) i (I (f + 19) i)) (s + 15) i (qj (-1))) ⟨fun a ha => by rw [qup_ne (by omega), qup_ne (by omega)]; exact a0 a ha, by rw [qup_ne (by omega), qup_ne (by omega)]; exact a1, by rw [qup_ne (by omega), qup_ne (by omega)]; exact a2, fun h hh => by
          simp (disch := omega) only [qup_ne]; exact a3 h hh⟩ (fun p hp => by
          simp (disch := omega) only [qup_ne, qup_at]
          by_cases e : p = i
          · rw [if_pos e, if_pos e, e]; exact ⟨rfl, rfl⟩
          · rw [if_neg e, if_neg e]; exact hB p (by omega))
      refine ⟨I', k1, fun Q hQ => b52_97 hf hs (by omega) ?_⟩
      have e1 := a0 (f + 19) (by omega)
      simp (disch := omega) only [qj_le, qIx_z, qj_nat, e1, qj_add, qj_s1, true_and]
      exact ⟨fun c => by omega, fun _ => k2 Q hQ⟩
  have K1 : ∀ i, i ≤ 9 → ∀ J, A i J →
      ∃ I', (qRS F I' s (aTold F) ∧ ∀ a, (a < s ∨ s + 16 ≤ a) → I' a = I a) ∧ ∀ Q : qR → Prop, Q (.inl (none, qw g I')) → qwq d 52 12 [(0, .ref s), (1, .ref f), (2, .int (qj i))] [] (qw g J) Q := by
    refine upto _ (fun J hA => ?_) (fun i hi ih J hA => ?_)
    · obtain ⟨I', k1, k2⟩ := K2 0 (Nat.zero_le _) J hA (fun p hp => absurd hp (Nat.not_lt_zero _))
      refine ⟨I', k1, fun Q hQ => b52_12 hf hs (by omega) ?_⟩
      simp (disch := omega) only [qj_le]
      exact ⟨fun _ => k2 Q hQ, fun c => by omega⟩
    · have K : ∀ j, j ≤ 8 → ∀ J, A i J → (J (s + 1) i = I (f + 1) i ∧ J (s + 2) i = I (f + 4) i ∧ J (s + 3) i = qj (-1)) → (∀ p, p < j → J (s + 4 + 1 + i) p = qj (if F.2 0 i p = true then 0 else -1)) →
          ∃ I', (qRS F I' s (aTold F) ∧ ∀ a, (a < s ∨ s + 16 ≤ a) → I' a = I a) ∧ ∀ Q : qR → Prop, Q (.inl (none, qw g I')) → qwq d 52 51 [(0, .ref s), (1, .ref f), (2, .int (qj i)), (3, .int (qj j))] [] (qw g J) Q := by
        refine upto _ (fun J hA hB hC => ?_) (fun j hj ihj J hA hB hC => ?_)
        · obtain ⟨I', k1, k2⟩ := ih J ⟨hA.1, hA.2.1, hA.2.2.1, fun h hh => by
            by_cases e : h = i
            · subst e; exact ⟨hB.1, hB.2.1, hB.2.2, hC⟩
            · exact hA.2.2.2 h (by omega)⟩
          refine ⟨I', k1, fun Q hQ => b52_51 hf hs (by omega) ?_⟩
          simp (disch := omega) only [qj_le, qj_add, qj_s1]
          exact ⟨fun _ => k2 Q hQ, fun c => by omega⟩
        · obtain ⟨a0, a1, a2, a3⟩ := hA
          obtain ⟨I', k1, k2⟩ := ihj (qup J (s + 4 + 1 + i) j (qj (if F.2 0 i j = true then 0 else -1))) ⟨fun a ha => by rw [qup_ne (by omega)]; exact a0 a ha, by rw [qup_ne (by omega)]; exact a1, by rw [qup_ne (by omega)]; exact a2, fun h hh => by
              simp (disch := omega) only [qup_ne]; exact a3 h hh⟩ (by simp (disch := omega) only [qup_ne]; exact hB) (fun p hp => by
              simp (disch := omega) only [qup_at]
              by_cases e : p = j
              · rw [if_pos e, e]
              · rw [if_neg e]; exact hC p (by omega))
          refine ⟨I', k1, fun Q hQ => b52_51 hf hs (by omega) ?_⟩
          have e1 := hB.2.1.trans (f8 i hi)
          simp (disch := omega) only [qj_le, qIx_z, qj_nat, q2_e, e1, qhas_bm, qj_add, qj_s1, true_and]
          have k3 := k2 Q hQ
          refine ⟨fun c => by omega, fun _ => ⟨fun c => ?_, fun c => ?_⟩⟩
          · rw [c] at k3; exact k3
          · rw [c] at k3; exact k3
      obtain ⟨a0, a1, a2, a3⟩ := hA
      obtain ⟨I', k1, k2⟩ := K 0 (Nat.zero_le _) (qup (qup (qup J (s + 1) i (I (f + 1) i)) (s + 2) i (I (f + 4) i)) (s + 3) i (qj (-1))) ⟨fun a ha => by simp (disch := omega) only [qup_ne]; exact a0 a ha, by simp (disch := omega) only [qup_ne]; exact a1, by simp (disch := omega) only [qup_ne]; exact a2, fun h hh => by
          simp (disch := omega) only [qup_ne, qup_at, if_neg]; exact a3 h hh⟩ (by simp (disch := omega) only [qup_ne, qup_at, if_true]; exact ⟨trivial, trivial, trivial⟩) (fun p hp => absurd hp (Nat.not_lt_zero _))
      refine ⟨I', k1, fun Q hQ => b52_12 hf hs (by omega) ?_⟩
      have e1 := a0 (f + 1) (by omega)
      have e2 := a0 (f + 4) (by omega)
      simp (disch := omega) only [qj_le, qIx_z, qj_nat, qup_ne, e1, e2, true_and]
      exact ⟨fun c => by omega, fun _ => k2 Q hQ⟩
  obtain ⟨I', ⟨k1, k2⟩, k3⟩ := K1 0 (Nat.zero_le _) (qup (qup I s 0 (qj 0)) s 1 (qj 0)) ⟨fun a ha => by simp (disch := omega) only [qup_ne], by simp (disch := omega) only [qup_at]; rfl, by simp (disch := omega) only [qup_at]; rfl, fun h hh => absurd hh (Nat.not_lt_zero _)⟩
  exact ⟨I', qRun_of fun Q hQ => b52_0 hf hs (by omega) (k3 Q hQ), k1, k2⟩
theorem c49 (hd : 1 ≤ d) {x : Int32} (h : I 244 0 = x) : qRun d 49 [.ref 244] (qw g I) (.inl (some (.int (((sdN x) >>> (qj 16 &&& 31)) &&& qj 32767)), qw g (qup I 244 0 (sdN x)))) := by
  refine qRun_of fun Q hQ => b49_0 (by omega) ?_
  rw [h]; exact hQ
theorem c50 (hd : 3 ≤ d) (hs : qisS s) (hf : qisF f) (RF : qRF F I f) (W : qWF F) (R : qRS F I s S) (hy : S.1 0 0 ≤ 1000) {x q : Int32} (hx : I 244 0 = x) :
    ∃ I', qRun d 50 [.ref 244, .ref f, .ref s, .int q] (qw g I) (.inl (some (.int (qj (bm (F.1 0 0) (aDm F S x q) : Nat))), qw g I')) ∧ I' 244 0 = aSd F S x (F.1 0 0) ∧ ∀ a, ¬ a = 244 → I' a = I a := by
  have h9 := W.1
  have K : ∀ i, i ≤ F.1 0 0 → ∀ J, (∀ a, ¬ a = 244 → J a = I a) → J 244 0 = aSd F S x i →
      ∃ I', (I' 244 0 = aSd F S x (F.1 0 0) ∧ ∀ a, ¬ a = 244 → I' a = I a) ∧ ∀ Q : qR → Prop, Q (.inl (some (.int (qj (bm (F.1 0 0) (aDm F S x q) : Nat))), qw g I')) → qwq d 50 6 [(0, .ref 244), (1, .ref f), (2, .ref s), (3, .int q), (4, .int (qj (bm i (aDm F S x q) : Nat))), (5, .int (qj i))] [] (qw g J) Q := by
    refine upto _ (fun J hA hB => ?_) (fun i hi ih J hA hB => ?_)
    · refine ⟨J, ⟨hB, hA⟩, fun Q hQ => b50_6 hf hs (by omega) ?_⟩
      have e : J f 0 = qj (F.1 0 0) := by rw [hA f (by unfold qisF at hf; omega)]; exact RF.1
      simp (disch := omega) only [e, qj_le]
      exact ⟨fun _ => hQ, fun c => by omega⟩
    · have RF' : qRF F J f := qRF_cg RF (fun a h1 h2 => hA a (by unfold qisF at hf; omega))
      have R' : qRS F J s S := qRS_cg R (fun a h1 h2 => hA a (by unfold qisS at hs; omega))
      have e := RF'.1
      have c := c54 (d := d - 1) (g := g) (by omega) hs hf RF' W R' hy hi
      cases ha : aAl F S i with
      | false =>
        have e1 : aSd F S x (i + 1) = aSd F S x i := by rw [aSd, ha]; rfl
        have e2 : aDm F S x q i = false := by unfold aDm; rw [ha]; rfl
        obtain ⟨I', k1, k2⟩ := ih J hA (by rw [e1]; exact hB)
        rw [bm_sf e2] at k2
        refine ⟨I', k1, fun Q hQ => b50_6 hf hs (by omega) ?_⟩
        simp (disch := omega) only [e, qj_le]
        refine ⟨fun c => by omega, fun _ => ⟨_, _, c, ?_⟩⟩
        rw [ha, qj_add]
        exact ⟨fun _ => k2 Q hQ, fun c => Bool.noConfusion c⟩
      | true =>
        have e1 : aSd F S x (i + 1) = sdN (aSd F S x i) := by rw [aSd, ha]; rfl
        have e2 : aDm F S x q i = decide (aLot (sdN (aSd F S x i)) < q) := by unfold aDm; rw [ha, e1]; rfl
        obtain ⟨I', k1, k2⟩ := ih (qup J 244 0 (sdN (aSd F S x i))) (fun a ha => by rw [qup_ne ha]; exact hA a ha) (by rw [qup_at, if_pos rfl, e1])
        have c2 := c49 (d := d - 1) (g := g) (I := J) (by omega) hB
        refine ⟨I', k1, fun Q hQ => b50_6 hf hs (by omega) ?_⟩
        have k3 := k2 Q hQ
        simp (disch := omega) only [e, qj_le]
        refine ⟨fun c => by omega, fun _ => ⟨_, _, c, ?_⟩⟩
        rw [ha]
        refine ⟨fun c => Bool.noConfusion c, fun _ => ⟨_, _, c2, ?_⟩⟩
        rw [qlot, qj_add]
        refine ⟨fun c => ?_, fun c => ?_⟩
        · rw [bm_sf (P := aDm F S x q) (by rw [e2]; exact decide_eq_false ((qlt_nle _ _).mpr c))] at k3
          exact k3
        · rw [bm_st (P := aDm F S x q) (by rw [e2]; exact decide_eq_true ((qle_nlt _ _).mp c)) (by omega)]
          exact k3
  obtain ⟨I', k1, k2⟩ := K 0 (Nat.zero_le _) I (fun _ _ => rfl) hx
  exact ⟨I', qRun_of (fun Q hQ => b50_0 hf hs (by omega) (k2 Q hQ)), k1⟩
end ST2
