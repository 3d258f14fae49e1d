/-! ===== the text of the law, the reference, 3: units ===== -/
def mA (d : Nat) (g : qG1) (J4 : Nat → Nat → Int32) (Q : qR → Prop) : Prop :=
  ∃ (v7 : Int32) (J6 : _), qRun (d - 1) 174 [.ref 245, .int (J4 245 4)] (qw g J4) (.inl (some (.int v7), qw g J6)) ∧ ((¬ v7 = qj 40 → ∃ (v9 : Int32) (J8 : _), qRun (d - 1) 208 [.ref 245] (qw g J6) (.inl (some (.int v9), qw g J8)) ∧ ((v9 = qj (-1) → ∃ (v11 : Int32) (J10 : _), qRun (d - 1) 179 [.ref 245, .int (qj 0), .int (qj 999)] (qw g J8) (.inl (some (.int v11), qw g J10)) ∧ (∃ J12, qRun (d - 1) 204 [.ref 245, .int (qj 0), .int v11] (qw g J10) (.inl (none, qw g J12)) ∧ Q (.inl (none, qw g J12)))) ∧ (¬ v9 = qj (-1) → ∃ J13, qRun (d - 1) 204 [.ref 245, .int (qj 1), .int v9] (qw g J8) (.inl (none, qw g J13)) ∧ Q (.inl (none, qw g J13))))) ∧
    (¬ ¬ v7 = qj 40 → ∃ (v16 : Bool) (J15 : _), qRun (d - 1) 205 [.ref 245] (qw g J6) (.inl (some (.int (qb v16)), qw g J15)) ∧ ((v16 = true → ∃ J17, qRun (d - 1) 206 [.ref 245] (qw g (qup J15 245 4 (J15 245 4 + qj 1))) (.inl (none, qw g J17)) ∧ (∃ J18, qRun (d - 1) 186 [.ref 245, .int (qj 41)] (qw g J17) (.inl (none, qw g J18)) ∧ Q (.inl (none, qw g (qup J18 245 8 (J18 245 8 - qj 1)))))) ∧ (v16 = false → Q (.inl (none, qw g J15))))))
def mB (d : Nat) (g : qG1) (J4 : Nat → Nat → Int32) (w : Int32) (Q : qR → Prop) : Prop :=
  ∃ (v22 : Bool) (J21 : _), qRun (d - 1) 205 [.ref 245] (qw g J4) (.inl (some (.int (qb v22)), qw g J21)) ∧ ((v22 = true → ∃ J23, qRun (d - 1) 184 [.ref 245] (qw g J21) (.inl (none, qw g J23)) ∧ (∃ J24, qRun (d - 1) 186 [.ref 245, .int (qj 91)] (qw g J23) (.inl (none, qw g J24)) ∧ (∃ J25, qRun (d - 1) 206 [.ref 245] (qw g J24) (.inl (none, qw g J25)) ∧ (∃ J26, qRun (d - 1) 186 [.ref 245, .int (qj 44)] (qw g J25) (.inl (none, qw g J26)) ∧ (∃ J27, qRun (d - 1) 206 [.ref 245] (qw g J26) (.inl (none, qw g J27)) ∧ (∃ J28, qRun (d - 1) 186 [.ref 245, .int (qj 93)] (qw g J27) (.inl (none, qw g J28)) ∧ (∃ J29, qRun (d - 1) 204 [.ref 245, .int w, .int (qj 0)] (qw g J28) (.inl (none, qw g J29)) ∧ Q (.inl (none, qw g (qup J29 245 8 (J29 245 8 - qj 1)))))))))))  ∧ (v22 = false → Q (.inl (none, qw g J21))))
theorem wN_ne : ∀ w, 9 ≤ w → w ≤ 17 → ¬ sv (wN w) = sv (wN 18) ∧ ¬ sv (wN w) = sv (wN 19) := by
  intro w h1 h2
  have : w = 9 ∨ w = 10 ∨ w = 11 ∨ w = 12 ∨ w = 13 ∨ w = 14 ∨ w = 15 ∨ w = 16 ∨ w = 17 := by omega
  rcases this with rfl | rfl | rfl | rfl | rfl | rfl | rfl | rfl | rfl <;> decide +kernel
section LAW6
variable {g : qG1} {T : Nat → Nat} {n r d : Nat} {I : Nat → Nat → Int32}
/-- least or most of two -/
theorem mB_ok (p0 : mQ0 g T n r) (hn : n ≤ 150) {o i b e : Nat} {L : qLw} (hd : 60 + 3 * (7 - o) ≤ d) (ho : o ≤ 6) {J : Nat → Nat → Int32} (X : rX T n J b) (z : J 245 5 = qj 0) (R : rL L J) (e8 : J 245 8 = qj (o : Int)) (hL : L.1 ≤ i) (hib : i ≤ b) (he : e = tLt T n b) (hbe : b < e) (hen : e ≤ n) (hr : 3 * (n - i) + 1 ≤ r + 1) {c : Nat} (hc : c = 2000 ∨ c = 2001) :
    match (if 6 ≤ o then (.inl (3, b) : qLR) else
          match aSgn T n e 91 with
          | .inl e => .inl e
          | .inr j1 => match aLw T n r 0 (o + 1) L j1 with
            | .inl e => .inl e
            | .inr q1 => match aSgn T n q1.2 44 with
              | .inl e => .inl e
              | .inr j2 => match aLw T n r 0 (o + 1) q1.1 j2 with
                | .inl e => .inl e
                | .inr q2 => match aSgn T n q2.2 93 with
                  | .inl e => .inl e
                  | .inr j3 => .inr (ladd q2.1 c, j3)) with
    | .inr q => ∃ K, ((rX T n K q.2 ∧ K 245 5 = qj 0 ∧ rL q.1 K ∧ K 245 8 = qj (o : Int)) ∧ rG J K) ∧ ∀ Q : qR → Prop, Q (.inl (none, qw g K)) → mB d g J (qj (aKd c : Int)) Q
    | .inl e => ∃ K, (rE T n K e ∧ rG J K) ∧ ∀ Q : qR → Prop, Q (.inl (none, qw g K)) → mB d g J (qj (aKd c : Int)) Q := by
  have hv : aVl c = 0 := by rcases hc with rfl | rfl <;> rfl
  by_cases c6 : 6 ≤ o
  · rw [if_pos c6]
    have o6 : o = 6 := by omega
    obtain ⟨K, k1, k2, k3⟩ := m205f (d := d - 1) (g := g) (by omega) X z (by rw [e8, o6]; rfl)
    exact ⟨K, ⟨k2, rG_f k3⟩, fun Q hQ => ⟨_, K, k1, fun q => Bool.noConfusion q, fun _ => hQ⟩⟩
  · rw [if_neg c6]
    have k205 := m205 (d := d - 1) (g := g) (by omega) z e8 (by omega)
    have x1 : rX T n (qup J 245 8 (qj ((o + 1 : Nat) : Int))) b := rX_u X (by omega) (by omega)
    obtain ⟨J23, k23, x23, f23, z23, -⟩ := m184 (d := d - 1) (g := g) (by omega) x1
    have z23 : J23 245 5 = qj 0 := by rw [z23, qup_at, if_neg (by omega)]; exact z
    have g23 : rG J J23 := rG_tr rG_8 (rG_f f23)
    have R23 : rL L J23 := rL_f (rL_u R (by omega)) f23
    have e823 : J23 245 8 = qj ((o + 1 : Nat) : Int) := by rw [f23.2 8 (by omega) (by omega) (by omega), qup_at, if_pos rfl]
    rw [← he] at x23
    have k186 := m186 (d := d - 1) (g := g) (s := 91) (by omega) x23 z23 (by omega)
    -- what is done where a fault stands
    have flt : ∀ (K : Nat → Nat → Int32) (e : Nat × Nat), rE T n K e → rG J K → rE T n (qup K 245 8 (K 245 8 - qj 1)) e ∧ rG J (qup K 245 8 (K 245 8 - qj 1)) := fun K e h1 h2 => ⟨rE_8 h1, rG_tr h2 rG_8⟩
    cases h1 : aSgn T n e 91 with
    | inl ee =>
      rw [h1] at k186
      obtain ⟨J24, k24, E, f24⟩ := k186
      have ne := rE_ne E
      exact ⟨_, flt J24 ee E (rG_tr g23 (rG_f f24)), fun Q hQ => ⟨_, _, k205, fun _ => ⟨J23, k23, J24, k24, J24, m206e (by omega) ne, J24, m186e (by omega) ne _, J24, m206e (by omega) ne, J24, m186e (by omega) ne _, J24, m204e (by omega) ne _ _, hQ⟩, fun q => Bool.noConfusion q⟩⟩
    | inr j1 =>
      rw [h1] at k186
      obtain ⟨J24, k24, x24, z24, f24⟩ := k186
      have b1 := aSgn_s h1 hen
      have e824 : J24 245 8 = qj ((o + 1 : Nat) : Int) := by rw [f24.2 8 (by omega) (by omega) (by omega)]; exact e823
      have q0 := p0 (o + 1) L j1 J24 (d - 1) (by omega) (by omega) x24 z24 (rL_f R23 f24) e824 (by omega) (by omega)
      have g24 := rG_tr g23 (rG_f f24)
      simp only []
      cases h2 : aLw T n r 0 (o + 1) L j1 with
      | inl ee =>
        rw [h2] at q0
        obtain ⟨J25, k25, E, f25⟩ := q0
        have ne := rE_ne E
        exact ⟨_, flt J25 ee E (rG_tr g24 f25), fun Q hQ => ⟨_, _, k205, fun _ => ⟨J23, k23, J24, k24, J25, k25, J25, m186e (by omega) ne _, J25, m206e (by omega) ne, J25, m186e (by omega) ne _, J25, m204e (by omega) ne _ _, hQ⟩, fun q => Bool.noConfusion q⟩⟩
      | inr q1 =>
        rw [h2] at q0
        obtain ⟨J25, k25, ⟨x25, z25, R25, e825⟩, f25⟩ := q0
        have b2 := aLw_b _ _ _ _ _ _ h2 b1.2
        have g25 := rG_tr g24 f25
        have k186b := m186 (d := d - 1) (g := g) (s := 44) (by omega) x25 z25 (by omega)
        simp only []
        cases h3 : aSgn T n q1.2 44 with
        | inl ee =>
          rw [h3] at k186b
          obtain ⟨J26, k26, E, f26⟩ := k186b
          have ne := rE_ne E
          exact ⟨_, flt J26 ee E (rG_tr g25 (rG_f f26)), fun Q hQ => ⟨_, _, k205, fun _ => ⟨J23, k23, J24, k24, J25, k25, J26, k26, J26, m206e (by omega) ne, J26, m186e (by omega) ne _, J26, m204e (by omega) ne _ _, hQ⟩, fun q => Bool.noConfusion q⟩⟩
        | inr j2 =>
          rw [h3] at k186b
          obtain ⟨J26, k26, x26, z26, f26⟩ := k186b
          have b3 := aSgn_s h3 b2.1
          have g26 := rG_tr g25 (rG_f f26)
          have e826 : J26 245 8 = qj ((o + 1 : Nat) : Int) := by rw [f26.2 8 (by omega) (by omega) (by omega)]; exact e825
          have q0' := p0 (o + 1) q1.1 j2 J26 (d - 1) (by omega) (by omega) x26 z26 (rL_f R25 f26) e826 (by omega) (by omega)
          simp only []
          cases h4 : aLw T n r 0 (o + 1) q1.1 j2 with
          | inl ee =>
            rw [h4] at q0'
            obtain ⟨J27, k27, E, f27⟩ := q0'
            have ne := rE_ne E
            exact ⟨_, flt J27 ee E (rG_tr g26 f27), fun Q hQ => ⟨_, _, k205, fun _ => ⟨J23, k23, J24, k24, J25, k25, J26, k26, J27, k27, J27, m186e (by omega) ne _, J27, m204e (by omega) ne _ _, hQ⟩, fun q => Bool.noConfusion q⟩⟩
          | inr q2 =>
            rw [h4] at q0'
            obtain ⟨J27, k27, ⟨x27, z27, R27, e827⟩, f27⟩ := q0'
            have b4 := aLw_b _ _ _ _ _ _ h4 b3.2
            have g27 := rG_tr g26 f27
            have k186c := m186 (d := d - 1) (g := g) (s := 93) (by omega) x27 z27 (by omega)
            simp only []
            cases h5 : aSgn T n q2.2 93 with
            | inl ee =>
              rw [h5] at k186c
              obtain ⟨J28, k28, E, f28⟩ := k186c
              have ne := rE_ne E
              exact ⟨_, flt J28 ee E (rG_tr g27 (rG_f f28)), fun Q hQ => ⟨_, _, k205, fun _ => ⟨J23, k23, J24, k24, J25, k25, J26, k26, J27, k27, J28, k28, J28, m204e (by omega) ne _ _, hQ⟩, fun q => Bool.noConfusion q⟩⟩
            | inr j3 =>
              rw [h5] at k186c
              obtain ⟨J28, k28, x28, z28, f28⟩ := k186c
              have b5 := aSgn_s h5 b4.1
              obtain ⟨J29, k29, x29, z29, R29, f29, e829⟩ := m204 (d := d - 1) (g := g) (by omega) x28 z28 (rL_f R27 f28) (by omega) c
              rw [hv] at k29
              have e8' : J29 245 8 - qj 1 = qj (o : Int) := by
                rw [e829, f28.2 8 (by omega) (by omega) (by omega), e827, qj_sub]; congr 1; omega
              refine ⟨qup J29 245 8 (J29 245 8 - qj 1), ⟨⟨rX_u x29 (by omega) (by omega), by rw [qup_at, if_neg (by omega)]; exact z29, rL_u R29 (by omega), by rw [qup_at, if_pos rfl]; exact e8'⟩, rG_tr g27 (rG_tr (rG_f f28) (rG_tr f29 rG_8))⟩, fun Q hQ => ⟨_, _, k205, fun _ => ⟨J23, k23, J24, k24, J25, k25, J26, k26, J27, k27, J28, k28, J29, k29, hQ⟩, fun q => Bool.noConfusion q⟩⟩
theorem mL4 (hn : n ≤ 150) (p0 : mQ0 g T n r) : mQ4 g T n (r + 1) := by
  intro o L i I d hd ho X z R e8 hL hr
  have hb := tBl_b (T := T) X.2.1
  have hT := X.2.2.2.2.2
  have hB : tBl T n (tBl T n i) = tBl T n i := tBl_i X.2.1
  obtain ⟨J1, k1, x1, f1, z1, -⟩ := m175 (d := d - 1) (g := g) (by omega) X
  have z1 : J1 245 5 = qj 0 := z1.trans z
  obtain ⟨J2, k2, x2, f2, z2⟩ := m183 (d := d - 1) (g := g) (w := 18) (by omega) x1 z1 (by omega)
  obtain ⟨J4, k4, x4, f4, z4⟩ := m183 (d := d - 1) (g := g) (w := 19) (by omega) x2 z2 (by omega)
  rw [hB] at k2 x2 k4 x4
  rw [hB] at k4 x4
  have g2 : rF I J2 := rF_tr f1 f2
  have g4 : rF I J4 := rF_tr g2 f4
  have e82 : J2 245 8 = qj (o : Int) := by rw [g2.2 8 (by omega) (by omega) (by omega)]; exact e8
  have e84 : J4 245 8 = qj (o : Int) := by rw [g4.2 8 (by omega) (by omega) (by omega)]; exact e8
  have R4 : rL L J4 := rL_f R g4
  have hs7 : ∀ Q : qR → Prop, aIs T (tBl T n i) (tLt T n (tBl T n i)) 18 = true → mB d g J2 (qj 7) Q → qwp d 209 [.ref 245] (qw g I) Q := fun Q h hB => by
    rw [h] at k2
    exact b209_0 (by omega) ⟨fun _ => ⟨J1, k1, _, J2, k2, fun q => Bool.noConfusion q, fun _ => ⟨fun q => absurd q (by decide), fun _ => hB⟩⟩, fun q => absurd z q⟩
  have hs8 : ∀ Q : qR → Prop, aIs T (tBl T n i) (tLt T n (tBl T n i)) 18 = false → aIs T (tBl T n i) (tLt T n (tBl T n i)) 19 = true → mB d g J4 (qj 8) Q → qwp d 209 [.ref 245] (qw g I) Q := fun Q h h' hB => by
    rw [h] at k2
    rw [h'] at k4
    exact b209_0 (by omega) ⟨fun _ => ⟨J1, k1, _, J2, k2, fun _ => ⟨_, J4, k4, fun q => Bool.noConfusion q, fun _ => ⟨fun q => absurd q (by decide), fun _ => hB⟩⟩, fun q => Bool.noConfusion q⟩, fun q => absurd z q⟩
  have hsA : ∀ Q : qR → Prop, aIs T (tBl T n i) (tLt T n (tBl T n i)) 18 = false → aIs T (tBl T n i) (tLt T n (tBl T n i)) 19 = false → mA d g J4 Q → qwp d 209 [.ref 245] (qw g I) Q := fun Q h h' hA => by
    rw [h] at k2
    rw [h'] at k4
    exact b209_0 (by omega) ⟨fun _ => ⟨J1, k1, _, J2, k2, fun _ => ⟨_, J4, k4, fun _ => ⟨fun _ => hA, fun q => absurd rfl q⟩, fun q => Bool.noConfusion q⟩, fun q => Bool.noConfusion q⟩, fun q => absurd z q⟩
  have k174 := m174 (d := d - 1) (g := g) (by omega) x4 (k := tBl T n i) (by have := X.1; omega)
  have k174 : qRun (d - 1) 174 [.ref 245, .int (J4 245 4)] (qw g J4) (.inl (some (.int (qj (tb T n (tBl T n i)))), qw g J4)) := by rw [x4.2.2.2.1]; exact k174
  have s40 := tb_sg (i := tBl T n i) hT (show 40 < 256 by omega)
  obtain ⟨J8, k8, x8, f8, z8⟩ := m208 (d := d - 1) (g := g) (by omega) x4 z4
  rw [hB] at k8 x8
  have R8 : rL L J8 := rL_f R4 f8
  have e88 : J8 245 8 = qj (o : Int) := by rw [f8.2 8 (by omega) (by omega) (by omega)]; exact e84
  -- no word: a number is wanted
  have num : (tBl T n i < n → ¬ T (tBl T n i) = 40) → aIs T (tBl T n i) (tLt T n (tBl T n i)) 18 = false → aIs T (tBl T n i) (tLt T n (tBl T n i)) 19 = false → aKn T (tBl T n i) (tLt T n (tBl T n i)) = none →
      mR d 209 o g I T n (match aNum T n i 0 999 with | .inl e => .inl e | .inr q => .inr (ladd L q.1, q.2)) := by
    intro h40 h18 h19 hk
    have n40 : ¬ qj (tb T n (tBl T n i)) = qj 40 := fun q => h40 (s40.mp q).1 (s40.mp q).2
    rw [hk] at k8 x8
    have k179 := m179 (d := d - 1) (g := g) (lo := 0) (hi := 999) (by omega) x8 z8 (by omega) (by omega)
    have ei : aNum T n (tBl T n i) 0 999 = aNum T n i 0 999 := aNum_i X.2.1
    have k179 : (match aNum T n i 0 999 with
      | .inr r => ∃ J, qRun (d - 1) 179 [.ref 245, .int (qj 0), .int (qj 999)] (qw g J8) (.inl (some (.int (qj (r.1 : Int))), qw g J)) ∧ rX T n J r.2 ∧ J 245 5 = qj 0 ∧ rF J8 J
      | .inl e => ∃ J, qRun (d - 1) 179 [.ref 245, .int (qj 0), .int (qj 999)] (qw g J8) (.inl (some (.int (qj 0)), qw g J)) ∧ rE T n J e ∧ rF J8 J) := by rw [← ei]; exact k179
    cases h1 : aNum T n i 0 999 with
    | inl e =>
      rw [h1] at k179
      obtain ⟨J10, k10, E, f10⟩ := k179
      have ne := rE_ne E
      exact ⟨J10, qRun_of fun Q hQ => hsA Q h18 h19 ⟨_, J4, k174, fun _ => ⟨_, J8, k8, fun _ => ⟨_, J10, k10, J10, m204e (by omega) ne _ _, hQ⟩, fun q => absurd rfl q⟩, fun q => absurd n40 q⟩, E, rG_f (rF_tr g4 (rF_tr f8 f10))⟩
    | inr q =>
      rw [h1] at k179
      obtain ⟨J10, k10, x10, z10, f10⟩ := k179
      have bq := aNum_b h1 X.2.1
      obtain ⟨J12, k12, x12, z12, R12, f12, e12⟩ := m204 (d := d - 1) (g := g) (by omega) x10 z10 (rL_f R8 f10) (by omega) q.1
      have ek : aKd q.1 = 0 := by unfold aKd; rw [if_pos (by omega)]
      have ev : aVl q.1 = q.1 := by unfold aVl; rw [if_pos (by omega)]
      rw [ek, ev] at k12
      exact ⟨J12, qRun_of fun Q hQ => hsA Q h18 h19 ⟨_, J4, k174, fun _ => ⟨_, J8, k8, fun _ => ⟨_, J10, k10, J12, k12, hQ⟩, fun q => absurd rfl q⟩, fun q => absurd n40 q⟩, ⟨x12, z12, R12, by rw [e12, f10.2 8 (by omega) (by omega) (by omega)]; exact e88⟩, rG_tr (rG_f (rF_tr g4 (rF_tr f8 f10))) f12⟩
  rw [aLw, if_neg (by omega), if_neg (by omega), if_neg (by omega), if_neg (by omega)]
  have noL : ¬ (tBl T n i < n ∧ ltr (T (tBl T n i)) = true) → aIs T (tBl T n i) (tLt T n (tBl T n i)) 18 = false ∧ aIs T (tBl T n i) (tLt T n (tBl T n i)) 19 = false ∧ aKn T (tBl T n i) (tLt T n (tBl T n i)) = none := fun h => by
    refine ⟨aIs_n (by omega) h, aIs_n (by omega) h, ?_⟩
    unfold aKn
    rw [aIs_n (by omega) h, aIs_n (by omega) h, aIs_n (by omega) h, aIs_n (by omega) h, aIs_n (by omega) h, aIs_n (by omega) h, aIs_n (by omega) h, aIs_n (by omega) h, aIs_n (by omega) h]
    rfl
  by_cases hd1 : tBl T n i < n ∧ dg (T (tBl T n i)) = true
  · rw [if_pos hd1]
    have hdb := dg_b hd1.2
    obtain ⟨y1, y2, y3⟩ := noL (fun q => by have := ltr_b q.2; omega)
    exact num (fun _ => by omega) y1 y2 y3
  · rw [if_neg hd1]
    by_cases hp : tBl T n i < n ∧ T (tBl T n i) = 40
    · rw [if_pos hp]
      obtain ⟨y1, y2, y3⟩ := noL (fun q => by have := ltr_b q.2; omega)
      have e40 : qj (tb T n (tBl T n i)) = qj 40 := s40.mpr hp
      by_cases c6 : 6 ≤ o
      · rw [if_pos c6]
        have o6 : o = 6 := by omega
        obtain ⟨K, m1, m2, m3⟩ := m205f (d := d - 1) (g := g) (by omega) x4 z4 (by rw [e84, o6]; rfl)
        exact ⟨K, qRun_of fun Q hQ => hsA Q y1 y2 ⟨_, J4, k174, fun q => absurd e40 q, fun _ => ⟨_, K, m1, fun q => Bool.noConfusion q, fun _ => hQ⟩⟩, m2, rG_f (rF_tr g4 m3)⟩
      · rw [if_neg c6]
        have k205 := m205 (d := d - 1) (g := g) (by omega) z4 e84 (by omega)
        have x15 : rX T n (qup (qup J4 245 8 (qj ((o + 1 : Nat) : Int))) 245 4 (qj ((tBl T n i + 1 : Nat) : Int))) (tBl T n i + 1) := rX_4 (rX_u x4 (by omega) (by omega)) (by omega)
        have e15 : qup J4 245 8 (qj ((o + 1 : Nat) : Int)) 245 4 + qj 1 = qj ((tBl T n i + 1 : Nat) : Int) := by rw [qup_at, if_neg (by omega), x4.2.2.2.1, qj_add]; rfl
        have g15 : rG I (qup (qup J4 245 8 (qj ((o + 1 : Nat) : Int))) 245 4 (qj ((tBl T n i + 1 : Nat) : Int))) := rG_tr (rG_f g4) (rG_tr rG_8 rG_4)
        have q0 := p0 (o + 1) L (tBl T n i + 1) _ (d - 1) (by omega) (by omega) x15 (by rw [qup_at, if_neg (by omega), qup_at, if_neg (by omega)]; exact z4) (rL_u (rL_u R4 (by omega)) (by omega)) (by rw [qup_at, if_neg (by omega), qup_at, if_pos rfl]) (by omega) (by omega)
        have start : ∀ (J17 J18 : Nat → Nat → Int32) (Q : qR → Prop), qRun (d - 1) 206 [.ref 245] (qw g (qup (qup J4 245 8 (qj ((o + 1 : Nat) : Int))) 245 4 (qj ((tBl T n i + 1 : Nat) : Int)))) (.inl (none, qw g J17)) → qRun (d - 1) 186 [.ref 245, .int (qj 41)] (qw g J17) (.inl (none, qw g J18)) → Q (.inl (none, qw g (qup J18 245 8 (J18 245 8 - qj 1)))) → qwp d 209 [.ref 245] (qw g I) Q := fun J17 J18 Q m1 m2 hQ => hsA Q y1 y2 ⟨_, J4, k174, fun q => absurd e40 q, fun _ => ⟨_, _, k205, fun _ => ⟨J17, by rw [e15]; exact m1, J18, m2, hQ⟩, fun q => Bool.noConfusion q⟩⟩
        cases h1 : aLw T n r 0 (o + 1) L (tBl T n i + 1) with
        | inl e =>
          rw [h1] at q0
          obtain ⟨J17, k17, E, f17⟩ := q0
          have ne := rE_ne E
          exact ⟨_, qRun_of fun Q hQ => start J17 J17 Q k17 (m186e (by omega) ne _) hQ, rE_8 E, rG_tr g15 (rG_tr f17 rG_8)⟩
        | inr q =>
          rw [h1] at q0
          obtain ⟨J17, k17, ⟨x17, z17, R17, e817⟩, f17⟩ := q0
          have k186 := m186 (d := d - 1) (g := g) (s := 41) (by omega) x17 z17 (by omega)
          simp only []
          cases h2 : aSgn T n q.2 41 with
          | inl e =>
            rw [h2] at k186
            obtain ⟨J18, k18, E, f18⟩ := k186
            exact ⟨_, qRun_of fun Q hQ => start J17 J18 Q k17 k18 hQ, rE_8 E, rG_tr g15 (rG_tr f17 (rG_tr (rG_f f18) rG_8))⟩
          | inr j =>
            rw [h2] at k186
            obtain ⟨J18, k18, x18, z18, f18⟩ := k186
            have e8' : J18 245 8 - qj 1 = qj (o : Int) := by
              rw [f18.2 8 (by omega) (by omega) (by omega), e817, qj_sub]; congr 1; omega
            exact ⟨qup J18 245 8 (J18 245 8 - qj 1), qRun_of fun Q hQ => start J17 J18 Q k17 k18 hQ, ⟨rX_u x18 (by omega) (by omega), by rw [qup_at, if_neg (by omega)]; exact z18, rL_u (rL_f R17 f18) (by omega), by rw [qup_at, if_pos rfl]; exact e8'⟩, rG_tr g15 (rG_tr f17 (rG_tr (rG_f f18) rG_8))⟩
    · rw [if_neg hp]
      have h40 : tBl T n i < n → ¬ T (tBl T n i) = 40 := fun h q => hp ⟨h, q⟩
      have n40 : ¬ qj (tb T n (tBl T n i)) = qj 40 := fun q => hp (s40.mp q)
      by_cases hw : tBl T n i < n ∧ ltr (T (tBl T n i)) = true
      · have ew : aWrd T n i = .inr (tBl T n i, tLt T n (tBl T n i)) := by unfold aWrd; rw [if_pos hw]
        have bw := aWrd_s ew X.2.1
        rw [ew]
        simp only []
        have hwd := aLwd_k (T := T) (b := tBl T n i) (e := tLt T n (tBl T n i))
        cases hk : aKn T (tBl T n i) (tLt T n (tBl T n i)) with
        | some k =>
          have bk := aKn_b hk
          rw [hk] at hwd k8 x8
          have k8 : qRun (d - 1) 208 [.ref 245] (qw g J4) (.inl (some (.int (qj (k : Int))), qw g J8)) := k8
          have x8 : rX T n J8 (tLt T n (tBl T n i)) := x8
          rw [hwd]
          simp only []
          rw [if_pos (by omega)]
          obtain ⟨J13, k13, x13, z13, R13, f13, e13⟩ := m204 (d := d - 1) (g := g) (by omega) x8 z8 R8 (by have := bw.2.2; omega) (1000 + k)
          have ek : aKd (1000 + k) = 1 := by unfold aKd; rw [if_neg (by omega), if_pos (by omega)]
          have ev : aVl (1000 + k) = k := by unfold aVl; rw [if_neg (by omega), if_pos (by omega)]; omega
          rw [ek, ev] at k13
          have nm1 : ¬ qj (k : Int) = qj (-1) := by
            rw [qj_eq (by omega) (by omega) (by omega) (by omega)]; omega
          have y18 : aIs T (tBl T n i) (tLt T n (tBl T n i)) 18 = false ∧ aIs T (tBl T n i) (tLt T n (tBl T n i)) 19 = false := by
            have ex : ∀ w, w < 20 → 9 ≤ w → w ≤ 17 → aIs T (tBl T n i) (tLt T n (tBl T n i)) w = true → aIs T (tBl T n i) (tLt T n (tBl T n i)) 18 = false ∧ aIs T (tBl T n i) (tLt T n (tBl T n i)) 19 = false := fun w h1 h2 h3 h => ⟨aIs_ex h1 (by omega) (wN_ne w h2 h3).1 h, aIs_ex h1 (by omega) (wN_ne w h2 h3).2 h⟩
            unfold aKn at hk
            cases a9 : aIs T (tBl T n i) (tLt T n (tBl T n i)) 9 with
            | true => exact ex 9 (by omega) (by omega) (by omega) a9
            | false =>
              cases a10 : aIs T (tBl T n i) (tLt T n (tBl T n i)) 10 with
              | true => exact ex 10 (by omega) (by omega) (by omega) a10
              | false =>
                cases a11 : aIs T (tBl T n i) (tLt T n (tBl T n i)) 11 with
                | true => exact ex 11 (by omega) (by omega) (by omega) a11
                | false =>
                  cases a12 : aIs T (tBl T n i) (tLt T n (tBl T n i)) 12 with
                  | true => exact ex 12 (by omega) (by omega) (by omega) a12
                  | false =>
                    cases a13 : aIs T (tBl T n i) (tLt T n (tBl T n i)) 13 with
                    | true => exact ex 13 (by omega) (by omega) (by omega) a13
                    | false =>
                      cases a14 : aIs T (tBl T n i) (tLt T n (tBl T n i)) 14 with
                      | true => exact ex 14 (by omega) (by omega) (by omega) a14
                      | false =>
                        cases a15 : aIs T (tBl T n i) (tLt T n (tBl T n i)) 15 with
                        | true => exact ex 15 (by omega) (by omega) (by omega) a15
                        | false =>
                          cases a16 : aIs T (tBl T n i) (tLt T n (tBl T n i)) 16 with
                          | true => exact ex 16 (by omega) (by omega) (by omega) a16
                          | false =>
                            cases a17 : aIs T (tBl T n i) (tLt T n (tBl T n i)) 17 with
                            | true => exact ex 17 (by omega) (by omega) (by omega) a17
                            | false =>
                              rw [a9, a10, a11, a12, a13, a14, a15, a16, a17] at hk
                              exact nomatch (show (none : Option Nat) = some k from hk)
          exact ⟨J13, qRun_of fun Q hQ => hsA Q y18.1 y18.2 ⟨_, J4, k174, fun _ => ⟨_, J8, k8, fun q => absurd q nm1, fun _ => ⟨J13, k13, hQ⟩⟩, fun q => absurd n40 q⟩, ⟨x13, z13, R13, e13.trans e88⟩, rG_tr (rG_f (rF_tr g4 f8)) f13⟩
        | none =>
          rw [hk] at hwd
          rw [hwd]
          simp only []
          cases h18 : aIs T (tBl T n i) (tLt T n (tBl T n i)) 18 with
          | true =>
            rw [if_pos rfl]
            simp only []
            rw [if_neg (by omega)]
            have q := mB_ok (d := d) p0 hn hd ho x2 z2 (rL_f R g2) e82 hL hb.1 rfl bw.2.2.2.1 bw.2.2.2.2 hr (c := 2000) (Or.inl rfl)
            revert q
            generalize (if 6 ≤ o then (.inl (3, tBl T n i) : qLR) else _) = res
            intro q
            cases res with
            | inl e =>
              obtain ⟨K, ⟨E, f⟩, go⟩ := q
              exact ⟨K, qRun_of fun Q hQ => hs7 Q h18 (go Q hQ), E, rG_tr (rG_f g2) f⟩
            | inr w =>
              obtain ⟨K, ⟨E, f⟩, go⟩ := q
              exact ⟨K, qRun_of fun Q hQ => hs7 Q h18 (go Q hQ), E, rG_tr (rG_f g2) f⟩
          | false =>
            rw [if_neg Bool.false_ne_true]
            cases h19 : aIs T (tBl T n i) (tLt T n (tBl T n i)) 19 with
            | true =>
              rw [if_pos rfl]
              simp only []
              rw [if_neg (by omega)]
              have q := mB_ok (d := d) p0 hn hd ho x4 z4 R4 e84 hL hb.1 rfl bw.2.2.2.1 bw.2.2.2.2 hr (c := 2001) (Or.inr rfl)
              revert q
              generalize (if 6 ≤ o then (.inl (3, tBl T n i) : qLR) else _) = res
              intro q
              cases res with
              | inl e =>
                obtain ⟨K, ⟨E, f⟩, go⟩ := q
                exact ⟨K, qRun_of fun Q hQ => hs8 Q h18 h19 (go Q hQ), E, rG_tr (rG_f g4) f⟩
              | inr w =>
                obtain ⟨K, ⟨E, f⟩, go⟩ := q
                exact ⟨K, qRun_of fun Q hQ => hs8 Q h18 h19 (go Q hQ), E, rG_tr (rG_f g4) f⟩
            | false =>
              rw [if_neg Bool.false_ne_true]
              simp only []
              have hn' := num h40 h18 h19 hk
              rw [aNum_n hd1] at hn'
              exact hn'
      · have ew : aWrd T n i = .inl (1, tBl T n i) := by unfold aWrd; rw [if_neg hw]
        rw [ew]
        obtain ⟨y1, y2, y3⟩ := noL hw
        have hn' := num h40 y1 y2 y3
        rw [aNum_n hd1] at hn'
        exact hn'
theorem mLw (hn : n ≤ 150) : ∀ r, mQ0 g T n r ∧ mQ1 g T n r ∧ mQ2 g T n r ∧ mQ3 g T n r ∧ mQ4 g T n r
  | 0 => ⟨fun o L i I d _ _ _ _ _ _ _ h => by omega, fun o L i I d _ _ _ _ _ _ _ h => by omega, fun o L i I d _ _ _ _ _ _ _ h => by omega, fun o L i I d _ _ _ _ _ _ _ h => by omega, fun o L i I d _ _ _ _ _ _ _ h => by omega⟩
  | r + 1 => by
    obtain ⟨p0, p1, p2, p3, p4⟩ := mLw hn r
    exact ⟨mL0 p2 p1, mL1 hn p2 p1, mL2 p4 p3, mL3 hn p4 p3, mL4 hn p0⟩
end LAW6
