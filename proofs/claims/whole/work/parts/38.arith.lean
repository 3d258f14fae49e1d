/-! ===== ints of 32 bits by their numbers; sets as bits ===== -/
theorem qz0 : (0 : Int32) = qj 0 := by decide
theorem qz1 : (1 : Int32) = qj 1 := by decide
theorem qj_add (a b : Int) : qj a + qj b = qj (a + b) := by unfold qj; rw [Int32.ofInt_add]
theorem qj_sub (a b : Int) : qj a - qj b = qj (a - b) := by unfold qj; rw [Int32.ofInt_sub]
theorem qj_mul (a b : Int) : qj a * qj b = qj (a * b) := by unfold qj; rw [Int32.ofInt_mul]
theorem qj_neg (a : Int) : -qj a = qj (-a) := by unfold qj; rw [Int32.ofInt_neg]
theorem qj_toInt {z : Int} (h1 : -2147483648 ≤ z) (h2 : z < 2147483648) : (qj z).toInt = z := Int32.toInt_ofInt_of_le h1 h2
theorem qj_of (x : Int32) : qj x.toInt = x := Int32.ofInt_toInt x
theorem qj_nat {n : Nat} (h : n < 2147483648) : (qj (n : Int)).toNatClampNeg = n := by
  show (qj (n : Int)).toInt.toNat = n
  rw [qj_toInt (by omega) (by omega)]; rfl
theorem qj_natz {z : Int} (h0 : 0 ≤ z) (h : z < 2147483648) : (qj z).toNatClampNeg = z.toNat := by
  show (qj z).toInt.toNat = _
  rw [qj_toInt (by omega) (by omega)]
theorem qj_lt {a b : Int} (h1 : -2147483648 ≤ a) (h2 : a < 2147483648) (h3 : -2147483648 ≤ b) (h4 : b < 2147483648) : qj a < qj b ↔ a < b := by rw [Int32.lt_iff_toInt_lt, qj_toInt h1 h2, qj_toInt h3 h4]
theorem qj_le {a b : Int} (h1 : -2147483648 ≤ a) (h2 : a < 2147483648) (h3 : -2147483648 ≤ b) (h4 : b < 2147483648) : qj a ≤ qj b ↔ a ≤ b := by rw [Int32.le_iff_toInt_le, qj_toInt h1 h2, qj_toInt h3 h4]
theorem qj_eq {a b : Int} (h1 : -2147483648 ≤ a) (h2 : a < 2147483648) (h3 : -2147483648 ≤ b) (h4 : b < 2147483648) : qj a = qj b ↔ a = b := by rw [← Int32.toInt_inj, qj_toInt h1 h2, qj_toInt h3 h4]
theorem qIx_z {z : Int} {n : Nat} (h : 0 ≤ z) (h2 : z < n) (hn : n ≤ 1000000) : qIx (qj z) n := ⟨by rw [qj_toInt (by omega) (by omega)]; exact h, by rw [qj_toInt (by omega) (by omega)]; exact h2⟩
theorem qIx_n {x : Int32} {n : Nat} (h : qIx x n) (hn : n ≤ 1000000) : ∃ i : Nat, i < n ∧ x = qj (i : Int) := ⟨x.toInt.toNat, by have := h.1; have := h.2; omega, by rw [← qj_of x, qj_toInt (by have := h.1; omega) (by have := h.2; omega)]; congr 1; have := h.1; omega⟩
theorem qb_t : qb true = qj 1 := rfl
theorem qb_f : qb false = qj 0 := rfl
theorem qb_z (b : Bool) : qb b = qj (if b then 1 else 0) := by cases b <;> rfl
theorem qb_inj {a b : Bool} : qb a = qb b ↔ a = b := by cases a <;> cases b <;> decide
theorem qinB_z {v a b : Int} (h1 : -2147483648 ≤ v) (h2 : v < 2147483648) (h3 : -2147483648 ≤ a) (h4 : a < 2147483648) (h5 : -2147483648 ≤ b) (h6 : b < 2147483648) : qinB (qj v) (qj a) (qj b) = (decide (a ≤ v) && decide (v ≤ b)) := by
  unfold qinB; rw [decide_eq_decide.mpr (qj_le h3 h4 h1 h2), decide_eq_decide.mpr (qj_le h1 h2 h5 h6)]
theorem qmin_z {a b : Int} (h1 : -2147483648 ≤ a) (h2 : a < 2147483648) (h3 : -2147483648 ≤ b) (h4 : b < 2147483648) : qmin (qj a) (qj b) = qj (min a b) := by
  unfold qmin
  by_cases h : a < b
  · rw [if_pos ((qj_lt h1 h2 h3 h4).mpr h), Int.min_eq_left (by omega)]
  · rw [if_neg (fun q => h ((qj_lt h1 h2 h3 h4).mp q)), Int.min_eq_right (by omega)]
theorem qmax_z {a b : Int} (h1 : -2147483648 ≤ a) (h2 : a < 2147483648) (h3 : -2147483648 ≤ b) (h4 : b < 2147483648) : qmax (qj a) (qj b) = qj (max a b) := by
  unfold qmax
  by_cases h : b < a
  · rw [if_pos ((qj_lt h3 h4 h1 h2).mpr h), Int.max_eq_left (by omega)]
  · rw [if_neg (fun q => h ((qj_lt h3 h4 h1 h2).mp q)), Int.max_eq_right (by omega)]
/-! bits -/
def bm : Nat → (Nat → Bool) → Nat
  | 0, _ => 0
  | n + 1, p => bm n p + bif p n then 2 ^ n else 0
def cn : Nat → (Nat → Bool) → Nat
  | 0, _ => 0
  | n + 1, p => cn n p + bif p n then 1 else 0
def sm : Nat → (Nat → Nat) → Nat
  | 0, _ => 0
  | n + 1, f => sm n f + f n
def smz : Nat → (Nat → Int) → Int
  | 0, _ => 0
  | n + 1, f => smz n f + f n
theorem bm_lt (n : Nat) (p : Nat → Bool) : bm n p < 2 ^ n := by
  induction n with
  | zero => exact Nat.one_pos
  | succ n ih => rw [bm, Nat.pow_succ]; cases p n <;> simp only [cond_true, cond_false] <;> omega
theorem bm_tb (p : Nat → Bool) (k : Nat) : ∀ n, (bm n p).testBit k = (decide (k < n) && p k)
  | 0 => by rw [bm, Nat.zero_testBit]; simp
  | n + 1 => by
    have ih := bm_tb p k n
    have hl := bm_lt n p
    rw [bm]
    cases hp : p n with
    | false =>
      rw [cond_false, Nat.add_zero, ih]
      by_cases h : k = n
      · subst h; simp [hp]
      · have : (k < n + 1) ↔ k < n := by omega
        simp only [this]
    | true =>
      rw [cond_true]
      have e : bm n p + 2 ^ n = 2 ^ n ||| bm n p := by
        have e0 := Nat.two_pow_add_eq_or_of_lt hl 1
        rw [Nat.mul_one] at e0
        rw [Nat.add_comm, e0]
      rw [e, Nat.testBit_or, ih, Nat.testBit_two_pow]
      by_cases h : k = n
      · subst h; simp [hp]
      · have h1 : (k < n + 1) ↔ k < n := by omega
        have h2 : ¬ n = k := fun q => h q.symm
        simp only [h1, h2, decide_false, Bool.false_or]
theorem bm_ext {n : Nat} {p q : Nat → Bool} (h : ∀ k, k < n → p k = q k) : bm n p = bm n q := by
  induction n with
  | zero => rfl
  | succ n ih => rw [bm, bm, ih (fun k hk => h k (by omega)), h n (by omega)]
theorem cn_ext {n : Nat} {p q : Nat → Bool} (h : ∀ k, k < n → p k = q k) : cn n p = cn n q := by
  induction n with
  | zero => rfl
  | succ n ih => rw [cn, cn, ih (fun k hk => h k (by omega)), h n (by omega)]
theorem sm_ext {n : Nat} {p q : Nat → Nat} (h : ∀ k, k < n → p k = q k) : sm n p = sm n q := by
  induction n with
  | zero => rfl
  | succ n ih => rw [sm, sm, ih (fun k hk => h k (by omega)), h n (by omega)]
theorem smz_ext {n : Nat} {p q : Nat → Int} (h : ∀ k, k < n → p k = q k) : smz n p = smz n q := by
  induction n with
  | zero => rfl
  | succ n ih => rw [smz, smz, ih (fun k hk => h k (by omega)), h n (by omega)]
theorem cn_le (n : Nat) (p : Nat → Bool) : cn n p ≤ n := by
  induction n with
  | zero => exact Nat.le_refl _
  | succ n ih => rw [cn]; cases p n <;> simp only [cond_true, cond_false] <;> omega
theorem qtb (n : Nat) : (qj (n : Int)).toBitVec = BitVec.ofNat 32 n := by
  unfold qj; rw [Int32.toBitVec_ofInt, BitVec.ofInt_natCast]
theorem qj_bits (x : Int32) (n : Nat) (h : ∀ i, i < 32 → x.toBitVec.getLsbD i = n.testBit i) : x = qj (n : Int) := by
  rw [← Int32.toBitVec_inj, qtb]
  apply BitVec.eq_of_getLsbD_eq
  intro i hi
  rw [h i hi, BitVec.getLsbD_ofNat]
  simp [hi]
theorem qj_lsb (n : Nat) {i : Nat} (hi : i < 32) : (qj (n : Int)).toBitVec.getLsbD i = n.testBit i := by
  rw [qtb, BitVec.getLsbD_ofNat]; simp [hi]
theorem qj_and (a b : Nat) : qj (a : Int) &&& qj (b : Int) = qj ((a &&& b : Nat) : Int) := qj_bits _ _ (fun i hi => by
  rw [Int32.toBitVec_and, BitVec.getLsbD_and, qj_lsb a hi, qj_lsb b hi, Nat.testBit_and])
theorem qj_or (a b : Nat) : qj (a : Int) ||| qj (b : Int) = qj ((a ||| b : Nat) : Int) := qj_bits _ _ (fun i hi => by
  rw [Int32.toBitVec_or, BitVec.getLsbD_or, qj_lsb a hi, qj_lsb b hi, Nat.testBit_or])
theorem qj_m1 {i : Nat} (hi : i < 32) : (qj (-1)).toBitVec.getLsbD i = true := by
  have : (qj (-1)).toBitVec = BitVec.allOnes 32 := by decide
  rw [this, BitVec.getLsbD_allOnes]; simp [hi]
theorem qj_clr (n m : Nat) (p q : Nat → Bool) : qj (bm n p : Nat) &&& (qj (bm m q : Nat) ^^^ qj (-1)) = qj (bm n (fun k => p k && !(decide (k < m) && q k)) : Nat) := qj_bits _ _ (fun i hi => by
  rw [Int32.toBitVec_and, BitVec.getLsbD_and, Int32.toBitVec_xor, BitVec.getLsbD_xor, qj_lsb _ hi, qj_lsb _ hi, qj_m1 hi, bm_tb, bm_tb, bm_tb, Bool.xor_true, Bool.and_assoc])
theorem qbm_and (n : Nat) (p q : Nat → Bool) : qj (bm n p : Nat) &&& qj (bm n q : Nat) = qj (bm n (fun k => p k && q k) : Nat) := by
  rw [qj_and]; congr 2
  apply Nat.eq_of_testBit_eq; intro i
  rw [Nat.testBit_and, bm_tb, bm_tb, bm_tb]
  cases decide (i < n) <;> simp
theorem qbm_or (n : Nat) (p q : Nat → Bool) : qj (bm n p : Nat) ||| qj (bm n q : Nat) = qj (bm n (fun k => p k || q k) : Nat) := by
  rw [qj_or]; congr 2
  apply Nat.eq_of_testBit_eq; intro i
  rw [Nat.testBit_or, bm_tb, bm_tb, bm_tb]
  cases decide (i < n) <;> simp
theorem qshl1F : ∀ k : Fin 32, qj 1 <<< (qj (k.val : Int) &&& 31) = qj ((2 ^ k.val : Nat) : Int) := by decide +kernel
theorem qshl1 {k : Nat} (hk : k < 32) : qj 1 <<< (qj (k : Int) &&& 31) = qj ((2 ^ k : Nat) : Int) := qshl1F ⟨k, hk⟩
theorem bm_one {n k : Nat} (hk : k < n) : bm n (fun j => j == k) = 2 ^ k := by
  apply Nat.eq_of_testBit_eq; intro i
  rw [bm_tb, Nat.testBit_two_pow]
  by_cases h : k = i
  · subst h; simp [hk]
  · have : ¬ i = k := fun q => h q.symm
    simp [h, this]
theorem qshl1b {k : Nat} (n : Nat) (hk : k < n) (hn : n ≤ 32) : qj 1 <<< (qj (k : Int) &&& 31) = qj ((bm n (fun j => j == k) : Nat) : Int) := by rw [qshl1 (by omega), bm_one hk]
theorem qsh31F : ∀ k : Fin 32, ((qj (k.val : Int) &&& 31).toBitVec.smod 32#32) = BitVec.ofNat 32 k.val := by decide +kernel
theorem bvlsb (b : BitVec 32) : (b &&& 1#32 = 1#32) ↔ b.getLsbD 0 = true := by
  constructor
  · intro h
    have := congrArg (fun t => BitVec.getLsbD t 0) h
    simpa using this
  · intro h
    apply BitVec.eq_of_getLsbD_eq
    intro i hi
    rw [BitVec.getLsbD_and]
    by_cases e : i = 0
    · subst e; rw [h]; rfl
    · have : (1#32).getLsbD i = false := by
        rw [BitVec.getLsbD_one]; simp [e]
      rw [this, Bool.and_false]
theorem qhas_tb (x : Int32) {k : Nat} (hk : k < 32) : qhas x (qj (k : Int)) = x.toBitVec.getLsbD k := by
  unfold qhas
  have e : ((x >>> (qj (k : Int) &&& 31)) &&& 1 = 1) ↔ x.toBitVec.getLsbD k = true := by
    have e2 : ((qj (k : Int) &&& 31).toBitVec.smod 32) = BitVec.ofNat 32 k := qsh31F ⟨k, hk⟩
    rw [← Int32.toBitVec_inj, Int32.toBitVec_and, Int32.toBitVec_shiftRight, e2]
    refine (bvlsb _).trans ?_
    show (x.toBitVec.sshiftRight (BitVec.ofNat 32 k).toNat).getLsbD 0 = true ↔ _
    rw [BitVec.getLsbD_sshiftRight, BitVec.toNat_ofNat, Nat.mod_eq_of_lt (by omega)]
    simp [hk]
  rw [Bool.eq_iff_iff, decide_eq_true_iff]
  exact e
theorem qhas_n (n : Nat) {k : Nat} (hk : k < 32) : qhas (qj (n : Int)) (qj (k : Int)) = n.testBit k := by rw [qhas_tb _ hk, qj_lsb n hk]
theorem qhas_bm (n : Nat) (p : Nat → Bool) {k : Nat} (hk : k < n) (hn : n ≤ 32) : qhas (qj (bm n p : Nat)) (qj (k : Int)) = p k := by rw [qhas_n _ (by omega), bm_tb]; simp [hk]
theorem qshr1 (x y : Int32) : (x >>> (y &&& 31)) &&& qj 1 = qb (qhas x y) := by
  cases h : qhas x y with
  | false => exact (qbv_has x y).mpr h
  | true =>
    unfold qhas at h
    exact decide_eq_true_iff.mp h
theorem qpcF : ∀ n : Fin 512, qpc (qj (n.val : Int)) = qj (cn 9 (fun k => n.val.testBit k) : Nat) := by decide +kernel
theorem cn_mono {m : Nat} (p : Nat → Bool) : ∀ n, m ≤ n → cn n (fun k => decide (k < m) && p k) = cn m p
  | 0, h => by have : m = 0 := by omega
               subst this; rfl
  | n + 1, h => by
    by_cases e : m = n + 1
    · subst e; exact cn_ext (fun k hk => by simp [hk])
    · rw [cn, cn_mono p n (by omega)]
      have : ¬ n < m := by omega
      simp [this]
theorem qpc_bm {n : Nat} (hn : n ≤ 9) (p : Nat → Bool) : qpc (qj (bm n p : Nat)) = qj (cn n p : Nat) := by
  have h := bm_lt n p
  have h2 : 2 ^ n ≤ 2 ^ 9 := Nat.pow_le_pow_right (by decide) hn
  rw [qpcF ⟨bm n p, by omega⟩]
  congr 2
  rw [← cn_mono p 9 hn]
  exact cn_ext (fun k _ => bm_tb p k n)
theorem bm_zero {n : Nat} {p : Nat → Bool} : bm n p = 0 ↔ ∀ k, k < n → p k = false := by
  constructor
  · intro h k hk
    have := bm_tb p k n
    rw [h, Nat.zero_testBit] at this
    simpa [hk] using this.symm
  · intro h
    rw [bm_ext (q := fun _ => false) h]
    clear h
    induction n with
    | zero => rfl
    | succ n ih => rw [bm, ih]; rfl
theorem cn_zero {n : Nat} {p : Nat → Bool} : cn n p = 0 ↔ ∀ k, k < n → p k = false := by
  induction n with
  | zero => exact ⟨fun _ k hk => by omega, fun _ => rfl⟩
  | succ n ih =>
    rw [cn]
    constructor
    · intro h k hk
      by_cases e : k = n
      · subst e; cases hp : p k with
        | false => rfl
        | true => rw [hp] at h; simp at h
      · exact ih.mp (by omega) k (by omega)
    · intro h
      rw [ih.mpr (fun k hk => h k (by omega)), h n (by omega)]; rfl
theorem qbm_eq0 {n : Nat} {p : Nat → Bool} (hn : n ≤ 30) : qj (bm n p : Nat) = qj 0 ↔ ∀ k, k < n → p k = false := by
  have h := bm_lt n p
  have h2 : 2 ^ n ≤ 2 ^ 30 := Nat.pow_le_pow_right (by decide) hn
  rw [qj_eq (by omega) (by omega) (by omega) (by omega), ← bm_zero (n := n)]
  omega
theorem bm_inj {n : Nat} {p q : Nat → Bool} (h : bm n p = bm n q) (k : Nat) (hk : k < n) : p k = q k := by
  have h1 := bm_tb p k n
  rw [h, bm_tb] at h1
  simpa [hk] using h1.symm
theorem bm_up (n : Nat) (p : Nat → Bool) : ∀ m, n ≤ m → bm m (fun k => decide (k < n) && p k) = bm n p := fun m hm => by
  apply Nat.eq_of_testBit_eq; intro i
  rw [bm_tb, bm_tb]
  by_cases h : i < n
  · simp [h, Nat.lt_of_lt_of_le h hm]
  · simp [h]
