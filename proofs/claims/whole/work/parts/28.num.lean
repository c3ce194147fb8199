/-! NUMBERS: an int as I of an integer -/
theorem I_add (a b : Int) : I a + I b = I (a + b) := (Int32.ofInt_add a b).symm
theorem I_sub (a b : Int) : I a - I b = I (a - b) := (Int32.ofInt_sub a b).symm
theorem I_mul (a b : Int) : I a * I b = I (a * b) := (Int32.ofInt_mul a b).symm
theorem I_lt {a b : Int} (h1 : -2147483648 ≤ a) (h2 : a < 2147483648) (h3 : -2147483648 ≤ b) (h4 : b < 2147483648) : I a < I b ↔ a < b := by
  rw [Int32.lt_iff_toInt_lt, I_toInt h1 h2, I_toInt h3 h4]
theorem I_le {a b : Int} (h1 : -2147483648 ≤ a) (h2 : a < 2147483648) (h3 : -2147483648 ≤ b) (h4 : b < 2147483648) : I a ≤ I b ↔ a ≤ b := by
  rw [Int32.le_iff_toInt_le, I_toInt h1 h2, I_toInt h3 h4]
theorem I_inj {a b : Int} (h1 : -2147483648 ≤ a) (h2 : a < 2147483648) (h3 : -2147483648 ≤ b) (h4 : b < 2147483648) : I a = I b ↔ a = b := by
  constructor
  · intro h
    have := congrArg Int32.toInt h
    rwa [I_toInt h1 h2, I_toInt h3 h4] at this
  · rintro rfl; rfl
theorem I_ex (w : Int32) : ∃ z : Int, w = I z ∧ -2147483648 ≤ z ∧ z < 2147483648 :=
  ⟨w.toInt, (I_of_toInt w).symm, w.minValue_le_toInt, by have := w.toInt_lt; omega⟩
theorem ixI {a : Int} (h1 : 0 ≤ a) (h2 : a < 2147483648) : (I a).toNatClampNeg = a.toNat := by
  show (I a).toInt.toNat = _
  rw [I_toInt (by omega) h2]
theorem inRI {a : Int} {n : Nat} (h1 : 0 ≤ a) (h2 : a < n) (h3 : n < 2147483648) : inR (I a) n := by
  intro q
  rcases q with q | q
  · have q := Int32.lt_iff_toInt_lt.mp q
    rw [I_toInt (by omega) (by omega)] at q
    have : (0 : Int32).toInt = 0 := rfl
    omega
  · rw [ixI h1 (by omega)] at q
    omega
theorem I_zero : (0 : Int32) = I 0 := rfl
theorem I_div {a b : Int} (h1 : 0 ≤ a) (h2 : a < 2147483648) (h3 : 0 < b) (h4 : b < 2147483648) : I a / I b = I (a / b) := by
  apply Int32.toInt_inj.mp
  have hq : a / b ≤ a := Int.ediv_le_self b h1
  have hq0 : 0 ≤ a / b := Int.ediv_nonneg h1 (by omega)
  rw [Int32.toInt_div, I_toInt (by omega) h2, I_toInt (by omega) h4, I_toInt (by omega) (by omega), Int.tdiv_eq_ediv_of_nonneg h1]
  have hs : Int32.size = 4294967296 := rfl
  exact Int.bmod_eq_of_le (by omega) (by omega)
theorem I_rem {a b : Int} (h1 : 0 ≤ a) (h2 : a < 2147483648) (h3 : 0 < b) (h4 : b < 2147483648) : I a - I a / I b * I b = I (a % b) := by
  rw [I_div h1 h2 h3 h4, I_mul, I_sub, Int.emod_def, Int.mul_comm]
/-- bit k of n -/
def bt (n k : Nat) : Nat := n / 2 ^ k % 2
set_option maxRecDepth 100000 in
theorem bt_shr0 : ∀ n : Nat, n < 1024 → ∀ k : Nat, k < 10 → (I (n : Int) >>> (I (k : Int) &&& 31)) &&& I 1 = I (bt n k : Int) := by decide +kernel
set_option maxRecDepth 100000 in
theorem bt_ushr0 : ∀ n : Nat, n < 1024 → ∀ k : Nat, k < 10 → ((I (n : Int)).toUInt32 >>> ((I (k : Int)).toUInt32 &&& Int32.toUInt32 31)).toInt32 &&& I 1 = I (bt n k : Int) := by decide +kernel
theorem shl0 : ∀ k : Nat, k < 10 → I 1 <<< (I (k : Int) &&& 31) = I ((2 ^ k : Nat) : Int) := by decide +kernel
theorem I_and (a b : Nat) : I (a : Int) &&& I (b : Int) = I ((a &&& b : Nat) : Int) := by
  apply Int32.toBitVec_inj.mp
  show BitVec.ofInt 32 (a : Int) &&& BitVec.ofInt 32 (b : Int) = BitVec.ofInt 32 ((a &&& b : Nat) : Int)
  rw [BitVec.ofInt_natCast, BitVec.ofInt_natCast, BitVec.ofInt_natCast, BitVec.ofNat_and]
theorem I_or (a b : Nat) : I (a : Int) ||| I (b : Int) = I ((a ||| b : Nat) : Int) := by
  apply Int32.toBitVec_inj.mp
  show BitVec.ofInt 32 (a : Int) ||| BitVec.ofInt 32 (b : Int) = BitVec.ofInt 32 ((a ||| b : Nat) : Int)
  rw [BitVec.ofInt_natCast, BitVec.ofInt_natCast, BitVec.ofInt_natCast, BitVec.ofNat_or]
theorem I_xor (a b : Nat) : I (a : Int) ^^^ I (b : Int) = I ((a ^^^ b : Nat) : Int) := by
  apply Int32.toBitVec_inj.mp
  show BitVec.ofInt 32 (a : Int) ^^^ BitVec.ofInt 32 (b : Int) = BitVec.ofInt 32 ((a ^^^ b : Nat) : Int)
  rw [BitVec.ofInt_natCast, BitVec.ofInt_natCast, BitVec.ofInt_natCast, BitVec.ofNat_xor]
theorem bt_lt (n k : Nat) : bt n k < 2 := Nat.mod_lt _ (by decide)
theorem bI0 {P : Prop} [Decidable P] : (I (if P then 1 else 0) = I 0) = ¬ P := by
  by_cases h : P
  · rw [if_pos h]; simp [h]; decide
  · rw [if_neg h]; simp [h]
theorem bI1 {P : Prop} [Decidable P] : (I (if P then 1 else 0) = I 1) = P := by
  by_cases h : P
  · rw [if_pos h]; simp [h]
  · rw [if_neg h]; simp [h]; decide
theorem bI01 {P : Prop} [Decidable P] : (I (if P then 1 else 0) = I 0 ∨ I (if P then 1 else 0) = I 1) := by
  by_cases h : P
  · rw [if_pos h]; exact Or.inr rfl
  · rw [if_neg h]; exact Or.inl rfl
/-! bits of a set, the houses k on, n of them -/
def setL (P : Nat → Bool) : Nat → Nat
  | 0 => 0
  | n + 1 => setL P n ||| (if P n then 2 ^ n else 0)
theorem setL_lt (P : Nat → Bool) : ∀ n, setL P n < 2 ^ n
  | 0 => by show 0 < 1; decide
  | n + 1 => by
    unfold setL
    have h1 := setL_lt P n
    have h2 : 2 ^ n < 2 ^ (n + 1) := Nat.pow_lt_pow_succ (by decide)
    apply Nat.or_lt_two_pow
    · omega
    · split
      · exact h2
      · exact Nat.pos_of_ne_zero (by simp)
/-! ===== more numbers, loops ===== -/
theorem ite_I {c : Prop} [Decidable c] {a b : Int} : (if c then I a else I b) = I (if c then a else b) := by
  split <;> rfl
theorem loopU {P : Nat → Prop} {n : Nat} (hend : P n) (hstep : ∀ k, k < n → P (k + 1) → P k) : P 0 := by
  have h : ∀ j, j ≤ n → P (n - j) := by
    intro j
    induction j with
    | zero => intro _; exact hend
    | succ j ih =>
      intro hj
      have h1 := ih (by omega)
      refine hstep (n - (j + 1)) (by omega) ?_
      rw [show n - (j + 1) + 1 = n - j by omega]
      exact h1
  have := h n (Nat.le_refl n)
  rwa [Nat.sub_self] at this
theorem bit_u {n k : Nat} (h1 : n < 1024) (h2 : k < 10) : ((I (n : Int)).toUInt32 >>> ((I (k : Int)).toUInt32 &&& Int32.toUInt32 31)).toInt32 &&& I 1 = I (bt n k : Int) := bt_ushr0 n h1 k h2
theorem I_ne {a b : Int} (h1 : -2147483648 ≤ a) (h2 : a < 2147483648) (h3 : -2147483648 ≤ b) (h4 : b < 2147483648) : (I a = I b) = (a = b) := propext (I_inj h1 h2 h3 h4)
theorem Nn {a : Int} (h : 0 ≤ a) : ∃ n : Nat, a = n := ⟨a.toNat, by omega⟩
theorem bt_or {a b k : Nat} : bt (a ||| b) k = if bt a k = 1 ∨ bt b k = 1 then 1 else 0 := by
  have e : ∀ n : Nat, bt n k = if n.testBit k then 1 else 0 := by
    intro n
    unfold bt
    rw [Nat.testBit_eq_decide_div_mod_eq]
    have := Nat.mod_lt (n / 2 ^ k) (show 2 > 0 by decide)
    by_cases h : n / 2 ^ k % 2 = 1
    · simp [h]
    · simp [h]; omega
  rw [e, e, e, Nat.testBit_or]
  cases a.testBit k <;> cases b.testBit k <;> simp
theorem bt_pow {i k : Nat} : bt (2 ^ i) k = if k = i then 1 else 0 := by
  unfold bt
  have h : (2 ^ i).testBit k = decide (i = k) := Nat.testBit_two_pow
  rw [Nat.testBit_eq_decide_div_mod_eq] at h
  have := Nat.mod_lt (2 ^ i / 2 ^ k) (show 2 > 0 by decide)
  by_cases q : k = i
  · rw [if_pos q]
    rw [decide_eq_decide] at h
    omega
  · rw [if_neg q]
    rw [decide_eq_decide] at h
    omega
theorem bt_setL {P : Nat → Bool} : ∀ {n k : Nat}, bt (setL P n) k = if k < n ∧ P k = true then 1 else 0
  | 0, k => by
    show bt 0 k = _
    unfold bt
    rw [Nat.zero_div]
    simp
  | n + 1, k => by
    unfold setL
    rw [bt_or, bt_setL (n := n)]
    cases hP : P n with
    | true =>
      rw [if_pos rfl, bt_pow]
      by_cases h1 : k = n
      · subst h1
        simp [hP]
      · simp only [h1]
        by_cases h2 : k < n ∧ P k = true
        · rw [if_pos (by simp [h2]), if_pos ⟨by omega, h2.2⟩]
        · rw [if_neg (by simpa using h2), if_neg (by intro q; exact h2 ⟨by omega, q.2⟩)]
    | false =>
      have h0 : bt (if false = true then 2 ^ n else 0) k = 0 := by
        rw [if_neg (by decide)]
        unfold bt
        rw [Nat.zero_div]
      rw [h0]
      by_cases h1 : k = n
      · subst h1
        simp [hP]
      · by_cases h2 : k < n ∧ P k = true
        · rw [if_pos (by simp [h2]), if_pos ⟨by omega, h2.2⟩]
        · rw [if_neg (by simpa using h2), if_neg (by intro q; exact h2 ⟨by omega, q.2⟩)]
