/-! ===== the game at a wall ===== -/
theorem v_bitCount {d : Nat} {M : Mm} {n : Nat} (h : n < 1024) : Ev (d + 1) 279 [.int (I n)] M (some (.int (I (pc10 n : Nat)))) M := by
  apply Ev.ofQ
  apply e_Integer_bitCount
  intro At z0
  clear z0
  refine ⟨congrArg (fun v => some (Value.int v)) ?_, rfl⟩
  revert n
  set_option maxRecDepth 100000 in
  decide +kernel
set_option maxRecDepth 100000 in
theorem bits_step : ∀ v : Nat, v < 1024 → v ≠ 0 → I (v : Int) &&& (I (v : Int) - I 1) = I ((v &&& (v - 1) : Nat) : Int) ∧ pc10 (v &&& (v - 1)) + 1 = pc10 v ∧ v &&& (v - 1) < v := by decide +kernel
theorem r_bits {d : Nat} {M : Mm} {n : Nat} (h : n < 1024) : Ev (d + 1) 61 [.int (I n)] M (some (.int (I (pc10 n : Nat)))) M := by
  apply Ev.ofQ
  apply e_R_bits
  intro At step
  have key : ∀ (v c : Nat), v < 1024 → c + pc10 v = pc10 n → At 4 [.retAddr 0, .int (I c), .int (I v)] [] M := by
    intro v
    induction v using Nat.strongRecOn with
    | ind v ih =>
      intro c hv hc
      apply s_R_bits_4 step
      rw [I_ne (by omega) (by omega) (by omega) (by omega), I_add]
      refine ⟨fun q => ⟨?_, rfl⟩, fun q => ?_⟩
      · have e0 : v = 0 := by omega
        subst e0
        have : pc10 0 = 0 := by decide
        rw [show c = pc10 n by omega]
      · obtain ⟨e1, e2, e3⟩ := bits_step v hv (by omega)
        rw [e1]
        exact ih _ e3 (c + 1) (by omega) (by omega)
  exact key n 0 h (by omega)
/-- a without b -/
def les (a b : Nat) : Nat := a &&& (1023 ^^^ b)
theorem tb_1023 {i : Nat} (h : i < 10) : (1023 : Nat).testBit i = true := by
  have : i = 0 ∨ i = 1 ∨ i = 2 ∨ i = 3 ∨ i = 4 ∨ i = 5 ∨ i = 6 ∨ i = 7 ∨ i = 8 ∨ i = 9 := by omega
  rcases this with rfl | rfl | rfl | rfl | rfl | rfl | rfl | rfl | rfl | rfl <;> decide
theorem tb_big {a i : Nat} (ha : a < 1024) (h : 10 ≤ i) : a.testBit i = false := by
  have e1 : a / 2 ^ i = 0 := Nat.div_eq_of_lt (Nat.lt_of_lt_of_le ha (Nat.pow_le_pow_right (n := 2) (by decide) h))
  rw [Nat.testBit_eq_decide_div_mod_eq, e1]
  decide
theorem I_les {a b : Nat} (ha : a < 1024) : I (a : Int) &&& (I (b : Int) ^^^ I (-1)) = I ((les a b : Nat) : Int) := by
  apply Int32.toBitVec_inj.mp
  show BitVec.ofInt 32 (a : Int) &&& (BitVec.ofInt 32 (b : Int) ^^^ BitVec.allOnes 32) = BitVec.ofInt 32 ((les a b : Nat) : Int)
  rw [BitVec.ofInt_natCast, BitVec.ofInt_natCast, BitVec.ofInt_natCast]
  apply BitVec.eq_of_getLsbD_eq
  intro i hi
  rw [BitVec.getLsbD_and, BitVec.getLsbD_xor, BitVec.getLsbD_ofNat, BitVec.getLsbD_ofNat, BitVec.getLsbD_ofNat, BitVec.getLsbD_allOnes, decide_eq_true hi]
  unfold les
  rw [Nat.testBit_and, Nat.testBit_xor]
  rcases Nat.lt_or_ge i 10 with q | q
  · rw [tb_1023 q]
    cases a.testBit i <;> cases b.testBit i <;> rfl
  · rw [tb_big ha q]
    rfl
theorem bt_tb {n k : Nat} : bt n k = if n.testBit k then 1 else 0 := by
  unfold bt
  rw [Nat.testBit_eq_decide_div_mod_eq]
  have := Nat.mod_lt (n / 2 ^ k) (show 2 > 0 by decide)
  by_cases h : n / 2 ^ k % 2 = 1
  · simp [h]
  · simp [h]; omega
theorem les_lt {a b : Nat} (ha : a < 1024) : les a b < 1024 := by
  have := Nat.and_le_left (n := a) (m := 1023 ^^^ b)
  unfold les
  omega
theorem bt_les {a b k : Nat} (hk : k < 10) : bt (les a b) k = if bt a k = 1 ∧ ¬ bt b k = 1 then 1 else 0 := by
  unfold les
  rw [bt_tb, bt_tb, bt_tb, Nat.testBit_and, Nat.testBit_xor, tb_1023 hk]
  cases a.testBit k <;> cases b.testBit k <;> simp
theorem les_zero {a b : Nat} (ha : a < 1024) : les a b = 0 ↔ ∀ k, k < 10 → bt a k = 1 → bt b k = 1 := by
  constructor
  · intro h k hk h1
    have e := bt_les (a := a) (b := b) hk
    rw [h, bt_zero] at e
    by_cases q : bt b k = 1
    · exact q
    · rw [if_pos ⟨h1, q⟩] at e
      exact absurd e (by decide)
  · intro h
    refine bt_ext (les_lt ha) (by decide) fun k hk => ?_
    rw [bt_les hk, bt_zero, if_neg (fun q => q.2 (h k hk q.1))]
def needG (g : Nat → Int) (w : Nat) : Int := g (8 + w) * tri (mxL (fun k => g (61 + k)) (g 3).toNat)
def holdB (a : Nat) (b nd : Int) : Bool := decide (nd ≤ (pc10 a : Int) * b)
def restB (a p : Nat) (b nd : Int) : Bool := (decide (a = 0) || holdB a b nd || decide (b < 9)) && (decide (a = p) || holdB a b nd || decide (9 ≤ b) || decide (((pc10 a : Int) + 1) * b < nd))
def saveG (g : Nat → Int) (a p : Nat) (b nd : Int) : Int := if holdB a b nd then sumL (fun k => (bt p k : Int) * g (23 + k)) (g 1).toNat else if 9 ≤ b then sumL (fun k => (bt (les p a) k : Int) * g (23 + k)) (g 1).toNat else 0
def rsS (g : Nat → Int) (p : Nat) (b nd : Int) (a : Nat) (z : Int × Int × Int) : Int × Int × Int :=
  if les a p = 0 ∧ restB a p b nd = true then (if z.2.1 < saveG g a p b nd then (z.1 + 1, saveG g a p b nd, (a : Int)) else (z.1 + 1, z.2.1, z.2.2)) else z
def rsL (g : Nat → Int) (p : Nat) (b nd : Int) (z : Int × Int × Int) : Nat → Int × Int × Int
  | 0 => z
  | a + 1 => rsS g p b nd a (rsL g p b nd z a)
def restsA (g : Nat → Int) (w b : Int) : Int := if (0 ≤ w ∧ w < g 0) ∧ (0 ≤ b ∧ b ≤ 999) then (rsL g (housesS g w (g 1).toNat) b (needG g w.toNat) (0, -1, 0) (housesS g w (g 1).toNat + 1)).1 else -1
def wallingN (g : Nat → Int) (w b mv : Int) : Int := if (0 ≤ w ∧ w < g 0) ∧ (0 ≤ b ∧ b ≤ 999) then (rsL g (housesS g w (g 1).toNat) b (needG g w.toNat) (0, -1, mv) (housesS g w (g 1).toNat + 1)).2.2 else mv
theorem rsL_1 {g : Nat → Int} {p : Nat} {b nd c m v v' : Int} : ∀ k : Nat, (rsL g p b nd (c, m, v) k).1 = (rsL g p b nd (c, m, v') k).1 ∧ (rsL g p b nd (c, m, v) k).2.1 = (rsL g p b nd (c, m, v') k).2.1
  | 0 => ⟨rfl, rfl⟩
  | k + 1 => by
    obtain ⟨h1, h2⟩ := rsL_1 (g := g) (p := p) (b := b) (nd := nd) (c := c) (m := m) (v := v) (v' := v') k
    unfold rsL rsS
    by_cases q : les k p = 0 ∧ restB k p b nd = true
    · rw [if_pos q, if_pos q, h1, h2]
      split <;> exact ⟨rfl, rfl⟩
    · rw [if_neg q, if_neg q]
      exact ⟨h1, h2⟩
theorem need_b {g : Nat → Int} (hs : RGs g) {w : Nat} (hw : w < 5) : 0 ≤ needG g w ∧ needG g w ≤ 20 * 2001000 := by
  have h3 := hs.1.2.2.2.1
  have hb := hs.2.1 w hw
  have m := mxL_b (f := fun k => g (61 + k)) (c := 60) (N := (g 3).toNat) (fun k hk => by have := hs.2.2.2.2.1 k (by omega); omega) (by decide) _ (Nat.le_refl _)
  have ht := tri_nn m.1
  have ht2 := tri_le m.1 (by omega)
  unfold needG
  exact ⟨Int.mul_nonneg (by omega) ht, Int.mul_le_mul (by omega) ht2 ht (by omega)⟩
theorem many_b {a : Nat} {b : Int} (hb : 0 ≤ b ∧ b ≤ 999) : 0 ≤ (pc10 a : Int) * b ∧ (pc10 a : Int) * b ≤ 10 * 999 := by
  have := pc10_b a
  exact mulb ⟨by omega, by omega⟩ hb
theorem many1_b {a : Nat} {b : Int} (hb : 0 ≤ b ∧ b ≤ 999) : 0 ≤ ((pc10 a : Int) + 1) * b ∧ ((pc10 a : Int) + 1) * b ≤ 11 * 999 := by
  have := pc10_b a
  exact mulb ⟨by omega, by omega⟩ hb
section RST
variable {M : Mm} {ps : Nat} {g : Nat → Int}
theorem c_isRest {d : Nat} {a p : Nat} {b nd : Int} (ha : a < 1024) (hp : p < 1024) (hb : 0 ≤ b ∧ b ≤ 999) (hn : 0 ≤ nd ∧ nd ≤ 20 * 2001000) : Ev (d + 2) 23 [.int (I a), .int (I p), .int (I b), .int (I nd)] M (some (.int (I (if restB a p b nd then 1 else 0)))) M := by
  have m0 := many_b (a := a) hb
  have m1 := many1_b (a := a) hb
  apply Ev.ofQ
  apply e_B_isRest
  intro At step
  have hh : holdB a b nd = decide (nd ≤ (pc10 a : Int) * b) := rfl
  have t78 : ∀ x7 x8 : Int, (x7 = if ¬ holdB a b nd = true ∧ 9 ≤ b then 1 else 0) → (x8 = if ¬ holdB a b nd = true ∧ ¬ 9 ≤ b ∧ nd ≤ ((pc10 a : Int) + 1) * b then 1 else 0) → At 78 [.int (I a), .int (I p), .retAddr 0, .retAddr 0, .retAddr 0, .retAddr 0, .retAddr 0, .int (I x7), .int (I x8)] [] M := by
    intro x7 x8 h7 h8
    apply s_B_isRest_78 step
    have b7 : x7 = 0 ∨ x7 = 1 := by rw [h7]; split <;> simp
    have b8 : x8 = 0 ∨ x8 = 1 := by rw [h8]; split <;> simp
    rw [I_ne (by omega) (by omega) (by omega) (by omega), I_ne (by omega) (by omega) (by omega) (by omega), I_ne (by omega) (by omega) (by omega) (by omega), I_ne (by omega) (by omega) (by omega) (by omega)]
    have hR : (restB a p b nd = true) = ((a = 0 ∨ x7 = 0) ∧ (a = p ∨ x8 = 0)) := by
      unfold restB
      simp only [Bool.and_eq_true, Bool.or_eq_true, decide_eq_true_eq]
      apply propext
      rw [h7, h8]
      by_cases q1 : holdB a b nd = true
      · simp [q1]
      · simp only [q1]
        by_cases q2 : 9 ≤ b
        · have q3 : ¬ b < 9 := by omega
          simp [q2, q3]
        · have q3 : b < 9 := by omega
          simp only [q2, q3]
          by_cases q4 : nd ≤ ((pc10 a : Int) + 1) * b
          · have q5 : ¬ ((pc10 a : Int) + 1) * b < nd := by omega
            simp [q4, q5]
          · have q5 : ((pc10 a : Int) + 1) * b < nd := by omega
            simp [q4, q5]
    have yes : (a = 0 ∨ x7 = 0) ∧ (a = p ∨ x8 = 0) → some (Value.int (I 1)) = some (.int (I (if restB a p b nd then 1 else 0))) := by
      intro h
      rw [if_pos (hR ▸ h)]
    have noo : ¬ ((a = 0 ∨ x7 = 0) ∧ (a = p ∨ x8 = 0)) → some (Value.int (I 0)) = some (.int (I (if restB a p b nd then 1 else 0))) := by
      intro h
      rw [if_neg (fun z => h (hR ▸ z))]
    refine ⟨fun q => ⟨fun q2 => ⟨yes (by omega), rfl⟩, fun q2 => ⟨fun q3 => ⟨yes (by omega), rfl⟩, fun q3 => ⟨noo (by omega), rfl⟩⟩⟩, fun q => ⟨fun q1 => ⟨fun q2 => ⟨yes (by omega), rfl⟩, fun q2 => ⟨fun q3 => ⟨yes (by omega), rfl⟩, fun q3 => ⟨noo (by omega), rfl⟩⟩⟩, fun q1 => ⟨noo (by omega), rfl⟩⟩⟩
  have t51 : ∀ x5 x6 x7 : Int, (x5 = if holdB a b nd = true then 1 else 0) → (x6 = if 9 ≤ b then 1 else 0) → (x7 = if ¬ holdB a b nd = true ∧ 9 ≤ b then 1 else 0) → At 51 [.int (I a), .int (I p), .int (I b), .int (I nd), .int (I (pc10 a : Nat)), .int (I x5), .int (I x6), .int (I x7), .retAddr 0] [] M := by
    intro x5 x6 x7 h5 h6 h7
    apply s_B_isRest_51 step
    have b5 : x5 = 0 ∨ x5 = 1 := by rw [h5]; split <;> simp
    have b6 : x6 = 0 ∨ x6 = 1 := by rw [h6]; split <;> simp
    have c5 : (x5 = 0) = ¬ holdB a b nd = true := by
      rw [h5]
      by_cases z : holdB a b nd = true <;> simp [z]
    have c6 : (x6 = 0) = ¬ 9 ≤ b := by
      rw [h6]
      by_cases z : 9 ≤ b <;> simp [z]
    rw [I_ne (by omega) (by omega) (by omega) (by omega), I_ne (by omega) (by omega) (by omega) (by omega), I_add, I_mul, I_lt (by omega) (by omega) (by omega) (by omega), c5, c6]
    refine ⟨fun q => ⟨fun q2 => ⟨fun q3 => t78 x7 0 h7 ?_, fun q3 => t78 x7 1 h7 ?_⟩, fun q2 => t78 x7 0 h7 ?_⟩, fun q => t78 x7 0 h7 ?_⟩
    · rw [if_neg (fun z => by omega)]
    · rw [if_pos ⟨q, q2, by omega⟩]
    · rw [if_neg (fun z => q2 z.2.1)]
    · rw [if_neg (fun z => q z.1)]
  have t34 : ∀ x5 x6 : Int, (x5 = if holdB a b nd = true then 1 else 0) → (x6 = if 9 ≤ b then 1 else 0) → At 34 [.int (I a), .int (I p), .int (I b), .int (I nd), .int (I (pc10 a : Nat)), .int (I x5), .int (I x6), .retAddr 0, .retAddr 0] [] M := by
    intro x5 x6 h5 h6
    apply s_B_isRest_34 step
    have b5 : x5 = 0 ∨ x5 = 1 := by rw [h5]; split <;> simp
    have b6 : x6 = 0 ∨ x6 = 1 := by rw [h6]; split <;> simp
    have c5 : (x5 = 0) = ¬ holdB a b nd = true := by
      rw [h5]
      by_cases z : holdB a b nd = true <;> simp [z]
    have c6 : (x6 = 0) = ¬ 9 ≤ b := by
      rw [h6]
      by_cases z : 9 ≤ b <;> simp [z]
    rw [I_ne (by omega) (by omega) (by omega) (by omega), I_ne (by omega) (by omega) (by omega) (by omega), c5, c6]
    refine ⟨fun q => ⟨fun q2 => t51 x5 x6 0 h5 h6 ?_, fun q2 => t51 x5 x6 1 h5 h6 ?_⟩, fun q => t51 x5 x6 0 h5 h6 ?_⟩
    · rw [if_neg (fun z => q2 z.2)]
    · rw [if_pos ⟨q, Decidable.of_not_not q2⟩]
    · rw [if_neg (fun z => q z.1)]
  have t21 : ∀ x5 : Int, (x5 = if holdB a b nd = true then 1 else 0) → At 21 [.int (I a), .int (I p), .int (I b), .int (I nd), .int (I (pc10 a : Nat)), .int (I x5), .retAddr 0, .retAddr 0, .retAddr 0] [] M := by
    intro x5 h5
    apply s_B_isRest_21 step
    rw [I_lt (by omega) (by omega) (by omega) (by omega)]
    exact ⟨fun q => t34 x5 0 h5 (by rw [if_neg (by omega)]), fun q => t34 x5 1 h5 (by rw [if_pos (by omega)])⟩
  refine ⟨_, _, v_bitCount ha, ?_⟩
  rw [I_mul, I_lt (by omega) (by omega) (by omega) (by omega)]
  refine ⟨fun q => t21 0 ?_, fun q => t21 1 ?_⟩
  · rw [hh, if_neg (by rw [decide_eq_true_eq]; omega)]
  · rw [hh, if_pos (by rw [decide_eq_true_eq]; omega)]
theorem c_savedInGame {d : Nat} (hbb : CB M ps g) {a p : Nat} {b nd : Int} (ha : a < 1024) (hp : p < 1024) (hb : 0 ≤ b ∧ b ≤ 999) (hn : 0 ≤ nd ∧ nd ≤ 20 * 2001000) : Ev (d + 3) 24 [.ref 1, .int (I a), .int (I p), .int (I b), .int (I nd)] M (some (.int (I (saveG g a p b nd)))) M := by
  obtain ⟨hps, ep, hr, hc, hs, hd, -⟩ := hbb
  have m0 := many_b (a := a) hb
  apply Ev.ofQ
  apply e_B_savedInGame
  intro At _
  have hh : (holdB a b nd = true) = (nd ≤ (pc10 a : Int) * b) := by
    unfold holdB
    rw [decide_eq_true_eq]
  unfold saveG
  refine ⟨_, _, v_bitCount ha, ?_⟩
  rw [I_mul, I_lt (by omega) (by omega) (by omega) (by omega), ep, I_les hp]
  refine ⟨fun q => ?_, fun q => ⟨hps, _, _, c_worthOf hps hr hs hp, by rw [if_pos (by rw [hh]; omega)], rfl⟩⟩
  rw [if_neg (by rw [hh]; omega), I_lt (by omega) (by omega) (by omega) (by omega)]
  exact ⟨fun q2 => ⟨by rw [if_neg (by omega)], rfl⟩, fun q2 => ⟨hps, _, _, c_worthOf hps hr hs (les_lt hp), by rw [if_pos (by omega)], rfl⟩⟩
theorem sum_worth {g : Nat → Int} (hs : RGs g) {m : Nat} : 0 ≤ sumL (fun k => (bt m k : Int) * g (23 + k)) (g 1).toNat ∧ sumL (fun k => (bt m k : Int) * g (23 + k)) (g 1).toNat ≤ 990 := by
  have h1 := hs.1.2.1
  have := sumL_b (f := fun k => (bt m k : Int) * g (23 + k)) (c := 99) (N := (g 1).toNat) (fun k hk => by
    have b := hs.2.2.1 k (by omega)
    have b2 := bt_lt m k
    have := mulb (a := (bt m k : Int)) (b := g (23 + k)) (x := 1) (y := 99) ⟨by omega, by omega⟩ ⟨by omega, by omega⟩
    omega) (by decide) _ (Nat.le_refl _)
  omega
theorem saveG_b (hs : RGs g) {a p : Nat} {b nd : Int} : 0 ≤ saveG g a p b nd ∧ saveG g a p b nd ≤ 990 := by
  unfold saveG
  split
  · exact sum_worth hs
  · split
    · exact sum_worth hs
    · decide
theorem rsL_b (hs : RGs g) {p : Nat} {b nd v : Int} : ∀ k : Nat, 0 ≤ (rsL g p b nd (0, -1, v) k).1 ∧ (rsL g p b nd (0, -1, v) k).1 ≤ k ∧ -1 ≤ (rsL g p b nd (0, -1, v) k).2.1 ∧ (rsL g p b nd (0, -1, v) k).2.1 ≤ 990
  | 0 => by
    show (0 : Int) ≤ 0 ∧ (0 : Int) ≤ ((0 : Nat) : Int) ∧ (-1 : Int) ≤ -1 ∧ (-1 : Int) ≤ 990
    omega
  | k + 1 => by
    have ih := rsL_b hs (p := p) (b := b) (nd := nd) (v := v) k
    have sb := saveG_b hs (a := k) (p := p) (b := b) (nd := nd)
    unfold rsL rsS
    split
    · split
      · dsimp only
        omega
      · dsimp only
        omega
    · omega
theorem b_rests {d : Nat} (hb : CB M ps g) {w b mv : Int} (hw : (-2147483648 ≤ w ∧ w < 2147483648)) (hbb : (-2147483648 ≤ b ∧ b < 2147483648)) (e15 : M.1 1 15 = I mv) : EvQ (d + 4) 22 [.ref 1, .int (I w), .int (I b)] M fun r M' => r = some (.int (I (restsA g w b))) ∧ CB M' ps g ∧ M'.1 1 15 = I (wallingN g w b mv) ∧ F1 205 209 [15] M M' := by
  have hb0 := hb
  obtain ⟨hp, ep, hr, hc, hs, hd, -⟩ := hb
  have h0 := hs.1.1
  have h1 := hs.1.2.1
  have h3 := hs.1.2.2.2.1
  apply e_B_rests
  intro At step
  rw [ep]
  refine ⟨hp, _, _, c_hasWall hp hr hs hw, ?_⟩
  rw [bI0]
  refine ⟨fun q => ⟨by simp (disch := omega) only [restsA, if_neg], hb0, by simp (disch := omega) only [wallingN, if_neg]; exact e15, F1.refl⟩, fun q => ⟨_, _, c_isWithin hbb (by omega) (by omega), ?_⟩⟩
  rw [bI0, ep]
  refine ⟨fun q2 => ⟨by simp (disch := omega) only [restsA, if_neg], hb0, by simp (disch := omega) only [wallingN, if_neg]; exact e15, F1.refl⟩, fun q2 => ⟨hp, _, _, c_housesBehind hp hr hs (by omega), ?_⟩⟩
  obtain ⟨k, rfl⟩ := Nn (a := w) (by omega)
  rw [ep]
  obtain ⟨nc, hnc⟩ := Nn h3.1
  have enc : (g 3).toNat = nc := by omega
  have e3 := hr.1.2.2.2.1
  rw [hnc] at e3
  refine ⟨hp, _, _, c_greatestKey (St_cr hp) e3 (by omega) (fun j hj => (hr.2.2.2.2.1 j (by omega)).1) (fun j hj => by have := hs.2.2.2.2.1 j (by omega); omega), ?_⟩
  have mb := mxL_b (f := fun k => g (61 + k)) (c := 60) (N := nc) (fun k hk => by have := hs.2.2.2.2.1 k (by omega); omega) (by decide) _ (Nat.le_refl _)
  refine ⟨_, _, c_bagsFor hp hr hs hw (by omega) (by omega), ?_⟩
  have en : g (8 + (k : Int).toNat) * tri (mxL (fun k => g (61 + k)) nc) = needG g k := by
    unfold needG
    rw [enc, Int.toNat_natCast]
  rw [if_pos (show 0 ≤ (k : Int) ∧ (k : Int) < g 0 by omega), en]
  have hnb := need_b hs (w := k) (by omega)
  have hpl : housesS g k (g 1).toNat < 1024 := setL_lt10 _ (by omega)
  have hA : restsA g k b = (rsL g (housesS g k (g 1).toNat) b (needG g k) (0, -1, mv) (housesS g k (g 1).toNat + 1)).1 := by
    unfold restsA
    rw [if_pos ⟨by omega, by omega⟩, Int.toNat_natCast]
    exact (rsL_1 _).1
  have hV : wallingN g k b mv = (rsL g (housesS g k (g 1).toNat) b (needG g k) (0, -1, mv) (housesS g k (g 1).toNat + 1)).2.2 := by
    unfold wallingN
    rw [if_pos ⟨by omega, by omega⟩, Int.toNat_natCast]
  rw [hA, hV] at step
  generalize housesS g k (g 1).toNat = P at step hpl ⊢
  generalize needG g k = nd at step hnb ⊢
  refine loopU (P := fun a : Nat => ∀ O : Mm, CB O ps g → O.1 1 15 = I (rsL g P b nd (0, -1, mv) a).2.2 → F1 205 209 [15] M O → At 62 [.ref 1, .retAddr 0, .int (I b), .int (I P), .int (I nd), .int (I (rsL g P b nd (0, -1, mv) a).1), .int (I (rsL g P b nd (0, -1, mv) a).2.1), .int (I (a : Int)), .retAddr 0] [] O) (n := P + 1) ?_ ?_ M hb0 e15 F1.refl
  · intro O hbO o15 o1
    apply s_B_rests_62 step
    rw [I_lt (by omega) (by omega) (by omega) (by omega)]
    exact ⟨fun _ => ⟨rfl, hbO, o15, o1⟩, fun z => absurd (by omega) z⟩
  · intro a ha nx O hbO o15 o1
    apply s_B_rests_62 step
    have rb := rsL_b hs (p := P) (b := b) (nd := nd) (v := mv) a
    have sbb := saveG_b hs (a := a) (p := P) (b := b) (nd := nd)
    unfold rsL rsS at nx
    generalize rsL g P b nd (0, -1, mv) a = y at nx rb o15 ⊢
    rw [I_lt (by omega) (by omega) (by omega) (by omega), I_les (by omega), I_add, I_add]
    have hl := les_lt (a := a) (b := P) (by omega)
    rw [I_ne (by omega) (by omega) (by omega) (by omega)]
    refine ⟨fun z => absurd z (by omega), fun _ => ⟨fun z => ⟨_, _, c_isRest (by omega) hpl (by omega) hnb, ?_⟩, fun z => ?_⟩⟩
    · rw [bI0]
      refine ⟨fun z2 => ?_, fun z2 => ⟨_, _, c_savedInGame hbO (by omega) hpl (by omega) hnb, ?_⟩⟩
      · rw [if_neg (fun x => z2 x.2)] at nx
        exact nx O hbO o15 o1
      · rw [if_pos ⟨by omega, Decidable.of_not_not z2⟩] at nx
        rw [I_lt (by omega) (by omega) (by omega) (by omega)]
        refine ⟨fun z3 => ?_, fun z3 => ?_⟩
        · rw [if_pos z3] at nx
          exact nx _ hbO.f1 mI_eq (o1.trans (F1.st (by simp)))
        · rw [if_neg z3] at nx
          exact nx O hbO o15 o1
    · rw [if_neg (fun x => z (by omega))] at nx
      exact nx O hbO o15 o1
end RST
