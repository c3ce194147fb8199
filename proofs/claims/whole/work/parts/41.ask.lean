/-! ===== what is asked and changes nothing: both sides ===== -/
/-- the class, as far as STREET and state go: its street lies at ps -/
def CB (M : Mm) (ps : Nat) (g : Nat → Int) : Prop := St ps ∧ M.2.2 1 2 = ps ∧ CSr M ps g ∧ CSt M 200 g ∧ RGs g ∧ RGd g ∧ RN g
theorem Sa200 : Sa 200 := Or.inl rfl
theorem Sa205 : Sa 205 := Or.inr (Or.inl rfl)
theorem I_and_1 {n k : Nat} (h1 : n < 1024) (h2 : k < 10) : (I (n : Int) >>> (I (k : Int) &&& 31)) &&& I 1 = I (bt n k : Int) := bt_shr0 n h1 k h2
theorem bt_zero {k : Nat} : bt 0 k = 0 := by
  unfold bt
  rw [Nat.zero_div]
theorem bt_ext {a b : Nat} (ha : a < 1024) (hb : b < 1024) (h : ∀ k, k < 10 → bt a k = bt b k) : a = b := by
  apply Nat.eq_of_testBit_eq
  intro i
  rw [Nat.testBit_eq_decide_div_mod_eq, Nat.testBit_eq_decide_div_mod_eq, decide_eq_decide]
  rcases Nat.lt_or_ge i 10 with q | q
  · have := h i q
    unfold bt at this
    rw [this]
  · have e1 : a / 2 ^ i = 0 := Nat.div_eq_of_lt (Nat.lt_of_lt_of_le ha (Nat.pow_le_pow_right (n := 2) (by decide) q))
    have e2 : b / 2 ^ i = 0 := Nat.div_eq_of_lt (Nat.lt_of_lt_of_le hb (Nat.pow_le_pow_right (n := 2) (by decide) q))
    rw [e1, e2]
theorem setL_lt10 (P : Nat → Bool) {n : Nat} (h : n ≤ 10) : setL P n < 1024 := by
  have h1 := setL_lt P n
  have h2 : 2 ^ n ≤ 2 ^ 10 := Nat.pow_le_pow_right (by decide) h
  have h3 : (2 : Nat) ^ 10 = 1024 := by decide
  omega
theorem flooded_set {g : Nat → Int} (hs : RGs g) (hd : RGd g) : g 100 = (setL (fun k => decide (g (112 + k) ≠ 0)) (g 1).toNat : Nat) := by
  have h1 := hs.1.2.1
  obtain ⟨-, -, -, -, -, -, -, -, -, -, -, hf⟩ := hd.1
  have h3 := hd.2.2.2
  have e : (g 100).toNat = setL (fun k => decide (g (112 + k) ≠ 0)) (g 1).toNat := by
    refine bt_ext (by omega) (setL_lt10 _ (by omega)) fun k hk => ?_
    have b := h3 k hk
    have hb := bt_lt (g 100).toNat k
    rw [bt_setL]
    by_cases q : g (112 + k) = 0
    · rw [if_neg (by simp [q])]
      have : ¬ bt (g 100).toNat k = 1 := fun z => b.2.2.1.mp z q
      omega
    · have q2 : k < (g 1).toNat := by
        rcases Int.lt_or_le (k : Int) (g 1) with z | z
        · omega
        · exact absurd (b.2.2.2 z) q
      rw [if_pos ⟨q2, by simp [q]⟩]
      exact b.2.2.1.mpr q
  omega
def wallA (g : Nat → Int) (w x : Int) : Int := if 0 ≤ w ∧ w < g 0 then (if x = 0 then g (8 + w.toNat) else if x = 1 then g (101 + w.toNat) else if x = 2 then higI g (g 98).toNat w.toNat else if x = 3 then (bt (g 98).toNat w.toNat : Int) else if x = 4 then (housesS g w (g 1).toNat : Int) else if x = 5 then (drainsS g w (g 2).toNat : Int) else -1) else -1
def drainA (g : Nat → Int) (k x : Int) : Int := if 0 ≤ k ∧ k < g 2 then (if x = 0 then g (43 + k.toNat) else if x = 1 then g (49 + k.toNat) else if x = 2 then g (55 + k.toNat) else if x = 3 then g (106 + k.toNat) else if x = 4 then (if g (55 + k.toNat) ≤ g (106 + k.toNat) then 1 else 0) else -1) else -1
def nowA (g : Nat → Int) (x : Int) : Int := if x = 0 then g 89 else if x = 1 then river g (g 89) else if x = 2 then g 90 else if x = 3 then g 91 else if x = 4 then g 92 else if x = 5 then eachI g (g 92) else if x = 6 then g 100 else if x = 7 then g 96 else if x = 8 then savL (fun k => g (23 + k)) (g 100).toNat (g 99).toNat (g 1).toNat else if x = 9 then g 97 else -1
def postedA (g : Nat → Int) (x : Int) : Int := if x = 0 then g 93 else if x = 1 then g 94 else if x = 2 then g 95 else -1
def takesA (g : Nat → Int) (w h : Int) : Int := if (0 ≤ w ∧ w < g 0) ∧ (0 ≤ h ∧ h ≤ 60) then g (8 + w.toNat) * tri h else -1
def lacksA (g : Nat → Int) (w : Int) : Int := if (0 ≤ w ∧ w < g 0) ∧ ¬ bt (g 98).toNat w.toNat = 1 then mxI 0 (g (8 + w.toNat) * tri (gRiv g (48 - g 89).toNat) - g (101 + w.toNat)) else -1
def leaksA (g : Nat → Int) (w h : Int) : Int := if (0 ≤ w ∧ w < g 0) ∧ (0 ≤ h ∧ h ≤ 60) then (leakS g w h (g 2).toNat : Int) else -1
def countA (g : Nat → Int) (n x : Int) : Int := if x = 0 then g 0 else if x = 1 then g 1 else if x = 2 then g 2 else if x = 3 then g 3 else if x = 4 then g 5 else if x = 5 then g 7 else if x = 6 then n else -1
section QRC
variable {M : Mm} {ps : Nat} {g : Nat → Int}
theorem b_wall {d : Nat} (hb : CB M ps g) {w x : Int} (hw : (-2147483648 ≤ w ∧ w < 2147483648)) (hx : (-2147483648 ≤ x ∧ x < 2147483648)) : Ev (d + 4) 4 [.ref 1, .int (I w), .int (I x)] M (some (.int (I (wallA g w x)))) M := by
  obtain ⟨hp, e, hr, hc, hs, hd, -⟩ := hb
  have h0 := hs.1.1
  have hq := hd.1.2.2.2.2.2.2.2.2.2.1
  apply Ev.ofQ
  apply e_B_wall
  intro At _
  rw [e]
  refine ⟨hp, _, _, c_hasWall hp hr hs hw, ?_⟩
  rw [bI0, e]
  simp (disch := omega) only [I_ne]
  refine ⟨fun q => ⟨by simp (disch := omega) only [wallA, if_neg], by trivial⟩, fun q => ?_⟩
  obtain ⟨k, rfl⟩ := Nn (a := w) (by omega)
  rw [ixI (by omega) (by omega), Int.toNat_natCast]
  have hk : (k : Int) < g 0 := by omega
  have e9 := hc.1.2.2.2.2.2.2.2.2.2.1
  rw [show g 98 = ((g 98).toNat : Int) by omega] at e9
  rw [e9, hr.2.1 k hk, hc.2.1 k (by omega)]
  refine ⟨fun x0 => ⟨hp, inRI (by omega) (by omega) (by omega), ?_, by trivial⟩, fun x0 => ⟨inRI (by omega) (by omega) (by omega), ?_, by trivial⟩, fun x0 => ⟨_, _, c_heightOf Sa200 hp hr hc hs hd hk, ?_, by trivial⟩, fun x0 => ⟨_, _, c_bit (by omega) (by omega), ?_, by trivial⟩, fun x0 => ⟨hp, _, _, c_housesBehind hp hr hs (by omega), ?_, by trivial⟩, fun x0 => ⟨hp, _, _, c_drainsOf hp hr hs (by omega), ?_, by trivial⟩, fun x0 => ⟨?_, by trivial⟩⟩
  all_goals simp (disch := omega) only [wallA, if_pos, if_neg, Int.toNat_natCast]
theorem b_drain {d : Nat} (hb : CB M ps g) {w x : Int} (hw : (-2147483648 ≤ w ∧ w < 2147483648)) (hx : (-2147483648 ≤ x ∧ x < 2147483648)) : Ev (d + 4) 6 [.ref 1, .int (I w), .int (I x)] M (some (.int (I (drainA g w x)))) M := by
  obtain ⟨hp, e, hr, hc, hs, hd, -⟩ := hb
  have h0 := hs.1.2.2.1
  apply Ev.ofQ
  apply e_B_drain
  intro At _
  rw [e]
  refine ⟨hp, _, _, c_hasDrain hp hr hs hw, ?_⟩
  rw [bI0, e]
  simp (disch := omega) only [I_ne]
  refine ⟨fun q => ⟨by simp (disch := omega) only [drainA, if_neg], by trivial⟩, fun q => ?_⟩
  obtain ⟨k, rfl⟩ := Nn (a := w) (by omega)
  rw [ixI (by omega) (by omega), Int.toNat_natCast]
  have hk : (k : Int) < g 2 := by omega
  have r3 := hr.2.2.2.1 k hk
  rw [r3.1, r3.2.1, r3.2.2, hc.2.2.1 k (by omega)]
  refine ⟨fun x0 => ⟨hp, inRI (by omega) (by omega) (by omega), ?_, by trivial⟩, fun x0 => ⟨hp, inRI (by omega) (by omega) (by omega), ?_, by trivial⟩, fun x0 => ⟨hp, inRI (by omega) (by omega) (by omega), ?_, by trivial⟩, fun x0 => ⟨inRI (by omega) (by omega) (by omega), ?_, by trivial⟩, fun x0 => ⟨_, _, c_isStopped Sa200 hp hr hc hs hd hk, ?_⟩, fun x0 => ⟨?_, by trivial⟩⟩
  rotate_left 4
  · rw [bI0]
    refine ⟨fun q1 => ⟨?_, rfl⟩, fun q1 => ⟨?_, rfl⟩⟩
    all_goals simp (disch := omega) only [drainA, if_pos, if_neg, Int.toNat_natCast]
  all_goals simp (disch := omega) only [drainA, if_pos, if_neg, Int.toNat_natCast]
theorem b_now {d : Nat} (hb : CB M ps g) {x : Int} (hx : (-2147483648 ≤ x ∧ x < 2147483648)) : Ev (d + 4) 7 [.ref 1, .int (I x)] M (some (.int (I (nowA g x)))) M := by
  obtain ⟨hp, e, hr, hc, hs, hd, -⟩ := hb
  have hf := flooded_set hs hd
  have hc0 := hc
  obtain ⟨⟨c0, c1, c2, c3, c4, c5, c6, c7, c8, c9, c10⟩, -⟩ := hc
  apply Ev.ofQ
  apply e_B_now
  intro At _
  rw [e, c0, c1, c2, c3, c4, c5]
  simp (disch := omega) only [I_ne]
  refine ⟨fun q => ⟨?_, by trivial⟩, fun q => ⟨_, _, c_river Sa200 hp hr hc0 hs hd, ?_, by trivial⟩, fun q => ⟨?_, by trivial⟩, fun q => ⟨?_, by trivial⟩, fun q => ⟨?_, by trivial⟩, fun q => ⟨_, _, c_bagsEach Sa200 hp hr hc0 hs hd, ?_, by trivial⟩, fun q => ⟨_, _, c_floodedHouses Sa200 hp hr hc0 hs hd, ?_, by trivial⟩, fun q => ⟨?_, by trivial⟩, fun q => ⟨_, _, c_saved Sa200 hp hr hc0 hs hd, ?_, by trivial⟩, fun q => ⟨?_, by trivial⟩, fun q => ⟨?_, by trivial⟩⟩
  all_goals simp (disch := omega) only [nowA, if_pos, if_neg]
  rw [← hf]
theorem b_posted {d : Nat} (hb : CB M ps g) {x : Int} (hx : (-2147483648 ≤ x ∧ x < 2147483648)) : Ev (d + 1) 8 [.ref 1, .int (I x)] M (some (.int (I (postedA g x)))) M := by
  obtain ⟨-, -, -, hc, -⟩ := hb
  obtain ⟨⟨c0, c1, c2, c3, c4, c5, c6, c7, c8, c9, c10⟩, -⟩ := hc
  apply Ev.ofQ
  apply e_B_posted
  intro At _
  rw [c6, c7, c8]
  simp (disch := omega) only [I_ne]
  refine ⟨fun q => ⟨?_, by trivial⟩, fun q => ⟨?_, by trivial⟩, fun q => ⟨?_, by trivial⟩, fun q => ⟨?_, by trivial⟩⟩
  all_goals simp (disch := omega) only [postedA, if_pos, if_neg]
theorem b_takes {d : Nat} (hb : CB M ps g) {w h : Int} (hw : (-2147483648 ≤ w ∧ w < 2147483648)) (hh : (-2147483648 ≤ h ∧ h < 2147483648)) : Ev (d + 4) 14 [.ref 1, .int (I w), .int (I h)] M (some (.int (I (takesA g w h)))) M := by
  obtain ⟨hp, e, hr, hc, hs, hd, -⟩ := hb
  apply Ev.ofQ
  apply e_B_takes
  intro At _
  rw [e]
  refine ⟨hp, _, _, c_hasWall hp hr hs hw, ?_⟩
  rw [bI0]
  refine ⟨fun q => ⟨by simp (disch := omega) only [takesA, if_neg], rfl⟩, fun q => ⟨_, _, c_isWithin hh (by omega) (by omega), ?_⟩⟩
  rw [bI0, e]
  refine ⟨fun q2 => ⟨by simp (disch := omega) only [takesA, if_neg], rfl⟩, fun q2 => ⟨hp, _, _, c_bagsFor hp hr hs hw (by omega) (by omega), ?_, rfl⟩⟩
  simp (disch := omega) only [takesA, if_pos]
theorem b_leaks {d : Nat} (hb : CB M ps g) {w h : Int} (hw : (-2147483648 ≤ w ∧ w < 2147483648)) (hh : (-2147483648 ≤ h ∧ h < 2147483648)) : Ev (d + 4) 27 [.ref 1, .int (I w), .int (I h)] M (some (.int (I (leaksA g w h)))) M := by
  obtain ⟨hp, e, hr, hc, hs, hd, -⟩ := hb
  apply Ev.ofQ
  apply e_B_leaks
  intro At _
  rw [e]
  refine ⟨hp, _, _, c_hasWall hp hr hs hw, ?_⟩
  rw [bI0]
  refine ⟨fun q => ⟨by simp (disch := omega) only [leaksA, if_neg], rfl⟩, fun q => ⟨_, _, c_isWithin hh (by omega) (by omega), ?_⟩⟩
  rw [bI0, e]
  refine ⟨fun q2 => ⟨by simp (disch := omega) only [leaksA, if_neg], rfl⟩, fun q2 => ⟨_, _, c_leaking Sa200 hp hr hc hs hd hw hh, ?_, rfl⟩⟩
  simp (disch := omega) only [leaksA, if_pos]
theorem b_lacks {d : Nat} (hb : CB M ps g) {w : Int} (hw : (-2147483648 ≤ w ∧ w < 2147483648)) : Ev (d + 4) 15 [.ref 1, .int (I w)] M (some (.int (I (lacksA g w)))) M := by
  obtain ⟨hp, e, hr, hc, hs, hd, -⟩ := hb
  have h0 := hs.1.1
  have hq := hd.1.2.2.2.2.2.2.2.2.2.1
  have hba := bags_b hd
  apply Ev.ofQ
  apply e_B_lacks
  intro At _
  rw [e]
  refine ⟨hp, _, _, c_hasWall hp hr hs hw, ?_⟩
  rw [bI0]
  refine ⟨fun q => ⟨by simp (disch := omega) only [lacksA, if_neg], rfl⟩, fun q => ?_⟩
  obtain ⟨k, rfl⟩ := Nn (a := w) (by omega)
  have hk : (k : Int) < g 0 := by omega
  have e9 := hc.1.2.2.2.2.2.2.2.2.2.1
  rw [show g 98 = ((g 98).toNat : Int) by omega] at e9
  rw [e9]
  have hbt := bt_lt (g 98).toNat k
  refine ⟨_, _, c_bit (by omega) (by omega), ?_⟩
  rw [I_ne (by omega) (by omega) (by omega) (by omega), e]
  refine ⟨fun q2 => ⟨by simp (disch := omega) only [lacksA, if_neg, Int.toNat_natCast], rfl⟩, fun q2 => ⟨_, _, c_greatestRiver Sa200 hp hr hc hs hd, hp, ?_⟩⟩
  have hg := gRiv_b hs hd (48 - g 89).toNat
  refine ⟨_, _, c_bagsFor hp hr hs hw (by omega) (by omega), ?_⟩
  rw [if_pos (show 0 ≤ (k : Int) ∧ (k : Int) < g 0 from ⟨by omega, hk⟩), ixI (by omega) (by omega), Int.toNat_natCast, hc.2.1 k (by omega)]
  have hbw := hs.2.1 k (by omega)
  have hb2 := hba.2.2.1 k (by omega)
  have ht := tri_nn hg.1
  have ht2 := tri_le hg.1 (by omega)
  have hg0 : 0 ≤ g (8 + k) * tri (gRiv g (48 - g 89).toNat) := Int.mul_nonneg (by omega) ht
  have hg2 : g (8 + k) * tri (gRiv g (48 - g 89).toNat) ≤ 20 * 2001000 := Int.mul_le_mul hbw.2.1 ht2 ht (by omega)
  simp (disch := omega) only [I_add, I_sub, I_mul, I_div, ixI, Int.toNat_add, Int.toNat_natCast, Int.reduceToNat, I_lt, I_ne, ite_I, lacksA, if_pos, mxI]
  exact ⟨inRI (by omega) (by omega) (by omega), by trivial, by trivial⟩
theorem b_count {d : Nat} (hb : CB M ps g) {n x : Int} (hl : M.1 2 1 = I n) (hx : (-2147483648 ≤ x ∧ x < 2147483648)) : Ev (d + 1) 44 [.ref 1, .int (I x)] M (some (.int (I (countA g n x)))) M := by
  obtain ⟨hp, e, hr, -⟩ := hb
  obtain ⟨⟨r0, r1, r2, r3, r4, r5, r6, r7⟩, -⟩ := hr
  apply Ev.ofQ
  apply e_B_count
  intro At _
  rw [e, r0, r1, r2, r3, r5, r7, hl]
  simp (disch := omega) only [I_ne]
  refine ⟨fun q => ⟨hp, ?_, by trivial⟩, fun q => ⟨hp, ?_, by trivial⟩, fun q => ⟨hp, ?_, by trivial⟩, fun q => ⟨hp, ?_, by trivial⟩, fun q => ⟨hp, ?_, by trivial⟩, fun q => ⟨hp, ?_, by trivial⟩, fun q => ⟨?_, by trivial⟩, fun q => ⟨?_, by trivial⟩⟩
  all_goals simp (disch := omega) only [countA, if_pos, if_neg]
/-! the reference's -/
theorem r_isWall {d : Nat} (hm : M.1 402 = fun k => I (g k)) (hs : RGs g) {w : Int} (hw : (-2147483648 ≤ w ∧ w < 2147483648)) : Ev (d + 2) 86 [.ref 400, .int (I w)] M (some (.int (I (if 0 ≤ w ∧ w < g 0 then 1 else 0)))) M := by
  have h0 := hs.1.1
  apply Ev.ofQ
  apply e_R_isWall
  intro At _
  rw [hm]
  dsimp only
  rw [I_sub]
  refine ⟨_, _, v_isIn hw (by omega) (by omega), ?_⟩
  have e : (if 0 ≤ w ∧ w ≤ g 0 - 1 then (1 : Int) else 0) = if 0 ≤ w ∧ w < g 0 then 1 else 0 := by split <;> split <;> omega
  rw [e]
  exact ⟨bI01, rfl, rfl⟩
theorem r_isHouse {d : Nat} (hm : M.1 402 = fun k => I (g k)) (hs : RGs g) {w : Int} (hw : (-2147483648 ≤ w ∧ w < 2147483648)) : Ev (d + 2) 87 [.ref 400, .int (I w)] M (some (.int (I (if 0 ≤ w ∧ w < g 1 then 1 else 0)))) M := by
  have h0 := hs.1.2.1
  apply Ev.ofQ
  apply e_R_isHouse
  intro At _
  rw [hm]
  dsimp only
  rw [I_sub]
  refine ⟨_, _, v_isIn hw (by omega) (by omega), ?_⟩
  have e : (if 0 ≤ w ∧ w ≤ g 1 - 1 then (1 : Int) else 0) = if 0 ≤ w ∧ w < g 1 then 1 else 0 := by split <;> split <;> omega
  rw [e]
  exact ⟨bI01, rfl, rfl⟩
theorem r_isDrain {d : Nat} (hm : M.1 402 = fun k => I (g k)) (hs : RGs g) {w : Int} (hw : (-2147483648 ≤ w ∧ w < 2147483648)) : Ev (d + 2) 88 [.ref 400, .int (I w)] M (some (.int (I (if 0 ≤ w ∧ w < g 2 then 1 else 0)))) M := by
  have h0 := hs.1.2.2.1
  apply Ev.ofQ
  apply e_R_isDrain
  intro At _
  rw [hm]
  dsimp only
  rw [I_sub]
  refine ⟨_, _, v_isIn hw (by omega) (by omega), ?_⟩
  have e : (if 0 ≤ w ∧ w ≤ g 2 - 1 then (1 : Int) else 0) = if 0 ≤ w ∧ w < g 2 then 1 else 0 := by split <;> split <;> omega
  rw [e]
  exact ⟨bI01, rfl, rfl⟩
theorem m4 {a k : Nat} {v : Int32} (h : a ≠ 402) : (sI M a k v).1 402 = M.1 402 := mI_fn (by omega)
theorem r_drainsL {d : Nat} (hm : M.1 402 = fun k => I (g k)) (hs : RGs g) {w : Nat} {x : Int} (hw : w < 5) {Q : Option Value → Mm → Prop} {At : JJ} (step : StepQ d k_R_wall Q At) (fin : At 20 [.ref 400, .int (I w), .int (I x), .int (I ((drainsS g w (g 2).toNat : Nat) : Int)), .int (I ((g 2).toNat : Int))] [] M) : At 20 [.ref 400, .int (I w), .int (I x), .int (I 0), .int (I 0)] [] M := by
  have h2 := hs.1.2.2.1
  obtain ⟨n, hn⟩ := Nn h2.1
  have en : (g 2).toNat = n := by omega
  rw [en] at fin
  refine loopU (P := fun k : Nat => At 20 [.ref 400, .int (I w), .int (I x), .int (I (setL (fun k => decide (g (43 + k) = (w : Int))) k)), .int (I (k : Int))] [] M) (n := n) fin ?_
  intro k hk nx
  apply s_R_wall_20 step
  have b := hs.2.2.2.1 k (by omega)
  simp (disch := omega) only [hm, hn, I_add, I_sub, I_mul, I_div, ixI, Int.toNat_add, Int.toNat_natCast, Int.reduceToNat, I_lt, I_ne, ite_I]
  refine ⟨fun _ => ⟨inRI (by omega) (by omega) (by omega), fun q => ?_, fun q => ?_⟩, fun q => absurd q (by omega)⟩
  · rw [or_T (by simp only [decide_eq_true_eq]; exact q) (by omega)]
    exact nx
  · rw [or_F (by simp only [decide_eq_false_iff_not]; exact q)]
    exact nx
theorem r_wall {d : Nat} (hm : M.1 402 = fun k => I (g k)) (hs : RGs g) (hd : RGd g) {w x : Int} (hw : (-2147483648 ≤ w ∧ w < 2147483648)) (hx : (-2147483648 ≤ x ∧ x < 2147483648)) : Ev (d + 4) 96 [.ref 400, .int (I w), .int (I x)] M (some (.int (I (wallA g w x)))) (sI M 400 0 (I 0)) := by
  have hm2 : (sI M 400 0 (I 0)).1 402 = fun k => I (g k) := by rw [m4 (by decide), hm]
  have h0 := hs.1.1
  have hq := hd.1.2.2.2.2.2.2.2.2.2.1
  have h1 := hs.1.2.1
  have h2 := hs.1.2.2.1
  apply Ev.ofQ
  apply e_R_wall
  intro At step
  generalize sI M 400 0 (I 0) = N at hm2 step ⊢
  refine ⟨_, _, r_isWall hm2 hs hw, ?_⟩
  rw [bI0]
  refine ⟨fun q => ⟨by simp (disch := omega) only [wallA, if_neg], rfl⟩, fun q => ?_⟩
  obtain ⟨k, rfl⟩ := Nn (a := w) (by omega)
  have hk : (k : Int) < g 0 := by omega
  refine r_drainsL hm2 hs (by omega) step ?_
  apply s_R_wall_20 step
  have e98 : N.1 402 98 = I (((g 98).toNat : Nat) : Int) := by
    rw [hm2]
    dsimp only
    rw [show g 98 = ((g 98).toNat : Int) by omega]
    rfl
  rw [e98, I_and_1 (by omega) (by omega)]
  simp (disch := omega) only [hm2, I_ne, I_lt, I_add, ixI]
  rw [show (8 + (k : Int)).toNat = 8 + k by omega, show (101 + (k : Int)).toNat = 101 + k by omega]
  refine ⟨fun q => absurd q (by omega), fun _ => ⟨fun x0 => ⟨inRI (by omega) (by omega) (by omega), ?_, by trivial⟩, fun x0 => ⟨inRI (by omega) (by omega) (by omega), ?_, by trivial⟩, fun x0 => ⟨_, _, r_heightOf hm2 hs hd hk, ?_, by trivial⟩, fun x0 => ⟨?_, by trivial⟩, fun x0 => ⟨_, _, v_housesOf hm2 (nh := (g 1).toNat) (by omega) (by omega) (by omega) (fun j hj => by have := hs.2.2.1 j hj; omega), ?_, by trivial⟩, fun x0 => ⟨?_, by trivial⟩, fun x0 => ⟨?_, by trivial⟩⟩⟩
  all_goals simp (disch := omega) only [wallA, if_pos, if_neg, Int.toNat_natCast]
theorem r_drain {d : Nat} (hm : M.1 402 = fun k => I (g k)) (hs : RGs g) (hd : RGd g) {w x : Int} (hw : (-2147483648 ≤ w ∧ w < 2147483648)) (hx : (-2147483648 ≤ x ∧ x < 2147483648)) : Ev (d + 4) 98 [.ref 400, .int (I w), .int (I x)] M (some (.int (I (drainA g w x)))) (sI M 400 0 (I 0)) := by
  have hm2 : (sI M 400 0 (I 0)).1 402 = fun k => I (g k) := by rw [m4 (by decide), hm]
  have h2 := hs.1.2.2.1
  have hba := bags_b hd
  apply Ev.ofQ
  apply e_R_drain
  intro At step
  generalize sI M 400 0 (I 0) = N at hm2 step ⊢
  refine ⟨_, _, r_isDrain hm2 hs hw, ?_⟩
  rw [bI0]
  simp (disch := omega) only [I_ne]
  refine ⟨fun q => ⟨by simp (disch := omega) only [drainA, if_neg], by trivial⟩, fun q => ?_⟩
  obtain ⟨k, rfl⟩ := Nn (a := w) (by omega)
  have hk : (k : Int) < g 2 := by omega
  have b := hs.2.2.2.1 k (by omega)
  have b2 := hba.2.2.2 k (by omega)
  simp (disch := omega) only [hm2, I_add, ixI]
  rw [show (43 + (k : Int)).toNat = 43 + k by omega, show (49 + (k : Int)).toNat = 49 + k by omega, show (55 + (k : Int)).toNat = 55 + k by omega, show (106 + (k : Int)).toNat = 106 + k by omega]
  refine ⟨fun x0 => ⟨inRI (by omega) (by omega) (by omega), ?_, by trivial⟩, fun x0 => ⟨inRI (by omega) (by omega) (by omega), ?_, by trivial⟩, fun x0 => ⟨inRI (by omega) (by omega) (by omega), ?_, by trivial⟩, fun x0 => ⟨inRI (by omega) (by omega) (by omega), ?_, by trivial⟩, fun x0 => ⟨_, _, v_isStopped hm2 (by omega) (by omega) (by omega), ?_⟩, fun x0 => ⟨?_, by trivial⟩⟩
  rotate_left 4
  · rw [bI0]
    refine ⟨fun q1 => ⟨?_, by trivial⟩, fun q1 => ⟨?_, by trivial⟩⟩
    all_goals simp (disch := omega) only [drainA, if_pos, if_neg, Int.toNat_natCast]
  all_goals simp (disch := omega) only [drainA, if_pos, if_neg, Int.toNat_natCast]
theorem r_now {d : Nat} (hm : M.1 402 = fun k => I (g k)) (hs : RGs g) (hd : RGd g) {x : Int} (hx : (-2147483648 ≤ x ∧ x < 2147483648)) : Ev (d + 4) 101 [.ref 400, .int (I x)] M (some (.int (I (nowA g x)))) (sI M 400 0 (I 0)) := by
  have hm2 : (sI M 400 0 (I 0)).1 402 = fun k => I (g k) := by rw [m4 (by decide), hm]
  have h89 := hd.1.1
  have h92 := hd.1.2.2.2.2.1
  apply Ev.ofQ
  apply e_R_now
  intro At step
  generalize sI M 400 0 (I 0) = N at hm2 step ⊢
  simp (disch := omega) only [hm, I_ne]
  refine ⟨fun q => ⟨?_, by trivial⟩, fun q => ⟨_, _, r_riverAt hm2 hs (by omega), ?_, by trivial⟩, fun q => ⟨?_, by trivial⟩, fun q => ⟨?_, by trivial⟩, fun q => ⟨?_, by trivial⟩, fun q => ⟨_, _, r_eachBy hm2 hs (by omega), ?_, by trivial⟩, fun q => ⟨?_, by trivial⟩, fun q => ⟨?_, by trivial⟩, fun q => ⟨_, _, r_saved hm2 hs hd, ?_, by trivial⟩, fun q => ⟨?_, by trivial⟩, fun q => ⟨?_, by trivial⟩⟩
  all_goals simp (disch := omega) only [nowA, if_pos, if_neg]
theorem r_posted {d : Nat} (hm : M.1 402 = fun k => I (g k)) {x : Int} (hx : (-2147483648 ≤ x ∧ x < 2147483648)) : Ev (d + 2) 102 [.ref 400, .int (I x)] M (some (.int (I (postedA g x)))) (sI M 400 0 (I 0)) := by
  have hm2 : (sI M 400 0 (I 0)).1 402 = fun k => I (g k) := by rw [m4 (by decide), hm]
  apply Ev.ofQ
  apply e_R_posted
  intro At step
  generalize sI M 400 0 (I 0) = N at hm2 step ⊢
  refine ⟨_, _, v_isIn hx (by omega) (by omega), ?_⟩
  rw [bI0]
  refine ⟨fun q => ⟨by simp (disch := omega) only [postedA, if_neg], rfl⟩, fun q => ?_⟩
  rw [I_add, hm2, ixI (by omega) (by omega)]
  refine ⟨inRI (by omega) (by omega) (by omega), ?_, rfl⟩
  have : x = 0 ∨ x = 1 ∨ x = 2 := by omega
  rcases this with rfl | rfl | rfl <;> rfl
theorem r_takes {d : Nat} (hm : M.1 402 = fun k => I (g k)) (hs : RGs g) {w h : Int} (hw : (-2147483648 ≤ w ∧ w < 2147483648)) (hh : (-2147483648 ≤ h ∧ h < 2147483648)) : Ev (d + 4) 121 [.ref 400, .int (I w), .int (I h)] M (some (.int (I (takesA g w h)))) (sI M 400 0 (I 0)) := by
  have hm2 : (sI M 400 0 (I 0)).1 402 = fun k => I (g k) := by rw [m4 (by decide), hm]
  have h0 := hs.1.1
  apply Ev.ofQ
  apply e_R_takes
  intro At step
  generalize sI M 400 0 (I 0) = N at hm2 step ⊢
  refine ⟨_, _, r_isWall hm2 hs hw, ?_⟩
  rw [bI0]
  refine ⟨fun q => ⟨by simp (disch := omega) only [takesA, if_neg], rfl⟩, fun q => ⟨_, _, v_isIn hh (by omega) (by omega), ?_⟩⟩
  rw [bI0]
  obtain ⟨k, rfl⟩ := Nn (a := w) (by omega)
  refine ⟨fun q2 => ⟨by simp (disch := omega) only [takesA, if_neg], rfl⟩, fun q2 => ⟨_, _, v_takesOf hm2 (by omega) (by omega) (by omega), ?_, rfl⟩⟩
  simp (disch := omega) only [takesA, if_pos, Int.toNat_natCast]
theorem r_leaks {d : Nat} (hm : M.1 402 = fun k => I (g k)) (hs : RGs g) (hd : RGd g) {w h : Int} (hw : (-2147483648 ≤ w ∧ w < 2147483648)) (hh : (-2147483648 ≤ h ∧ h < 2147483648)) : Ev (d + 4) 140 [.ref 400, .int (I w), .int (I h)] M (some (.int (I (leaksA g w h)))) (sI M 400 0 (I 0)) := by
  have hm2 : (sI M 400 0 (I 0)).1 402 = fun k => I (g k) := by rw [m4 (by decide), hm]
  apply Ev.ofQ
  apply e_R_leaks
  intro At step
  generalize sI M 400 0 (I 0) = N at hm2 step ⊢
  refine ⟨_, _, r_isWall hm2 hs hw, ?_⟩
  rw [bI0]
  refine ⟨fun q => ⟨by simp (disch := omega) only [leaksA, if_neg], rfl⟩, fun q => ⟨_, _, v_isIn hh (by omega) (by omega), ?_⟩⟩
  rw [bI0]
  refine ⟨fun q2 => ⟨by simp (disch := omega) only [leaksA, if_neg], rfl⟩, fun q2 => ⟨_, _, r_leaksOf hm2 hs hd hw hh, ?_, rfl⟩⟩
  simp (disch := omega) only [leaksA, if_pos]
theorem r_lacks {d : Nat} (hm : M.1 402 = fun k => I (g k)) (hs : RGs g) (hd : RGd g) {w : Int} (hw : (-2147483648 ≤ w ∧ w < 2147483648)) : Ev (d + 4) 122 [.ref 400, .int (I w)] M (some (.int (I (lacksA g w)))) (sI M 400 0 (I 0)) := by
  have hm2 : (sI M 400 0 (I 0)).1 402 = fun k => I (g k) := by rw [m4 (by decide), hm]
  have h0 := hs.1.1
  have h89 := hd.1.1
  have hq := hd.1.2.2.2.2.2.2.2.2.2.1
  have hba := bags_b hd
  apply Ev.ofQ
  apply e_R_lacks
  intro At step
  generalize sI M 400 0 (I 0) = N at hm2 step ⊢
  refine ⟨_, _, r_isWall hm2 hs hw, ?_⟩
  rw [bI0]
  refine ⟨fun q => ⟨by simp (disch := omega) only [lacksA, if_neg], rfl⟩, fun q => ?_⟩
  obtain ⟨k, rfl⟩ := Nn (a := w) (by omega)
  have hk : (k : Int) < g 0 := by omega
  have e98 : N.1 402 98 = I (((g 98).toNat : Nat) : Int) := by
    rw [hm2]
    dsimp only
    rw [show g 98 = ((g 98).toNat : Int) by omega]
    rfl
  rw [e98]
  refine ⟨_, _, v_bitOf (by omega) (by omega), ?_⟩
  have e89 : N.1 402 89 = I (g 89) := by rw [hm2]
  rw [bI0, e89]
  refine ⟨fun q2 => ⟨_, _, r_riverAt hm2 hs (by omega), ?_⟩, fun q2 => ⟨by simp (disch := omega) only [lacksA, if_neg, Int.toNat_natCast], rfl⟩⟩
  have hg := gRiv_b hs hd
  have h := loopU (P := fun j : Nat => At 49 [.ref 400, .int (I k), .int (I (gRiv g j)), .int (I (g 89 + j))] [] N) (n := (48 - g 89).toNat) ?_ ?_
  · rw [show g 89 + ((0 : Nat) : Int) = g 89 by omega] at h
    rw [e89]
    exact h
  · apply s_R_lacks_49 step
    have hgn := hg (48 - g 89).toNat
    rw [I_lt (by omega) (by omega) (by omega) (by omega)]
    refine ⟨fun r => absurd r (by omega), fun _ => ⟨_, _, v_takesOf hm2 (by omega) hgn.1 (by omega), ?_⟩⟩
    have hbw := hs.2.1 k (by omega)
    have hb2 := hba.2.2.1 k (by omega)
    have ht := tri_nn hgn.1
    have ht2 := tri_le hgn.1 (by omega)
    have hg0 : 0 ≤ g (8 + k) * tri (gRiv g (48 - g 89).toNat) := Int.mul_nonneg (by omega) ht
    have hg2 : g (8 + k) * tri (gRiv g (48 - g 89).toNat) ≤ 20 * 2001000 := Int.mul_le_mul hbw.2.1 ht2 ht (by omega)
    simp (disch := omega) only [hm2, I_add, I_sub, ixI]
    rw [show (101 + (k : Int)).toNat = 101 + k by omega]
    refine ⟨inRI (by omega) (by omega) (by omega), _, _, v_greater (by omega) (by omega), ?_, by trivial⟩
    unfold lacksA
    rw [if_pos ⟨⟨by omega, hk⟩, q2⟩, Int.toNat_natCast]
  · intro j hj nx
    apply s_R_lacks_49 step
    have hgj := hg j
    have hrv := river_b hs hd (g 89 + j)
    rw [I_lt (by omega) (by omega) (by omega) (by omega)]
    refine ⟨fun _ => ⟨_, _, r_riverAt hm2 hs (by omega), _, _, v_greater (by omega) (by omega), ?_⟩, fun r => absurd (by omega) r⟩
    rw [I_add, show g 89 + (j : Int) + 1 = g 89 + ((j + 1 : Nat) : Int) by omega]
    exact nx
theorem r_count {d : Nat} (hm : M.1 402 = fun k => I (g k)) {n x : Int} (hl : M.1 400 2 = I n) (hx : (-2147483648 ≤ x ∧ x < 2147483648)) : Ev (d + 1) 168 [.ref 400, .int (I x)] M (some (.int (I (countA g n x)))) (sI M 400 0 (I 0)) := by
  apply Ev.ofQ
  apply e_R_count
  intro At step
  simp (disch := omega) only [hm, hl, I_ne]
  refine ⟨fun q => ?_, fun q => ?_, fun q => ?_, fun q => ?_, fun q => ⟨?_, by trivial⟩, fun q => ⟨?_, by trivial⟩, fun q => ⟨?_, by trivial⟩, fun q => ⟨?_, by trivial⟩⟩
  rotate_left 4
  all_goals first
    | (subst q
       exact ⟨inRI (by omega) (by omega) (by omega), rfl, by trivial⟩)
    | (simp (disch := omega) only [countA, if_pos, if_neg]
       done)
end QRC
