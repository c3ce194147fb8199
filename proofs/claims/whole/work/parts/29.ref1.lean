theorem v_isIn {d : Nat} {M : Mm} {a b c : Int} (h1 : -2147483648 ≤ a ∧ a < 2147483648) (h2 : -2147483648 ≤ b ∧ b < 2147483648) (h3 : -2147483648 ≤ c ∧ c < 2147483648) : Ev (d + 1) 57 [.int (I a), .int (I b), .int (I c)] M (some (.int (I (if b ≤ a ∧ a ≤ c then 1 else 0)))) M := by
  apply Ev.ofQ
  apply e_R_isIn
  intro At _
  simp (disch := omega) only [I_lt]
  refine ⟨fun h => ⟨?_, trivial⟩, fun h => ⟨fun h2 => ⟨?_, trivial⟩, fun h2 => ⟨?_, trivial⟩⟩⟩
  · rw [if_neg (by omega)]
  · rw [if_neg (by omega)]
  · rw [if_pos (by omega)]
theorem v_bitOf {d : Nat} {M : Mm} {n k : Nat} (h1 : n < 1024) (h2 : k < 10) : Ev (d + 1) 58 [.int (I n), .int (I k)] M (some (.int (I (if bt n k = 1 then 1 else 0)))) M := by
  apply Ev.ofQ
  apply e_R_bitOf
  intro At _
  have hb := bt_lt n k
  rw [bt_shr0 n h1 k h2, I_inj (by omega) (by omega) (by omega) (by omega)]
  refine ⟨fun h => ⟨?_, rfl⟩, fun h => ⟨?_, rfl⟩⟩
  · rw [if_pos (by omega)]
  · rw [if_neg (by omega)]
def mxI (a b : Int) : Int := if b < a then a else b
def mnI (a b : Int) : Int := if a < b then a else b
theorem v_lesser {d : Nat} {M : Mm} {a b : Int} (h1 : -2147483648 ≤ a ∧ a < 2147483648) (h2 : -2147483648 ≤ b ∧ b < 2147483648) : Ev (d + 1) 59 [.int (I a), .int (I b)] M (some (.int (I (mnI a b)))) M := by
  apply Ev.ofQ
  apply e_R_lesser
  intro At _
  unfold mnI
  simp (disch := omega) only [I_lt]
  refine ⟨fun h => ⟨by rw [if_pos h], trivial⟩, fun h => ⟨by rw [if_neg h], trivial⟩⟩
theorem v_greater {d : Nat} {M : Mm} {a b : Int} (h1 : -2147483648 ≤ a ∧ a < 2147483648) (h2 : -2147483648 ≤ b ∧ b < 2147483648) : Ev (d + 1) 60 [.int (I a), .int (I b)] M (some (.int (I (mxI a b)))) M := by
  apply Ev.ofQ
  apply e_R_greater
  intro At _
  unfold mxI
  simp (disch := omega) only [I_lt]
  refine ⟨fun h => ⟨by rw [if_pos h], trivial⟩, fun h => ⟨by rw [if_neg h], trivial⟩⟩
/-! the reference's numbers: s is the array 402, sg its integers -/
def tri (h : Int) : Int := h * (h + 1) / 2
theorem tri_nn {h : Int} (h0 : 0 ≤ h) : 0 ≤ tri h := Int.ediv_nonneg (Int.mul_nonneg h0 (by omega)) (by omega)
theorem v_takesOf {d : Nat} {M : Mm} {sg : Nat → Int} (hs : M.1 402 = fun k => I (sg k)) {w : Nat} {h : Int} (hw : w < 5) (h0 : 0 ≤ h) (h1 : h ≤ 2000) : Ev (d + 1) 90 [.ref 400, .int (I w), .int (I h)] M (some (.int (I (sg (8 + w) * tri h)))) M := by
  apply Ev.ofQ
  apply e_R_takesOf
  intro At _
  have hh : 0 ≤ h * (h + 1) := Int.mul_nonneg h0 (by omega)
  have hb : h * (h + 1) ≤ 2000 * 2001 := Int.mul_le_mul h1 (by omega) (by omega) (by omega)
  simp (disch := omega) only [hs, I_add, I_mul, I_div, ixI]
  refine ⟨inRI (by omega) (by omega) (by omega), ?_, trivial⟩
  rw [show ((8 : Int) + (w : Int)).toNat = 8 + w by omega]
  rfl
/-- how high a wall of b bags is, from h on, n steps at most -/
def hgtL (wi b : Int) : Nat → Int → Int
  | 0, h => h
  | n + 1, h => if wi * tri (h + 1) ≤ b then hgtL wi b n (h + 1) else h
def hgt (wi b : Int) : Int := hgtL wi b 1000 0
theorem tri_ge {h : Int} (h0 : 0 ≤ h) : h ≤ tri h := by
  unfold tri
  by_cases q : h = 0
  · subst q; decide
  · have : h * 2 ≤ h * (h + 1) := Int.mul_le_mul_of_nonneg_left (by omega) h0
    omega
theorem tri_le {h : Int} (h0 : 0 ≤ h) (h1 : h ≤ 2000) : tri h ≤ 2001000 := by
  unfold tri
  have hb : h * (h + 1) ≤ 2000 * 2001 := Int.mul_le_mul h1 (by omega) (by omega) (by omega)
  omega
theorem v_heightOf {d : Nat} {M : Mm} {sg : Nat → Int} (hs : M.1 402 = fun k => I (sg k)) {w : Nat} {q : Nat} (hw : w < 5) (hq : sg 98 = q) (hq2 : q < 1024) (hwi : 1 ≤ sg (8 + w) ∧ sg (8 + w) ≤ 20) (hb : 0 ≤ sg (101 + w) ∧ sg (101 + w) ≤ 999) : Ev (d + 2) 91 [.ref 400, .int (I w)] M (some (.int (I (if bt q w = 1 then 0 else hgt (sg (8 + w)) (sg (101 + w)))))) M := by
  apply Ev.ofQ
  apply e_R_heightOf
  intro At step
  refine ⟨_, _, by rw [hs]; dsimp only; rw [hq]; exact v_bitOf hq2 (by omega), ?_⟩
  rw [bI0]
  refine ⟨fun h => ?_, fun h => ⟨by rw [if_pos (by omega)], rfl⟩⟩
  rw [if_neg h] at step
  unfold hgt at step
  have key : ∀ (n : Nat) (z : Int), 0 ≤ z → z + n = 1000 → (some (.int (I (hgtL (sg (8 + w)) (sg (101 + w)) 1000 0))) : Option Value) = some (.int (I (hgtL (sg (8 + w)) (sg (101 + w)) n z))) → At 18 [.ref 400, .int (I w), .int (I z)] [] M := by
    intro n
    induction n with
    | zero =>
      intro z hz hn hr
      apply s_R_heightOf_18 step
      rw [I_add]
      refine ⟨_, _, v_takesOf hs hw (by omega) (by omega), ?_⟩
      have hg : 1001 ≤ sg (8 + w) * tri (z + 1) := by
        have h1 := tri_ge (h := z + 1) (by omega)
        have h2 : 1 * tri (z + 1) ≤ sg (8 + w) * tri (z + 1) := Int.mul_le_mul_of_nonneg_right hwi.1 (by omega)
        omega
      have hg2 : sg (8 + w) * tri (z + 1) ≤ 20 * 2001000 := Int.mul_le_mul hwi.2 (tri_le (by omega) (by omega)) (tri_nn (by omega)) (by omega)
      simp (disch := omega) only [hs, I_add, ixI, Int.toNat_add, Int.toNat_natCast, Int.reduceToNat, I_lt]
      refine ⟨inRI (by omega) (by omega) (by omega), fun _ => ⟨?_, by trivial⟩, fun q => absurd q (by omega)⟩
      exact hr.symm
    | succ n ih =>
      intro z hz hn hr
      apply s_R_heightOf_18 step
      rw [I_add]
      refine ⟨_, _, v_takesOf hs hw (by omega) (by omega), ?_⟩
      have hg0 : 0 ≤ sg (8 + w) * tri (z + 1) := Int.mul_nonneg (by omega) (tri_nn (by omega))
      have hg2 : sg (8 + w) * tri (z + 1) ≤ 20 * 2001000 := Int.mul_le_mul hwi.2 (tri_le (by omega) (by omega)) (tri_nn (by omega)) (by omega)
      simp (disch := omega) only [hs, I_add, ixI, Int.toNat_add, Int.toNat_natCast, Int.reduceToNat, I_lt]
      refine ⟨inRI (by omega) (by omega) (by omega), fun q => ⟨?_, by trivial⟩, fun q => ?_⟩
      · rw [hr]
        unfold hgtL
        rw [if_neg (by omega)]
      · refine ih (z + 1) (by omega) (by omega) ?_
        rw [hr]
        show some (Value.int (I (hgtL _ _ (n + 1) z))) = _
        unfold hgtL
        rw [if_pos (by omega)]
        cases n <;> rfl
  exact key 1000 0 (by omega) (by omega) rfl
theorem v_isStopped {d : Nat} {M : Mm} {sg : Nat → Int} (hs : M.1 402 = fun k => I (sg k)) {k : Nat} (hk : k < 6) (h1 : -2147483648 ≤ sg (106 + k) ∧ sg (106 + k) < 2147483648) (h2 : -2147483648 ≤ sg (55 + k) ∧ sg (55 + k) < 2147483648) : Ev (d + 1) 93 [.ref 400, .int (I k)] M (some (.int (I (if sg (55 + k) ≤ sg (106 + k) then 1 else 0)))) M := by
  apply Ev.ofQ
  apply e_R_isStopped
  intro At _
  simp (disch := omega) only [hs, I_add, ixI, Int.toNat_add, Int.toNat_natCast, Int.reduceToNat, I_lt]
  refine ⟨inRI (by omega) (by omega) (by omega), inRI (by omega) (by omega) (by omega), fun q => ⟨?_, by trivial⟩, fun q => ⟨?_, by trivial⟩⟩
  · rw [if_neg (by omega)]
  · rw [if_pos (by omega)]
theorem v_leaksOf {d : Nat} {M : Mm} {sg : Nat → Int} (hs : M.1 402 = fun k => I (sg k)) {w h : Int} (hw : -2147483648 ≤ w ∧ w < 2147483648) (hh : -2147483648 ≤ h ∧ h < 2147483648) {nd : Nat} (hn : sg 2 = nd) (hn6 : nd ≤ 6) (hb : ∀ k, k < 6 → (-2147483648 ≤ sg (43 + k) ∧ sg (43 + k) < 2147483648) ∧ (-2147483648 ≤ sg (49 + k) ∧ sg (49 + k) < 2147483648) ∧ (-2147483648 ≤ sg (55 + k) ∧ sg (55 + k) < 2147483648) ∧ (-2147483648 ≤ sg (106 + k) ∧ sg (106 + k) < 2147483648)) :
    Ev (d + 2) 94 [.ref 400, .int (I w), .int (I h)] M (some (.int (I (setL (fun k => decide (sg (43 + k) = w ∧ sg (49 + k) ≤ h ∧ sg (106 + k) < sg (55 + k))) nd)))) M := by
  apply Ev.ofQ
  apply e_R_leaksOf
  intro At step
  generalize hP : (fun k => decide (sg (43 + k) = w ∧ sg (49 + k) ≤ h ∧ sg (106 + k) < sg (55 + k))) = P at step
  have key : ∀ (n k : Nat), k + n = nd → At 5 [.ref 400, .int (I w), .int (I h), .int (I (setL P k)), .int (I k)] [] M := by
    intro n
    induction n with
    | zero =>
      intro k hk
      apply s_R_leaksOf_5 step
      have e : k = nd := by omega
      subst e
      simp (disch := omega) only [hs, hn, I_lt]
      exact ⟨fun q => absurd q (by omega), fun _ => ⟨by trivial, by trivial⟩⟩
    | succ n ih =>
      intro k hk
      apply s_R_leaksOf_5 step
      obtain ⟨b1, b2, b3, b4⟩ := hb k (by omega)
      have nxt : ∀ b : Bool, P k = b → At 5 [.ref 400, .int (I w), .int (I h), .int (I (setL P k) ||| I (if b then 2 ^ k else 0 : Nat)), .int (I ((k : Int) + 1))] [] M := by
        intro b hb
        rw [I_or]
        have := ih (k + 1) (by omega)
        unfold setL at this
        rw [hb] at this
        exact this
      have hPk : P k = decide (sg (43 + k) = w ∧ sg (49 + k) ≤ h ∧ sg (106 + k) < sg (55 + k)) := by rw [← hP]
      have nT : P k = true → At 5 [.ref 400, .int (I w), .int (I h), .int (I (setL P k) ||| I ((2 ^ k : Nat) : Int)), .int (I ((k : Int) + 1))] [] M := nxt true
      have nF : P k = false → At 5 [.ref 400, .int (I w), .int (I h), .int (I (setL P k) ||| I 0), .int (I ((k : Int) + 1))] [] M := nxt false
      generalize I (setL P k) = S0 at nT nF ⊢
      rw [shl0 k (by omega)]
      generalize ((2 ^ k : Nat) : Int) = S1 at nT nF ⊢
      simp (disch := omega) only [hs, hn, I_add, ixI, Int.toNat_add, Int.toNat_natCast, Int.reduceToNat, I_lt, I_inj]
      refine ⟨fun _ => ⟨inRI (by omega) (by omega) (by omega), fun q1 => ⟨inRI (by omega) (by omega) (by omega), fun q2 => nF ?_, fun q2 => ?_⟩, fun q1 => nF ?_⟩, fun q => absurd q (by omega)⟩
      · rw [hPk, decide_eq_false_iff_not]; omega
      · refine ⟨_, _, v_isStopped hs (by omega) b4 b3, ?_⟩
        rw [bI0]
        refine ⟨fun q3 => nT ?_, fun q3 => nF ?_⟩
        · rw [hPk, decide_eq_true_iff]; omega
        · rw [hPk, decide_eq_false_iff_not]; omega
      · rw [hPk, decide_eq_false_iff_not]; omega
  exact key nd 0 (by omega)
