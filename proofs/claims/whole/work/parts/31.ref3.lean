/-! ===== ref3: the reference's next methods ===== -/
theorem v_isOutside {d : Nat} {M : Mm} {sg : Nat → Int} (hs : M.1 402 = fun k => I (sg k)) {k : Nat} (hk : k < 10) (hb : -2147483648 ≤ sg (13 + k) ∧ sg (13 + k) < 2147483648) : Ev (d + 1) 89 [.ref 400, .int (I k)] M (some (.int (I (if sg (13 + k) = 0 then 1 else 0)))) M := by
  apply Ev.ofQ
  apply e_R_isOutside
  intro At _
  simp (disch := omega) only [hs, I_add, ixI, Int.toNat_add, Int.toNat_natCast, Int.reduceToNat, I_inj]
  refine ⟨inRI (by omega) (by omega) (by omega), fun q => ⟨?_, by trivial⟩, fun q => ⟨?_, by trivial⟩⟩
  · rw [if_pos q]
  · rw [if_neg q]
def housesS (sg : Nat → Int) (w : Int) (n : Nat) : Nat := setL (fun k => decide (sg (13 + k) = w + 1)) n
theorem v_housesOf {d : Nat} {M : Mm} {sg : Nat → Int} (hs : M.1 402 = fun k => I (sg k)) {w : Int} (hw : -1 ≤ w ∧ w < 1000) {nh : Nat} (hn : sg 1 = nh) (hn6 : nh ≤ 10) (hb : ∀ k, k < 10 → -2147483648 ≤ sg (13 + k) ∧ sg (13 + k) < 2147483648) :
    Ev (d + 1) 95 [.ref 400, .int (I w)] M (some (.int (I (housesS sg w nh)))) M := by
  apply Ev.ofQ
  apply e_R_housesOf
  intro At step
  unfold housesS at step
  generalize hP : (fun k => decide (sg (13 + k) = w + 1)) = P at step
  have key : ∀ (n k : Nat), k + n = nh → At 4 [.ref 400, .int (I w), .int (I (setL P k)), .int (I k)] [] M := by
    intro n
    induction n with
    | zero =>
      intro k hk
      apply s_R_housesOf_4 step
      have e : k = nh := by omega
      subst e
      simp (disch := omega) only [hs, hn, I_lt]
      exact ⟨fun q => absurd q (by omega), fun _ => ⟨by trivial, by trivial⟩⟩
    | succ n ih =>
      intro k hk
      apply s_R_housesOf_4 step
      have b1 := hb k (by omega)
      have nxt : ∀ b : Bool, P k = b → At 4 [.ref 400, .int (I w), .int (I (setL P k) ||| I (if b then 2 ^ k else 0 : Nat)), .int (I ((k : Int) + 1))] [] M := by
        intro b hb
        rw [I_or]
        have := ih (k + 1) (by omega)
        unfold setL at this
        rw [hb] at this
        exact this
      have hPk : P k = decide (sg (13 + k) = w + 1) := by rw [← hP]
      have nT : P k = true → At 4 [.ref 400, .int (I w), .int (I (setL P k) ||| I ((2 ^ k : Nat) : Int)), .int (I ((k : Int) + 1))] [] M := nxt true
      have nF : P k = false → At 4 [.ref 400, .int (I w), .int (I (setL P k) ||| I 0), .int (I ((k : Int) + 1))] [] M := nxt false
      generalize I (setL P k) = S0 at nT nF ⊢
      rw [shl0 k (by omega)]
      generalize ((2 ^ k : Nat) : Int) = S1 at nT nF ⊢
      simp (disch := omega) only [hs, hn, I_add, ixI, Int.toNat_add, Int.toNat_natCast, Int.reduceToNat, I_lt, I_inj]
      refine ⟨fun _ => ⟨inRI (by omega) (by omega) (by omega), fun q1 => nT ?_, fun q1 => nF ?_⟩, fun q => absurd q (by omega)⟩
      · rw [hPk, decide_eq_true_iff]; exact q1
      · rw [hPk, decide_eq_false_iff_not]; exact q1
  exact key nh 0 (by omega)
def eachI (sg : Nat → Int) (tired : Int) : Int := mxI 1 (sg 7 - tired / 2)
theorem v_eachBy {d : Nat} {M : Mm} {sg : Nat → Int} (hs : M.1 402 = fun k => I (sg k)) {t : Int} (ht : 0 ≤ t ∧ t < 1000) (hr : 0 ≤ sg 7 ∧ sg 7 < 1000) :
    Ev (d + 2) 99 [.ref 400, .int (I t)] M (some (.int (I (eachI sg t)))) M := by
  apply Ev.ofQ
  apply e_R_eachBy
  intro At _
  simp (disch := omega) only [hs, I_div, I_sub]
  exact ⟨_, _, v_greater (by omega) (by omega), by trivial, by trivial⟩
