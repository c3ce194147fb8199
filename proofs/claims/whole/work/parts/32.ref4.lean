/-! ===== ref4: saved, isOpen ===== -/
/-- what the first n houses' worth comes to: f flooded, u up -/
def savL (wo : Nat → Int) (f u : Nat) : Nat → Int
  | 0 => 0
  | n + 1 => savL wo f u n + (if bt f n = 1 then (if bt u n = 1 then wo n / 2 else 0) else wo n)
theorem savL_b {wo : Nat → Int} {f u : Nat} {N : Nat} (hb : ∀ k, k < N → 0 ≤ wo k ∧ wo k ≤ 99) : ∀ k, k ≤ N → 0 ≤ savL wo f u k ∧ savL wo f u k ≤ 99 * k
  | 0, _ => ⟨by show (0 : Int) ≤ 0; decide, by show (0 : Int) ≤ 0; decide⟩
  | k + 1, h => by
    unfold savL
    have h1 := savL_b (f := f) (u := u) hb k (by omega)
    have h2 := hb k (by omega)
    split
    · split
      · omega
      · omega
    · omega
theorem v_saved {d : Nat} {M : Mm} {sg : Nat → Int} (hs : M.1 402 = fun k => I (sg k)) {nh f u : Nat} (hn : sg 1 = nh) (hn6 : nh ≤ 10) (hf : sg 99 = u) (hf2 : u < 1024) (hu : sg 100 = f) (hu2 : f < 1024) (hb : ∀ k, k < 10 → 0 ≤ sg (23 + k) ∧ sg (23 + k) ≤ 99) :
    Ev (d + 2) 100 [.ref 400] M (some (.int (I (savL (fun k => sg (23 + k)) f u nh)))) M := by
  apply Ev.ofQ
  apply e_R_saved
  intro At step
  have key : ∀ (n k : Nat), k + n = nh → At 4 [.ref 400, .int (I (savL (fun k => sg (23 + k)) f u k)), .int (I k)] [] M := by
    intro n
    induction n with
    | zero =>
      intro k hk
      apply s_R_saved_4 step
      have e : k = nh := by omega
      subst e
      simp (disch := omega) only [hs, hn, I_lt]
      exact ⟨fun q => absurd q (by omega), fun _ => ⟨by trivial, by trivial⟩⟩
    | succ n ih =>
      intro k hk
      apply s_R_saved_4 step
      have nx := ih (k + 1) (by omega)
      unfold savL at nx
      have b2 := hb k (by omega)
      generalize savL (fun k => sg (23 + k)) f u k = z at nx ⊢
      have hi := inRI (a := 23 + (k : Int)) (n := 303) (by omega) (by omega) (by omega)
      refine ⟨fun _ => ⟨_, _, by rw [hs]; dsimp only; rw [hu]; exact v_bitOf hu2 (by omega), ?_⟩, fun q => ?_⟩
      · rw [bI0]
        refine ⟨fun q => ?_, fun q => ⟨_, _, by rw [hs]; dsimp only; rw [hf]; exact v_bitOf hf2 (by omega), ?_⟩⟩
        · rw [if_neg q] at nx
          simp (disch := omega) only [hs, hn, I_add, ixI, Int.toNat_add, Int.toNat_natCast, Int.reduceToNat]
          exact ⟨hi, nx⟩
        · rw [bI0]
          rw [if_pos (Decidable.of_not_not q)] at nx
          refine ⟨fun q2 => ?_, fun q2 => ?_⟩
          · rw [if_neg q2, Int.add_zero] at nx
            rw [I_add]
            exact nx
          · rw [if_pos (Decidable.of_not_not q2)] at nx
            simp (disch := omega) only [hs, hn, I_add, ixI, Int.toNat_add, Int.toNat_natCast, Int.reduceToNat, I_div]
            exact ⟨hi, nx⟩
      · simp (disch := omega) only [hs, hn, I_lt] at q
        exact absurd q (by omega)
  exact key nh 0 (by omega)
/-- may it be worked there: the line where, w lines, q given up -/
def opn (whr nw : Int) (q : Nat) : Bool := decide (10 ≤ whr ∨ 0 < nw ∧ ¬ bt q whr.toNat = 1)
theorem v_isOpen {d : Nat} {M : Mm} {sg : Nat → Int} (hs : M.1 402 = fun k => I (sg k)) {q : Nat} (hq : sg 98 = q) (hq2 : q < 1024) {nw whr : Nat} (hw : sg 0 = nw) (hnw : nw < 1000) (hh : sg 95 = whr) (hwh : whr < 1000) :
    Ev (d + 2) 109 [.ref 400] M (some (.int (I (if opn whr nw q then 1 else 0)))) M := by
  apply Ev.ofQ
  apply e_R_isOpen
  intro At _
  unfold opn
  simp (disch := omega) only [hs, hh, hw, hq, I_lt, Int.toNat_natCast, decide_eq_true_eq]
  refine ⟨fun q1 => ⟨fun q2 => ⟨_, _, v_bitOf hq2 (by omega), ?_⟩, fun q2 => ⟨?_, by trivial⟩⟩, fun q1 => ⟨?_, by trivial⟩⟩
  · rw [bI0]
    refine ⟨fun q3 => ⟨?_, by trivial⟩, fun q3 => ⟨?_, by trivial⟩⟩
    · rw [if_pos (Or.inr ⟨by omega, q3⟩)]
    · rw [if_neg (by intro r; rcases r with r | r; omega; exact q3 r.2)]
  · rw [if_neg (by intro r; rcases r with r | r; omega; exact absurd r.1 (by omega))]
  · rw [if_pos (Or.inl (by omega))]
