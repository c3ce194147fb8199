/-- the gauge's latest hour up to t, and its inches, by the first k of them -/
def rivL (gh gi : Nat → Int) (t : Int) : Nat → Int × Int
  | 0 => (-1, 0)
  | k + 1 => if t < gh k ∨ gh k < (rivL gh gi t k).1 then rivL gh gi t k else (gh k, gi k)
def river (sg : Nat → Int) (t : Int) : Int := (rivL (fun k => sg (73 + k)) (fun k => sg (81 + k)) t (sg 4).toNat).2 + sg 96
theorem rivL_b {gh gi : Nat → Int} {t : Int} {N : Nat} (hb : ∀ k, k < N → 0 ≤ gh k ∧ gh k ≤ 47) : ∀ k, k ≤ N → -1 ≤ (rivL gh gi t k).1 ∧ (rivL gh gi t k).1 ≤ 47
  | 0, _ => ⟨by show (-1 : Int) ≤ -1; decide, by show (-1 : Int) ≤ 47; decide⟩
  | k + 1, h => by
    unfold rivL
    have h1 := rivL_b (gi := gi) (t := t) hb k (by omega)
    have h2 := hb k (by omega)
    split
    · exact h1
    · exact ⟨by dsimp only; omega, h2.2⟩
theorem v_riverAt {d : Nat} {M : Mm} {sg : Nat → Int} (hs : M.1 402 = fun k => I (sg k)) {t : Int} (ht : -2147483648 ≤ t ∧ t < 2147483648) {n : Nat} (hn : sg 4 = n) (hn8 : n ≤ 8) (hb : ∀ k, k < n → 0 ≤ sg (73 + k) ∧ sg (73 + k) ≤ 47) :
    Ev (d + 1) 92 [.ref 400, .int (I t)] M (some (.int (I (river sg t)))) M := by
  apply Ev.ofQ
  apply e_R_riverAt
  intro At step
  have hr0 : river sg t = (rivL (fun k => sg (73 + k)) (fun k => sg (81 + k)) t n).2 + sg 96 := by unfold river; rw [hn]; rfl
  rw [hr0] at step
  have key : ∀ (j k : Nat), k + j = n → At 7 [.ref 400, .int (I t), .int (I (rivL (fun k => sg (73 + k)) (fun k => sg (81 + k)) t k).1), .int (I (rivL (fun k => sg (73 + k)) (fun k => sg (81 + k)) t k).2), .int (I k)] [] M := by
    intro j
    induction j with
    | zero =>
      intro k hk
      apply s_R_riverAt_7 step
      have e : k = n := by omega
      subst e
      simp (disch := omega) only [hs, hn, I_lt, I_add]
      exact ⟨fun q => absurd q (by omega), fun _ => ⟨by trivial, by trivial⟩⟩
    | succ j ih =>
      intro k hk
      apply s_R_riverAt_7 step
      have nx := ih (k + 1) (by omega)
      unfold rivL at nx
      have b1 := rivL_b (gi := fun k => sg (81 + k)) (t := t) hb k (by omega)
      have b2 := hb k (by omega)
      generalize rivL (fun k => sg (73 + k)) (fun k => sg (81 + k)) t k = z at nx b1 ⊢
      simp (disch := omega) only [hs, hn, I_add, ixI, Int.toNat_add, Int.toNat_natCast, Int.reduceToNat, I_lt]
      have hi := inRI (a := 73 + (k : Int)) (n := 303) (by omega) (by omega) (by omega)
      have hi2 := inRI (a := 81 + (k : Int)) (n := 303) (by omega) (by omega) (by omega)
      refine ⟨fun _ => ⟨hi, fun q => ?_, fun q => ⟨hi, fun q2 => ?_, fun q2 => ⟨hi, hi2, ?_⟩⟩⟩, fun q => absurd q (by omega)⟩
      · rw [if_pos (Or.inl q)] at nx; exact nx
      · rw [if_pos (Or.inr q2)] at nx; exact nx
      · rw [if_neg (by omega)] at nx; exact nx
  exact key n 0 (by omega)
