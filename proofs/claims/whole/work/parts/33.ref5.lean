/-! ===== ref5: wouldFlood ===== -/
def leakS (sg : Nat → Int) (w h : Int) (n : Nat) : Nat := setL (fun k => decide (sg (43 + k) = w ∧ sg (49 + k) ≤ h ∧ sg (106 + k) < sg (55 + k))) n
def higI (sg : Nat → Int) (q w : Nat) : Int := if bt q w = 1 then 0 else hgt (sg (8 + w)) (sg (101 + w))
/-- would house k be flooded at inch h: nd drains, q given up -/
def floodB (sg : Nat → Int) (nd q k : Nat) (h : Int) : Bool :=
  decide (sg (33 + k) < h ∧ (sg (13 + k) = 0 ∨ bt q (sg (13 + k) - 1).toNat = 1 ∨ higI sg q (sg (13 + k) - 1).toNat < h ∨ leakS sg (sg (13 + k) - 1) h nd ≠ 0))
theorem hgt_b (wi b : Int) (hw : 1 ≤ wi ∧ wi ≤ 20) (hb : 0 ≤ b ∧ b ≤ 999) : 0 ≤ hgt wi b ∧ hgt wi b ≤ 1000 := by
  have aux : ∀ n h, 0 ≤ h → 0 ≤ hgtL wi b n h ∧ hgtL wi b n h ≤ h + n := by
    intro n
    induction n with
    | zero => intro h h0; exact ⟨h0, by show h ≤ h + 0; omega⟩
    | succ n ih =>
      intro h h0
      unfold hgtL
      have := ih (h + 1) (by omega)
      split
      · omega
      · omega
  have := aux 1000 0 (by decide)
  unfold hgt
  omega
theorem v_wouldFlood {d : Nat} {M : Mm} {sg : Nat → Int} (hs : M.1 402 = fun k => I (sg k)) {k nd q : Nat} {h : Int} (hk : k < 10) (hh : -2147483648 ≤ h ∧ h < 2147483648) (hq : sg 98 = q) (hq2 : q < 1024) (hn : sg 2 = nd) (hn6 : nd ≤ 6)
    (hfl : -2147483648 ≤ sg (33 + k) ∧ sg (33 + k) < 2147483648) (hbe : 0 ≤ sg (13 + k) ∧ sg (13 + k) ≤ 5) (hwi : ∀ w : Nat, w < 5 → (w : Int) < sg (13 + k) → 1 ≤ sg (8 + w) ∧ sg (8 + w) ≤ 20) (hba : ∀ w : Nat, w < 5 → (w : Int) < sg (13 + k) → 0 ≤ sg (101 + w) ∧ sg (101 + w) ≤ 999)
    (hb : ∀ k, k < 6 → (-2147483648 ≤ sg (43 + k) ∧ sg (43 + k) < 2147483648) ∧ (-2147483648 ≤ sg (49 + k) ∧ sg (49 + k) < 2147483648) ∧ (-2147483648 ≤ sg (55 + k) ∧ sg (55 + k) < 2147483648) ∧ (-2147483648 ≤ sg (106 + k) ∧ sg (106 + k) < 2147483648)) :
    Ev (d + 3) 110 [.ref 400, .int (I k), .int (I h)] M (some (.int (I (if floodB sg nd q k h then 1 else 0)))) M := by
  apply Ev.ofQ
  apply e_R_wouldFlood
  intro At _
  unfold floodB
  simp (disch := omega) only [hs, I_add, ixI, Int.toNat_add, Int.toNat_natCast, Int.reduceToNat, I_lt, I_sub, decide_eq_true_eq]
  refine ⟨inRI (by omega) (by omega) (by omega), fun q1 => ⟨_, _, v_isOutside hs hk (by omega), ?_⟩, fun q1 => ⟨by rw [if_neg (fun r => q1 r.1)], by trivial⟩⟩
  rw [bI0]
  refine ⟨fun q2 => ⟨inRI (by omega) (by omega) (by omega), ?_⟩, fun q2 => ⟨by rw [if_pos ⟨q1, Or.inl (Decidable.of_not_not q2)⟩], by trivial⟩⟩
  obtain ⟨w, hw⟩ : ∃ w : Nat, sg (13 + k) - 1 = (w : Int) := ⟨(sg (13 + k) - 1).toNat, by omega⟩
  have hw5 : w < 5 := by omega
  have h8 := hwi w hw5 (by omega)
  have h101 := hba w hw5 (by omega)
  have hg := hgt_b _ _ h8 h101
  simp (disch := omega) only [hs, ixI, Int.toNat_add, Int.toNat_natCast, Int.reduceToNat, I_sub]
  rw [hw, hq]
  simp only [Int.toNat_natCast]
  refine ⟨_, _, v_bitOf hq2 (by omega), ?_⟩
  rw [bI0]
  refine ⟨fun q3 => ⟨_, _, v_heightOf hs hw5 hq hq2 h8 h101, ?_⟩, fun q3 => ⟨by rw [if_pos ⟨q1, Or.inr (Or.inl (Decidable.of_not_not q3))⟩], by trivial⟩⟩
  have eh : higI sg q w = hgt (sg (8 + w)) (sg (101 + w)) := by unfold higI; rw [if_neg q3]
  rw [if_neg q3, I_lt (by omega) (by omega) (by omega) (by omega)]
  refine ⟨fun q4 => ⟨by rw [if_pos ⟨q1, Or.inr (Or.inr (Or.inl (by rw [eh]; exact q4)))⟩], by trivial⟩, fun q4 => ⟨_, _, v_leaksOf hs (by omega) hh hn hn6 hb, ?_⟩⟩
  have eL : setL (fun k => decide (sg (43 + k) = (w : Int) ∧ sg (49 + k) ≤ h ∧ sg (106 + k) < sg (55 + k))) nd = leakS sg w h nd := rfl
  rw [eL]
  have hl : leakS sg w h nd < 2 ^ nd := setL_lt _ nd
  have hl2 : 2 ^ nd ≤ 2 ^ 6 := Nat.pow_le_pow_right (by decide) hn6
  have hl3 : (2 : Nat) ^ 6 = 64 := by decide
  generalize leakS sg w h nd = L at hl ⊢
  have hI : (I (L : Int) = I 0) = (L = 0) := by
    rw [I_inj (by omega) (by omega) (by omega) (by omega)]
    exact propext ⟨fun e => by omega, fun e => by omega⟩
  rw [hI]
  refine ⟨fun q5 => ⟨by rw [if_neg (by intro r; rcases r.2 with r | r | r | r; exact q2 r; exact q3 r; (rw [eh] at r; exact q4 r); exact r q5)], by trivial⟩, fun q5 => ⟨by rw [if_pos ⟨q1, Or.inr (Or.inr (Or.inr q5))⟩], by trivial⟩⟩
