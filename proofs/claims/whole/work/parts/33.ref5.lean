/-! ===== ref5: wouldFlood ===== -/
def leakS (sg : Nat → Int) (w h : Int) (n : Nat) : Nat := setL (fun k => decide (sg (43 + k) = w ∧ sg (49 + k) ≤ h ∧ sg (106 + k) < sg (55 + k))) n
def higI (sg : Nat → Int) (q w : Nat) : Int := if bt q w = 1 then 0 else hgt (sg (8 + w)) (sg (101 + w))
/-- would house k be flooded at inch h: nd drains, q given up -/
def floodB (sg : Nat → Int) (nd q k : Nat) (h : Int) : Bool :=
  decide (sg (33 + k) < h ∧ (sg (13 + k) = 0 ∨ bt q (sg (13 + k) - 1).toNat = 1 ∨ higI sg q (sg (13 + k) - 1).toNat < h ∨ leakS sg (sg (13 + k) - 1) h nd ≠ 0))
theorem hgt_b (wi b : Int) (hw : 1 ≤ wi ∧ wi ≤ 20) (hb : 0 ≤ b ∧ b ≤ 999) : 0 ≤ hgt wi b ∧ hgt wi b ≤ 1000 := by
  have aux : ∀ n h, 0 ≤ h → 0 ≤ hgtL wi b n h ∧ hgtL wi b n h ≤ h + n := by
    intro n
    induction n with
    | zero => intro h h0; exact ⟨h0, by show h ≤ h + 0; omega⟩
    | succ n ih =>
      intro h h0
      unfold hgtL
      have := ih (h + 1) (by omega)
      split
      · omega
      · omega
  have := aux 1000 0 (by decide)
  unfold hgt
  omega
