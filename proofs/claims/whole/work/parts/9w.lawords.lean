/-! ===== the law's own three: their words ===== -/
def hhY (z : Nat) : List (Nat × Nat × Nat × Nat) := if z = 277 then [(0, 12, 15, 13)] else [(0, 10, 13, 13)]
theorem lawW : ∀ z ∈ [275, 276, 277], Cond.codeWith (yN z) (yB z) (yM z) (yR z) (hhY z) ∈ gtb := by decide +kernel
theorem lawW2 : Cond.classLink "BagsRiverLaw" 13 xE ∈ gtb := by decide +kernel
theorem lawW3 : Cond.castable xE xE ∈ xWs := by decide +kernel
/-- the call's facts, of the three -/
theorem lawF5 : decode (yB 275) 5 = .ok (.invokevirtual 7, 3) ∧ parN (yN 5) 2 = true ∧ Cond.methodLink (Rn 14) 7 (yN 5) ∈ gtb ∧ (yN 5).cls = (cq (11 - 1)).1 ∧ lay 1 = 11 ∧ decode (yB 275) 13 = .ok (.astore 4, 2) := by decide +kernel
theorem lawF16 : decode (yB 276) 5 = .ok (.invokevirtual 15, 3) ∧ parN (yN 16) 2 = true ∧ Cond.methodLink (Rn 14) 15 (yN 16) ∈ gtb ∧ (yN 16).cls = (cq (11 - 1)).1 ∧ lay 1 = 11 ∧ decode (yB 276) 13 = .ok (.astore 4, 2) := by decide +kernel
theorem lawF18 : decode (yB 277) 7 = .ok (.invokevirtual 18, 3) ∧ parN (yN 18) 3 = true ∧ Cond.methodLink (Rn 14) 18 (yN 18) ∈ gtb ∧ (yN 18).cls = (cq (11 - 1)).1 ∧ lay 1 = 11 ∧ decode (yB 277) 15 = .ok (.astore 5, 2) := by decide +kernel
