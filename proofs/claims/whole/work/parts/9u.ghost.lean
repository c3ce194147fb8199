/-! ===== the ghost ===== -/
/-- one more of the law's catching calls has been made -/
def gs (M : Mm) : Mm := sR M 900 0 (gh M + 1)
theorem gs_1 {M : Mm} : (gs M).1 = M.1 := rfl
theorem gs_2 {M : Mm} : (gs M).2.1 = M.2.1 := rfl
theorem gs_3 {M : Mm} {a : Nat} (h : a ≠ 900) : (gs M).2.2 a = M.2.2 a := up2_ne h
theorem gs_gh {M : Mm} : gh (gs M) = gh M + 1 := by
  show up2 M.2.2 900 0 (gh M + 1) 900 0 = _
  rw [up2_eq, upf_eq]
theorem wsM_gs {ad : Nat → Nat} {cA : Nat → ClassId} {M : Mm} : wsM ad cA (gs M) = wsM ad cA M := by
  unfold wsM
  refine List.map_congr_left fun a ha => ?_
  have h9 : a ≠ 900 := fun e => dom_lay a ha (by rw [e]; decide +kernel)
  rw [ent_of (M := M) (M' := gs M) (cA := cA) (ad := ad) (b := a) rfl rfl (gs_3 h9)]
theorem JJJ_gs {M : Mm} (h : JJJ M) : JJJ (gs M) := JJJ_out h fun a _ h9 => ⟨rfl, rfl, gs_3 h9⟩
theorem JJJ_row {M : Mm} {w : Int64} (h : JJJ M) : JJJ (sL M 500 0 w) := JJJ_out h fun a h5 _ => ⟨rfl, up2_ne h5, rfl⟩
def PostL (D : va_G) (ad : Nat → Nat) (cA : Nat → ClassId) (sz : Nat) (r : Option Value) (M M' : Mm) : Array Value → State → Outcome → State → Prop := fun _ st oc t => (oc = .returned (r.map (pv ad)) ∧ va_P D vwCl (wsM ad cA M') t.heap ∧ gh M' = gh M + 1) ∧ va_F (AA ad sz) st t
