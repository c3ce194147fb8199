/-! ===== ref6: a memory whose ints at a are given by g ===== -/
def sS (a : Nat) (M : Mm) (g : Nat → Int) : Mm := (upr M.1 a (fun k => I (g k)), M.2)
theorem sS_at {a : Nat} {M : Mm} {g : Nat → Int} : (sS a M g).1 a = fun k => I (g k) := upr_eq
theorem sS_ne {a b : Nat} {M : Mm} {g : Nat → Int} (h : b ≠ a) : (sS a M g).1 b = M.1 b := upr_ne h
theorem sS_self {a : Nat} {M : Mm} {g : Nat → Int} (h : M.1 a = fun k => I (g k)) : sS a M g = M := by
  have e : upr M.1 a (fun k => I (g k)) = M.1 := by
    funext b
    by_cases q : b = a
    · rw [q, upr_eq, h]
    · rw [upr_ne q]
  unfold sS
  rw [e]
theorem sS_sS {a : Nat} {M : Mm} {g g' : Nat → Int} : sS a (sS a M g) g' = sS a M g' := by
  have e : upr (upr M.1 a (fun k => I (g k))) a (fun k => I (g' k)) = upr M.1 a (fun k => I (g' k)) := by
    funext b
    by_cases q : b = a
    · rw [q, upr_eq, upr_eq]
    · rw [upr_ne q, upr_ne q, upr_ne q]
  unfold sS
  dsimp only
  rw [e]
theorem sS_put {a k : Nat} {M : Mm} {g : Nat → Int} {v : Int} : sI (sS a M g) a k (I v) = sS a M (upf g k v) := by
  have e : up2 (upr M.1 a (fun k => I (g k))) a k (I v) = upr M.1 a (fun j => I (upf g k v j)) := by
    funext b
    by_cases q : b = a
    · rw [q, up2_eq, upr_eq, upr_eq]
      funext j
      unfold upf
      split <;> rfl
    · rw [upr_ne q]
      unfold up2
      rw [if_neg q, upr_ne q]
  unfold sS sI
  dsimp only
  rw [e]
theorem sI_sS {a k : Nat} {M : Mm} {g : Nat → Int} {v : Int} (h : M.1 a = fun k => I (g k)) : sI M a k (I v) = sS a M (upf g k v) := by
  rw [← sS_put, sS_self h]
theorem sS_sI {a b k : Nat} {M : Mm} {g : Nat → Int} {v : Int32} (h : b ≠ a) : sI (sS a M g) b k v = sS a (sI M b k v) g := by
  have e : up2 (upr M.1 a (fun k => I (g k))) b k v = upr (up2 M.1 b k v) a (fun k => I (g k)) := by
    funext c
    by_cases q : c = b
    · subst q
      rw [up2_eq, upr_ne h, upr_ne h, up2_eq]
    · unfold up2
      rw [if_neg q]
      by_cases q2 : c = a
      · rw [q2, upr_eq, upr_eq]
      · rw [upr_ne q2, upr_ne q2, if_neg q]
  unfold sS sI
  dsimp only
  rw [e]
