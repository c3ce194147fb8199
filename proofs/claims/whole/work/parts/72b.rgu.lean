/-! what a line leaves is a street -/
section RGU
variable {g : Nat → Int}
theorem upf_nn {α : Type} {f : Nat → α} {k j : Nat} {v : α} (h : ¬ j = k) : upf f k v j = f j := upf_ne h
theorem RG_wall {k : Nat} {v : Int} (hs : RGs g) (e : g 0 = k) (hk : k < 5) (hv : 1 ≤ v ∧ v ≤ 20) : RGs (upf (upf g (8 + k) v) 0 (g 0 + 1)) := by
  obtain ⟨h1, h2, h3, h4, h5, h6, h7, h8⟩ := hs
  refine ⟨?_, fun w hw => ?_, fun j hj => ?_, fun j hj => ?_, fun j hj => ?_, fun j hj => ?_, fun i j hi hj => ?_, fun i j hi hj => ?_⟩
  · simp (disch := omega) only [upf_eq, upf_ne]
    omega
  · have := h2 w hw
    by_cases w1 : w = k
    · subst w1
      simp (disch := omega) only [upf_eq, upf_ne]
      omega
    · simp (disch := omega) only [upf_eq, upf_ne]
      omega
  · have := h3 j hj
    simp (disch := omega) only [upf_eq, upf_ne]
    omega
  · have := h4 j hj
    simp (disch := omega) only [upf_eq, upf_ne]
    omega
  · have := h5 j hj
    simp (disch := omega) only [upf_eq, upf_ne]
    omega
  · have := h6 j hj
    simp (disch := omega) only [upf_eq, upf_ne]
    omega
  · simp (disch := omega) only [upf_eq, upf_ne] at hi hj ⊢
    exact h7 i j hi hj
  · simp (disch := omega) only [upf_eq, upf_ne] at hi hj ⊢
    exact h8 i j hi hj
theorem RG_house {k : Nat} {w y z : Int} (hs : RGs g) (e : g 1 = k) (hk : k < 10) (hw : 0 ≤ w ∧ w ≤ g 0) (hy : 1 ≤ y ∧ y ≤ 99) (hz : 0 ≤ z ∧ z ≤ 60) : RGs (upf (upf (upf (upf g (13 + k) w) (23 + k) y) (33 + k) z) 1 (g 1 + 1)) := by
  obtain ⟨h1, h2, h3, h4, h5, h6, h7, h8⟩ := hs
  refine ⟨?_, fun w hw => ?_, fun j hj => ?_, fun j hj => ?_, fun j hj => ?_, fun j hj => ?_, fun i j hi hj => ?_, fun i j hi hj => ?_⟩
  · simp (disch := omega) only [upf_eq, upf_ne]
    omega
  · have := h2 w hw
    simp (disch := omega) only [upf_eq, upf_ne]
    omega
  · have := h3 j hj
    by_cases w1 : j = k
    · subst w1
      simp (disch := omega) only [upf_eq, upf_ne]
      omega
    · simp (disch := omega) only [upf_eq, upf_ne]
      omega
  · have := h4 j hj
    simp (disch := omega) only [upf_eq, upf_ne]
    omega
  · have := h5 j hj
    simp (disch := omega) only [upf_eq, upf_ne]
    omega
  · have := h6 j hj
    simp (disch := omega) only [upf_eq, upf_ne]
    omega
  · simp (disch := omega) only [upf_eq, upf_ne] at hi hj ⊢
    exact h7 i j hi hj
  · simp (disch := omega) only [upf_eq, upf_ne] at hi hj ⊢
    exact h8 i j hi hj
theorem RG_drain {k : Nat} {w y z : Int} (hs : RGs g) (e : g 2 = k) (hk : k < 6) (hw : 0 ≤ w ∧ w < g 0) (hy : 0 ≤ y ∧ y ≤ 60) (hz : 1 ≤ z ∧ z ≤ 40) : RGs (upf (upf (upf (upf g (43 + k) w) (49 + k) y) (55 + k) z) 2 (g 2 + 1)) := by
  obtain ⟨h1, h2, h3, h4, h5, h6, h7, h8⟩ := hs
  refine ⟨?_, fun w hw => ?_, fun j hj => ?_, fun j hj => ?_, fun j hj => ?_, fun j hj => ?_, fun i j hi hj => ?_, fun i j hi hj => ?_⟩
  · simp (disch := omega) only [upf_eq, upf_ne]
    omega
  · have := h2 w hw
    simp (disch := omega) only [upf_eq, upf_ne]
    omega
  · have := h3 j hj
    simp (disch := omega) only [upf_eq, upf_ne]
    omega
  · have := h4 j hj
    by_cases w1 : j = k
    · subst w1
      simp (disch := omega) only [upf_eq, upf_ne]
      omega
    · simp (disch := omega) only [upf_eq, upf_ne]
      omega
  · have := h5 j hj
    simp (disch := omega) only [upf_eq, upf_ne]
    omega
  · have := h6 j hj
    simp (disch := omega) only [upf_eq, upf_ne]
    omega
  · simp (disch := omega) only [upf_eq, upf_ne] at hi hj ⊢
    exact h7 i j hi hj
  · simp (disch := omega) only [upf_eq, upf_ne] at hi hj ⊢
    exact h8 i j hi hj
theorem RG_crest {k : Nat} {x y : Int} (hs : RGs g) (e : g 3 = k) (hk : k < 6) (hx : 0 ≤ x ∧ x ≤ 60) (hy : 1 ≤ y ∧ y ≤ 99) (hn : ∀ j, j < k → g (61 + j) ≠ x) : RGs (upf (upf (upf g (61 + k) x) (67 + k) y) 3 (g 3 + 1)) := by
  obtain ⟨h1, h2, h3, h4, h5, h6, h7, h8⟩ := hs
  refine ⟨?_, fun w hw => ?_, fun j hj => ?_, fun j hj => ?_, fun j hj => ?_, fun j hj => ?_, fun i j hi hj => ?_, fun i j hi hj => ?_⟩
  · simp (disch := omega) only [upf_eq, upf_ne]
    omega
  · have := h2 w hw
    simp (disch := omega) only [upf_eq, upf_ne]
    omega
  · have := h3 j hj
    simp (disch := omega) only [upf_eq, upf_ne]
    omega
  · have := h4 j hj
    simp (disch := omega) only [upf_eq, upf_ne]
    omega
  · have := h5 j hj
    by_cases w1 : j = k
    · subst w1
      simp (disch := omega) only [upf_eq, upf_ne]
      omega
    · simp (disch := omega) only [upf_eq, upf_ne]
      omega
  · have := h6 j hj
    simp (disch := omega) only [upf_eq, upf_ne]
    omega
  · rw [upf_eq] at hi hj
    have d1 := h7 i j
    have d2 := hn i
    have d3 := hn j
    by_cases w1 : i = k
    · by_cases w2 : j = k
      · intro _
        omega
      · subst w1
        simp (disch := omega) only [upf_eq, upf_ne]
        intro q
        exact absurd q.symm (d3 (by omega))
    · by_cases w2 : j = k
      · subst w2
        simp (disch := omega) only [upf_eq, upf_ne]
        intro q
        exact absurd q (d2 (by omega))
      · simp (disch := omega) only [upf_eq, upf_ne]
        exact d1 (by omega) (by omega)
  · simp (disch := omega) only [upf_eq, upf_ne] at hi hj ⊢
    exact h8 i j hi hj
theorem RG_gauge {k : Nat} {x y : Int} (hs : RGs g) (e : g 4 = k) (hk : k < 8) (hx : 0 ≤ x ∧ x ≤ 47) (hy : 0 ≤ y ∧ y ≤ 60) (hn : ∀ j, j < k → g (73 + j) ≠ x) : RGs (upf (upf (upf g (73 + k) x) (81 + k) y) 4 (g 4 + 1)) := by
  obtain ⟨h1, h2, h3, h4, h5, h6, h7, h8⟩ := hs
  refine ⟨?_, fun w hw => ?_, fun j hj => ?_, fun j hj => ?_, fun j hj => ?_, fun j hj => ?_, fun i j hi hj => ?_, fun i j hi hj => ?_⟩
  · simp (disch := omega) only [upf_eq, upf_ne]
    omega
  · have := h2 w hw
    simp (disch := omega) only [upf_eq, upf_ne]
    omega
  · have := h3 j hj
    simp (disch := omega) only [upf_eq, upf_ne]
    omega
  · have := h4 j hj
    simp (disch := omega) only [upf_eq, upf_ne]
    omega
  · have := h5 j hj
    simp (disch := omega) only [upf_eq, upf_ne]
    omega
  · have := h6 j hj
    by_cases w1 : j = k
    · subst w1
      simp (disch := omega) only [upf_eq, upf_ne]
      omega
    · simp (disch := omega) only [upf_eq, upf_ne]
      omega
  · simp (disch := omega) only [upf_eq, upf_ne] at hi hj
    simp (disch := omega) only [upf_eq, upf_ne]
    exact h7 i j hi hj
  · rw [upf_eq] at hi hj
    have d1 := h8 i j
    have d2 := hn i
    have d3 := hn j
    by_cases w1 : i = k
    · by_cases w2 : j = k
      · intro _
        omega
      · subst w1
        simp (disch := omega) only [upf_eq, upf_ne]
        intro q
        exact absurd q.symm (d3 (by omega))
    · by_cases w2 : j = k
      · subst w2
        simp (disch := omega) only [upf_eq, upf_ne]
        intro q
        exact absurd q (d2 (by omega))
      · simp (disch := omega) only [upf_eq, upf_ne]
        exact d1 (by omega) (by omega)
theorem RG_once {to : Nat} {y : Int} (hs : RGs g) (h : (to = 5 ∧ 1 ≤ y ∧ y ≤ 60) ∨ (to = 6 ∧ 0 ≤ y ∧ y ≤ 999) ∨ (to = 7 ∧ 1 ≤ y ∧ y ≤ 20)) : RGs (upf g to y) := by
  obtain ⟨h1, h2, h3, h4, h5, h6, h7, h8⟩ := hs
  refine ⟨?_, fun w hw => ?_, fun j hj => ?_, fun j hj => ?_, fun j hj => ?_, fun j hj => ?_, fun i j hi hj => ?_, fun i j hi hj => ?_⟩
  · rcases h with ⟨rfl, h⟩ | ⟨rfl, h⟩ | ⟨rfl, h⟩ <;> (simp (disch := omega) only [upf_eq, upf_ne]; omega)
  · have := h2 w hw
    simp (disch := omega) only [upf_ne]
    omega
  · have := h3 j hj
    simp (disch := omega) only [upf_ne]
    omega
  · have := h4 j hj
    simp (disch := omega) only [upf_ne]
    omega
  · have := h5 j hj
    simp (disch := omega) only [upf_ne]
    omega
  · have := h6 j hj
    simp (disch := omega) only [upf_ne]
    omega
  · simp (disch := omega) only [upf_ne] at hi hj ⊢
    exact h7 i j hi hj
  · simp (disch := omega) only [upf_ne] at hi hj ⊢
    exact h8 i j hi hj
theorem NMo_wall {nm : Nat → List Nat} {g' : Nat → Int} {l : List Nat} {k : Nat} (hm : NMo g nm) (hl : nmOk l) (hs : RGs g) (e : g 0 = k) (hk : k < 5) (e0 : g' 0 = g 0 + 1) (e1 : g' 1 = g 1) (e2 : g' 2 = g 2) : NMo g' (upf nm k l) := by
  obtain ⟨m1, m2, m3⟩ := hm
  have hs1 := hs.1
  refine ⟨fun w hw => ?_, fun w hw => ?_, fun w hw => ?_⟩
  · by_cases q : w = k
    · rw [q, upf_eq]
      exact hl
    · rw [upf_ne q]
      exact m1 w (by omega)
  · rw [upf_ne (by omega)]
    exact m2 w (by omega)
  · rw [upf_ne (by omega)]
    exact m3 w (by omega)
theorem NMo_house {nm : Nat → List Nat} {g' : Nat → Int} {l : List Nat} {k : Nat} (hm : NMo g nm) (hl : nmOk l) (hs : RGs g) (e : g 1 = k) (hk : k < 10) (e0 : g' 0 = g 0) (e1 : g' 1 = g 1 + 1) (e2 : g' 2 = g 2) : NMo g' (upf nm (5 + k) l) := by
  obtain ⟨m1, m2, m3⟩ := hm
  have hs1 := hs.1
  refine ⟨fun w hw => ?_, fun w hw => ?_, fun w hw => ?_⟩
  · rw [upf_ne (by omega)]
    exact m1 w (by omega)
  · by_cases q : w = k
    · rw [q, upf_eq]
      exact hl
    · rw [upf_ne (by omega)]
      exact m2 w (by omega)
  · rw [upf_ne (by omega)]
    exact m3 w (by omega)
theorem NMo_drain {nm : Nat → List Nat} {g' : Nat → Int} {l : List Nat} {k : Nat} (hm : NMo g nm) (hl : nmOk l) (hs : RGs g) (e : g 2 = k) (hk : k < 6) (e0 : g' 0 = g 0) (e1 : g' 1 = g 1) (e2 : g' 2 = g 2 + 1) : NMo g' (upf nm (15 + k) l) := by
  obtain ⟨m1, m2, m3⟩ := hm
  have hs1 := hs.1
  refine ⟨fun w hw => ?_, fun w hw => ?_, fun w hw => ?_⟩
  · rw [upf_ne (by omega)]
    exact m1 w (by omega)
  · rw [upf_ne (by omega)]
    exact m2 w (by omega)
  · by_cases q : w = k
    · rw [q, upf_eq]
      exact hl
    · rw [upf_ne (by omega)]
      exact m3 w (by omega)
theorem NMo_same {nm : Nat → List Nat} {g' : Nat → Int} (hm : NMo g nm) (e0 : g' 0 = g 0) (e1 : g' 1 = g 1) (e2 : g' 2 = g 2) : NMo g' nm := by
  unfold NMo at hm ⊢
  rw [e0, e1, e2]
  exact hm
end RGU
