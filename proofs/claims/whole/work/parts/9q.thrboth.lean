/-! ===== house, plan, sure: both sides ===== -/
section THB
variable {M N : Mm} {ps so : Nat} {z : ZS} {x y w : Int}
/-- what the law itself writes (its row, the ghost) is nobody's -/
theorem KQ_out (h : KQ M ps so z) (e : ∀ a, a ≠ 500 → a ≠ 900 → Ag M N a) : KQ N ps so z := by
  obtain ⟨k0, k1, k2, k3, k4, k5, k6, k7, k8⟩ := h
  have hp := k0.1
  exact ⟨KA_ag k0 (e 1 (by omega) (by omega)), CU_ag k1 (by rw [(e 1 (by omega) (by omega)).2.2]) fun a ha => (e a (by omega) (by omega)).1, CNm_fr k2 fun a x y => (e a (by omega) (by omega)).2.1, TC_ag k3 fun a ha => (e a (by omega) (by omega)).1, KS_ag k4 k0.2.1 fun a x y => e a (by omega) (by omega), KV_ag k5 (e 1 (by omega) (by omega)).1, CTd_ag k6 (e 30 (by omega) (by omega)).1, CPl_ag k7 fun a ha => (e a (by omega) (by omega)).1, KM_ag k8 fun a x y => e a (by omega) (by omega)⟩
theorem RQ_out (h : RQ M z) (e : ∀ a, a ≠ 500 → a ≠ 900 → Ag M N a) : RQ N z := RQ_fr h fun a h1 h2 => ⟨(e a (by omega) (by omega)).1, (e a (by omega) (by omega)).2.1⟩
theorem JJJ_out (h : JJJ M) (e : ∀ a, a ≠ 500 → a ≠ 900 → Ag M N a) : JJJ N := by
  obtain ⟨ps, so, z, h1, h2, h3⟩ := h
  exact ⟨ps, so, z, KQ_out h1 e, RQ_out h2 e, h3⟩
/-- one call of each, of the three: the class returns or throws; from whatever the law has then written of its own, the reference answers the same, and says whether it threw -/
def SameT (yB yR : Nat) (as : List Value) : Prop := ∀ M, JJJ M → ∃ (ok : Prop) (a : Int) (N : Mm), EvX 39 yB (.ref 1 :: as) M ok (some (.int (I a))) N ∧ (ok → gh N = gh M) ∧
  (ok → ∀ O, (∀ c, c ≠ 500 → c ≠ 900 → Ag N O c) → ∃ P, Ev 40 yR (.ref 400 :: as) O (some (.int (I a))) P ∧ JJJ P ∧ P.1 400 0 = I 0 ∧ P.2.1 500 = O.2.1 500) ∧
  (¬ ok → ∀ O, (∀ c, c ≠ 500 → c ≠ 900 → Ag M O c) → ∃ (v : Int32) (P : Mm), Ev 40 yR (.ref 400 :: as) O (some (.int v)) P ∧ JJJ P ∧ P.1 400 0 = I 1)
theorem t_house (hx : (-2147483648 ≤ x ∧ x < 2147483648)) (hy : (-2147483648 ≤ y ∧ y < 2147483648)) : SameT 5 97 [.int (I x), .int (I y)] := by
  rintro M ⟨ps, so, z, h1, h2, h3⟩
  refine ⟨_, _, _, x_house (d := 33) h1.2.1.1 hx hy, fun _ => rfl, fun ok O hO => ?_, fun no O hO => ?_⟩
  · have k1 := KQ_out h1 hO
    have k2 := RQ_out h2 hO
    obtain ⟨r, P, e, -, q⟩ := r_house (d := 37) k2.1.1 k2.1.2.2.1 k2.1.2.2.2.1 hx hy
    obtain ⟨rfl, rfl⟩ := q ok
    exact ⟨_, e, ⟨ps, so, z, KQ_fr k1 FR_0, RQ_0 k2, h3⟩, mI_eq, rfl⟩
  · have k1 := KQ_out h1 hO
    have k2 := RQ_out h2 hO
    obtain ⟨r, P, e, q, -⟩ := r_house (d := 37) k2.1.1 k2.1.2.2.1 k2.1.2.2.2.1 hx hy
    obtain ⟨rfl, rfl⟩ := q no
    exact ⟨_, _, e, ⟨ps, so, z, KQ_fr k1 FR_0, RQ_0 k2, h3⟩, mI_eq⟩
theorem t_sure (hx : (-2147483648 ≤ x ∧ x < 2147483648)) (hy : (-2147483648 ≤ y ∧ y < 2147483648)) (hw : (-2147483648 ≤ w ∧ w < 2147483648)) : SameT 18 129 [.int (I x), .int (I y), .int (I w)] := by
  rintro M ⟨ps, so, z, h1, h2, h3⟩
  refine ⟨_, _, _, x_sure (d := 32) h1.2.1.1 hx hy hw, fun _ => rfl, fun ok O hO => ?_, fun no O hO => ?_⟩
  · have k1 := KQ_out h1 hO
    have k2 := RQ_out h2 hO
    obtain ⟨r, P, e, -, q⟩ := r_sure (d := 38) k2.1.1 k2.1.2.2.1 hx hy hw
    obtain ⟨rfl, rfl⟩ := q ok
    exact ⟨_, e, ⟨ps, so, z, KQ_fr k1 FR_0, RQ_0 k2, h3⟩, mI_eq, rfl⟩
  · have k1 := KQ_out h1 hO
    have k2 := RQ_out h2 hO
    obtain ⟨r, P, e, q, -⟩ := r_sure (d := 38) k2.1.1 k2.1.2.2.1 hx hy hw
    obtain ⟨rfl, rfl⟩ := q no
    exact ⟨_, _, e, ⟨ps, so, z, KQ_fr k1 FR_0, RQ_0 k2, h3⟩, mI_eq⟩
theorem t_plan (hx : (-2147483648 ≤ x ∧ x < 2147483648)) (hy : (-2147483648 ≤ y ∧ y < 2147483648)) : SameT 16 127 [.int (I x), .int (I y)] := by
  rintro M ⟨ps, so, z, h1, h2, h3⟩
  have hg := h2.1.2.2.1.1.1
  obtain ⟨W, eW⟩ := Nn hg.1
  obtain ⟨N, hpl, hE⟩ := x_plan (d := 30) (W := W) h1.2.1.1 eW hx hy
  refine ⟨_, _, N, hE, fun ok => by show N.2.2 900 0 = M.2.2 900 0; rw [(hpl ok).2.2.2], fun ok O hO => ?_, fun no O hO => ?_⟩
  · obtain ⟨n1, n2, n3⟩ := hpl ok
    have f : ∀ a, ¬ (40 ≤ a ∧ a < 56) → Ag M N a := fun a ha => ⟨n3.1 a (by omega), by rw [n3.2], by rw [n3.2]⟩
    have kN : KQ N ps so (z.1, z.2.1, z.2.2.1, z.2.2.2.1, z.2.2.2.2.1, (W, fun v => hV z.1.1 (dv (hN z.1.1) (plE z.1.1 W x).2.2 (W - 1 - v) % hN z.1.1)), z.2.2.2.2.2.2) := by
      obtain ⟨k0, k1, k2, k3, k4, k5, k6, k7, k8⟩ := h1
      have hp := k0.1
      exact ⟨KA_ag k0 (f 1 (by omega)), CU_ag k1 (by rw [n3.2]) fun a ha => (f a (by omega)).1, CNm_fr k2 fun a x y => (f a (by omega)).2.1, TC_ag k3 fun a ha => (f a (by omega)).1, KS_ag k4 k0.2.1 fun a x y => f a (by omega), KV_ag k5 (f 1 (by omega)).1, CTd_ag k6 (f 30 (by omega)).1, ⟨n1, n2⟩, KM_ag k8 fun a x y => f a (by omega)⟩
    have k1 := KQ_out kN hO
    have k2 : RQ O z := RQ_out (RQ_fr h2 fun a q _ => ⟨(f a (by omega)).1, (f a (by omega)).2.1⟩) hO
    obtain ⟨r, P, e, -, q⟩ := r_plan (d := 38) k2.1.1 k2.1.2.2.1 eW hx hy
    obtain ⟨rfl, pF, p0, p28, p411⟩ := q ok
    refine ⟨_, e, ⟨ps, so, _, KQ_fr k1 (FR_rf pF (by decide)), ?_, ⟨h3.1, h3.2.1, h3.2.2.1, h3.2.2.2.1, by show W ≤ 5; omega, h3.2.2.2.2.2⟩⟩, p0, (pF.1 500 (by decide) (by decide)).2⟩
    obtain ⟨k0, k1, k2, k3, k4, k5, k6, k7⟩ := k2
    have a : ∀ a, a ≠ 409 → a ≠ 410 → a ≠ 411 → a ≠ 400 → P.1 a = O.1 a ∧ P.2.1 a = O.2.1 a := fun a h0 h1 h2 h4 => pF.1 a (by simp [h0, h1, h2]) h4
    have j : ∀ j, j ≠ 0 → j ≠ 27 → j ≠ 28 → P.1 400 j = O.1 400 j := fun j h0 h1 h2 => pF.2.1 j (by simp [h0, h1, h2])
    exact ⟨RU_ag k0 (fun c hc => (a c (by omega) (by omega) (by omega) (by omega)).1) (j 23 (by decide) (by decide) (by decide)), RNm_ag k1 (a 405 (by decide) (by decide) (by decide) (by decide)).2, TR_ag k2 (j 2 (by decide) (by decide) (by decide)) (a 401 (by decide) (by decide) (by decide) (by decide)).1, RWd_ag k3 (a 406 (by decide) (by decide) (by decide) (by decide)).2, RVv_ag k4 fun c hc => j c (by omega) (by omega) (by omega), RTd_ag k5 (j 43 (by decide) (by decide) (by decide)) (a 414 (by decide) (by decide) (by decide) (by decide)).1, ⟨⟨_, p28, Or.inl rfl⟩, p411⟩, RM_ag k7 ⟨(a 417 (by decide) (by decide) (by decide) (by decide)).1, (a 419 (by decide) (by decide) (by decide) (by decide)).1, (a 418 (by decide) (by decide) (by decide) (by decide)).2⟩⟩
  · have k1 := KQ_out h1 hO
    have k2 := RQ_out h2 hO
    obtain ⟨r, P, e, q, -⟩ := r_plan (d := 38) k2.1.1 k2.1.2.2.1 eW hx hy
    obtain ⟨rfl, rfl⟩ := q no
    exact ⟨_, _, e, ⟨ps, so, z, KQ_fr k1 FR_0, RQ_0 k2, h3⟩, mI_eq⟩
end THB
