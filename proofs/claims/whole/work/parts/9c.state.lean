/-! ===== the two sides' state, one for both ===== -/
section SAMO
variable {M : Mm} {g g' : Nat → Int} {nm : Nat → List Nat}
theorem dp_o (e : SameO g g') : ∀ i : Nat, dpG g' i = dpG g i
  | 0 => rfl
  | i + 1 => by
    rw [dpG_s, dpG_s, show cdC g' i = cdC g i from e _ (by omega), dp_o e i]
theorem SG_o (e : SameO g g') (h : SG g) : SG g' := by
  obtain ⟨h1, h2, h3⟩ := h
  have e2 := e 122 (by omega)
  refine ⟨by rw [e2]; exact h1, by rw [e2, dp_o e]; exact h2, fun i hi => ?_⟩
  rw [e2] at hi
  rw [show cdC g' i = cdC g i from e _ (by omega), show cdS g' i = cdS g i from e _ (by omega), show cdN g' i = cdN g i from e _ (by omega), dp_o e]
  exact h3 i hi
theorem CSq_o (e : SameO g g') {o : Nat} (h : CSq M o g) : CSq M o g' := by
  obtain ⟨h1, h2, h3⟩ := h
  have e2 := e 122 (by omega)
  refine ⟨by rw [e2]; exact h1, fun i hi => ?_, by rw [e2]; exact h3⟩
  rw [e2] at hi
  rw [show cdC g' i = cdC g i from e _ (by omega), show cdS g' i = cdS g i from e _ (by omega), show cdN g' i = cdN g i from e _ (by omega)]
  exact h2 i hi
theorem CNm_o (e : ∀ j, j < 3 → g' j = g j) {p : Nat} (h : CNm M p g nm) : CNm M p g' nm := by
  unfold CNm at h ⊢
  rw [e 0 (by omega), e 1 (by omega), e 2 (by omega)]
  exact h
theorem RNm_o (e : ∀ j, j < 3 → g' j = g j) {a off : Nat} (h : RNm M a off g nm) : RNm M a off g' nm := by
  unfold RNm at h ⊢
  rw [e 0 (by omega), e 1 (by omega), e 2 (by omega)]
  exact h
theorem NMo_o (e : ∀ j, j < 3 → g' j = g j) (h : NMo g nm) : NMo g' nm := by
  unfold NMo at h ⊢
  rw [e 0 (by omega), e 1 (by omega), e 2 (by omega)]
  exact h
theorem NMd_o (e : ∀ j, j < 3 → g' j = g j) (h : NMd g nm) : NMd g' nm := by
  unfold NMd at h ⊢
  rw [e 0 (by omega), e 2 (by omega)]
  exact h
end SAMO
/-- what both keep: the numbers, what was kept of them; names; the tape; the small answers; the book's; the plan's; the images -/
abbrev ZS : Type := ((Nat → Int) × Nat × (Nat → Nat → Int)) × (Nat → List Nat) × (Nat × (Nat → Nat)) × (Nat → Int) × (Nat × (Nat → Int)) × (Nat × (Nat → Int)) × ((Nat → Bool) × (Nat → Nat → Int) × (Nat → Nat → List Nat))
def KA (M : Mm) (ps so : Nat) : Prop := (ps = 100 ∨ ps = 120) ∧ (so = 300 ∨ so = 310) ∧ M.2.2 1 2 = ps ∧ M.2.2 1 3 = 220 - ps ∧ M.2.2 1 7 = so ∧ M.2.2 1 8 = 610 - so
def KS (M : Mm) (so : Nat) (g : Nat → Int) : Prop := CSq M so g ∧ VE M so ∧ VE M (610 - so)
def KV (M : Mm) (v : Nat → Int) : Prop := M.1 1 12 = I (v 0) ∧ M.1 1 13 = I (v 1) ∧ M.1 1 14 = I (v 2) ∧ M.1 1 15 = I (v 3) ∧ M.1 1 16 = I (v 4) ∧ M.1 1 17 = I (v 5)
def KM (M : Mm) (i : (Nat → Bool) × (Nat → Nat → Int) × (Nat → Nat → List Nat)) : Prop := ∀ k, k < 2 → (i.1 k = false → M.1 (700 + 100 * k) 3 = I 0) ∧ (i.1 k = true → M.1 (700 + 100 * k) 3 = I 1 ∧ CImg M (700 + 100 * k) (i.2.1 k) (i.2.2 k))
def KQ (M : Mm) (ps so : Nat) (z : ZS) : Prop := KA M ps so ∧ CU M ps z.1.1 z.1.2.1 z.1.2.2 ∧ CNm M ps z.1.1 z.2.1 ∧ TC M z.2.2.1.1 z.2.2.1.2 ∧ KS M so z.1.1 ∧ KV M z.2.2.2.1 ∧ CTd M z.2.2.2.2.1.1 z.2.2.2.2.1.2 ∧ CPl M z.2.2.2.2.2.1.1 z.2.2.2.2.2.1.2 ∧ KM M z.2.2.2.2.2.2
def RWd (M : Mm) : Prop := ∀ k, k < 23 → M.2.1 406 k = J (nmR (wl k))
def RVv (M : Mm) (v : Nat → Int) : Prop := M.1 400 15 = I (v 0) ∧ ((M.1 400 31 = I 0 ∧ v 1 = -1 ∧ v 2 = -1) ∨ (M.1 400 31 = I 1 ∧ M.1 400 29 = I (v 1) ∧ M.1 400 30 = I (v 2))) ∧ ((M.1 400 33 = I 0 ∧ v 3 = -1) ∨ (M.1 400 33 = I 1 ∧ M.1 400 32 = I (v 3))) ∧ ((M.1 400 37 = I 0 ∧ v 4 = -1) ∨ (M.1 400 37 = I 1 ∧ M.1 400 36 = I (v 4))) ∧ ((M.1 400 39 = I 0 ∧ v 5 = -1) ∨ (M.1 400 39 = I 1 ∧ M.1 400 38 = I (v 5)))
def RM (M : Mm) (i : (Nat → Bool) × (Nat → Nat → Int) × (Nat → Nat → List Nat)) : Prop := ∀ k, k < 2 → (i.1 k = false → M.1 419 k = I 0) ∧ (i.1 k = true → M.1 419 k = I 1 ∧ (∀ j, j < 303 → M.1 417 (303 * k + j) = I (i.2.1 k j)) ∧ RNm M 418 (21 * k) (i.2.1 k) (i.2.2 k))
def RQ (M : Mm) (z : ZS) : Prop := RU M z.1.1 z.1.2.1 z.1.2.2 ∧ RNm M 405 0 z.1.1 z.2.1 ∧ TR M z.2.2.1.1 z.2.2.1.2 ∧ RWd M ∧ RVv M z.2.2.2.1 ∧ RTd M z.2.2.2.2.1.1 z.2.2.2.2.1.2 ∧ RPl M z.2.2.2.2.2.1.1 z.2.2.2.2.2.1.2 ∧ RM M z.2.2.2.2.2.2
def PQ (z : ZS) : Prop := SG z.1.1 ∧ NMo z.1.1 z.2.1 ∧ NMd z.1.1 z.2.1 ∧ z.2.2.2.2.1.1 ≤ 1 ∧ z.2.2.2.2.2.1.1 ≤ 5 ∧ ∀ k, k < 2 → z.2.2.2.2.2.2.1 k = true → RGs (z.2.2.2.2.2.2.2.1 k) ∧ RGd (z.2.2.2.2.2.2.2.1 k) ∧ RN (z.2.2.2.2.2.2.2.1 k) ∧ SG (z.2.2.2.2.2.2.2.1 k) ∧ NMo (z.2.2.2.2.2.2.2.1 k) (z.2.2.2.2.2.2.2.2 k) ∧ NMd (z.2.2.2.2.2.2.2.1 k) (z.2.2.2.2.2.2.2.2 k)
/-- the class touches nothing of the reference's; the reference nothing of the class's -/
def FK (M N : Mm) : Prop := ∀ a, 400 ≤ a → a < 420 → N.1 a = M.1 a ∧ N.2.1 a = M.2.1 a
def FR (M N : Mm) : Prop := (∀ a, ¬ (400 ≤ a ∧ a < 420) → N.1 a = M.1 a ∧ N.2.1 a = M.2.1 a) ∧ N.2.2 = M.2.2
def Ag (M N : Mm) (a : Nat) : Prop := N.1 a = M.1 a ∧ N.2.1 a = M.2.1 a ∧ N.2.2 a = M.2.2 a
section ZFR
variable {M N : Mm} {ps so : Nat} {z : ZS} {g : Nat → Int} {u : Nat} {us : Nat → Nat → Int} {nm : Nat → List Nat}
theorem KA_ag (h : KA M ps so) (e : Ag M N 1) : KA N ps so := by
  unfold KA at h ⊢
  rw [e.2.2]
  exact h
theorem CB_ag (h : CB M ps g) (e1 : N.2.2 1 2 = M.2.2 1 2) (e : ∀ a, (ps ≤ a ∧ a < ps + 17) ∨ (200 ≤ a ∧ a < 204) → N.1 a = M.1 a) : CB N ps g := by
  obtain ⟨h1, h2, h3, h4, h5⟩ := h
  exact ⟨h1, by rw [e1]; exact h2, h3.of fun a x y => e a (by omega), h4.of fun a x y => e a (by omega), h5⟩
theorem CU_ag (h : CU M ps g u us) (e1 : N.2.2 1 2 = M.2.2 1 2) (e : ∀ a, (ps ≤ a ∧ a < ps + 17) ∨ (200 ≤ a ∧ a < 204) ∨ a = 20 ∨ (210 ≤ a ∧ a < 250) → N.1 a = M.1 a) : CU N ps g u us := by
  obtain ⟨h1, ⟨nx, h2⟩, h3⟩ := h
  exact ⟨CB_ag h1 e1 fun a ha => e a (by omega), ⟨nx, h2.fr fun a ha => e a (by omega)⟩, h3⟩
theorem CU_cb (h : CU M ps g u us) (hb : CB N ps g) (e : ∀ a, a = 20 ∨ (210 ≤ a ∧ a < 250) → N.1 a = M.1 a) : CU N ps g u us := by
  obtain ⟨h1, ⟨nx, h2⟩, h3⟩ := h
  exact ⟨hb, ⟨nx, h2.fr fun a ha => e a (by omega)⟩, h3⟩
theorem TC_ag {n : Nat} {b : Nat → Nat} (h : TC M n b) (e : ∀ a, a = 2 ∨ a = 3 → N.1 a = M.1 a) : TC N n b := by
  unfold TC at h ⊢
  rw [e 2 (by omega), e 3 (by omega)]
  exact h
theorem KS_ag (h : KS M so g) (hso : so = 300 ∨ so = 310) (e : ∀ a, 300 ≤ a → a < 320 → Ag M N a) : KS N so g := by
  obtain ⟨h1, h2, h3⟩ := h
  exact ⟨CSq_fr h1 (fun a x y => (e a (by omega) (by omega)).1) (e _ (by omega) (by omega)).2.2, VE_fr h2 (e _ (by omega) (by omega)).2.2, VE_fr h3 (e _ (by omega) (by omega)).2.2⟩
theorem KV_ag {v : Nat → Int} (h : KV M v) (e : N.1 1 = M.1 1) : KV N v := by
  unfold KV at h ⊢
  rw [e]
  exact h
theorem CTd_ag {tk : Nat} {tv : Nat → Int} (h : CTd M tk tv) (e : N.1 30 = M.1 30) : CTd N tk tv := by
  unfold CTd at h ⊢
  rw [e]
  exact h
theorem CPl_ag {k : Nat} {pv : Nat → Int} (h : CPl M k pv) (e : ∀ a, a = 40 ∨ a = 55 → N.1 a = M.1 a) : CPl N k pv := by
  unfold CPl at h ⊢
  rw [e 40 (by omega), e 55 (by omega)]
  exact h
theorem CImg_ag {q : Nat} (h : CImg M q g nm) (e : ∀ a, q + 10 ≤ a → a < q + 60 → Ag M N a) : CImg N q g nm := by
  obtain ⟨h1, h2, h3, h4, h5⟩ := h
  exact ⟨h1.of fun a x y => (e a (by omega) (by omega)).1, CNm_fr h2 fun a x y => (e a (by omega) (by omega)).2.1, h3.of fun a x y => (e a (by omega) (by omega)).1, CSq_fr h4 (fun a x y => (e a (by omega) (by omega)).1) (e _ (by omega) (by omega)).2.2, VE_fr h5 (e _ (by omega) (by omega)).2.2⟩
theorem KM_ag {i : (Nat → Bool) × (Nat → Nat → Int) × (Nat → Nat → List Nat)} (h : KM M i) (e : ∀ a, 700 ≤ a → a < 900 → Ag M N a) : KM N i := by
  intro k hk
  obtain ⟨h1, h2⟩ := h k hk
  rw [(e (700 + 100 * k) (by omega) (by omega)).1]
  exact ⟨h1, fun q => ⟨(h2 q).1, CImg_ag (h2 q).2 fun a x y => e a (by omega) (by omega)⟩⟩
/-- the class's side, a memory that is the same but for the reference's -/
theorem KQ_fr (h : KQ M ps so z) (e : FR M N) : KQ N ps so z := by
  obtain ⟨k0, k1, k2, k3, k4, k5, k6, k7, k8⟩ := h
  have e' : ∀ a, ¬ (400 ≤ a ∧ a < 420) → Ag M N a := fun a ha => ⟨(e.1 a ha).1, (e.1 a ha).2, by rw [e.2]⟩
  have hp := k0.1
  exact ⟨KA_ag k0 (e' 1 (by omega)), CU_ag k1 (by rw [e.2]) fun a ha => (e' a (by omega)).1, CNm_fr k2 fun a x y => (e' a (by omega)).2.1, TC_ag k3 fun a ha => (e' a (by omega)).1, KS_ag k4 k0.2.1 fun a x y => e' a (by omega), KV_ag k5 (e' 1 (by omega)).1, CTd_ag k6 (e' 30 (by omega)).1, CPl_ag k7 fun a ha => (e' a (by omega)).1, KM_ag k8 fun a x y => e' a (by omega)⟩
theorem RU_ag (h : RU M g u us) (e : ∀ a, a = 402 ∨ a = 407 → N.1 a = M.1 a) (e2 : N.1 400 23 = M.1 400 23) : RU N g u us := by
  obtain ⟨h1, h2, h3⟩ := h
  exact ⟨by rw [e 402 (by omega)]; exact h1, h2.fr e2 (e 407 (by omega)), h3⟩
theorem RNm_ag {a off : Nat} (h : RNm M a off g nm) (e : N.2.1 a = M.2.1 a) : RNm N a off g nm := by
  unfold RNm at h ⊢
  rw [e]
  exact h
theorem TR_ag {n : Nat} {b : Nat → Nat} (h : TR M n b) (e : N.1 400 2 = M.1 400 2) (e2 : N.1 401 = M.1 401) : TR N n b := by
  unfold TR at h ⊢
  rw [e, e2]
  exact h
theorem RWd_ag (h : RWd M) (e : N.2.1 406 = M.2.1 406) : RWd N := by
  unfold RWd at h ⊢
  rw [e]
  exact h
theorem RVv_ag {v : Nat → Int} (h : RVv M v) (e : ∀ j, j = 15 ∨ (29 ≤ j ∧ j ≤ 33) ∨ (36 ≤ j ∧ j ≤ 39) → N.1 400 j = M.1 400 j) : RVv N v := by
  unfold RVv at h ⊢
  rw [e 15 (by omega), e 31 (by omega), e 29 (by omega), e 30 (by omega), e 33 (by omega), e 32 (by omega), e 37 (by omega), e 36 (by omega), e 39 (by omega), e 38 (by omega)]
  exact h
theorem RTd_ag {tk : Nat} {tv : Nat → Int} (h : RTd M tk tv) (e : N.1 400 43 = M.1 400 43) (e2 : N.1 414 = M.1 414) : RTd N tk tv := by
  unfold RTd at h ⊢
  rw [e, e2]
  exact h
theorem RPl_ag {k : Nat} {pv : Nat → Int} (h : RPl M k pv) (e : N.1 400 28 = M.1 400 28) (e2 : N.1 411 = M.1 411) : RPl N k pv := by
  unfold RPl at h ⊢
  rw [e, e2]
  exact h
theorem RM_ag {i : (Nat → Bool) × (Nat → Nat → Int) × (Nat → Nat → List Nat)} (h : RM M i) (e : N.1 417 = M.1 417 ∧ N.1 419 = M.1 419 ∧ N.2.1 418 = M.2.1 418) : RM N i := by
  unfold RM RNm at h ⊢
  rw [e.1, e.2.1, e.2.2]
  exact h
/-- the reference's side, a memory that is the same there -/
theorem RQ_fr (h : RQ M z) (e : FK M N) : RQ N z := by
  obtain ⟨k0, k1, k2, k3, k4, k5, k6, k7⟩ := h
  have e0 : ∀ j, N.1 400 j = M.1 400 j := fun j => by rw [(e 400 (by omega) (by omega)).1]
  exact ⟨RU_ag k0 (fun a ha => (e a (by omega) (by omega)).1) (e0 _), RNm_ag k1 (e 405 (by omega) (by omega)).2, TR_ag k2 (e0 _) (e 401 (by omega) (by omega)).1, RWd_ag k3 (e 406 (by omega) (by omega)).2, RVv_ag k4 fun j _ => e0 j, RTd_ag k5 (e0 _) (e 414 (by omega) (by omega)).1, RPl_ag k6 (e0 _) (e 411 (by omega) (by omega)).1, RM_ag k7 ⟨(e 417 (by omega) (by omega)).1, (e 419 (by omega) (by omega)).1, (e 418 (by omega) (by omega)).2⟩⟩
/-- the two stand in the same state -/
def JJJ (M : Mm) : Prop := ∃ (ps so : Nat) (z : ZS), KQ M ps so z ∧ RQ M z ∧ PQ z
/-- one call of each: they answer the same, and stand in the same state -/
def Same (yB yR : Nat) (as : List Value) : Prop := ∀ M, JJJ M → ∃ (v : Int32) (N1 : Mm), Ev 40 yB (.ref 1 :: as) M (some (.int v)) N1 ∧ ∃ (N2 : Mm), Ev 40 yR (.ref 400 :: as) N1 (some (.int v)) N2 ∧ JJJ N2
theorem same_of {yB yR : Nat} {as : List Value} (a : ZS → Int) (z' : ZS → ZS) (hP : ∀ M ps so z, KQ M ps so z → RQ M z → PQ z → PQ (z' z)) (hk : ∀ M ps so z, KQ M ps so z → PQ z → EvQ 40 yB (.ref 1 :: as) M fun r N => r = some (.int (I (a z))) ∧ (∃ ps' so', KQ N ps' so' (z' z)) ∧ FK M N) (hr : ∀ M z, RQ M z → PQ z → EvQ 40 yR (.ref 400 :: as) M fun r N => r = some (.int (I (a z))) ∧ RQ N (z' z) ∧ FR M N) : Same yB yR as := by
  rintro M ⟨ps, so, z, h1, h2, h3⟩
  obtain ⟨r, N1, e1, rfl, ⟨ps', so', q1⟩, q2⟩ := hk M ps so z h1 h3
  obtain ⟨r, N2, e2, rfl, q3, q4⟩ := hr N1 z (RQ_fr h2 q2) h3
  exact ⟨_, N1, e1, N2, e2, ps', so', z' z, KQ_fr q1 q4, q3, hP M ps so z h1 h2 h3⟩
end ZFR
