/-! ===== street ===== -/
section STR2
variable {M N : Mm} {ps so : Nat} {z : ZS} {T : List Nat} {x : Int}
/-- an error: the tape is gone, the fault is kept -/
theorem KQ_s {v : Nat → Int} {n : Nat} {b : Nat → Nat} (h : KQ M ps so z) (hF : ∀ a, a ≠ 1 → a ≠ 2 → a ≠ 4 → ¬ (220 - ps ≤ a ∧ a < 220 - ps + 17) → Ag M N a) (h1 : N.2.2 1 = M.2.2 1) (ht : TC N n b) (hv : KV N v) : KQ N ps so (z.1, z.2.1, (n, b), v, z.2.2.2.2) := by
  obtain ⟨k0, k1, k2, k3, k4, k5, k6, k7, k8⟩ := h
  have hp := k0.1
  have hs := k0.2.1
  have f : ∀ a, a ≠ 1 → a ≠ 2 → a ≠ 4 → ¬ (220 - ps ≤ a ∧ a < 220 - ps + 17) → Ag M N a := hF
  refine ⟨?_, CU_ag k1 (by rw [h1]) fun a ha => (f a (by omega) (by omega) (by omega) (by omega)).1, CNm_fr k2 fun a x y => (f a (by omega) (by omega) (by omega) (by omega)).2.1, ht, KS_ag k4 hs fun a x y => f a (by omega) (by omega) (by omega) (by omega), hv, CTd_ag k6 (f 30 (by omega) (by omega) (by omega) (by omega)).1, CPl_ag k7 fun a ha => (f a (by omega) (by omega) (by omega) (by omega)).1, KM_ag k8 fun a x y => f a (by omega) (by omega) (by omega) (by omega)⟩
  unfold KA at k0 ⊢
  rw [h1]
  exact k0
theorem KV_0 {v : Nat → Int} {e : Int} (h : KV M v) (h1 : N.1 1 12 = I e) (h2 : ∀ k, k ≠ 12 → N.1 1 k = M.1 1 k) : KV N (upf v 0 e) := by
  obtain ⟨v0, v1, v2, v3, v4, v5⟩ := h
  exact ⟨h1, (h2 13 (by decide)).trans v1, (h2 14 (by decide)).trans v2, (h2 15 (by decide)).trans v3, (h2 16 (by decide)).trans v4, (h2 17 (by decide)).trans v5⟩
theorem RVv_0 {v : Nat → Int} {e : Int} (h : RVv M v) (h1 : N.1 400 15 = I e) (h2 : ∀ j, (29 ≤ j ∧ j ≤ 33) ∨ (36 ≤ j ∧ j ≤ 39) → N.1 400 j = M.1 400 j) : RVv N (upf v 0 e) := by
  obtain ⟨v0, v1, v2, v3, v4⟩ := h
  refine ⟨h1, ?_, ?_, ?_, ?_⟩
  · rw [h2 31 (by omega), h2 29 (by omega), h2 30 (by omega)]
    exact v1
  · rw [h2 33 (by omega), h2 32 (by omega)]
    exact v2
  · rw [h2 37 (by omega), h2 36 (by omega)]
    exact v3
  · rw [h2 39 (by omega), h2 38 (by omega)]
    exact v4
theorem t_ok {T : List Nat} (hT : ∀ j ∈ [29, 30, 31, 32, 33, 36, 37, 38, 39], j ∉ T) {j : Nat} (hj : (29 ≤ j ∧ j ≤ 33) ∨ (36 ≤ j ∧ j ≤ 39)) : j ∉ T := by
  have : j = 29 ∨ j = 30 ∨ j = 31 ∨ j = 32 ∨ j = 33 ∨ j = 36 ∨ j = 37 ∨ j = 38 ∨ j = 39 := by omega
  rcases this with rfl | rfl | rfl | rfl | rfl | rfl | rfl | rfl | rfl
  · exact hT 29 (by decide)
  · exact hT 30 (by decide)
  · exact hT 31 (by decide)
  · exact hT 32 (by decide)
  · exact hT 33 (by decide)
  · exact hT 36 (by decide)
  · exact hT 37 (by decide)
  · exact hT 38 (by decide)
  · exact hT 39 (by decide)
def strR (z : ZS) : PE (Nat × ST) := lnsS z.2.2.1.2 z.2.2.1.1 900 (z.2.2.1.1 + 1) 0 st00 0
def strZ (z : ZS) : ZS := match strR z with
  | .error e => (z.1, z.2.1, (0, z.2.2.1.2), upf z.2.2.2.1 0 e.1, z.2.2.2.2)
  | .ok x => ((newG x.2.1 z.1.1, 0, z.1.2.2), x.2.2.1, (0, z.2.2.1.2), upf z.2.2.2.1 0 0, z.2.2.2.2)
theorem strZ_e {e : Int × Nat} (h : strR z = .error e) : strZ z = (z.1, z.2.1, (0, z.2.2.1.2), upf z.2.2.2.1 0 e.1, z.2.2.2.2) := by
  unfold strZ
  rw [h]
theorem strZ_o {x : Nat × ST} (h : strR z = .ok x) : strZ z = ((newG x.2.1 z.1.1, 0, z.1.2.2), x.2.2.1, (0, z.2.2.1.2), upf z.2.2.2.1 0 0, z.2.2.2.2) := by
  unfold strZ
  rw [h]
theorem str_ok {x : Nat × ST} (h : strR z = .ok x) : RGs x.2.1 ∧ NMo x.2.1 x.2.2.1 ∧ NMd x.2.1 x.2.2.1 := lns_all _ 0 0 st00 x (Nat.zero_le _) RGs_00 NMo_00 NMd_00 h
theorem s_street : Same 2 84 [] := same_of (fun z => streetA (strR z)) strZ (fun M ps so z h _ p => by
    rcases pe_cases (strR z) with ⟨e, he⟩ | ⟨x, hx⟩
    · rw [strZ_e he]
      exact p
    · rw [strZ_o hx]
      obtain ⟨o1, o2, o3⟩ := str_ok hx
      exact ⟨(new_ok o1).2.2.2, NMo_o (fun j hj => newG_lo (by omega)) o2, NMd_o (fun j hj => newG_lo (by omega)) o3, p.2.2.2⟩)
  (fun M ps so z h p => by
    have hh := h
    obtain ⟨k0, k1, k2, k3, k4, k5, k6, k7, k8⟩ := h
    have hp := k0.1
    have hs := k0.2.1
    refine (b_street (d := 32) (g := z.1.1) k3 k0.2.2.1 k0.2.2.2.1 (by omega) hs k0.2.2.2.2.1).mono fun r N q => ?_
    obtain ⟨q1, q2, q3, q4⟩ := q
    refine ⟨q1, ?_⟩
    rcases pe_cases (strR z) with ⟨e, he⟩ | ⟨x, hx⟩
    · obtain ⟨r1, r2⟩ := q3 e he
      have f : ∀ a, a ≠ 1 → a ≠ 2 → a ≠ 4 → ¬ (220 - ps ≤ a ∧ a < 220 - ps + 17) → Ag M N a := fun a h1 h2 h4 h5 => by
        obtain ⟨g1, g2, g3⟩ := r2 a h2 h4 h5
        rw [mI_fn h1] at g1
        exact ⟨g1, g2, g3⟩
      obtain ⟨g1, g2, g3⟩ := r2 1 (by omega) (by omega) (by omega)
      rw [strZ_e he]
      refine ⟨⟨ps, so, KQ_s hh f g3 q2 (KV_0 k5 r1 fun k hk => ?_)⟩, fun a h1 h2 => ⟨(f a (by omega) (by omega) (by omega) (by omega)).1, (f a (by omega) (by omega) (by omega) (by omega)).2.1⟩⟩
      rw [← g1, mI_n2 hk]
    · obtain ⟨r0, r1, r2, r3, r4, r5, r6, r7, r8, ⟨r9, r10, r11, r12, r13, r14, r15⟩, r16⟩ := q4 x hx
      obtain ⟨o1, o2, o3⟩ := str_ok hx
      obtain ⟨w1, w2, w3, w4⟩ := new_ok (g := z.1.1) o1
      have f : ∀ a, a ≠ 1 → a ≠ 2 → a ≠ 4 → a ≠ 20 → ¬ (220 - ps ≤ a ∧ a < 220 - ps + 17) → ¬ (200 ≤ a ∧ a < 204) → a ≠ so → Ag M N a := r9
      obtain ⟨hb, ⟨nx, pc1, pc2, pc3, pc4, pc5⟩, hU⟩ := k1
      have hst : St (220 - ps) := by rcases hp with rfl | rfl <;> simp [St]
      have z122 : newG x.2.1 z.1.1 122 = 0 := newG_0 (by omega) (by omega) (by omega)
      rw [strZ_o hx]
      refine ⟨⟨220 - ps, so, ⟨by omega, hs, r1, by rw [r2]; omega, by rw [r12 7 (by decide) (by decide)]; exact k0.2.2.2.2.1, by rw [r12 8 (by decide) (by decide)]; exact k0.2.2.2.2.2⟩, ⟨⟨hst, r1, CSr_lo (fun i hi => newG_lo hi) o1 r3, r5, w1, w2, w3⟩, ⟨nx, by rw [r13 1 (by decide)]; exact pc1, r8, pc3, Nat.zero_le 8, fun i hi => absurd hi (by show ¬ i < 0; omega)⟩, fun i hi => absurd hi (by show ¬ i < 0; omega)⟩, CNm_o (fun j hj => newG_lo (by omega)) r4, q2, ⟨⟨?_, fun i hi => ?_, ?_⟩, VE_fr k4.2.1 (f _ (by omega) (by omega) (by omega) (by omega) (by omega) (by omega) (by omega)).2.2, VE_fr k4.2.2 (f _ (by omega) (by omega) (by omega) (by omega) (by omega) (by omega) (by omega)).2.2⟩, KV_0 k5 r0 r10, CTd_ag k6 (f 30 (by omega) (by omega) (by omega) (by omega) (by omega) (by omega) (by omega)).1, CPl_ag k7 fun a ha => (f a (by omega) (by omega) (by omega) (by omega) (by omega) (by omega) (by omega)).1, KM_ag k8 fun a x y => f a (by omega) (by omega) (by omega) (by omega) (by omega) (by omega) (by omega)⟩, fun a h1 h2 => ⟨(f a (by omega) (by omega) (by omega) (by omega) (by omega) (by omega) (by omega)).1, (f a (by omega) (by omega) (by omega) (by omega) (by omega) (by omega) (by omega)).2.1⟩⟩
      · show N.1 so 4 = I (newG x.2.1 z.1.1 122)
        rw [z122]
        exact r6
      · have : (i : Int) < newG x.2.1 z.1.1 122 := hi
        rw [z122] at this
        exact absurd this (by omega)
      · show N.1 so 5 = I 0 ↔ newG x.2.1 z.1.1 122 = 0
        exact ⟨fun _ => z122, fun _ => r7⟩)
  (fun M z h p => by
    obtain ⟨k0, k1, k2, k3, k4, k5, k6, k7⟩ := h
    refine (r_street (d := 33) k0.1 k2 k3).mono fun r N q => ?_
    obtain ⟨q1, q2, q3, q4, q5, q6⟩ := q
    refine ⟨q1, ?_⟩
    rcases pe_cases (strR z) with ⟨e, he⟩ | ⟨x, hx⟩
    · obtain ⟨r1, r2, r3⟩ := q5 e he
      rw [strZ_e he]
      have a : ∀ a, a ≠ 403 → a ≠ 405 → a ≠ 400 → N.1 a = M.1 a ∧ N.2.1 a = M.2.1 a := fun a h1 h2 h4 => r2.1 a (by simp [h1, h2]) h4
      refine ⟨⟨RU_ag k0 (fun x hx => (a x (by omega) (by omega) (by omega)).1) (r2.2.1 23 (by decide)), RNm_off k0.2.2.1 k1 (fun i hi => by rw [Nat.zero_add]; exact r3 i hi), q2, q4, RVv_0 k4 r1 fun j hj => r2.2.1 j (t_ok (by decide) hj), RTd_ag k5 (r2.2.1 43 (by decide)) (a 414 (by decide) (by decide) (by decide)).1, RPl_ag k6 (r2.2.1 28 (by decide)) (a 411 (by decide) (by decide) (by decide)).1, RM_ag k7 ⟨(a 417 (by decide) (by decide) (by decide)).1, (a 419 (by decide) (by decide) (by decide)).1, (a 418 (by decide) (by decide) (by decide)).2⟩⟩, FR_rf r2 (by decide)⟩
    · obtain ⟨r0, r1, r2, r3, r4⟩ := q6 x hx
      obtain ⟨o1, o2, o3⟩ := str_ok hx
      obtain ⟨w1, w2, w3, w4⟩ := new_ok (g := z.1.1) o1
      rw [strZ_o hx]
      have a : ∀ a, a ≠ 402 → a ≠ 403 → a ≠ 405 → a ≠ 400 → N.1 a = M.1 a ∧ N.2.1 a = M.2.1 a := fun a h0 h1 h2 h4 => r4.1 a (by simp [h0, h1, h2]) h4
      refine ⟨⟨⟨r1, ⟨r3, Nat.zero_le 8, fun j i hj => absurd hj (by show ¬ j < 0; omega)⟩, w1, w2, w3⟩, RNm_o (fun j hj => newG_lo (by omega)) r2, q2, q4, RVv_0 k4 r0 fun j hj => r4.2.1 j (t_ok (by decide) hj), RTd_ag k5 (r4.2.1 43 (by decide)) (a 414 (by decide) (by decide) (by decide) (by decide)).1, RPl_ag k6 (r4.2.1 28 (by decide)) (a 411 (by decide) (by decide) (by decide) (by decide)).1, RM_ag k7 ⟨(a 417 (by decide) (by decide) (by decide) (by decide)).1, (a 419 (by decide) (by decide) (by decide) (by decide)).1, (a 418 (by decide) (by decide) (by decide) (by decide)).2⟩⟩, FR_rf r4 (by decide)⟩)
end STR2
