/-! ===== image and restore: the reference ===== -/
theorem RF_sL {L T : List Nat} {M N : Mm} {a k : Nat} {v : Int64} (h : RF L T M N) (h1 : a ∈ L) : RF L T M (sL N a k v) := ⟨fun b x1 x2 => ⟨(h.1 b x1 x2).1, by
  show up2 N.2.1 a k v b = _
  rw [up2_ne (show b ≠ a from fun e => x1 (by rw [e]; exact h1))]
  exact (h.1 b x1 x2).2⟩, h.2.1, h.2.2⟩
theorem sL_1 {M : Mm} {a k : Nat} {v : Int64} : (sL M a k v).1 = M.1 := rfl
theorem sL_ne {M : Mm} {a k b : Nat} {v : Int64} (h : b ≠ a) : (sL M a k v).2.1 b = M.2.1 b := up2_ne h
theorem sL_eq {M : Mm} {a k : Nat} {v : Int64} : (sL M a k v).2.1 a k = v := by
  show up2 M.2.1 a k v a k = v
  rw [up2_eq, upf_eq]
theorem sL_n2 {M : Mm} {a k j : Nat} {v : Int64} (h : j ≠ k) : (sL M a k v).2.1 a j = M.2.1 a j := by
  show up2 M.2.1 a k v a j = _
  rw [up2_eq, upf_ne h]
section RIM
variable {M : Mm} {g : Nat → Int}
theorem r_image {d : Nat} (hm : M.1 402 = fun k => I (g k)) {k : Int} (hk : (-2147483648 ≤ k ∧ k < 2147483648)) : EvQ (d + 2) 166 [.ref 400, .int (I k)] M fun v M' => (¬ (0 ≤ k ∧ k ≤ 1) → v = some (.int (I 0)) ∧ M' = sI M 400 0 (I 0)) ∧ (0 ≤ k ∧ k ≤ 1 → v = some (.int (I 1)) ∧ (∀ i, i < 303 → M'.1 417 (303 * k.toNat + i) = I (g i)) ∧ (∀ i, i < 21 → M'.2.1 418 (21 * k.toNat + i) = M.2.1 405 i) ∧ M'.1 419 k.toNat = I 1 ∧ (∀ i, (i < 303 * k.toNat ∨ 303 * k.toNat + 303 ≤ i) → M'.1 417 i = M.1 417 i) ∧ (∀ i, (i < 21 * k.toNat ∨ 21 * k.toNat + 21 ≤ i) → M'.2.1 418 i = M.2.1 418 i) ∧ (∀ j, j ≠ k.toNat → M'.1 419 j = M.1 419 j) ∧ RF [417, 418, 419] [0] M M' ∧ M'.1 400 0 = I 0) := by
  apply e_R_image
  intro At step
  refine ⟨_, _, v_isIn (by omega) (by omega) (by omega), fun z => ?_, fun z => ?_⟩
  · have no : ¬ (0 ≤ k ∧ k ≤ 1) := fun y => by
      rw [if_pos y] at z
      exact absurd z (by decide)
    exact ⟨fun _ => ⟨rfl, rfl⟩, fun y => absurd y no⟩
  have ok : 0 ≤ k ∧ k ≤ 1 := Classical.byContradiction fun y => z (by rw [if_neg y])
  obtain ⟨kn, hkn⟩ := Nn ok.1
  subst hkn
  rw [Int.toNat_natCast] at step
  have F0 : RF [417, 418, 419] [0] M (sI M 400 0 (I 0)) := RF.f (by decide)
  have hi2 : inR (I (kn : Int)) 2 := inRI (by omega) (by omega) (by omega)
  refine loopU (P := fun i : Nat => ∀ N : Mm, RF [417, 418, 419] [0] M N → N.1 400 0 = I 0 → N.1 419 = M.1 419 → N.2.1 = M.2.1 → (∀ j, j < i → N.1 417 (303 * kn + j) = I (g j)) → (∀ j, (j < 303 * kn ∨ 303 * kn + 303 ≤ j) → N.1 417 j = M.1 417 j) → At 18 [.ref 400, .int (I kn), .int (I i)] [] N) (n := 303) ?_ ?_ _ F0 mI_eq (mI_fn (by decide)) rfl (fun j hj => absurd hj (by omega)) (fun j _ => by rw [mI_fn (by decide)])
  · intro N hF h0 h9 hL h1 h2
    apply s_R_image_18 step
    rw [I_lt (by omega) (by omega) (by omega) (by omega)]
    refine ⟨fun q => absurd q (by omega), fun _ => ?_⟩
    refine loopU (P := fun i : Nat => ∀ O : Mm, O.1 = N.1 → RF [417, 418, 419] [0] M O → (∀ b, b ≠ 418 → O.2.1 b = M.2.1 b) → (∀ j, j < i → O.2.1 418 (21 * kn + j) = M.2.1 405 j) → (∀ j, (j < 21 * kn ∨ 21 * kn + 21 ≤ j) → O.2.1 418 j = M.2.1 418 j) → At 51 [.ref 400, .int (I kn), .int (I i)] [] O) (n := 21) ?_ ?_ N rfl hF (fun b _ => by rw [hL]) (fun j hj => absurd hj (by omega)) (fun j _ => by rw [hL])
    · intro O e1 hFO h3 h4 h5
      apply s_R_image_51 step
      rw [I_lt (by omega) (by omega) (by omega) (by omega), ixI (a := (kn : Int)) (by omega) (by omega), Int.toNat_natCast]
      refine ⟨fun q => absurd q (by omega), fun _ => ⟨hi2, fun y => absurd ok y, fun _ => ⟨rfl, fun i hi => ?_, fun i hi => ?_, mI_eq, fun i hi => ?_, fun i hi => ?_, fun j hj => ?_, hFO.u1 (by decide) (by decide), ?_⟩⟩⟩
      · rw [mI_fn (by decide), e1]
        exact h1 i hi
      · exact h4 i hi
      · rw [mI_fn (by decide), e1]
        exact h2 i hi
      · exact h5 i hi
      · rw [mI_n2 hj, e1, h9]
      · rw [mI_fn (by decide), e1]
        exact h0
    · intro i hi nx O e1 hFO h3 h4 h5
      apply s_R_image_51 step
      rw [I_lt (by omega) (by omega) (by omega) (by omega), I_mul, I_add, ixI (by omega) (by omega), ixI (by omega) (by omega), Int.toNat_natCast, show (21 * (kn : Int) + i).toNat = 21 * kn + i by omega, h3 405 (by decide), I_add]
      refine ⟨fun _ => ⟨inRI (by omega) (by omega) (by omega), inRI (by omega) (by omega) (by omega), nx _ e1 (RF_sL hFO (by decide)) (fun b hb => ?_) (fun j hj => ?_) (fun j hj => ?_)⟩, fun q => absurd (by omega) q⟩
      · rw [sL_ne hb]
        exact h3 b hb
      · by_cases e : j = i
        · subst e
          rw [sL_eq]
        · rw [sL_n2 (by omega)]
          exact h4 j (by omega)
      · rw [sL_n2 (by omega)]
        exact h5 j hj
  · intro i hi nx N hF h0 h9 hL h1 h2
    have e : ∀ k, N.1 402 k = I (g k) := fun k => by rw [(hF.1 402 (by decide) (by decide)).1, hm]
    apply s_R_image_18 step
    rw [I_lt (by omega) (by omega) (by omega) (by omega), I_mul, I_add, ixI (by omega) (by omega), ixI (by omega) (by omega), Int.toNat_natCast, show (303 * (kn : Int) + i).toNat = 303 * kn + i by omega, e i, I_add]
    refine ⟨fun _ => ⟨inRI (by omega) (by omega) (by omega), inRI (by omega) (by omega) (by omega), nx _ (hF.u1 (by decide) (by decide)) ?_ ?_ hL (fun j hj => ?_) (fun j hj => ?_)⟩, fun q => absurd (by omega) q⟩
    · rw [mI_fn (by decide)]
      exact h0
    · rw [mI_fn (by decide)]
      exact h9
    · by_cases w : j = i
      · subst w
        rw [mI_eq]
      · rw [mI_n2 (by omega)]
        exact h1 j (by omega)
    · rw [mI_n2 (by omega)]
      exact h2 j hj
theorem r_restore {d : Nat} {gk : Nat → Int} (hm : M.1 402 = fun k => I (g k)) {k : Int} (hk : (-2147483648 ≤ k ∧ k < 2147483648)) (hK : 0 ≤ k ∧ k ≤ 1 → (M.1 419 k.toNat = I 0 ∨ M.1 419 k.toNat = I 1 ∧ ∀ i, i < 303 → M.1 417 (303 * k.toNat + i) = I (gk i))) : EvQ (d + 2) 167 [.ref 400, .int (I k)] M fun v M' => (¬ (0 ≤ k ∧ k ≤ 1 ∧ M.1 419 k.toNat = I 1) → v = some (.int (I 0)) ∧ M' = sI M 400 0 (I 0)) ∧ (0 ≤ k ∧ k ≤ 1 ∧ M.1 419 k.toNat = I 1 → v = some (.int (I 1)) ∧ (M'.1 402 = fun i => I (if i < 303 then gk i else g i)) ∧ (∀ i, i < 21 → M'.2.1 405 i = M.2.1 418 (21 * k.toNat + i)) ∧ RF [402, 405] [0, 23] M M' ∧ M'.1 400 0 = I 0 ∧ M'.1 400 23 = I 0) := by
  apply e_R_restore
  intro At step
  refine ⟨_, _, v_isIn (by omega) (by omega) (by omega), fun z => ?_, fun z => ?_⟩
  · have no : ¬ (0 ≤ k ∧ k ≤ 1) := fun y => by
      rw [if_pos y] at z
      exact absurd z (by decide)
    exact ⟨fun _ => ⟨rfl, rfl⟩, fun y => absurd ⟨y.1, y.2.1⟩ no⟩
  have ok : 0 ≤ k ∧ k ≤ 1 := Classical.byContradiction fun y => z (by rw [if_neg y])
  obtain ⟨kn, hkn⟩ := Nn ok.1
  subst hkn
  have hK := hK ok
  rw [Int.toNat_natCast] at *
  have F0 : RF [402, 405] [0, 23] M (sI M 400 0 (I 0)) := RF.f (by decide)
  have hi2 : inR (I (kn : Int)) 2 := inRI (by omega) (by omega) (by omega)
  rw [ixI (by omega) (by omega), Int.toNat_natCast, mI_fn (show 419 ≠ 400 by decide)]
  refine ⟨hi2, fun z3 => ⟨fun _ => ⟨rfl, rfl⟩, fun y => absurd (z3.symm.trans y.2.2) (by decide)⟩, fun z3 => ?_⟩
  rcases hK with hK | ⟨hK3, hG⟩
  · exact absurd hK z3
  refine loopU (P := fun i : Nat => ∀ N : Mm, RF [402, 405] [0, 23] M N → N.1 400 0 = I 0 → N.2.1 = M.2.1 → (∀ j, N.1 402 j = I (if j < i then gk j else g j)) → At 27 [.ref 400, .int (I kn), .int (I i)] [] N) (n := 303) ?_ ?_ _ F0 mI_eq rfl (fun j => by rw [mI_fn (by decide), hm, if_neg (by omega)])
  · intro N hF h0 hL h1
    apply s_R_restore_27 step
    rw [I_lt (by omega) (by omega) (by omega) (by omega)]
    refine ⟨fun q => absurd q (by omega), fun _ => ?_⟩
    refine loopU (P := fun i : Nat => ∀ O : Mm, O.1 = N.1 → RF [402, 405] [0, 23] M O → (∀ b, b ≠ 405 → O.2.1 b = M.2.1 b) → (∀ j, j < i → O.2.1 405 j = M.2.1 418 (21 * kn + j)) → At 60 [.ref 400, .int (I kn), .int (I i)] [] O) (n := 21) ?_ ?_ N rfl hF (fun b _ => by rw [hL]) (fun j hj => absurd hj (by omega))
    · intro O e1 hFO h3 h4
      apply s_R_restore_60 step
      rw [I_lt (by omega) (by omega) (by omega) (by omega)]
      refine ⟨fun q => absurd q (by omega), fun _ => ⟨fun y => absurd ⟨ok.1, ok.2, hK3⟩ y, fun _ => ⟨rfl, ?_, fun i hi => h4 i hi, hFO.u2 (by decide), ?_, mI_eq⟩⟩⟩
      · rw [mI_fn (by decide), e1]
        funext j
        exact h1 j
      · rw [mI_n2 (by decide), e1]
        exact h0
    · intro i hi nx O e1 hFO h3 h4
      apply s_R_restore_60 step
      rw [I_lt (by omega) (by omega) (by omega) (by omega), I_mul, I_add, ixI (by omega) (by omega), ixI (by omega) (by omega), Int.toNat_natCast, show (21 * (kn : Int) + i).toNat = 21 * kn + i by omega, h3 418 (by decide), I_add]
      refine ⟨fun _ => ⟨inRI (by omega) (by omega) (by omega), inRI (by omega) (by omega) (by omega), nx _ e1 (RF_sL hFO (by decide)) (fun b hb => ?_) (fun j hj => ?_)⟩, fun q => absurd (by omega) q⟩
      · rw [sL_ne hb]
        exact h3 b hb
      · by_cases e : j = i
        · subst e
          rw [sL_eq]
        · rw [sL_n2 e]
          exact h4 j (by omega)
  · intro i hi nx N hF h0 hL h1
    apply s_R_restore_27 step
    rw [I_lt (by omega) (by omega) (by omega) (by omega), I_mul, I_add, ixI (by omega) (by omega), ixI (by omega) (by omega), Int.toNat_natCast, show (303 * (kn : Int) + i).toNat = 303 * kn + i by omega, (hF.1 417 (by decide) (by decide)).1, hG i hi, I_add]
    refine ⟨fun _ => ⟨inRI (by omega) (by omega) (by omega), inRI (by omega) (by omega) (by omega), nx _ (hF.u1 (by decide) (by decide)) ?_ hL (fun j => ?_)⟩, fun q => absurd (by omega) q⟩
    · rw [mI_fn (by decide)]
      exact h0
    · by_cases w : j = i
      · subst w
        rw [mI_eq, if_pos (by omega)]
      · rw [mI_n2 w, h1 j]
        by_cases y : j < i
        · rw [if_pos y, if_pos (by omega)]
        · rw [if_neg y, if_neg (by omega)]
end RIM
