/-! ===== image, restore ===== -/
section IMG2
variable {M N : Mm} {ps so : Nat} {z : ZS} {T : List Nat} {x : Int}
theorem RNm_off {a a' off off' : Nat} {g : Nat → Int} {nm : Nat → List Nat} (hs : RGs g) (h : RNm M a off g nm) (e : ∀ i, i < 21 → N.2.1 a' (off' + i) = M.2.1 a (off + i)) : RNm N a' off' g nm := by
  obtain ⟨h1, h2, h3⟩ := h
  have h0 := hs.1
  exact ⟨fun w hw => (e w (by omega)).trans (h1 w hw), fun k hk => (e (5 + k) (by omega)).trans (h2 k hk), fun k hk => (e (15 + k) (by omega)).trans (h3 k hk)⟩
theorem s_image (hx : (-2147483648 ≤ x ∧ x < 2147483648)) : Same 42 166 [.int (I x)] := by
  by_cases c : 0 ≤ x ∧ x ≤ 1
  · obtain ⟨k, rfl⟩ : ∃ k : Nat, x = k := ⟨x.toNat, by omega⟩
    have hk2 : k < 2 := by omega
    refine same_of (fun _ => 1) (fun z => (z.1, z.2.1, z.2.2.1, z.2.2.2.1, z.2.2.2.2.1, z.2.2.2.2.2.1, (upf z.2.2.2.2.2.2.1 k true, upf z.2.2.2.2.2.2.2.1 k z.1.1, upf z.2.2.2.2.2.2.2.2 k z.2.1))) (fun M ps so z h _ p => ?_) (fun M ps so z h p => ?_) (fun M z h p => ?_)
    · refine ⟨p.1, p.2.1, p.2.2.1, p.2.2.2.1, p.2.2.2.2.1, fun j hj hq => ?_⟩
      dsimp only at hq ⊢
      by_cases e : j = k
      · rw [e, upf_eq, upf_eq]
        exact ⟨h.2.1.1.2.2.2.2.1, h.2.1.1.2.2.2.2.2.1, h.2.1.1.2.2.2.2.2.2, p.1, p.2.1, p.2.2.1⟩
      · rw [upf_ne e] at hq
        rw [upf_ne e, upf_ne e]
        exact p.2.2.2.2.2 j hj hq
    · obtain ⟨k0, k1, k2, k3, k4, k5, k6, k7, k8⟩ := h
      have hp := k0.1
      have hs := k0.2.1
      refine (b_image (d := 36) k1.1 hp hs k0.2.2.2.2.1 p.1 k4.1 k4.2.1 k2 hx).mono fun r N q => ?_
      obtain ⟨q1, q2, q3, q4⟩ := q.2 c
      rw [Int.toNat_natCast] at q2 q3 q4
      refine ⟨q1, ⟨ps, so, ?_⟩, fun a h1 h2 => ⟨(q4 a (by omega)).1, (q4 a (by omega)).2.1⟩⟩
      refine ⟨KA_ag k0 (q4 1 (by omega)), CU_ag k1 (by rw [(q4 1 (by omega)).2.2]) fun a ha => (q4 a (by omega)).1, CNm_fr k2 fun a x y => (q4 a (by omega)).2.1, TC_ag k3 fun a ha => (q4 a (by omega)).1, KS_ag k4 hs fun a x y => q4 a (by omega), KV_ag k5 (q4 1 (by omega)).1, CTd_ag k6 (q4 30 (by omega)).1, CPl_ag k7 fun a ha => (q4 a (by omega)).1, fun j hj => ?_⟩
      dsimp only
      by_cases e : j = k
      · rw [e, upf_eq, upf_eq, upf_eq]
        exact ⟨fun y => absurd y (by decide), fun _ => ⟨q3, q2⟩⟩
      · rw [upf_ne e, upf_ne e, upf_ne e]
        obtain ⟨h1, h2⟩ := k8 j hj
        rw [(q4 (700 + 100 * j) (by omega)).1]
        exact ⟨h1, fun y => ⟨(h2 y).1, CImg_ag (h2 y).2 fun a h1 h2 => q4 a (by omega)⟩⟩
    · obtain ⟨k0, k1, k2, k3, k4, k5, k6, k7⟩ := h
      have hs := k0.2.2.1
      refine (r_image (d := 38) k0.1 hx).mono fun r N q => ?_
      obtain ⟨q1, q2, q3, q4, q5, q6, q7, q8, q9⟩ := q.2 c
      rw [Int.toNat_natCast] at q2 q3 q4 q5 q6 q7
      have a : ∀ a, a ≠ 417 → a ≠ 418 → a ≠ 419 → a ≠ 400 → N.1 a = M.1 a ∧ N.2.1 a = M.2.1 a := fun a h1 h2 h3 h4 => q8.1 a (by simp [h1, h2, h3]) h4
      have f : ∀ j, j ≠ 0 → N.1 400 j = M.1 400 j := fun j hj => q8.2.1 j (by simp [hj])
      refine ⟨q1, ⟨RU_ag k0 (fun x hx => (a x (by omega) (by omega) (by omega) (by omega)).1) (f 23 (by decide)), RNm_ag k1 (a 405 (by decide) (by decide) (by decide) (by decide)).2, TR_ag k2 (f 2 (by decide)) (a 401 (by decide) (by decide) (by decide) (by decide)).1, RWd_ag k3 (a 406 (by decide) (by decide) (by decide) (by decide)).2, RVv_ag k4 fun j hj => f j (by omega), RTd_ag k5 (f 43 (by decide)) (a 414 (by decide) (by decide) (by decide) (by decide)).1, RPl_ag k6 (f 28 (by decide)) (a 411 (by decide) (by decide) (by decide) (by decide)).1, fun j hj => ?_⟩, FR_rf q8 (by decide)⟩
      dsimp only
      by_cases e : j = k
      · rw [e, upf_eq, upf_eq, upf_eq]
        refine ⟨fun y => absurd y (by decide), fun _ => ⟨q4, q2, RNm_off hs k1 fun i hi => ?_⟩⟩
        rw [q3 i hi, Nat.zero_add]
      · rw [upf_ne e, upf_ne e, upf_ne e, q7 j e]
        obtain ⟨h1, h2⟩ := k7 j hj
        refine ⟨h1, fun y => ?_⟩
        obtain ⟨y1, y2, y3⟩ := h2 y
        have hsj := (p.2.2.2.2.2 j hj y).1
        refine ⟨y1, fun i hi => ?_, RNm_off hsj y3 fun i hi => q6 _ (by omega)⟩
        rw [q5 _ (by omega)]
        exact y2 i hi
  · exact same_ask (fun _ => 0) (fun M ps so z h p => by
      obtain ⟨k0, k1, k2, k3, k4, k5, k6, k7, k8⟩ := h
      obtain ⟨r, N, e, q⟩ := b_image (d := 36) k1.1 k0.1 k0.2.1 k0.2.2.2.2.1 p.1 k4.1 k4.2.1 k2 hx
      obtain ⟨rfl, rfl⟩ := q.1 c
      exact e) fun M z h p => by
      obtain ⟨r, N, e, q⟩ := r_image (d := 38) h.1.1 hx
      obtain ⟨rfl, rfl⟩ := q.1 c
      exact e
/-- what an image gives back -/
def gnG (gk g : Nat → Int) : Nat → Int := fun i => if i < 303 then gk i else g i
theorem gn_e {gk g : Nat → Int} : ∀ i, i < 303 → gnG gk g i = gk i := fun i hi => if_pos hi
theorem s_restore (hx : (-2147483648 ≤ x ∧ x < 2147483648)) : Same 43 167 [.int (I x)] := by
  by_cases c : 0 ≤ x ∧ x ≤ 1
  · obtain ⟨k, rfl⟩ : ∃ k : Nat, x = k := ⟨x.toNat, by omega⟩
    have hk2 : k < 2 := by omega
    refine same_of (fun z => if z.2.2.2.2.2.2.1 k = true then 1 else 0) (fun z => if z.2.2.2.2.2.2.1 k = true then ((gnG (z.2.2.2.2.2.2.2.1 k) z.1.1, 0, z.1.2.2), z.2.2.2.2.2.2.2.2 k, z.2.2) else z) (fun M ps so z h _ p => ?_) (fun M ps so z h p => ?_) (fun M z h p => ?_)
    · by_cases e : z.2.2.2.2.2.2.1 k = true
      · rw [if_pos e]
        obtain ⟨p1, p2, p3, p4, p5, p6⟩ := p.2.2.2.2.2 k hk2 e
        exact ⟨SG_cg gn_e p4, NMo_cg gn_e p5, NMd_o (fun j hj => gn_e j (by omega)) p6, p.2.2.2⟩
      · rw [if_neg e]
        exact p
    · obtain ⟨k0, k1, k2, k3, k4, k5, k6, k7, k8⟩ := h
      have hp := k0.1
      have hs := k0.2.1
      obtain ⟨m1, m2⟩ := k8 k hk2
      have hK : 0 ≤ (k : Int) ∧ (k : Int) ≤ 1 → (M.1 (700 + 100 * (k : Int).toNat) 3 = I 0 ∨ M.1 (700 + 100 * (k : Int).toNat) 3 = I 1 ∧ CImg M (700 + 100 * (k : Int).toNat) (z.2.2.2.2.2.2.2.1 k) (z.2.2.2.2.2.2.2.2 k) ∧ RGs (z.2.2.2.2.2.2.2.1 k) ∧ SG (z.2.2.2.2.2.2.2.1 k)) := fun _ => by
        rw [Int.toNat_natCast]
        cases e : z.2.2.2.2.2.2.1 k with
        | false => exact Or.inl (m1 e)
        | true => exact Or.inr ⟨(m2 e).1, (m2 e).2, (p.2.2.2.2.2 k hk2 e).1, (p.2.2.2.2.2 k hk2 e).2.2.2.1⟩
      refine (b_restore (d := 36) hp k0.2.2.1 hs k0.2.2.2.2.1 hx hK).mono fun r N q => ?_
      rw [Int.toNat_natCast] at q
      by_cases e : z.2.2.2.2.2.2.1 k = true
      · rw [if_pos e, if_pos e]
        obtain ⟨q1, ⟨w1, w2, w3, w4, w5⟩, q3, q4, q5, q6, q7⟩ := q.2 ⟨c.1, c.2, (m2 e).1⟩
        obtain ⟨p1, p2, p3, p4, p5, p6⟩ := p.2.2.2.2.2 k hk2 e
        have f : ∀ a, ¬ (ps ≤ a ∧ a < ps + 17) → ¬ (200 ≤ a ∧ a < 204) → ¬ (so ≤ a ∧ a < so + 5) → a ≠ 20 → Ag M N a := q4
        obtain ⟨hb, ⟨nx, pc1, pc2, pc3, pc4, pc5⟩, hU⟩ := k1
        refine ⟨q1, ⟨ps, so, KA_ag k0 (f 1 (by omega) (by omega) (by omega) (by omega)), ⟨⟨hb.1, by rw [(f 1 (by omega) (by omega) (by omega) (by omega)).2.2]; exact hb.2.1, CSr_cg gn_e p1 w1, CSt_cg gn_e w3, RGs_cg gn_e p1, RGd_cg gn_e p2, RN_cg gn_e p3⟩, ⟨nx, by rw [q5 1 (by decide)]; exact pc1, q3, pc3, Nat.zero_le 8, fun i hi => absurd hi (by show ¬ i < 0; omega)⟩, fun i hi => absurd hi (by show ¬ i < 0; omega)⟩, CNm_cg gn_e w2, TC_ag k3 fun a ha => (f a (by omega) (by omega) (by omega) (by omega)).1, ⟨CSq_cg gn_e p4 w4, w5, VE_fr k4.2.2 (f _ (by omega) (by omega) (by omega) (by omega)).2.2⟩, KV_ag k5 (f 1 (by omega) (by omega) (by omega) (by omega)).1, CTd_ag k6 (f 30 (by omega) (by omega) (by omega) (by omega)).1, CPl_ag k7 fun a ha => (f a (by omega) (by omega) (by omega) (by omega)).1, KM_ag k8 fun a x y => f a (by omega) (by omega) (by omega) (by omega)⟩, fun a h1 h2 => ⟨(f a (by omega) (by omega) (by omega) (by omega)).1, (f a (by omega) (by omega) (by omega) (by omega)).2.1⟩⟩
      · rw [if_neg e, if_neg e]
        obtain ⟨q1, rfl⟩ := q.1 fun y => by
          rw [m1 (by simpa using e)] at y
          exact absurd y.2.2 (by decide)
        exact ⟨q1, ⟨ps, so, k0, k1, k2, k3, k4, k5, k6, k7, k8⟩, FK_refl⟩
    · obtain ⟨m1, m2⟩ := h.2.2.2.2.2.2.2 k hk2
      have hK : 0 ≤ (k : Int) ∧ (k : Int) ≤ 1 → (M.1 419 (k : Int).toNat = I 0 ∨ M.1 419 (k : Int).toNat = I 1 ∧ ∀ i, i < 303 → M.1 417 (303 * (k : Int).toNat + i) = I (z.2.2.2.2.2.2.2.1 k i)) := fun _ => by
        rw [Int.toNat_natCast]
        cases e : z.2.2.2.2.2.2.1 k with
        | false => exact Or.inl (m1 e)
        | true => exact Or.inr ⟨(m2 e).1, (m2 e).2.1⟩
      refine (r_restore (d := 38) h.1.1 hx hK).mono fun r N q => ?_
      rw [Int.toNat_natCast] at q
      by_cases e : z.2.2.2.2.2.2.1 k = true
      · rw [if_pos e, if_pos e]
        obtain ⟨q1, q2, q3, q4, q5, q6⟩ := q.2 ⟨c.1, c.2, (m2 e).1⟩
        obtain ⟨p1, p2, p3, p4, p5, p6⟩ := p.2.2.2.2.2 k hk2 e
        obtain ⟨k0, k1, k2, k3, k4, k5, k6, k7⟩ := h
        have a : ∀ a, a ≠ 402 → a ≠ 405 → a ≠ 400 → N.1 a = M.1 a ∧ N.2.1 a = M.2.1 a := fun a h1 h2 h4 => q4.1 a (by simp [h1, h2]) h4
        have f : ∀ j, j ≠ 0 → j ≠ 23 → N.1 400 j = M.1 400 j := fun j hj h2 => q4.2.1 j (by simp [hj, h2])
        have rn : RNm N 405 0 (z.2.2.2.2.2.2.2.1 k) (z.2.2.2.2.2.2.2.2 k) := RNm_off p1 (m2 e).2.2 fun i hi => by rw [Nat.zero_add]; exact q3 i hi
        refine ⟨q1, ⟨⟨q2, ⟨q6, Nat.zero_le 8, fun j i hj => absurd hj (by show ¬ j < 0; omega)⟩, RGs_cg gn_e p1, RGd_cg gn_e p2, RN_cg gn_e p3⟩, RNm_cg gn_e rn, TR_ag k2 (f 2 (by decide) (by decide)) (a 401 (by decide) (by decide) (by decide)).1, RWd_ag k3 (a 406 (by decide) (by decide) (by decide)).2, RVv_ag k4 fun j hj => f j (by omega) (by omega), RTd_ag k5 (f 43 (by decide) (by decide)) (a 414 (by decide) (by decide) (by decide)).1, RPl_ag k6 (f 28 (by decide) (by decide)) (a 411 (by decide) (by decide) (by decide)).1, RM_ag k7 ⟨(a 417 (by decide) (by decide) (by decide)).1, (a 419 (by decide) (by decide) (by decide)).1, (a 418 (by decide) (by decide) (by decide)).2⟩⟩, FR_rf q4 (by decide)⟩
      · rw [if_neg e, if_neg e]
        obtain ⟨q1, rfl⟩ := q.1 fun y => by
          rw [m1 (by simpa using e)] at y
          exact absurd y.2.2 (by decide)
        exact ⟨q1, RQ_0 h, FR_0⟩
  · exact same_ask (fun _ => 0) (fun M ps so z h p => by
      obtain ⟨k0, k1, k2, k3, k4, k5, k6, k7, k8⟩ := h
      obtain ⟨r, N, e, q⟩ := b_restore (d := 36) (gk := z.1.1) (nk := z.2.1) k0.1 k0.2.2.1 k0.2.1 k0.2.2.2.2.1 hx (fun y => absurd y c)
      obtain ⟨rfl, rfl⟩ := q.1 fun y => c ⟨y.1, y.2.1⟩
      exact e) fun M z h p => by
      obtain ⟨r, N, e, q⟩ := r_restore (d := 38) (gk := z.1.1) h.1.1 hx (fun y => absurd y c)
      obtain ⟨rfl, rfl⟩ := q.1 fun y => c ⟨y.1, y.2.1⟩
      exact e
end IMG2
