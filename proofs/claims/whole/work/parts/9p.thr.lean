/-! ===== house, plan, sure: the class returns or throws ===== -/
section THR
variable {M : Mm} {ps : Nat} {g : Nat → Int}
theorem x_house {d : Nat} (hb : CB M ps g) {h x : Int} (hh : (-2147483648 ≤ h ∧ h < 2147483648)) (hx : (-2147483648 ≤ x ∧ x < 2147483648)) : EvX (d + 6) 5 [.ref 1, .int (I h), .int (I x)] M (houseO g h x) (some (.int (I (houseV g h.toNat x)))) M := by
  obtain ⟨hp, ep, hr, hc, hs, hd, hn⟩ := hb
  have h1 := hs.1.2.1
  refine EvX.intro (C := k_B_house) (pcT := 20) (nT := 26) (is := 167) (text := xT1) ok_B_house rfl (by decide +kernel) rfl rfl rfl (by omega) (by decide +kernel) (by decide +kernel) (Or.inl ⟨by decide +kernel, rfl⟩) (by decide +kernel) (by decide +kernel) (Or.inl ⟨rfl, rfl⟩) ?_ rfl
  intro At step thr
  refine w_B_house ?_
  rw [ep]
  refine ⟨hp, _, _, c_hasHouse hp hr hs hh, fun q => ?_, fun q => ?_⟩
  · rw [bI0] at q
    exact thr _ fun z => q z.1
  have qh : 0 ≤ h ∧ h < g 1 := Classical.byContradiction fun z => q (by rw [bI0]; exact z)
  obtain ⟨k, rfl⟩ : ∃ k : Nat, h = k := ⟨h.toNat, by omega⟩
  rw [Int.toNat_natCast]
  rw [I_lt (by omega) (by omega) (by omega) (by omega), I_lt (by omega) (by omega) (by omega) (by omega)]
  refine ⟨fun q => thr _ fun z => absurd q (by have := z.2; omega), fun q1 => ⟨fun q => thr _ fun z => absurd q (by have := z.2; omega), fun q2 => ?_⟩⟩
  have ok : houseO g k x := ⟨qh, by omega, by omega⟩
  have hk : k < 10 := by omega
  obtain ⟨w1, w2, w3⟩ := hr.2.2.1 k qh.2
  have w4 := hc.2.2.2 k hk
  have w5 := hd.2.2.2 k hk
  have b1 := hd.1.2.2.2.2.2.2.2.2.2.2.1
  rw [ep, ixI (by omega) (by omega), Int.toNat_natCast, w1, w2, w3, show (203 : Nat) = 200 + 3 from rfl, w4, I_ne (by omega) (by omega) (by omega) (by omega), I_ne (by omega) (by omega) (by omega) (by omega), I_ne (by omega) (by omega) (by omega) (by omega), I_ne (by omega) (by omega) (by omega) (by omega), I_ne (by omega) (by omega) (by omega) (by omega)]
  unfold houseV
  refine ⟨fun q => ⟨hp, inRI (by omega) (by omega) (by omega), ok, ?_, rfl⟩, fun q => ⟨hp, inRI (by omega) (by omega) (by omega), ok, ?_, rfl⟩, fun q => ⟨hp, inRI (by omega) (by omega) (by omega), ok, ?_, rfl⟩, fun q => ?_, fun q => ⟨inRI (by omega) (by omega) (by omega), ok, ?_, rfl⟩, fun q => ?_⟩
  · rw [if_pos q]
  · rw [if_neg (by omega), if_pos q]
  · rw [if_neg (by omega), if_neg (by omega), if_pos q]
  · rw [if_neg (by omega), if_neg (by omega), if_neg (by omega), if_pos q]
    refine ⟨_, _, c_isFlooded (by simp [Sa]) hc hd hk, fun y => ⟨ok, ?_, rfl⟩, fun y => ⟨ok, ?_, rfl⟩⟩
    · by_cases c : g (112 + k) = 0
      · have : bt (g 100).toNat k ≠ 1 := fun z => w5.2.2.1.mp z c
        have b2 : bt (g 100).toNat k < 2 := Nat.mod_lt _ (by decide)
        rw [show bt (g 100).toNat k = 0 by omega]
        rfl
      · rw [if_neg c] at y
        exact absurd y (by decide)
    · by_cases c : g (112 + k) = 0
      · rw [if_pos c] at y
        exact absurd rfl y
      · rw [w5.2.2.1.mpr c]
        rfl
  · rw [if_neg (by omega), if_neg (by omega), if_neg (by omega), if_neg (by omega), if_pos q]
  · rw [if_neg (by omega), if_neg (by omega), if_neg (by omega), if_neg (by omega), if_neg (by omega)]
    have e10 : M.1 200 10 = I ((g 99).toNat : Int) := by
      rw [hc.1.2.2.2.2.2.2.2.2.2.2]
      exact congrArg I (by omega)
    rw [e10]
    exact ⟨_, _, c_bit (by omega) hk, ok, rfl, rfl⟩
theorem c_fro {d : Nat} (hp : St ps) (hr : CSr M ps g) (hs : RGs g) {t : Int} (ht : (-2147483648 ≤ t ∧ t < 2147483648)) : Ev (d + 1) 182 [.ref (ps + 11), .int (I t)] M (some (.int (I (froG g t)))) M := by
  have h3 := hs.1.2.2.2.1
  refine c_sumFrom (ks := fun k => g (61 + k)) (vs := fun k => g (67 + k)) (n := (g 3).toNat) (St_cr hp) ?_ (by omega) (fun k hk => (hr.2.2.2.2.1 k (by omega)).1) (fun k hk => (hr.2.2.2.2.1 k (by omega)).2) ht (fun k hk => ?_)
  · rw [hr.1.2.2.2.1]
    exact congrArg I (by omega)
  · have := hs.2.2.2.2.1 k (by omega)
    omega
theorem allG_fro (hs : RGs g) : froG g 0 = allG g := by
  have h3 := hs.1.2.2.2.1
  unfold froG allG
  refine sumL_congr fun k hk => ?_
  have := hs.2.2.2.2.1 k (by omega)
  rw [if_neg (by omega)]
theorem x_plan {d W : Nat} (hb : CB M ps g) (eW : g 0 = W) {b x : Int} (hbb : (-2147483648 ≤ b ∧ b < 2147483648)) (hx : (-2147483648 ≤ x ∧ x < 2147483648)) : ∃ N, (planO g b x → N.1 40 6 = I W ∧ (∀ v, v < W → N.1 55 v = I (hV g (dv (hN g) (plE g W b).2.2 (W - 1 - v) % hN g))) ∧ FrP M N) ∧ EvX (d + 9) 16 [.ref 1, .int (I b), .int (I x)] M (planO g b x) (some (.int (I (planV g W b x)))) N := by
  obtain ⟨hp, ep, hr, hc, hs, hd, hn⟩ := hb
  have h3 := hs.1.2.2.2.1
  have e3 : M.1 (ps + 11) 2 = I (g 3) := hr.1.2.2.2.1
  have pre : ∀ (N : Mm) {At : JJ} {Q : Option Value → Mm → Prop}, (∀ L, ¬ planO g b x → At 33 L [] M) → (planO g b x → wp (Ev (d + 8)) At Q X0 k_B_plan 1000 k_B_plan [.ref 1, .int (I b), .int (I x)] [] M) → ¬ planO g b x → wp (Ev (d + 8)) At Q X0 k_B_plan 1000 k_B_plan [.ref 1, .int (I b), .int (I x)] [] M := by
    intro N At Q thr _ no
    refine w_B_plan ?_
    refine ⟨_, _, c_isWithin hbb (by omega) (by omega), fun _ => thr _ no, fun q => ⟨_, _, c_isWithin hx (by omega) (by omega), fun _ => thr _ no, fun q2 => ?_⟩⟩
    rw [ep, e3, I_ne (by omega) (by omega) (by omega) (by omega)]
    refine ⟨hp, fun _ => thr _ no, fun q3 => ?_⟩
    rw [bI0] at q q2
    exact absurd ⟨Classical.byContradiction q, Classical.byContradiction q2, q3⟩ no
  by_cases ok : planO g b x
  · obtain ⟨r, N, eN, rfl, n1, n2, n3, n4⟩ := c_choose (d := d) hp hr hs eW ok.1
    refine ⟨N, fun _ => ⟨n1, n3, n4⟩, ?_⟩
    have hnW := hN_b hs
    have aB := allG_b hs
    refine EvX.intro (C := k_B_plan) (pcT := 33) (nT := 40) (is := 310) (text := xT2) ok_B_plan rfl (by decide +kernel) rfl rfl rfl (by omega) (by decide +kernel) (by decide +kernel) (Or.inr ⟨by decide +kernel, rfl⟩) (by decide +kernel) (by decide +kernel) (Or.inr (Or.inl ⟨rfl, rfl⟩)) ?_ (by
      show N.2.2 900 0 = _
      rw [n4.2]
      rfl)
    intro At step thr
    refine w_B_plan ?_
    refine ⟨_, _, c_isWithin hbb (by omega) (by omega), fun q => ?_, fun _ => ⟨_, _, c_isWithin hx (by omega) (by omega), fun q => ?_, fun _ => ?_⟩⟩
    · rw [bI0] at q
      exact absurd ok.1 q
    · rw [bI0] at q
      exact absurd ok.2.1 q
    rw [ep, e3, I_ne (by omega) (by omega) (by omega) (by omega)]
    refine ⟨hp, fun q => absurd q ok.2.2, fun _ => ?_⟩
    have epN : N.2.2 1 2 = ps := by rw [n4.2]; exact ep
    have hfar : 56 ≤ ps := by rcases hp with rfl | rfl | rfl | rfl <;> decide
    have hrN : CSr N ps g := hr.of fun a h1 h2 => n4.1 a (by omega)
    refine ⟨N, eN, ?_⟩
    rw [epN, n2]
    refine ⟨hp, _, _, c_fro hp hrN hs (by omega), ?_⟩
    have h0 := hs.1.1
    have q1 := plE_R (W := W) hs (by omega) ok.1
    have q2 := plR_b (W := W) hs (by omega) ok.1 (hN g ^ W)
    have q3 := gaS_b hs (w := -1) (h := 0)
    have aP := aB.2.2 (by have := ok.2.2; omega)
    rw [allG_fro hs, show I (plE g W b).1 = I (((plE g W b).1.toNat : Nat) : Int) from congrArg I (by omega), show I (allG g) = I (((allG g).toNat : Nat) : Int) from congrArg I (by omega)]
    exact ⟨_, _, c_fraction (by omega) (by omega) (by omega) hx, ok, rfl, rfl⟩
  · refine ⟨M, fun y => absurd y ok, ?_⟩
    refine EvX.intro (C := k_B_plan) (pcT := 33) (nT := 40) (is := 310) (text := xT2) ok_B_plan rfl (by decide +kernel) rfl rfl rfl (by omega) (by decide +kernel) (by decide +kernel) (Or.inr ⟨by decide +kernel, rfl⟩) (by decide +kernel) (by decide +kernel) (Or.inr (Or.inl ⟨rfl, rfl⟩)) ?_ rfl
    intro At step thr
    exact pre M thr (fun y => absurd y ok) ok
theorem x_sure {d : Nat} (hb : CB M ps g) {h l x : Int} (hh : (-2147483648 ≤ h ∧ h < 2147483648)) (hl : (-2147483648 ≤ l ∧ l < 2147483648)) (hx : (-2147483648 ≤ x ∧ x < 2147483648)) : EvX (d + 7) 18 [.ref 1, .int (I h), .int (I l), .int (I x)] M (sureO g h l x) (some (.int (I (sureV g h l x)))) M := by
  obtain ⟨hp, ep, hr, hc, hs, hd, hn⟩ := hb
  have f0 := froG_b hs (l := l)
  refine EvX.intro (C := k_B_sure) (pcT := 55) (nT := 62) (is := 328) (text := xT3) ok_B_sure rfl (by decide +kernel) rfl rfl rfl (by omega) (by decide +kernel) (by decide +kernel) (Or.inr ⟨by decide +kernel, rfl⟩) (by decide +kernel) (by decide +kernel) (Or.inr (Or.inr ⟨rfl, rfl⟩)) ?_ rfl
  intro At step thr
  refine w_B_sure ?_
  refine ⟨_, _, c_isWithin hh (by omega) (by omega), fun q => ?_, fun q1 => ⟨_, _, c_isWithin hl (by omega) (by omega), fun q => ?_, fun q2 => ⟨_, _, c_isWithin hx (by omega) (by omega), fun q => ?_, fun q3 => ?_⟩⟩⟩
  · rw [bI0] at q
    exact thr _ fun z => q z.1
  · rw [bI0] at q
    exact thr _ fun z => q z.2.1
  · rw [bI0] at q
    exact thr _ fun z => q z.2.2.1
  have r1 : 0 ≤ h ∧ h ≤ 60 := Classical.byContradiction fun z => q1 (by rw [bI0]; exact z)
  have r2 : 0 ≤ l ∧ l ≤ 60 := Classical.byContradiction fun z => q2 (by rw [bI0]; exact z)
  have r3 : 0 ≤ x ∧ x ≤ 1 := Classical.byContradiction fun z => q3 (by rw [bI0]; exact z)
  rw [ep]
  refine ⟨hp, _, _, c_fro hp hr hs hl, fun q => ?_, fun q => ?_⟩
  · rw [I_ne (by omega) (by omega) (by omega) (by omega)] at q
    exact thr _ fun z => z.2.2.2 q
  rw [I_ne (by omega) (by omega) (by omega) (by omega)] at q
  have ok : sureO g h l x := ⟨r1, r2, r3, q⟩
  rw [ep]
  refine ⟨hp, _, _, c_fro hp hr hs hl, ?_⟩
  rw [ep, I_add]
  have lt : I (h + 1) < I l ↔ h + 1 < l := by
    rw [I_lt (by omega) (by omega) (by omega) (by omega)]
  have e : (if I (h + 1) < I l then I l else I (h + 1)) = I (if h + 1 ≤ l then l else h + 1) := by
    by_cases c : h + 1 < l
    · rw [if_pos (lt.mpr c), if_pos (by omega)]
    · rw [if_neg fun y => c (lt.mp y)]
      by_cases c2 : h + 1 ≤ l
      · rw [if_pos c2]
        exact congrArg I (by omega)
      · rw [if_neg c2]
  rw [e]
  refine ⟨hp, _, _, c_fro hp hr hs (by split <;> omega), ?_⟩
  have u1 := uptG_d (g := g) (h := h) (l := l)
  have f1 := froG_b hs (l := if h + 1 ≤ l then l else h + 1)
  have u2 : 0 ≤ uptG g h l := by
    unfold uptG
    refine (sumL_b (c := 99) (N := (g 3).toNat) (fun k hk => ?_) (by decide) _ (Nat.le_refl _)).1
    have h3 := hs.1.2.2.2.1
    have := hs.2.2.2.2.1 k (by omega)
    split
    · omega
    · split <;> omega
  rw [I_sub, ← u1, show I (uptG g h l) = I (((uptG g h l).toNat : Nat) : Int) from congrArg I (by omega), show I (froG g l) = I (((froG g l).toNat : Nat) : Int) from congrArg I (by omega)]
  exact ⟨_, _, c_fraction (by omega) (by omega) (by omega) hx, ok, rfl, rfl⟩
end THR
