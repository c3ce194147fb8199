/-! what a line leaves -/
section LOK
variable {b : Nat → Nat} {n L p : Nat} {g : Nat → Int} {nm : Nat → List Nat} {on : Nat} {x : ST × Nat}
theorem lnWall_ok (hp : p ≤ n) (hs : RGs g) (hm : NMo g nm) (h : lnWall b n L g nm on p = .ok x) : RGs x.1.1 ∧ NMo x.1.1 x.1.2.1 ∧ tkN b n L p ≤ x.2 ∧ x.2 ≤ n := by
  have h0 := hs.1.1
  unfold lnWall at h
  by_cases c : g 0 = 5
  · rw [if_pos c] at h
    cases h
  rw [if_neg c] at h
  obtain ⟨k, hk⟩ := Nn h0.1
  have hk5 : k < 5 := by omega
  have ug : ∀ v w : Int, upf (upf g (8 + k) v) 0 w 1 = g 1 ∧ upf (upf g (8 + k) v) 0 w 2 = g 2 := fun v w => ⟨by simp (disch := omega) only [upf_ne], by simp (disch := omega) only [upf_ne]⟩
  obtain ⟨y, h1, h2⟩ := bnd_ok h
  obtain ⟨z, h3, h4⟩ := bnd_ok h2
  cases h4
  dsimp only
  have a1 := tk_four (b := b) (n := n) (L := L) hp
  have a2 := tk_four (b := b) (n := n) (L := L) a1.1.2.1
  have f1 := pFresh_ok h1
  have a3 := tk_four (b := b) (n := n) (L := L) a2.1.2.1
  have f2 := pNum_ok h3
  have l1 := (a2.2.1 f1.1).1
  rw [← f1.2.1] at l1
  rw [f1.2.2] at f2
  rw [f2.2.2.2, hk, Int.toNat_natCast]
  have q := RG_wall hs hk hk5 ⟨f2.2.1, f2.2.2.1⟩
  rw [hk] at q
  exact ⟨q, NMo_wall hm l1 hs hk hk5 (by rw [upf_eq, hk]) (ug _ _).1 (ug _ _).2, Nat.le_trans a2.1.1 a3.1.1, a3.1.2.1⟩
theorem lnHouse_ok (hp : p ≤ n) (hs : RGs g) (hm : NMo g nm) (h : lnHouse b n L g nm on p = .ok x) : RGs x.1.1 ∧ NMo x.1.1 x.1.2.1 ∧ tkN b n L p ≤ x.2 ∧ x.2 ≤ n := by
  have h0 := hs.1.2.1
  have h00 := hs.1.1
  unfold lnHouse at h
  by_cases c : g 1 = 10
  · rw [if_pos c] at h
    cases h
  rw [if_neg c] at h
  obtain ⟨k, hk⟩ := Nn h0.1
  have hk5 : k < 10 := by omega
  have ug : ∀ v w u z : Int, upf (upf (upf (upf g (13 + k) v) (23 + k) w) (33 + k) u) 1 z 0 = g 0 ∧ upf (upf (upf (upf g (13 + k) v) (23 + k) w) (33 + k) u) 1 z 2 = g 2 := fun v w u z => ⟨by simp (disch := omega) only [upf_ne], by simp (disch := omega) only [upf_ne]⟩
  obtain ⟨y, h1, h2⟩ := bnd_ok h
  obtain ⟨w, h3, h4⟩ := bnd_ok h2
  obtain ⟨z, h5, h6⟩ := bnd_ok h4
  obtain ⟨u, h7, h8⟩ := bnd_ok h6
  cases h8
  dsimp only
  have a1 := tk_four (b := b) (n := n) (L := L) hp
  have a2 := tk_four (b := b) (n := n) (L := L) a1.1.2.1
  have f1 := pFresh_ok h1
  have a3 := tk_four (b := b) (n := n) (L := L) a2.1.2.1
  have f2 := pWO_ok h00.1 h3
  have a4 := tk_four (b := b) (n := n) (L := L) a3.1.2.1
  have f3 := pNum_ok h5
  have a5 := tk_four (b := b) (n := n) (L := L) a4.1.2.1
  have f4 := pNum_ok h7
  have l1 := (a2.2.1 f1.1).1
  rw [← f1.2.1] at l1
  rw [f1.2.2] at f2 f3
  rw [f3.2.2.2] at f4
  rw [f4.2.2.2, hk, Int.toNat_natCast]
  have q := RG_house hs hk hk5 f2.2 ⟨f3.2.1, f3.2.2.1⟩ ⟨f4.2.1, f4.2.2.1⟩
  rw [hk] at q
  exact ⟨q, NMo_house hm l1 hs hk hk5 (ug _ _ _ _).1 (by rw [upf_eq, hk]) (ug _ _ _ _).2, Nat.le_trans a2.1.1 (Nat.le_trans a3.1.1 (Nat.le_trans a4.1.1 a5.1.1)), a5.1.2.1⟩
theorem lnDrain_ok (hp : p ≤ n) (hs : RGs g) (hm : NMo g nm) (h : lnDrain b n L g nm on p = .ok x) : RGs x.1.1 ∧ NMo x.1.1 x.1.2.1 ∧ tkN b n L p ≤ x.2 ∧ x.2 ≤ n := by
  have h0 := hs.1.2.2.1
  have h00 := hs.1.1
  unfold lnDrain at h
  by_cases c : g 2 = 6
  · rw [if_pos c] at h
    cases h
  rw [if_neg c] at h
  obtain ⟨k, hk⟩ := Nn h0.1
  have hk5 : k < 6 := by omega
  have ug : ∀ v w u z : Int, upf (upf (upf (upf g (43 + k) v) (49 + k) w) (55 + k) u) 2 z 0 = g 0 ∧ upf (upf (upf (upf g (43 + k) v) (49 + k) w) (55 + k) u) 2 z 1 = g 1 := fun v w u z => ⟨by simp (disch := omega) only [upf_ne], by simp (disch := omega) only [upf_ne]⟩
  obtain ⟨y, h1, h2⟩ := bnd_ok h
  obtain ⟨w, h3, h4⟩ := bnd_ok h2
  obtain ⟨z, h5, h6⟩ := bnd_ok h4
  obtain ⟨u, h7, h8⟩ := bnd_ok h6
  cases h8
  dsimp only
  have a1 := tk_four (b := b) (n := n) (L := L) hp
  have a2 := tk_four (b := b) (n := n) (L := L) a1.1.2.1
  have f1 := pFresh_ok h1
  have a3 := tk_four (b := b) (n := n) (L := L) a2.1.2.1
  have f2 := pNamed_ok h3
  have a4 := tk_four (b := b) (n := n) (L := L) a3.1.2.1
  have f3 := pNum_ok h5
  have a5 := tk_four (b := b) (n := n) (L := L) a4.1.2.1
  have f4 := pNum_ok h7
  have l1 := (a2.2.1 f1.1).1
  rw [← f1.2.1] at l1
  rw [f1.2.2] at f2 f3
  rw [f3.2.2.2] at f4
  rw [f4.2.2.2, hk, Int.toNat_natCast]
  have q := RG_drain hs hk hk5 (w := w) ⟨f2.2.1, by have := f2.2.2; rw [Int.toNat_of_nonneg h00.1] at this; exact this⟩ ⟨f3.2.1, f3.2.2.1⟩ ⟨f4.2.1, f4.2.2.1⟩
  rw [hk] at q
  exact ⟨q, NMo_drain hm l1 hs hk hk5 (ug _ _ _ _).1 (ug _ _ _ _).2 (by rw [upf_eq, hk]), Nat.le_trans a2.1.1 (Nat.le_trans a3.1.1 (Nat.le_trans a4.1.1 a5.1.1)), a5.1.2.1⟩
theorem lnCrest_ok (hp : p ≤ n) (hs : RGs g) (hm : NMo g nm) (h : lnPair b n L 3 6 61 60 67 1 99 g nm on p = .ok x) : RGs x.1.1 ∧ NMo x.1.1 x.1.2.1 ∧ tkN b n L p ≤ x.2 ∧ x.2 ≤ n := by
  have h0 := hs.1.2.2.2.1
  unfold lnPair at h
  by_cases c : g 3 = (6 : Nat)
  · rw [if_pos c] at h
    cases h
  rw [if_neg c] at h
  obtain ⟨k, hk⟩ := Nn h0.1
  have hk5 : k < 6 := by omega
  have ug : ∀ v w u : Int, upf (upf (upf g (61 + k) v) (67 + k) w) 3 u 0 = g 0 ∧ upf (upf (upf g (61 + k) v) (67 + k) w) 3 u 1 = g 1 ∧ upf (upf (upf g (61 + k) v) (67 + k) w) 3 u 2 = g 2 := fun v w u => ⟨by simp (disch := omega) only [upf_ne], by simp (disch := omega) only [upf_ne], by simp (disch := omega) only [upf_ne]⟩
  obtain ⟨y, h1, h2⟩ := bnd_ok h
  by_cases c2 : ∃ k, k < (g 3).toNat ∧ g (61 + k) = y
  · rw [if_pos c2] at h2
    cases h2
  rw [if_neg c2] at h2
  obtain ⟨z, h3, h4⟩ := bnd_ok h2
  cases h4
  dsimp only
  have a1 := tk_four (b := b) (n := n) (L := L) hp
  have a2 := tk_four (b := b) (n := n) (L := L) a1.1.2.1
  have f1 := pSee_ok h1
  have a3 := tk_four (b := b) (n := n) (L := L) a2.1.2.1
  have f2 := pNum_ok h3
  rw [f2.2.2.2]
  rw [hk, Int.toNat_natCast] at c2
  rw [hk, Int.toNat_natCast]
  have q := RG_crest hs hk hk5 ⟨f1.2.1, f1.2.2.1⟩ ⟨f2.2.1, f2.2.2.1⟩ (fun j hj e => c2 ⟨j, hj, e⟩)
  rw [hk] at q
  exact ⟨q, NMo_same hm (ug _ _ _).1 (ug _ _ _).2.1 (ug _ _ _).2.2, Nat.le_trans a2.1.1 a3.1.1, a3.1.2.1⟩
theorem lnGauge_ok (hp : p ≤ n) (hs : RGs g) (hm : NMo g nm) (h : lnPair b n L 4 8 73 47 81 0 60 g nm on p = .ok x) : RGs x.1.1 ∧ NMo x.1.1 x.1.2.1 ∧ tkN b n L p ≤ x.2 ∧ x.2 ≤ n := by
  have h0 := hs.1.2.2.2.2.1
  unfold lnPair at h
  by_cases c : g 4 = (8 : Nat)
  · rw [if_pos c] at h
    cases h
  rw [if_neg c] at h
  obtain ⟨k, hk⟩ := Nn h0.1
  have hk5 : k < 8 := by omega
  have ug : ∀ v w u : Int, upf (upf (upf g (73 + k) v) (81 + k) w) 4 u 0 = g 0 ∧ upf (upf (upf g (73 + k) v) (81 + k) w) 4 u 1 = g 1 ∧ upf (upf (upf g (73 + k) v) (81 + k) w) 4 u 2 = g 2 := fun v w u => ⟨by simp (disch := omega) only [upf_ne], by simp (disch := omega) only [upf_ne], by simp (disch := omega) only [upf_ne]⟩
  obtain ⟨y, h1, h2⟩ := bnd_ok h
  by_cases c2 : ∃ k, k < (g 4).toNat ∧ g (73 + k) = y
  · rw [if_pos c2] at h2
    cases h2
  rw [if_neg c2] at h2
  obtain ⟨z, h3, h4⟩ := bnd_ok h2
  cases h4
  dsimp only
  have a1 := tk_four (b := b) (n := n) (L := L) hp
  have a2 := tk_four (b := b) (n := n) (L := L) a1.1.2.1
  have f1 := pSee_ok h1
  have a3 := tk_four (b := b) (n := n) (L := L) a2.1.2.1
  have f2 := pNum_ok h3
  rw [f2.2.2.2]
  rw [hk, Int.toNat_natCast] at c2
  rw [hk, Int.toNat_natCast]
  have q := RG_gauge hs hk hk5 ⟨f1.2.1, f1.2.2.1⟩ ⟨f2.2.1, f2.2.2.1⟩ (fun j hj e => c2 ⟨j, hj, e⟩)
  rw [hk] at q
  exact ⟨q, NMo_same hm (ug _ _ _).1 (ug _ _ _).2.1 (ug _ _ _).2.2, Nat.le_trans a2.1.1 a3.1.1, a3.1.2.1⟩
theorem lnOnce_ok {k to : Nat} {lo hi : Int} (hp : p ≤ n) (hs : RGs g) (hm : NMo g nm) (ht : (to = 5 ∧ lo = 1 ∧ hi = 60) ∨ (to = 6 ∧ lo = 0 ∧ hi = 999) ∨ (to = 7 ∧ lo = 1 ∧ hi = 20)) (h : lnOnce b n L k to lo hi g nm on p = .ok x) : RGs x.1.1 ∧ NMo x.1.1 x.1.2.1 ∧ tkN b n L p ≤ x.2 ∧ x.2 ≤ n := by
  unfold lnOnce at h
  by_cases c : bt on k = 1
  · rw [if_pos c] at h
    cases h
  rw [if_neg c] at h
  obtain ⟨z, h3, h4⟩ := bnd_ok h
  cases h4
  dsimp only
  have f2 := pNum_ok h3
  have q := RG_once hs (to := to) (y := z.1) (by omega)
  have t3 : 2 < to := by omega
  have a1 := tk_four (b := b) (n := n) (L := L) hp
  have a2 := tk_four (b := b) (n := n) (L := L) a1.1.2.1
  rw [f2.2.2.2]
  exact ⟨q, NMo_same hm (upf_ne (Nat.ne_of_lt (Nat.lt_trans (by decide) t3))) (upf_ne (Nat.ne_of_lt (Nat.lt_trans (by decide) t3))) (upf_ne (Nat.ne_of_lt t3)), a2.1.1, a2.1.2.1⟩
theorem lnS_ok (hp : p ≤ n) (hs : RGs g) (hm : NMo g nm) (h : lnS b n L g nm on p = .ok x) : RGs x.1.1 ∧ NMo x.1.1 x.1.2.1 ∧ tkN b n L p ≤ x.2 ∧ x.2 ≤ n := by
  unfold lnS at h
  by_cases c0 : tkW b n L p = 0
  · rw [if_pos c0] at h
    exact lnWall_ok hp hs hm h
  rw [if_neg c0] at h
  by_cases c1 : tkW b n L p = 1
  · rw [if_pos c1] at h
    exact lnHouse_ok hp hs hm h
  rw [if_neg c1] at h
  by_cases c3 : tkW b n L p = 3
  · rw [if_pos c3] at h
    exact lnDrain_ok hp hs hm h
  rw [if_neg c3] at h
  by_cases c4 : tkW b n L p = 4
  · rw [if_pos c4] at h
    exact lnCrest_ok hp hs hm h
  rw [if_neg c4] at h
  by_cases c5 : tkW b n L p = 5
  · rw [if_pos c5] at h
    exact lnGauge_ok hp hs hm h
  rw [if_neg c5] at h
  by_cases c6 : tkW b n L p = 6
  · rw [if_pos c6] at h
    exact lnOnce_ok hp hs hm (by omega) h
  rw [if_neg c6] at h
  by_cases c7 : tkW b n L p = 7
  · rw [if_pos c7] at h
    exact lnOnce_ok hp hs hm (by omega) h
  rw [if_neg c7] at h
  by_cases c8 : tkW b n L p = 8
  · rw [if_pos c8] at h
    exact lnOnce_ok hp hs hm (by omega) h
  rw [if_neg c8] at h
  cases h
theorem lnS_w (h : lnS b n L g nm on p = .ok x) : tkK b n L p = 2 := by
  refine tkW_2.mp ?_
  generalize e : tkW b n L p = w at *
  by_cases c : w ≤ 8
  · omega
  · exfalso
    unfold lnS at h
    rw [e, if_neg (by omega), if_neg (by omega), if_neg (by omega), if_neg (by omega), if_neg (by omega), if_neg (by omega), if_neg (by omega), if_neg (by omega)] at h
    cases h
theorem lns_step {q : Nat} (hp : p ≤ n) (hs : RGs g) (hm : NMo g nm) (h : lnS b n L g nm on p = .ok x) (h2 : pSign b n L 59 x.2 = .ok q) : RGs x.1.1 ∧ NMo x.1.1 x.1.2.1 ∧ p + 2 ≤ q ∧ q ≤ n := by
  obtain ⟨a1, a2, a3, a4⟩ := lnS_ok hp hs hm h
  have k1 := lnS_w h
  have b1 := (tk_four (b := b) (L := L) hp).1.2.2.2.1 (by rw [k1]; decide)
  have k2 := pSign_ok h2
  have b2 := (tk_four (b := b) (L := L) a4).1
  have b3 := b2.2.2.2.1 (by rw [k2.1]; decide)
  rw [k2.2]
  exact ⟨a1, a2, Nat.succ_le_of_lt (Nat.lt_of_le_of_lt (Nat.le_trans (Nat.succ_le_of_lt b1) a3) b3), b2.2.1⟩
theorem RGs_00 : RGs g00 := by
  refine ⟨by decide, fun w hw => ?_, fun k hk => ?_, fun k hk => ?_, fun k hk => ?_, fun k hk => ?_, fun j k hj hk => ?_, fun j k hj hk => ?_⟩
  · rw [show g00 (8 + w) = 0 by unfold g00; rw [if_neg (by omega), if_neg (by omega), if_neg (by omega)], show g00 0 = 0 from rfl]
    omega
  · rw [show g00 (13 + k) = 0 by unfold g00; rw [if_neg (by omega), if_neg (by omega), if_neg (by omega)], show g00 (23 + k) = 0 by unfold g00; rw [if_neg (by omega), if_neg (by omega), if_neg (by omega)], show g00 (33 + k) = 0 by unfold g00; rw [if_neg (by omega), if_neg (by omega), if_neg (by omega)], show g00 0 = 0 from rfl, show g00 1 = 0 from rfl]
    omega
  · rw [show g00 (43 + k) = 0 by unfold g00; rw [if_neg (by omega), if_neg (by omega), if_neg (by omega)], show g00 (49 + k) = 0 by unfold g00; rw [if_neg (by omega), if_neg (by omega), if_neg (by omega)], show g00 (55 + k) = 0 by unfold g00; rw [if_neg (by omega), if_neg (by omega), if_neg (by omega)], show g00 0 = 0 from rfl, show g00 2 = 0 from rfl]
    omega
  · rw [show g00 (61 + k) = 0 by unfold g00; rw [if_neg (by omega), if_neg (by omega), if_neg (by omega)], show g00 (67 + k) = 0 by unfold g00; rw [if_neg (by omega), if_neg (by omega), if_neg (by omega)], show g00 3 = 0 from rfl]
    omega
  · rw [show g00 (73 + k) = 0 by unfold g00; rw [if_neg (by omega), if_neg (by omega), if_neg (by omega)], show g00 (81 + k) = 0 by unfold g00; rw [if_neg (by omega), if_neg (by omega), if_neg (by omega)]]
    omega
  · rw [show g00 3 = 0 from rfl] at hj
    exact absurd hj (by omega)
  · rw [show g00 4 = 0 from rfl] at hj
    exact absurd hj (by omega)
theorem NMo_00 : NMo g00 nm := by
  refine ⟨fun k hk => ?_, fun k hk => ?_, fun k hk => ?_⟩
  · rw [show g00 0 = 0 from rfl] at hk
    exact absurd hk (by omega)
  · rw [show g00 1 = 0 from rfl] at hk
    exact absurd hk (by omega)
  · rw [show g00 2 = 0 from rfl] at hk
    exact absurd hk (by omega)
end LOK
