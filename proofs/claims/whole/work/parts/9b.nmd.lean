/-! ===== no wall is named as a drain is; planAt ===== -/
section NMD
variable {b : Nat → Nat} {n L p : Nat} {g : Nat → Int} {nm : Nat → List Nat} {on : Nat} {x : ST × Nat}
theorem fdS_n {l : List Nat} {f : Nat} : ∀ m k : Nat, fdS nm l f m k = -1 → ∀ j, k ≤ j → j < k + m → nm (f + j) ≠ l
  | 0, k, _, j, h1, h2 => absurd h2 (by omega)
  | m + 1, k, h, j, h1, h2 => by
    rw [fdS_s] at h
    by_cases e : nm (f + k) = l
    · rw [if_pos e] at h
      exact absurd h (by omega)
    · rw [if_neg e] at h
      by_cases c : j = k
      · rw [c]
        exact e
      · exact fdS_n m (k + 1) h j (by omega) (by omega)
theorem fnd_n {l : List Nat} {f m : Nat} (h : fnd nm l f m = -1) {j : Nat} (hj : j < m) : nm (f + j) ≠ l := fdS_n m 0 h j (by omega) (by omega)
theorem pFresh_n {y : List Nat × Nat} (h : pFresh b n L g nm p = .ok y) : (∀ k : Nat, (k : Int) < g 0 → nm k ≠ y.1) ∧ ∀ k : Nat, (k : Int) < g 2 → nm (15 + k) ≠ y.1 := by
  have e := (pFresh_ok h).2.1
  unfold pFresh at h
  by_cases h1 : tkW b n L p = 23
  · rw [if_pos h1] at h
    by_cases h2 : fnd nm (tkL b n p) 0 (g 0).toNat ≠ -1 ∨ fnd nm (tkL b n p) 5 (g 1).toNat ≠ -1 ∨ fnd nm (tkL b n p) 15 (g 2).toNat ≠ -1
    · rw [if_pos h2] at h
      cases h
    · have c1 : fnd nm (tkL b n p) 0 (g 0).toNat = -1 := Classical.byContradiction fun z => h2 (Or.inl z)
      have c2 : fnd nm (tkL b n p) 15 (g 2).toNat = -1 := Classical.byContradiction fun z => h2 (Or.inr (Or.inr z))
      rw [e]
      refine ⟨fun k hk => ?_, fun k hk => fnd_n c2 (by clear h2 c1 c2 h h1; omega)⟩
      have := fnd_n c1 (j := k) (by clear h2 c1 c2 h h1; omega)
      rw [Nat.zero_add] at this
      exact this
  · rw [if_neg h1] at h
    cases h
theorem lnWall_d (hs : RGs g) (hd : NMd g nm) (h : lnWall b n L g nm on p = .ok x) : NMd x.1.1 x.1.2.1 := by
  have h0 := hs.1.1
  unfold lnWall at h
  by_cases c : g 0 = 5
  · rw [if_pos c] at h
    cases h
  rw [if_neg c] at h
  obtain ⟨k, hk⟩ := Nn h0.1
  have hk5 : k < 5 := by omega
  obtain ⟨y, h1, h2⟩ := bnd_ok h
  obtain ⟨z, h3, h4⟩ := bnd_ok h2
  cases h4
  have f1 := pFresh_n h1
  rw [hk, Int.toNat_natCast]
  intro w j hw hj
  dsimp only at hw hj ⊢
  rw [upf_eq] at hw
  rw [show (upf (upf g (8 + k) z.1) 0 ((k : Int) + 1)) 2 = g 2 by simp (disch := omega) only [upf_ne]] at hj
  rw [upf_ne (show 15 + j ≠ k by omega)]
  by_cases e : w = k
  · rw [e, upf_eq]
    exact fun q => f1.2 j hj q.symm
  · rw [upf_ne e]
    exact hd w j (by omega) hj
theorem lnHouse_d (hs : RGs g) (hd : NMd g nm) (h : lnHouse b n L g nm on p = .ok x) : NMd x.1.1 x.1.2.1 := by
  have h0 := hs.1.1
  have h1' := hs.1.2.1
  unfold lnHouse at h
  by_cases c : g 1 = 10
  · rw [if_pos c] at h
    cases h
  rw [if_neg c] at h
  obtain ⟨k, hk⟩ := Nn h1'.1
  have hk5 : k < 10 := by omega
  obtain ⟨y, h1, h2⟩ := bnd_ok h
  obtain ⟨w, h3, h4⟩ := bnd_ok h2
  obtain ⟨z, h5, h6⟩ := bnd_ok h4
  obtain ⟨u, h7, h8⟩ := bnd_ok h6
  cases h8
  rw [hk, Int.toNat_natCast]
  intro w' j hw hj
  dsimp only at hw hj ⊢
  rw [show (upf (upf (upf (upf g (13 + k) w) (23 + k) z.1) (33 + k) u.1) 1 ((k : Int) + 1)) 0 = g 0 by simp (disch := omega) only [upf_ne]] at hw
  rw [show (upf (upf (upf (upf g (13 + k) w) (23 + k) z.1) (33 + k) u.1) 1 ((k : Int) + 1)) 2 = g 2 by simp (disch := omega) only [upf_ne]] at hj
  rw [upf_ne (show 15 + j ≠ 5 + k by omega), upf_ne (show w' ≠ 5 + k by omega)]
  exact hd w' j hw hj
theorem lnDrain_d (hs : RGs g) (hd : NMd g nm) (h : lnDrain b n L g nm on p = .ok x) : NMd x.1.1 x.1.2.1 := by
  have h0 := hs.1.1
  have h1' := hs.1.2.2.1
  unfold lnDrain at h
  by_cases c : g 2 = 6
  · rw [if_pos c] at h
    cases h
  rw [if_neg c] at h
  obtain ⟨k, hk⟩ := Nn h1'.1
  have hk5 : k < 6 := by omega
  obtain ⟨y, h1, h2⟩ := bnd_ok h
  obtain ⟨w, h3, h4⟩ := bnd_ok h2
  obtain ⟨z, h5, h6⟩ := bnd_ok h4
  obtain ⟨u, h7, h8⟩ := bnd_ok h6
  cases h8
  have f1 := pFresh_n h1
  rw [hk, Int.toNat_natCast]
  intro w' j hw hj
  dsimp only at hw hj ⊢
  rw [show (upf (upf (upf (upf g (43 + k) w) (49 + k) z.1) (55 + k) u.1) 2 ((k : Int) + 1)) 0 = g 0 by simp (disch := omega) only [upf_ne]] at hw
  rw [upf_eq] at hj
  rw [upf_ne (show w' ≠ 15 + k by omega)]
  by_cases e : j = k
  · rw [e, upf_eq]
    exact f1.1 w' hw
  · rw [upf_ne (show 15 + j ≠ 15 + k by omega)]
    exact hd w' j hw (by omega)
theorem lnPair_d {cnt most fst snd : Nat} {high lo hi : Int} (hc : 2 < cnt ∧ 2 < fst ∧ 2 < snd) (hd : NMd g nm) (h : lnPair b n L cnt most fst high snd lo hi g nm on p = .ok x) : NMd x.1.1 x.1.2.1 := by
  unfold lnPair at h
  by_cases c : g cnt = most
  · rw [if_pos c] at h
    cases h
  rw [if_neg c] at h
  obtain ⟨y, h1, h2⟩ := bnd_ok h
  by_cases c2 : ∃ k, k < (g cnt).toNat ∧ g (fst + k) = y
  · rw [if_pos c2] at h2
    cases h2
  rw [if_neg c2] at h2
  obtain ⟨z, h3, h4⟩ := bnd_ok h2
  cases h4
  intro w j hw hj
  dsimp only at hw hj
  rw [upf_ne (show 0 ≠ cnt by omega), upf_ne (show 0 ≠ snd + (g cnt).toNat by omega), upf_ne (show 0 ≠ fst + (g cnt).toNat by omega)] at hw
  rw [upf_ne (show 2 ≠ cnt by omega), upf_ne (show 2 ≠ snd + (g cnt).toNat by omega), upf_ne (show 2 ≠ fst + (g cnt).toNat by omega)] at hj
  exact hd w j hw hj
theorem lnOnce_d {k to : Nat} {lo hi : Int} (hc : 2 < to) (hd : NMd g nm) (h : lnOnce b n L k to lo hi g nm on p = .ok x) : NMd x.1.1 x.1.2.1 := by
  unfold lnOnce at h
  by_cases c : bt on k = 1
  · rw [if_pos c] at h
    cases h
  rw [if_neg c] at h
  obtain ⟨y, h1, h2⟩ := bnd_ok h
  cases h2
  intro w j hw hj
  dsimp only at hw hj
  rw [upf_ne (show 0 ≠ to by omega)] at hw
  rw [upf_ne (show 2 ≠ to by omega)] at hj
  exact hd w j hw hj
theorem lnS_d (hs : RGs g) (hd : NMd g nm) (h : lnS b n L g nm on p = .ok x) : NMd x.1.1 x.1.2.1 := by
  unfold lnS at h
  generalize tkW b n L p = w at h
  by_cases c0 : w = 0
  · rw [if_pos c0] at h
    exact lnWall_d hs hd h
  rw [if_neg c0] at h
  by_cases c1 : w = 1
  · rw [if_pos c1] at h
    exact lnHouse_d hs hd h
  rw [if_neg c1] at h
  by_cases c3 : w = 3
  · rw [if_pos c3] at h
    exact lnDrain_d hs hd h
  rw [if_neg c3] at h
  by_cases c4 : w = 4
  · rw [if_pos c4] at h
    exact lnPair_d (by decide) hd h
  rw [if_neg c4] at h
  by_cases c5 : w = 5
  · rw [if_pos c5] at h
    exact lnPair_d (by decide) hd h
  rw [if_neg c5] at h
  by_cases c6 : w = 6
  · rw [if_pos c6] at h
    exact lnOnce_d (by decide) hd h
  rw [if_neg c6] at h
  by_cases c7 : w = 7
  · rw [if_pos c7] at h
    exact lnOnce_d (by decide) hd h
  rw [if_neg c7] at h
  by_cases c8 : w = 8
  · rw [if_pos c8] at h
    exact lnOnce_d (by decide) hd h
  rw [if_neg c8] at h
  cases h
theorem NMd_00 : NMd g00 nm := fun w k hw _ => absurd (show (w : Int) < 0 from hw) (by omega)
/-- what a street's text leaves is well formed -/
theorem lns_all : ∀ (f ln p : Nat) (st : ST) (x : Nat × ST), p ≤ n → RGs st.1 → NMo st.1 st.2.1 → NMd st.1 st.2.1 → lnsS b n L f ln st p = .ok x → RGs x.2.1 ∧ NMo x.2.1 x.2.2.1 ∧ NMd x.2.1 x.2.2.1
  | 0, ln, p, st, x, _, _, _, _, h => by cases h
  | f + 1, ln, p, st, x, hp, hs, hm, hd, h => by
    unfold lnsS at h
    by_cases c : tkK b n L p = 0
    · rw [if_pos c] at h
      cases h
      exact ⟨hs, hm, hd⟩
    · rw [if_neg c] at h
      obtain ⟨y, h1, h2⟩ := bnd_ok h
      obtain ⟨q, h3, h4⟩ := bnd_ok h2
      obtain ⟨a1, a2, a3, a4⟩ := lns_step hp hs hm h1 h3
      exact lns_all f (ln + 1) q y.1 x a4 a1 a2 (lnS_d hs hd h1) h4
end NMD
def plaA (k : Nat) (pv : Nat → Int) (z : Int) : Int := if 0 ≤ z ∧ z < k then pv z.toNat else -1
/-- the last plan: k heights -/
def CPl (M : Mm) (k : Nat) (pv : Nat → Int) : Prop := M.1 40 6 = I (k : Int) ∧ ∀ w, w < k → M.1 55 w = I (pv w)
/-- ahead of the first plan the reference says -1, not 0 -/
def RPl (M : Mm) (k : Nat) (pv : Nat → Int) : Prop := (∃ j : Int, M.1 400 28 = I j ∧ (j = k ∨ (k = 0 ∧ j = -1))) ∧ ∀ w, w < k → M.1 411 w = I (pv w)
section PLA
variable {M : Mm} {k : Nat} {pv : Nat → Int}
theorem b_planAt {d : Nat} (h : CPl M k pv) (hk : k ≤ 5) {z : Int} (hz : (-2147483648 ≤ z ∧ z < 2147483648)) : EvQ (d + 2) 17 [.ref 1, .int (I z)] M fun r N => r = some (.int (I (plaA k pv z))) ∧ N = M := by
  apply e_B_planAt
  intro At _
  refine q_int (P := fun v N => v = I (plaA k pv z) ∧ N = M) ?_ ?_
  · apply e_Planner_plannedHeight
    intro At _
    rw [h.1, I_lt (by omega) (by omega) (by omega) (by omega), I_lt (by omega) (by omega) (by omega) (by omega), I_lt (by omega) (by omega) (by omega) (by omega)]
    unfold plaA
    refine ⟨fun q => ⟨_, rfl, by rw [if_neg (by omega)], rfl⟩, fun q => ⟨fun q2 => ⟨fun q3 => ?_, fun q3 => absurd (by omega) q3⟩, fun q2 => ⟨_, rfl, by rw [if_neg (by omega)], rfl⟩⟩⟩
    rw [ixI (by omega) (by omega), h.2 z.toNat (by omega), if_pos (by omega)]
    exact ⟨inRI (by omega) (by omega) (by omega), _, rfl, rfl, rfl⟩
  · rintro v N ⟨rfl, rfl⟩
    exact ⟨rfl, rfl⟩
theorem r_planAt {d : Nat} (h : RPl M k pv) (hk : k ≤ 5) {z : Int} (hz : (-2147483648 ≤ z ∧ z < 2147483648)) : EvQ (d + 2) 128 [.ref 400, .int (I z)] M fun r N => r = some (.int (I (plaA k pv z))) ∧ N = sI M 400 0 (I 0) := by
  obtain ⟨⟨j, hj, hc⟩, h2⟩ := h
  apply e_R_planAt
  intro At _
  rw [hj, I_sub]
  refine ⟨_, _, v_isIn hz (by omega) (by omega), fun q => ?_, fun q => ?_⟩
  · rw [bI0] at q
    unfold plaA
    rw [if_neg (by omega)]
    exact ⟨rfl, rfl⟩
  · have q2 : 0 ≤ z ∧ z ≤ j - 1 := Classical.byContradiction fun y => q (by rw [bI0]; exact y)
    unfold plaA
    rw [ixI (by omega) (by omega), mI_fn (by decide), h2 z.toNat (by omega), if_pos (by omega)]
    exact ⟨inRI (by omega) (by omega) (by omega), rfl, rfl⟩
end PLA
