/-! ===== the reference's plan ===== -/
theorem RF.u1 {L T : List Nat} {M N : Mm} {a k : Nat} {v : Int32} (h : RF L T M N) (h1 : a ∈ L) (h2 : a ≠ 400) : RF L T M (sI N a k v) := h.trans (RF.st h1 h2)
theorem RF.u2 {L T : List Nat} {M N : Mm} {k : Nat} {v : Int32} (h : RF L T M N) (h1 : k ∈ T) : RF L T M (sI N 400 k v) := h.trans (RF.f h1)
theorem r_laysHeights {g : Nat → Int} {d : Nat} {M : Mm} (hm : M.1 402 = fun k => I (g k)) (hs : RGs g) : EvQ (d + 1) 124 [.ref 400] M fun v M' => v = none ∧ M'.1 400 27 = I (hN g) ∧ (∀ i, i < hN g → M'.1 409 i = I (hV g i)) ∧ RF [409] [27] M M' := by
  have h3 := hs.1.2.2.2.1
  obtain ⟨nc, hnc⟩ := Nn h3.1
  have enc : (g 3).toNat = nc := by omega
  apply e_R_laysHeights
  intro At step
  refine loopU (P := fun x : Nat => ∀ N : Mm, N.1 400 27 = I (hz g x).1 → (∀ i, i < (hz g x).1 → N.1 409 i = I ((hz g x).2 i)) → RF [409] [27] M N → At 7 [.ref 400, .int (I x), .retAddr 0, .retAddr 0] [] N) (n := 61) ?_ ?_ (sI M 400 27 (I 0)) mI_eq (fun i hi => absurd hi (by show ¬ i < 0; omega)) (RF.f (by decide))
  · intro N h1 h2 hF
    apply s_R_laysHeights_7 step
    rw [I_lt (by omega) (by omega) (by omega) (by omega)]
    exact ⟨fun _ => ⟨rfl, h1, h2, hF⟩, fun q => absurd (by omega) q⟩
  · intro x hx nx N h1 h2 hF
    apply s_R_laysHeights_7 step
    have b7 := hz_le hs x
    have b8 := hz_le hs (x + 1)
    have eg : ∀ k, N.1 402 k = I (g k) := fun k => by rw [(hF.1 402 (by decide) (by decide)).1, hm]
    have yes : isCh g x = true → (hz g x).1 < 7 ∧ At 7 [.ref 400, .int (I ((x : Int) + 1)), .retAddr 0, .retAddr 0] [] (sI (sI N 409 (hz g x).1 (I x)) 400 27 (I (((hz g x).1 : Int) + 1))) := by
      intro q
      have e : hz g (x + 1) = ((hz g x).1 + 1, upf (hz g x).2 (hz g x).1 (x : Int)) := if_pos q
      rw [e] at nx b8
      dsimp only at nx b8
      refine ⟨by omega, nx _ mI_eq (fun i hi => ?_) ((hF.u1 (by decide) (by decide)).u2 (by decide))⟩
      rw [mI_n1 (by decide)]
      by_cases z : i = (hz g x).1
      · rw [z, mI_eq, upf_eq]
      · rw [mI_n2 z, upf_ne z]
        exact h2 i (by omega)
    have no : ¬ isCh g x = true → At 7 [.ref 400, .int (I ((x : Int) + 1)), .retAddr 0, .retAddr 0] [] N := by
      intro q
      have e : hz g (x + 1) = hz g x := if_neg q
      rw [e] at nx
      exact nx N h1 h2 hF
    have fin : ∀ s : Int, (s = 0 ∨ s = 1) → (s = 1 ↔ isCh g x = true) → At 25 [.ref 400, .int (I x), .int (I s), .int (I nc)] [] N := by
      intro s hs01 hsi
      apply s_R_laysHeights_25 step
      rw [eg 3, hnc, I_lt (by omega) (by omega) (by omega) (by omega), I_ne (by omega) (by omega) (by omega) (by omega), h1, ixI (by omega) (by omega), Int.toNat_natCast]
      simp only [I_add]
      refine ⟨fun q => absurd q (by omega), fun _ => ⟨fun q => no (fun z => by have := hsi.2 z; omega), fun q => ?_⟩⟩
      have y := yes (hsi.1 (by omega))
      have y1 := y.1
      exact ⟨inRI (by omega) (by omega) (by omega), y.2⟩
    have lp : ∀ s0 : Int, (s0 = if x = 0 then 1 else 0) → At 25 [.ref 400, .int (I x), .int (I s0), .int (I 0)] [] N := by
      intro s0 hs0
      have hL := loopU (P := fun k : Nat => ∀ s : Int, (s = 0 ∨ s = 1) → (s = 1 ↔ (x = 0 ∨ ∃ j, j < k ∧ g (61 + j) = (x : Int))) → At 25 [.ref 400, .int (I x), .int (I s), .int (I k)] [] N) (n := nc) ?_ ?_
      · refine hL s0 (by split at hs0 <;> omega) ⟨fun z => Or.inl ?_, fun z => ?_⟩
        · split at hs0 <;> omega
        · rcases z with z | ⟨j, hj, -⟩
          · rw [if_pos z] at hs0
            exact hs0
          · exact absurd hj (by omega)
      · intro s h1 h2
        refine fin s h1 ⟨fun z => ?_, fun z => h2.2 ?_⟩
        · unfold isCh
          rw [enc]
          exact decide_eq_true (h2.1 z)
        · unfold isCh at z
          rw [enc] at z
          exact of_decide_eq_true z
      · intro k hk nx2 s hs01 hsi
        apply s_R_laysHeights_25 step
        have bk := hs.2.2.2.2.1 k (by omega)
        simp (disch := omega) only [eg, hnc, I_add, I_sub, I_mul, I_div, ixI, Int.toNat_add, Int.toNat_natCast, Int.reduceToNat, I_lt, I_ne, ite_I]
        have i303 : inR (I (61 + (k : Int))) 303 := inRI (by omega) (by omega) (by omega)
        refine ⟨fun _ => ⟨fun q => ⟨i303, fun q2 => ?_, fun q2 => ?_⟩, fun q => ?_⟩, fun q => absurd (by omega) q⟩
        · exact nx2 1 (Or.inr rfl) ⟨fun _ => Or.inr ⟨k, by omega, q2⟩, fun _ => rfl⟩
        · refine nx2 0 (Or.inl rfl) ⟨fun z => absurd z (by decide), fun z => ?_⟩
          rcases z with z | ⟨j, hj, hg⟩
          · have := hsi.2 (Or.inl z)
            omega
          · by_cases e : j = k
            · subst e
              exact absurd hg q2
            · have := hsi.2 (Or.inr ⟨j, by omega, hg⟩)
              omega
        · refine nx2 1 (Or.inr rfl) ⟨fun _ => ?_, fun _ => rfl⟩
          rcases hsi.1 (by omega) with z | ⟨j, hj, hg⟩
          · exact Or.inl z
          · exact Or.inr ⟨j, by omega, hg⟩
    rw [I_lt (by omega) (by omega) (by omega) (by omega), I_ne (by omega) (by omega) (by omega) (by omega)]
    exact ⟨fun q => absurd q (by omega), fun _ => ⟨fun q => lp 1 (by rw [if_pos (by omega)]), fun q => lp 0 (by rw [if_neg (by omega)])⟩⟩
theorem dv_r {n : Nat} : ∀ (j p : Nat), dv n p (j + 1) = dv n p j / n
  | 0, _ => rfl
  | j + 1, p => by
    show dv n (p / n) (j + 1) = dv n (p / n) j / n
    exact dv_r j (p / n)
theorem dv_le {n : Nat} : ∀ (j p : Nat), dv n p j ≤ p
  | 0, _ => Nat.le_refl _
  | j + 1, p => Nat.le_trans (dv_le j (p / n)) (Nat.div_le_self _ _)
theorem r_digit {d n W p w : Nat} {M : Mm} (h27 : M.1 400 27 = I n) (h0 : M.1 402 0 = I W) (hn : 0 < n) (hn7 : n ≤ 7) (hW : W ≤ 5) (hp : p < 1000000) (hw : w < W) : Ev (d + 1) 126 [.ref 400, .int (I p), .int (I w)] M (some (.int (I (dv n p (W - 1 - w) % n : Nat)))) M := by
  apply Ev.ofQ
  apply e_R_digit
  intro At step
  have key : ∀ j i, i + j = W - 1 → w ≤ i → At 5 [.ref 400, .retAddr 0, .retAddr 0, .int (I (dv n p (i - w))), .int (I i)] [] M := by
    intro j
    induction j with
    | zero =>
      intro i hi hwi
      apply s_R_digit_5 step
      have := dv_le (n := n) (i - w) p
      rw [h27, h0, I_sub, I_lt (by omega) (by omega) (by omega) (by omega), I_ne (by omega) (by omega) (by omega) (by omega), I_rem (by omega) (by omega) (by omega) (by omega), show W - 1 - w = i - w by omega]
      exact ⟨fun q => absurd q (by omega), fun _ => ⟨by omega, rfl, rfl⟩⟩
    | succ j ih =>
      intro i hi hwi
      apply s_R_digit_5 step
      have := dv_le (n := n) (i - w) p
      have nx := ih (i + 1) (by omega) (by omega)
      rw [show i + 1 - w = (i - w) + 1 by omega, dv_r] at nx
      rw [h27, h0, I_sub, I_lt (by omega) (by omega) (by omega) (by omega), I_ne (by omega) (by omega) (by omega) (by omega), I_div (by omega) (by omega) (by omega) (by omega), I_add]
      exact ⟨fun _ => ⟨by omega, nx⟩, fun q => absurd (by omega) q⟩
  have := key (W - 1 - w) w (by omega) (Nat.le_refl _)
  rw [Nat.sub_self] at this
  exact this
theorem UU_sum {f : Nat → Nat → Int} {n : Nat} : ∀ (W q : Nat), UU f n W q = sumL (fun w => f w (dv n q (W - 1 - w) % n)) W
  | 0, _ => rfl
  | W + 1, q => by
    show UU f n W (q / n) + f W (q % n) = sumL (fun w => f w (dv n q (W + 1 - 1 - w) % n)) W + f W (dv n q (W + 1 - 1 - W) % n)
    rw [UU_sum W (q / n), show W + 1 - 1 - W = 0 by omega]
    congr 1
    exact sumL_congr fun w hw => by
      rw [show W + 1 - 1 - w = (W - 1 - w) + 1 by omega]
      rfl
/-- the reference's search: its own best -/
def plR (g : Nat → Int) (W : Nat) (B : Int) : Nat → Int × Int × Nat
  | 0 => (-1, 0, 0)
  | k + 1 => if UU (bgF g) (hN g) W k ≤ B ∧ ((plR g W B k).1 < UU (gnF g) (hN g) W k ∨ (UU (gnF g) (hN g) W k = (plR g W B k).1 ∧ UU (bgF g) (hN g) W k < (plR g W B k).2.1)) then (UU (gnF g) (hN g) W k, UU (bgF g) (hN g) W k, k) else plR g W B k
theorem plR_b {g : Nat → Int} (hs : RGs g) {W : Nat} {B : Int} (hW : W ≤ 5) (hB : 0 ≤ B ∧ B ≤ 999) : ∀ k : Nat, (-1 ≤ (plR g W B k).1 ∧ (plR g W B k).1 ≤ 3000000) ∧ (0 ≤ (plR g W B k).2.1 ∧ (plR g W B k).2.1 ≤ 999) ∧ (plR g W B k).2.2 ≤ k
  | 0 => ⟨⟨Int.le_refl _, by show (-1 : Int) ≤ 3000000; decide⟩, ⟨Int.le_refl _, by show (0 : Int) ≤ 999; decide⟩, Nat.le_refl _⟩
  | k + 1 => by
    have ih := plR_b hs hW hB k
    have ug := UUg_b hs (n := hN g) W k
    have ub := UUb_b hs (n := hN g) W k hW
    unfold plR
    split
    · dsimp only
      omega
    · omega
theorem plR_L {g : Nat → Int} (hs : RGs g) {W : Nat} {B : Int} (hW : W ≤ 5) (hB : 0 ≤ B ∧ B ≤ 999) : ∀ k : Nat, plL g W B (-1, 0, 0) 0 (k + 1) = (gaS g (-1) 0 + (plR g W B (k + 1)).1, (plR g W B (k + 1)).2.1, (plR g W B (k + 1)).2.2) ∧ 0 ≤ (plR g W B (k + 1)).1
  | 0 => by
    have g0 := gaS_b hs (w := -1) (h := 0)
    have u0 := UUg_b hs (n := hN g) W 0
    have b0 := UU0 hs (n := hN g) (hN_b hs).2.2 W
    have e1 : plR g W B 1 = (UU (gnF g) (hN g) W 0, UU (bgF g) (hN g) W 0, 0) := if_pos ⟨(by omega : UU (bgF g) (hN g) W 0 ≤ B), Or.inl (by show (-1 : Int) < UU (gnF g) (hN g) W 0; omega)⟩
    have e2 : plL g W B (-1, 0, 0) 0 1 = (gaS g (-1) 0 + UU (gnF g) (hN g) W 0, UU (bgF g) (hN g) W 0, 0) := by
      show plS g W B (-1, 0, 0) (0 + 0) = _
      rw [Nat.add_zero]
      exact if_pos ⟨by omega, Or.inl (by show (-1 : Int) < _; omega)⟩
    rw [e1, e2]
    exact ⟨rfl, u0.1⟩
  | k + 1 => by
    obtain ⟨h1, h2⟩ := plR_L hs (W := W) hW hB k
    have e2 : plL g W B (-1, 0, 0) 0 (k + 1 + 1) = plS g W B (plL g W B (-1, 0, 0) 0 (k + 1)) (k + 1) := by
      show plS g W B (plL g W B (-1, 0, 0) 0 (k + 1)) (0 + (k + 1)) = _
      rw [Nat.zero_add]
    have e1 : plR g W B (k + 1 + 1) = if UU (bgF g) (hN g) W (k + 1) ≤ B ∧ ((plR g W B (k + 1)).1 < UU (gnF g) (hN g) W (k + 1) ∨ (UU (gnF g) (hN g) W (k + 1) = (plR g W B (k + 1)).1 ∧ UU (bgF g) (hN g) W (k + 1) < (plR g W B (k + 1)).2.1)) then (UU (gnF g) (hN g) W (k + 1), UU (bgF g) (hN g) W (k + 1), k + 1) else plR g W B (k + 1) := rfl
    rw [e2, e1, h1]
    unfold plS
    dsimp only
    generalize plR g W B (k + 1) = z at *
    have ug := UUg_b hs (n := hN g) W (k + 1)
    by_cases c : UU (bgF g) (hN g) W (k + 1) ≤ B ∧ (z.1 < UU (gnF g) (hN g) W (k + 1) ∨ (UU (gnF g) (hN g) W (k + 1) = z.1 ∧ UU (bgF g) (hN g) W (k + 1) < z.2.1))
    · rw [if_pos c, if_pos (by omega)]
      exact ⟨rfl, ug.1⟩
    · rw [if_neg c, if_neg (by omega)]
      exact ⟨rfl, h2⟩
theorem plE_R {g : Nat → Int} (hs : RGs g) {W : Nat} {B : Int} (hW : W ≤ 5) (hB : 0 ≤ B ∧ B ≤ 999) : (plE g W B).1 = gaS g (-1) 0 + (plR g W B (hN g ^ W)).1 ∧ (plE g W B).2.2 = (plR g W B (hN g ^ W)).2.2 ∧ 0 ≤ (plR g W B (hN g ^ W)).1 := by
  have : 0 < hN g ^ W := Nat.pow_pos (by have := hN_b hs; omega)
  obtain ⟨k, hk⟩ : ∃ k, hN g ^ W = k + 1 := ⟨hN g ^ W - 1, by omega⟩
  have := plR_L hs (W := W) hW hB k
  unfold plE
  rw [hk, this.1]
  exact ⟨rfl, rfl, this.2⟩
theorem pow_b {n : Nat} (hn : n ≤ 7) : ∀ w : Nat, w ≤ 5 → n ^ w ≤ 16807 := fun w hw =>
  Nat.le_trans (Nat.pow_le_pow_left hn w) (Nat.le_trans (Nat.pow_le_pow_right (by decide) hw) (by decide))
def allG (g : Nat → Int) : Int := sumL (fun c => g (67 + c)) (g 3).toNat
theorem allG_b {g : Nat → Int} (hs : RGs g) : 0 ≤ allG g ∧ allG g ≤ 594 ∧ (0 < g 3 → 0 < allG g) := by
  have h3 := hs.1.2.2.2.1
  have hb := sumL_b (f := fun c => g (67 + c)) (c := 99) (N := (g 3).toNat) (fun k hk => by have := hs.2.2.2.2.1 k (by omega); exact ⟨by omega, by omega⟩) (by decide) _ (Nat.le_refl _)
  unfold allG
  refine ⟨hb.1, by omega, fun h => ?_⟩
  have h1 : g (67 + 0) ≤ sumL (fun c => g (67 + c)) (g 3).toNat := sumL_ge (f := fun c => g (67 + c)) (k := 0) (n := (g 3).toNat) (fun i hi => by have := hs.2.2.2.2.1 i (by omega); exact (by omega : (0 : Int) ≤ g (67 + i))) (by omega)
  have h2 : 1 ≤ g (67 + 0) := (hs.2.2.2.2.1 0 (by omega)).2.2.2.2 (by omega)
  omega
theorem r_allOdds {g : Nat → Int} {d : Nat} {M : Mm} (hm : M.1 402 = fun k => I (g k)) (hs : RGs g) : Ev (d + 1) 123 [.ref 400] M (some (.int (I (allG g)))) M := by
  have h3 := hs.1.2.2.2.1
  obtain ⟨nc, hnc⟩ := Nn h3.1
  have eg : ∀ k, M.1 402 k = I (g k) := fun k => by rw [hm]
  unfold allG
  rw [show (g 3).toNat = nc by omega]
  apply Ev.ofQ
  apply e_R_allOdds
  intro At step
  refine loopU (P := fun k : Nat => At 4 [.ref 400, .int (I (sumL (fun c => g (67 + c)) k)), .int (I k)] [] M) (n := nc) ?_ ?_
  · apply s_R_allOdds_4 step
    rw [eg 3, hnc, I_lt (by omega) (by omega) (by omega) (by omega)]
    exact ⟨fun q => absurd q (by omega), fun _ => ⟨rfl, rfl⟩⟩
  · intro k hk nx
    apply s_R_allOdds_4 step
    unfold sumL at nx
    generalize sumL (fun c => g (67 + c)) k = S at nx ⊢
    simp (disch := omega) only [eg, hnc, I_add, I_sub, I_mul, I_div, ixI, Int.toNat_add, Int.toNat_natCast, Int.reduceToNat, I_lt, I_ne, ite_I]
    exact ⟨fun _ => ⟨inRI (by omega) (by omega) (by omega), nx⟩, fun q => absurd (by omega) q⟩
/-- whether the plan may be asked for -/
def planO (g : Nat → Int) (b x : Int) : Prop := (0 ≤ b ∧ b ≤ 999) ∧ (0 ≤ x ∧ x ≤ 1) ∧ g 3 ≠ 0
def planV (g : Nat → Int) (W : Nat) (b x : Int) : Int := fracA (plE g W b).1.toNat (allG g).toNat x
theorem r_plan {g : Nat → Int} {d W : Nat} {M : Mm} (hm : M.1 402 = fun k => I (g k)) (hs : RGs g) (eW : g 0 = W) {b x : Int} (hb : (-2147483648 ≤ b ∧ b < 2147483648)) (hx : (-2147483648 ≤ x ∧ x < 2147483648)) : EvQ (d + 2) 127 [.ref 400, .int (I b), .int (I x)] M fun v M' => (¬ planO g b x → v = some (.int (I 0)) ∧ M' = sI M 400 0 (I 1)) ∧ (planO g b x → v = some (.int (I (planV g W b x))) ∧ RF [409, 410, 411] [0, 27, 28] M M' ∧ M'.1 400 0 = I 0 ∧ M'.1 400 28 = I W ∧ (∀ v, v < W → M'.1 411 v = I (hV g (dv (hN g) (plE g W b).2.2 (W - 1 - v) % hN g)))) := by
  have h0 := hs.1.1
  have h3 := hs.1.2.2.2.1
  have hn := hN_b hs
  have g0 := gaS_b hs (w := -1) (h := 0)
  have t1 : ∀ N : Mm, Ev (d + 1) 52 [.ref 400, .int (I 1)] N (some (.int (I 1))) (sI N 400 0 (I 1)) := fun N => by
    apply Ev.ofQ
    apply e_R_throwsIf
    intro At _
    exact ⟨fun q => absurd q (by decide), fun _ => ⟨Or.inr rfl, rfl, rfl⟩⟩
  have t0 : ∀ N : Mm, Ev (d + 1) 52 [.ref 400, .int (I 0)] N (some (.int (I 0))) (sI N 400 0 (I 0)) := fun N => by
    apply Ev.ofQ
    apply e_R_throwsIf
    intro At _
    exact ⟨fun _ => ⟨Or.inl rfl, rfl, rfl⟩, fun q => absurd rfl q⟩
  apply e_R_plan
  intro At step
  refine ⟨_, _, v_isIn (by omega) (by omega) (by omega), fun q => ?_, fun q => ?_⟩
  · have no : ¬ planO g b x := fun z => by
      rw [if_pos z.1] at q
      exact absurd q (by decide)
    exact ⟨_, _, t1 _, fun z => absurd z (by decide), fun _ => ⟨fun _ => ⟨rfl, rfl⟩, fun z => absurd z no⟩⟩
  have qb : 0 ≤ b ∧ b ≤ 999 := Classical.byContradiction fun z => q (by rw [if_neg z])
  refine ⟨_, _, v_isIn (by omega) (by omega) (by omega), fun q => ?_, fun q => ?_⟩
  · have no : ¬ planO g b x := fun z => by
      rw [if_pos z.2.1] at q
      exact absurd q (by decide)
    exact ⟨_, _, t1 _, fun z => absurd z (by decide), fun _ => ⟨fun _ => ⟨rfl, rfl⟩, fun z => absurd z no⟩⟩
  have qx : 0 ≤ x ∧ x ≤ 1 := Classical.byContradiction fun z => q (by rw [if_neg z])
  have e3 : M.1 402 3 = I (g 3) := by rw [hm]
  rw [e3, I_ne (by omega) (by omega) (by omega) (by omega)]
  refine ⟨fun q => ?_, fun q => ?_⟩
  · have no : ¬ planO g b x := fun z => z.2.2 q
    exact ⟨_, _, t1 _, fun z => absurd z (by decide), fun _ => ⟨fun _ => ⟨rfl, rfl⟩, fun z => absurd z no⟩⟩
  have ok : planO g b x := ⟨qb, qx, q⟩
  refine ⟨_, _, t0 _, fun _ => ?_, fun z => absurd rfl z⟩
  have hm0 : (sI M 400 0 (I 0)).1 402 = fun k => I (g k) := by rw [mI_fn (by decide)]; exact hm
  refine q_non (r_laysHeights hm0 hs) ?_
  rintro N1 ⟨a1, a2, a3⟩
  have F1 : RF [409, 410, 411] [0, 27, 28] M N1 := (RF.f (L := [409, 410, 411]) (T := [0, 27, 28]) (M := M) (k := 0) (v := I 0) (by decide)).trans (a3.mono (by decide) (by decide))
  have k0 : N1.1 400 0 = I 0 := by rw [a3.2.1 0 (by decide), mI_eq]
  /- what stays while the codes go by -/
  have base : ∀ N : Mm, RF [410] [] N1 N → N.1 400 27 = I (hN g) ∧ (∀ i, i < hN g → N.1 409 i = I (hV g i)) ∧ (∀ k, N.1 402 k = I (g k)) ∧ (N.1 402 = fun k => I (g k)) := by
    intro N h
    have m2 : N.1 402 = fun k => I (g k) := by
      rw [(h.1 402 (by decide) (by decide)).1, (a3.1 402 (by decide) (by decide)).1, mI_fn (by decide)]
      exact hm
    exact ⟨by rw [h.2.1 27 (by decide)]; exact a1, fun i hi => by rw [(h.1 409 (by decide) (by decide)).1]; exact a2 i hi, fun k => by rw [m2], m2⟩
  refine loopU (P := fun w : Nat => ∀ N : Mm, RF [410] [] N1 N → (∀ v c, v < w → c < hN g → N.1 410 (7 * v + c) = I (gnF g v c)) → At 52 [.ref 400, .int (I b), .int (I x), .int (I (hN g ^ w : Nat)), .int (I w), .retAddr 0, .retAddr 0, .retAddr 0, .retAddr 0, .retAddr 0, .retAddr 0, .retAddr 0] [] N) (n := W) ?_ ?_ N1 RF.refl (fun v c hv => absurd hv (by omega))
  · intro N hF hG
    obtain ⟨c1, c2, c3, c4⟩ := base N hF
    apply s_R_plan_52 step
    rw [c3 0, eW, I_lt (by omega) (by omega) (by omega) (by omega)]
    refine ⟨fun q => absurd q (by omega), fun _ => ?_⟩
    have pb := pow_b hn.2.1 W (by omega)
    refine loopU (P := fun k : Nat => At 134 [.ref 400, .int (I b), .int (I x), .int (I (hN g ^ W : Nat)), .int (I (plR g W b k).1), .int (I (plR g W b k).2.1), .int (I ((plR g W b k).2.2 : Nat)), .int (I k), .retAddr 0, .retAddr 0, .retAddr 0, .retAddr 0] [] N) (n := hN g ^ W) ?_ ?_
    · apply s_R_plan_134 step
      rw [I_lt (by omega) (by omega) (by omega) (by omega), c3 0, eW]
      refine ⟨fun q => absurd q (by omega), fun _ => ?_⟩
      obtain ⟨r1, r2, r3⟩ := plE_R hs (W := W) (by omega) qb
      have rb := plR_b hs (W := W) (by omega) qb (hN g ^ W)
      have eV : planV g W b x = fracA (gaS g (-1) 0 + (plR g W b (hN g ^ W)).1).toNat (allG g).toNat x := by
        unfold planV
        rw [r1]
      rw [r2, eV] at step
      generalize plR g W b (hN g ^ W) = z at *
      have F2 : RF [409, 410, 411] [0, 27, 28] M (sI N 400 28 (I W)) := (F1.trans (hF.mono (by decide) (by decide))).u2 (by decide)
      refine loopU (P := fun w : Nat => ∀ O : Mm, RF [411] [] (sI N 400 28 (I W)) O → (∀ v, v < w → O.1 411 v = I (hV g (dv (hN g) z.2.2 (W - 1 - v) % hN g))) → At 273 [.ref 400, .retAddr 0, .int (I x), .retAddr 0, .int (I z.1), .retAddr 0, .int (I (z.2.2 : Nat)), .int (I w), .retAddr 0, .retAddr 0, .retAddr 0, .retAddr 0] [] O) (n := W) ?_ ?_ _ RF.refl (fun v hv => absurd hv (by omega))
      · intro O hO hR
        have o2 : O.1 402 = fun k => I (g k) := by
          rw [(hO.1 402 (by decide) (by decide)).1, mI_fn (by decide)]
          exact c4
        have o3 : O.1 402 0 = I W := by
          rw [o2]
          show I (g 0) = _
          rw [eW]
        apply s_R_plan_273 step
        rw [o3, I_lt (by omega) (by omega) (by omega) (by omega)]
        refine ⟨fun q => absurd q (by omega), fun _ => ?_⟩
        have ob := allG_b hs
        have g1 : Ev (d + 1) 125 [.ref 400, .int (I 0), .int (I 0)] O (some (.int (I (gaS g (-1) 0)))) O := r_gainOf o2 hs (w := -1) (h := 0) (by omega) (by omega)
        refine ⟨_, _, g1, _, _, r_allOdds o2 hs, ?_⟩
        obtain ⟨an, han⟩ := Nn (a := gaS g (-1) 0 + z.1) (by omega)
        obtain ⟨bn, hbn⟩ := Nn (a := allG g) (by omega)
        have hpos := ob.2.2 (by omega)
        rw [I_add, show z.1 + gaS g (-1) 0 = gaS g (-1) 0 + z.1 from Int.add_comm _ _, han, hbn, Int.toNat_natCast, Int.toNat_natCast]
        refine ⟨_, _, r_part (by omega) (by omega) (by omega) hx, fun z => absurd ok z, fun _ => ⟨rfl, F2.trans (hO.mono (by decide) (by decide)), ?_, ?_, hR⟩⟩
        · rw [hO.2.1 0 (by decide), mI_n2 (by decide), hF.2.1 0 (by decide)]
          exact k0
        · rw [hO.2.1 28 (by decide), mI_eq]
      · intro w hw nx O hO hR
        have o2 : O.1 402 = fun k => I (g k) := by
          rw [(hO.1 402 (by decide) (by decide)).1, mI_fn (by decide)]
          exact c4
        have o3 : O.1 402 0 = I W := by
          rw [o2]
          show I (g 0) = _
          rw [eW]
        have o27 : O.1 400 27 = I (hN g) := by
          rw [hO.2.1 27 (by decide), mI_n2 (by decide)]
          exact c1
        have o409 : ∀ i, i < hN g → O.1 409 i = I (hV g i) := fun i hi => by
          rw [(hO.1 409 (by decide) (by decide)).1, mI_fn (by decide)]
          exact c2 i hi
        have hdm : dv (hN g) z.2.2 (W - 1 - w) % hN g < hN g := Nat.mod_lt _ (by omega)
        apply s_R_plan_273 step
        rw [o3, I_lt (by omega) (by omega) (by omega) (by omega)]
        refine ⟨fun _ => ⟨_, _, r_digit o27 o3 (by omega) (by omega) (by omega) (by omega) hw, ?_⟩, fun q => absurd (by omega) q⟩
        generalize hD : dv (hN g) z.2.2 (W - 1 - w) % hN g = D at hdm ⊢
        rw [ixI (by omega) (by omega), ixI (by omega) (by omega), Int.toNat_natCast, Int.toNat_natCast, o409 D hdm]
        simp only [I_add]
        refine ⟨inRI (by omega) (by omega) (by omega), inRI (by omega) (by omega) (by omega), nx _ (hO.u1 (by decide) (by decide)) fun v hv => ?_⟩
        by_cases e : v = w
        · subst e
          rw [mI_eq, hD]
        · rw [mI_n2 e]
          exact hR v (by omega)
    · intro k hk nx
      apply s_R_plan_134 step
      rw [I_lt (by omega) (by omega) (by omega) (by omega)]
      refine ⟨fun _ => ?_, fun q => absurd (by omega) q⟩
      have hL := loopU (P := fun w : Nat => At 149 [.ref 400, .int (I b), .int (I x), .int (I (hN g ^ W : Nat)), .int (I (plR g W b k).1), .int (I (plR g W b k).2.1), .int (I ((plR g W b k).2.2 : Nat)), .int (I k), .int (I (sumL (fun w => bgF g w (dv (hN g) k (W - 1 - w) % hN g)) w)), .int (I (sumL (fun w => gnF g w (dv (hN g) k (W - 1 - w) % hN g)) w)), .int (I w), .retAddr 0] [] N) (n := W) ?_ ?_
      · exact hL
      · apply s_R_plan_149 step
        rw [← UU_sum, ← UU_sum]
        have ug := UUg_b hs (n := hN g) W k
        have ub := UUb_b hs (n := hN g) W k (by omega)
        have rb := plR_b hs (W := W) (by omega) qb k
        unfold plR at nx
        generalize plR g W b k = z at nx rb ⊢
        generalize UU (bgF g) (hN g) W k = ub1 at *
        generalize UU (gnF g) (hN g) W k = ug1 at *
        rw [c3 0, eW, I_lt (by omega) (by omega) (by omega) (by omega), I_lt (by omega) (by omega) (by omega) (by omega), I_lt (by omega) (by omega) (by omega) (by omega), I_lt (by omega) (by omega) (by omega) (by omega), I_ne (by omega) (by omega) (by omega) (by omega)]
        simp only [I_add]
        refine ⟨fun q => absurd q (by omega), fun _ => ⟨fun q => ?_, fun q => ⟨fun q2 => ?_, fun q2 => ⟨fun q3 => ⟨fun q4 => ?_, fun q4 => ?_⟩, fun q3 => ?_⟩⟩⟩⟩
        · rw [if_neg (by omega)] at nx
          exact nx
        · rw [if_neg (by omega)] at nx
          exact nx
        · rw [if_pos (by omega)] at nx
          exact nx
        · rw [if_neg (by omega)] at nx
          exact nx
        · rw [if_pos (by omega)] at nx
          exact nx
      · intro w hw nx2
        apply s_R_plan_149 step
        have hdm : dv (hN g) k (W - 1 - w) % hN g < hN g := Nat.mod_lt _ (by omega)
        unfold sumL at nx2
        generalize hD : dv (hN g) k (W - 1 - w) % hN g = D at hdm nx2
        have hvb := hV_b (g := g) hdm
        have e0 : N.1 402 0 = I W := by rw [c3 0, eW]
        rw [e0, I_lt (by omega) (by omega) (by omega) (by omega)]
        refine ⟨fun _ => ⟨_, _, r_digit c1 e0 (by omega) (by omega) (by omega) (by omega) hw, ?_⟩, fun q => absurd (by omega) q⟩
        rw [hD, ixI (by omega) (by omega), Int.toNat_natCast, c2 D hdm]
        refine ⟨inRI (by omega) (by omega) (by omega), _, _, v_takesOf c4 (by omega) (by omega) (by omega), ?_⟩
        rw [I_mul, I_add, ixI (by omega) (by omega), show (7 * (w : Int) + D).toNat = 7 * w + D by omega, hG w D hw hdm]
        simp only [I_add]
        exact ⟨inRI (by omega) (by omega) (by omega), nx2⟩
  · intro w hw nx N hF hG
    obtain ⟨c1, c2, c3, c4⟩ := base N hF
    apply s_R_plan_52 step
    rw [c3 0, eW, I_lt (by omega) (by omega) (by omega) (by omega), c1, I_mul]
    refine ⟨fun _ => ?_, fun q => absurd (by omega) q⟩
    have ep : ((hN g ^ w : Nat) : Int) * (hN g : Int) = ((hN g ^ (w + 1) : Nat) : Int) := by
      rw [Nat.pow_succ]
      rfl
    rw [ep]
    refine loopU (P := fun c : Nat => ∀ N : Mm, RF [410] [] N1 N → (∀ v c, v < w → c < hN g → N.1 410 (7 * v + c) = I (gnF g v c)) → (∀ i, i < c → N.1 410 (7 * w + i) = I (gnF g w i)) → At 73 [.ref 400, .int (I b), .int (I x), .int (I (hN g ^ (w + 1) : Nat)), .int (I w), .int (I c), .retAddr 0, .retAddr 0, .retAddr 0, .retAddr 0, .retAddr 0, .retAddr 0] [] N) (n := hN g) ?_ ?_ N hF hG (fun i hi => absurd hi (by omega))
    · intro N hF hG hC
      obtain ⟨c1, c2, c3, c4⟩ := base N hF
      apply s_R_plan_73 step
      rw [c1, I_lt (by omega) (by omega) (by omega) (by omega)]
      simp only [I_add]
      refine ⟨fun q => absurd q (by omega), fun _ => nx N hF fun v c hv hc => ?_⟩
      by_cases e : v = w
      · subst e
        exact hC c hc
      · exact hG v c (by omega) hc
    · intro c hc nx2 N hF hG hC
      obtain ⟨c1, c2, c3, c4⟩ := base N hF
      apply s_R_plan_73 step
      have hvb := hV_b (g := g) hc
      rw [c1, I_lt (by omega) (by omega) (by omega) (by omega), ixI (by omega) (by omega), Int.toNat_natCast, c2 c hc, I_add, I_mul, I_add, ixI (by omega) (by omega), show (7 * (w : Int) + c).toNat = 7 * w + c by omega]
      refine ⟨fun _ => ⟨inRI (by omega) (by omega) (by omega), _, _, r_gainOf c4 hs (w := (w : Int)) (by omega) (by omega), inRI (by omega) (by omega) (by omega), ?_⟩, fun q => absurd (by omega) q⟩
      simp only [I_add]
      refine nx2 _ (hF.u1 (by decide) (by decide)) (fun v i hv hi => ?_) (fun i hi => ?_)
      · rw [mI_n2 (by omega)]
        exact hG v i hv hi
      · by_cases e : i = c
        · subst e
          rw [mI_eq]
          rfl
        · rw [mI_n2 (by omega)]
          exact hC i (by omega)
