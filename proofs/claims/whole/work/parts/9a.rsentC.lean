/-! ===== sentence(): the reference ===== -/
abbrev LRS : List Nat := [402, 404, 415]
abbrev FRS : List Nat := [0, 2, 3, 4, 5, 11, 12, 13, 14, 15, 16, 18, 45, 46, 47, 48, 49]
section RSG
variable {M : Mm} {b : Nat → Nat} {n : Nat} {g : Nat → Int} {nm : Nat → List Nat}
/-- the codes are laid behind the street -/
theorem r_lay {d : Nat} {At : JJ} {Q : Option Value → Mm → Prop} {st : SS} {X : Mm} (step : StepQ d k_R_sentence Q At) (hc : RCd X st st.2.1) (h40 : st.2.1 ≤ 40) (hm : X.1 402 = fun k => I (if k = 122 then (st.2.1 : Int) else g k)) (nx : ∀ N, RF [402] [] X N → N.1 402 = (fun k => I (senG st g k)) → Q (some (.int (N.1 400 46))) N) : At 145 [.ref 400, .retAddr 0, .int (I 0)] [] X := by
  refine loopU (P := fun j : Nat => ∀ N : Mm, RF [402] [] X N → (∀ i, N.1 402 i = if 123 ≤ i ∧ i < 123 + j then X.1 404 (i - 123) else X.1 402 i) → At 145 [.ref 400, .retAddr 0, .int (I j)] [] N) (n := 3 * st.2.1) ?_ ?_ X RF.refl (fun i => by rw [if_neg (by omega)])
  · intro N hF h1
    apply s_R_sentence_145 step
    have e45 : N.1 400 45 = I (st.2.1 : Int) := by rw [hF.2.1 45 (by decide)]; exact hc.1
    rw [e45, I_mul, I_lt (by omega) (by omega) (by omega) (by omega)]
    refine ⟨fun q => absurd q (by omega), fun _ => nx N hF ?_⟩
    funext i
    rw [h1 i, hm]
    unfold senG
    dsimp only
    by_cases c1 : i = 122
    · rw [if_neg (by omega), if_pos c1, if_pos c1]
    rw [if_neg c1, if_neg c1]
    by_cases c2 : 123 ≤ i ∧ i < 123 + 3 * st.2.1
    · rw [if_pos c2, if_pos c2]
      have hk := hc.2 ((i - 123) / 3) (by omega)
      obtain ⟨k1, k2, k3⟩ := hk
      unfold cd3
      rcases (show (i - 123) % 3 = 0 ∨ (i - 123) % 3 = 1 ∨ (i - 123) % 3 = 2 by omega) with e | e | e
      · rw [e, if_pos rfl, ← k1]
        exact congrArg _ (by omega)
      · rw [e, if_neg (by decide), if_pos rfl, ← k2]
        exact congrArg _ (by omega)
      · rw [e, if_neg (by decide), if_neg (by decide), ← k3]
        exact congrArg _ (by omega)
    · rw [if_neg c2, if_neg c2]
  · intro j hj nx2 N hF h1
    apply s_R_sentence_145 step
    have e45 : N.1 400 45 = I (st.2.1 : Int) := by rw [hF.2.1 45 (by decide)]; exact hc.1
    rw [e45, (hF.1 404 (by decide) (by decide)).1, I_mul, I_lt (by omega) (by omega) (by omega) (by omega), I_add, I_add, ixI (a := (j : Int)) (by omega) (by omega), Int.toNat_natCast, show 123 + (j : Int) = ((123 + j : Nat) : Int) by omega, ixI (by omega) (by omega), Int.toNat_natCast]
    refine ⟨fun _ => ⟨inRI (by omega) (by omega) (by omega), inRI (by omega) (by omega) (by omega), nx2 _ (RF.u1 hF (by decide) (by decide)) fun i => ?_⟩, fun q => absurd (by omega) q⟩
    by_cases c : i = 123 + j
    · subst c
      rw [mI_eq, if_pos (by omega), show 123 + j - 123 = j by omega]
    · rw [mI_n2 c, h1 i]
      by_cases c2 : 123 ≤ i ∧ i < 123 + j
      · rw [if_pos c2, if_pos (by omega)]
      · rw [if_neg c2, if_neg (by omega)]
theorem r_sentence {d : Nat} (hn0 : RN0 M g nm) (hT : TR M n b) (hw : ∀ j, j < 23 → M.2.1 406 j = J (nmR (wl j))) : EvQ (d + 6) 162 [.ref 400] M fun r N => r = some (.int (I (senA (senR b n g nm)))) ∧ N.1 400 0 = I 0 ∧ TR N 0 b ∧ RF LRS FRS M N ∧ (∀ e, senR b n g nm = .error e → N.1 400 15 = I e.1 ∧ N.1 402 = M.1 402) ∧
    ∀ st, senR b n g nm = .ok st → N.1 400 15 = I 0 ∧ N.1 402 = fun k => I (senG st g k) := by
  have hs := hn0.2.2.1
  have h940 := hT.2.1
  generalize hR : senR b n g nm = R
  unfold senR at hR
  apply e_R_sentence
  intro At step
  have tk : Ev (d + 5) 56 [.ref 400, .int (I 200)] (sI M 400 0 (I 0)) none (sI (sI (sI (sI (sI M 400 0 (I 0)) 400 3 (I n)) 400 2 (I 0)) 400 4 (I 0)) 400 5 (I 200)) := by
    apply Ev.ofQ
    apply e_R_taken
    intro At _
    rw [mI_n2 (by decide), hT.1]
    exact ⟨rfl, rfl⟩
  refine ⟨_, tk, ?_⟩
  have e2 : ∀ j, (sI (sI (sI (sI (sI M 400 0 (I 0)) 400 3 (I n)) 400 2 (I 0)) 400 4 (I 0)) 400 5 (I 200)).1 400 j = if j = 5 then I 200 else if j = 4 then I 0 else if j = 2 then I 0 else if j = 3 then I n else if j = 0 then I 0 else M.1 400 j := by
    intro j
    by_cases c3 : j = 5
    · subst c3
      rw [if_pos rfl, mI_eq]
    rw [if_neg c3, mI_n2 c3]
    by_cases c4 : j = 4
    · subst c4
      rw [if_pos rfl, mI_eq]
    rw [if_neg c4, mI_n2 c4]
    by_cases c5 : j = 2
    · subst c5
      rw [if_pos rfl, mI_eq]
    rw [if_neg c5, mI_n2 c5]
    by_cases c6 : j = 3
    · subst c6
      rw [if_pos rfl, mI_eq]
    rw [if_neg c6, mI_n2 c6]
    by_cases c7 : j = 0
    · subst c7
      rw [if_pos rfl, mI_eq]
    rw [if_neg c7, mI_n2 c7]
  have F2 : RF LRS FRS M (sI (sI (sI (sI (sI M 400 0 (I 0)) 400 3 (I n)) 400 2 (I 0)) 400 4 (I 0)) 400 5 (I 200)) := RF.u2 (RF.u2 (RF.u2 (RF.u2 (RF.f (by decide)) (by decide)) (by decide)) (by decide)) (by decide)
  have l2 : (sI (sI (sI (sI (sI M 400 0 (I 0)) 400 3 (I n)) 400 2 (I 0)) 400 4 (I 0)) 400 5 (I 200)).2.1 = M.2.1 := rfl
  have b2 : ∀ a, a ≠ 400 → (sI (sI (sI (sI (sI M 400 0 (I 0)) 400 3 (I n)) 400 2 (I 0)) 400 4 (I 0)) 400 5 (I 200)).1 a = M.1 a := fun a ha => by rw [mI_fn ha, mI_fn ha, mI_fn ha, mI_fn ha, mI_fn ha]
  generalize sI (sI (sI (sI (sI M 400 0 (I 0)) 400 3 (I n)) 400 2 (I 0)) 400 4 (I 0)) 400 5 (I 200) = N2 at *
  have e3 : ∀ j, (sI (sI (sI (sI (sI (sI N2 400 15 (I 0)) 400 45 (I 0)) 400 46 (I 0)) 400 47 (I 0)) 400 48 (I 1)) 400 49 (I 0)).1 400 j = if j = 49 then I 0 else if j = 48 then I 1 else if j = 47 then I 0 else if j = 46 then I 0 else if j = 45 then I 0 else if j = 15 then I 0 else N2.1 400 j := by
    intro j
    by_cases c2 : j = 49
    · subst c2
      rw [if_pos rfl, mI_eq]
    rw [if_neg c2, mI_n2 c2]
    by_cases c3 : j = 48
    · subst c3
      rw [if_pos rfl, mI_eq]
    rw [if_neg c3, mI_n2 c3]
    by_cases c4 : j = 47
    · subst c4
      rw [if_pos rfl, mI_eq]
    rw [if_neg c4, mI_n2 c4]
    by_cases c5 : j = 46
    · subst c5
      rw [if_pos rfl, mI_eq]
    rw [if_neg c5, mI_n2 c5]
    by_cases c6 : j = 45
    · subst c6
      rw [if_pos rfl, mI_eq]
    rw [if_neg c6, mI_n2 c6]
    by_cases c7 : j = 15
    · subst c7
      rw [if_pos rfl, mI_eq]
    rw [if_neg c7, mI_n2 c7]
  have F3 : RF LRS FRS M (sI (sI (sI (sI (sI (sI N2 400 15 (I 0)) 400 45 (I 0)) 400 46 (I 0)) 400 47 (I 0)) 400 48 (I 1)) 400 49 (I 0)) := RF.u2 (RF.u2 (RF.u2 (RF.u2 (RF.u2 (RF.u2 F2 (by decide)) (by decide)) (by decide)) (by decide)) (by decide)) (by decide)
  have l3 : (sI (sI (sI (sI (sI (sI N2 400 15 (I 0)) 400 45 (I 0)) 400 46 (I 0)) 400 47 (I 0)) 400 48 (I 1)) 400 49 (I 0)).2.1 = N2.2.1 := rfl
  have b3 : ∀ a, a ≠ 400 → (sI (sI (sI (sI (sI (sI N2 400 15 (I 0)) 400 45 (I 0)) 400 46 (I 0)) 400 47 (I 0)) 400 48 (I 1)) 400 49 (I 0)).1 a = N2.1 a := fun a ha => by rw [mI_fn ha, mI_fn ha, mI_fn ha, mI_fn ha, mI_fn ha, mI_fn ha]
  generalize sI (sI (sI (sI (sI (sI N2 400 15 (I 0)) 400 45 (I 0)) 400 46 (I 0)) 400 47 (I 0)) 400 48 (I 1)) 400 49 (I 0) = N3 at *
  have t3 : TRr N3 n b := ⟨by rw [e3]; show N2.1 400 3 = _; rw [e2]; rfl, h940, fun j hj => by rw [b3 401 (by decide), b2 401 (by decide)]; exact hT.2.2 j hj⟩
  have x5 : N3.1 400 5 = I 200 := by rw [e3]; show N2.1 400 5 = _; rw [e2]; rfl
  have x4 : N3.1 400 4 = I 0 := by rw [e3]; show N2.1 400 4 = _; rw [e2]; rfl
  have x0 : N3.1 400 0 = I 0 := by rw [e3]; show N2.1 400 0 = _; rw [e2]; rfl
  have x2 : N3.1 400 2 = I 0 := by rw [e3]; show N2.1 400 2 = _; rw [e2]; rfl
  refine q_non (r_next t3 (L := 200) (p := 0) x5 (by decide) x4 (Nat.zero_le _)) ?_
  rintro N5 ⟨f5, k5⟩
  have F5 : RF LRS FRS M N5 := F3.trans (f5.mono (by decide) (by decide))
  have rt5 : RT N5 b n 200 0 := ⟨⟨⟨by rw [f5.2.1 3 (by decide)]; exact t3.1, h940, fun j hj => by rw [(f5.1 401 (by decide) (by decide)).1]; exact t3.2.2 j hj⟩, by rw [f5.2.1 5 (by decide)]; exact x5, by rw [f5.2.1 15 (by decide), e3]; rfl, Nat.zero_le _, by decide⟩, k5, fun j hj => by rw [(f5.1 406 (by decide) (by decide)).2, l3, l2]; exact hw j hj⟩
  have h402 : N5.1 402 = M.1 402 := by rw [(f5.1 402 (by decide) (by decide)).1, b3 402 (by decide), b2 402 (by decide)]
  have hn5 : RN0 N5 g nm := RN0_fr hn0 h402 (by rw [(f5.1 405 (by decide) (by decide)).2, l3, l2])
  have y0 : N5.1 400 0 = I 0 := by rw [f5.2.1 0 (by decide)]; exact x0
  have y2 : N5.1 400 2 = I 0 := by rw [f5.2.1 2 (by decide)]; exact x2
  have tr : ∀ N : Mm, N.1 400 2 = I 0 → TR N 0 b := fun N a1 => ⟨a1, by omega, fun j hj => absurd hj (by omega)⟩
  have y45 : N5.1 400 45 = I 0 := by rw [f5.2.1 45 (by decide), e3]; rfl
  have y46 : N5.1 400 46 = I 0 := by rw [f5.2.1 46 (by decide), e3]; rfl
  have y47 : N5.1 400 47 = I 0 := by rw [f5.2.1 47 (by decide), e3]; rfl
  have y48 : N5.1 400 48 = I 1 := by rw [f5.2.1 48 (by decide), e3]; rfl
  have y49 : N5.1 400 49 = I 0 := by rw [f5.2.1 49 (by decide), e3]; rfl
  have s0 : SP ss00 := ⟨Nat.le_refl _, by decide, fun i hi => absurd hi (by show ¬ i < 0; omega), Nat.le_refl _⟩
  have V5 : RV N5 (fun _ => 0) 0 ss00 1 := ⟨⟨y45, fun i hi => absurd hi (by show ¬ i < 0; omega)⟩, ⟨y47, fun i hi => absurd hi (by omega), fun y => absurd y (by decide), fun y => absurd y (by decide), fun j hj => absurd hj (by omega)⟩, y46, y48, y49, by decide, s0⟩
  clear e2 e3 b2 b3 l2 l3 F2 F3 t3 x5 x4 x0 x2 f5 k5 tk y45 y46 y47 y48 y49
  have hE : ∀ N e, R = .error e → RF LSn FSn N5 N → rFl N e → ((some (Value.int ((I (-1)) - (N.1 400 16)))) = some (.int (I (senA R))) ∧ N.1 400 0 = I 0 ∧ TR N 0 b ∧ RF LRS FRS M N ∧ (∀ e, R = .error e → N.1 400 15 = I e.1 ∧ N.1 402 = M.1 402) ∧ ∀ st, R = .ok st → N.1 400 15 = I 0 ∧ N.1 402 = fun k => I (senG st g k)) := by
    intro N e he hF hN
    refine ⟨?_, by rw [hF.2.1 0 (by decide)]; exact y0, tr N (by rw [hF.2.1 2 (by decide)]; exact y2), F5.trans (hF.mono (by decide) (by decide)), fun e' he' => ?_, fun st hst => ?_⟩
    · rw [he, hN.2.1, I_sub]
      rfl
    · rw [he] at he'
      cases he'
      exact ⟨hN.1, by rw [(hF.1 402 (by decide) (by decide)).1]; exact h402⟩
    · rw [he] at hst
      cases hst
  have zc := (z_sent (b := b) (n := n) (L := 200) (g := g) (nm := nm) (M0 := N5) (Er := fun e => R = .error e) (D := d) step hn5 hE (4 * n + 6) (4 * n + 5) (by omega)).2.2
  refine zc 1 0 0 ss00 (fun _ => 0) N5 V5 rt5 RF.refl (by decide) (by decide) (by omega) (Or.inl rfl) (fun e h => ?_) fun x a b' k X hx W X49 TX FX => ?_
  · rw [bnd_e h] at hR
    exact hR.symm
  rw [bnd_o hx] at hR
  have w1 := sR_w2 hx
  have x49 : X.1 400 49 ≠ I 0 := by
    rw [X49]
    decide
  have tS := (tk_four (b := b) (L := 200) TX.1.2.2.2.1).1.2.2.1
  have e11 : X.1 400 11 = I (rkT (tkK b n 200 x.2) : Nat) := TX.2.1.2.2.1
  obtain ⟨u1, u2, u3, u4, u5⟩ := rkT_e tS
  apply s_R_sentence_48 step
  refine ⟨fun y => absurd y (by decide), fun _ => ⟨fun y => absurd y x49, fun _ => ⟨fun y => ?_, fun y => ⟨fun y => absurd y x49, fun _ => ?_⟩⟩⟩⟩
  · have k0 : tkK b n 200 x.2 = 0 := by
      rw [e11] at y
      refine u4.mp ?_
      clear hR tS u1 u2 u3 u4 zc hE
      generalize rkT (tkK b n 200 x.2) = z at *
      by_cases c : z = 0
      · exact c
      · exact absurd y (by rw [I_ne (by omega) (by omega) (by omega) (by omega)]; omega)
    rw [if_pos k0] at hR
    refine q_non (r_nots (Or.inl rfl) k X W) ?_
    rintro X1 ⟨W1, f1, n1⟩
    have T1 := RT_k TX f1 noT1 n1
    refine q_non (r_joinsO (Or.inl rfl) W1) ?_
    rintro X2 ⟨W2, f2, n2⟩
    have T2 := RT_k T1 f2 noT2 n2
    have F2 := (FX.trans (f1.mono (by decide) (by decide))).trans (f2.mono (by decide) (by decide))
    have c2 := RW_0 W2
    have x20 := W2.2.2.2.2.2.1.2.1
    have x2n := W2.2.2.2.2.2.1.1
    have x47 : X2.1 400 47 = I ((0 + 0 + 0 + 0 : Nat) : Int) := W2.2.1.1
    have x46 : X2.1 400 46 = I (x.1.2.2 : Int) := W2.2.2.1
    have x15 : X2.1 400 15 = I 0 := T2.1.2.2.1
    have x402 : X2.1 402 = M.1 402 := by rw [(F2.1 402 (by decide) (by decide)).1]; exact h402
    rw [x47, I_lt (by omega) (by omega) (by omega) (by omega)]
    refine ⟨fun z => absurd z (by omega), fun _ => ?_⟩
    apply s_R_sentence_48 step
    refine ⟨fun _ => ?_, fun y => absurd rfl y⟩
    rw [c2.1]
    refine r_lay (st := x.1) (g := g) step ?_ (by omega) ?_ ?_
    · unfold RCd
      rw [mI_fn (by decide), mI_fn (by decide)]
      exact c2
    · funext j
      by_cases c : j = 122
      · rw [c, mI_eq, if_pos rfl]
      · rw [mI_n2 c, if_neg c, x402, hn0.1]
    · intro N hF hm
      have g4 : ∀ j, N.1 400 j = X2.1 400 j := fun j => by rw [hF.2.1 j (by simp), mI_n1 (by decide)]
      have FN : RF LRS FRS M N := ((F5.trans (F2.mono (by decide) (by decide))).trans (RF.st (by decide) (by decide))).trans (hF.mono (by decide) (by decide))
      refine ⟨by rw [g4, x46, ← hR]; rfl, by rw [g4, F2.2.1 0 (by decide)]; exact y0, tr N (by rw [g4, F2.2.1 2 (by decide)]; exact y2), FN, fun e he => ?_, fun st hst => ?_⟩
      · rw [← hR] at he
        cases he
      · rw [← hR] at hst
        cases hst
        exact ⟨by rw [g4]; exact x15, hm⟩
  · have k0 : ¬ tkK b n 200 x.2 = 0 := fun z => y (by rw [e11, z]; rfl)
    rw [if_neg k0] at hR
    refine q_int (r_behindEnd TX w1 (Or.inl rfl) W X49 (by omega)) ?_
    rintro v3 N3 ⟨f3, g3, -⟩
    obtain ⟨g4, g5⟩ := g3 rfl
    exact ⟨fun _ => hE N3 _ hR.symm (FX.trans f3) g5, fun y => absurd g4 y⟩
end RSG
