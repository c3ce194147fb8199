/-! ===== street(): the reference ===== -/
section RST
variable {M : Mm} {b : Nat → Nat} {n : Nat} {g : Nat → Int} {nm : Nat → List Nat}
theorem or_lt8 {a k : Nat} (ha : a < 8) (hk : k < 3) : a ||| 2 ^ k < 8 := Nat.or_lt_two_pow (n := 3) ha (Nat.pow_lt_pow_right (by decide) hk)
theorem lnS_on {L p on : Nat} {x : ST × Nat} (h : lnS b n L g nm on p = .ok x) (ho : on < 8) : x.1.2.2 < 8 := by
  unfold lnS at h
  have on1 : ∀ {k to : Nat} {lo hi : Int}, k < 3 → lnOnce b n L k to lo hi g nm on p = .ok x → x.1.2.2 < 8 := by
    intro k to lo hi hk h
    unfold lnOnce at h
    split at h
    · cases h
    · obtain ⟨z, _, h4⟩ := bnd_ok h
      cases h4
      exact or_lt8 ho hk
  have pr1 : ∀ {c m f s : Nat} {u lo hi : Int}, lnPair b n L c m f u s lo hi g nm on p = .ok x → x.1.2.2 < 8 := by
    intro c m f s u lo hi h
    unfold lnPair at h
    split at h
    · cases h
    · obtain ⟨y, _, h2⟩ := bnd_ok h
      split at h2
      · cases h2
      · obtain ⟨z, _, h4⟩ := bnd_ok h2
        cases h4
        exact ho
  split at h
  · unfold lnWall at h
    split at h
    · cases h
    · obtain ⟨y, _, h2⟩ := bnd_ok h
      obtain ⟨z, _, h4⟩ := bnd_ok h2
      cases h4
      exact ho
  split at h
  · unfold lnHouse at h
    split at h
    · cases h
    · obtain ⟨y, _, h2⟩ := bnd_ok h
      obtain ⟨z, _, h4⟩ := bnd_ok h2
      obtain ⟨u, _, h6⟩ := bnd_ok h4
      obtain ⟨v, _, h8⟩ := bnd_ok h6
      cases h8
      exact ho
  split at h
  · unfold lnDrain at h
    split at h
    · cases h
    · obtain ⟨y, _, h2⟩ := bnd_ok h
      obtain ⟨z, _, h4⟩ := bnd_ok h2
      obtain ⟨u, _, h6⟩ := bnd_ok h4
      obtain ⟨v, _, h8⟩ := bnd_ok h6
      cases h8
      exact ho
  split at h
  · exact pr1 h
  split at h
  · exact pr1 h
  split at h
  · exact on1 (by decide) h
  split at h
  · exact on1 (by decide) h
  split at h
  · exact on1 (by decide) h
  · cases h
theorem r_clears {d : Nat} : EvQ (d + 1) 64 [.ref 400] M fun r N => r = none ∧ (∀ i, i < 89 → N.1 403 i = I (g00 i)) ∧ RF [403] [] M N ∧ N.2.1 = M.2.1 := by
  apply e_R_clears
  intro At step
  refine loopU (P := fun j : Nat => ∀ N : Mm, RF [403] [] M N → N.2.1 = M.2.1 → (∀ i, i < j → N.1 403 i = I 0) → At 2 [.ref 400, .int (I j)] [] N) (n := 89) ?_ ?_ M RF.refl rfl (fun i hi => absurd hi (by omega))
  · intro N hF hL h1
    apply s_R_clears_2 step
    refine ⟨fun q => absurd q (by decide), fun _ => ⟨rfl, fun i hi => ?_, RF.u1 (RF.u1 (RF.u1 hF (by decide) (by decide)) (by decide) (by decide)) (by decide) (by decide), hL⟩⟩
    unfold g00
    by_cases c7 : i = 7
    · subst c7
      rw [mI_eq]
      rfl
    rw [mI_n2 c7]
    by_cases c6 : i = 6
    · subst c6
      rw [mI_eq]
      rfl
    rw [mI_n2 c6]
    by_cases c5 : i = 5
    · subst c5
      rw [mI_eq]
      rfl
    rw [mI_n2 c5, if_neg c5, if_neg c6, if_neg c7]
    exact h1 i hi
  · intro j hj nx N hF hL h1
    apply s_R_clears_2 step
    rw [I_lt (by omega) (by omega) (by omega) (by omega), ixI (by omega) (by omega), Int.toNat_natCast, I_add]
    refine ⟨fun _ => ⟨inRI (by omega) (by omega) (by omega), nx _ (RF.u1 hF (by decide) (by decide)) hL fun i hi => ?_⟩, fun q => absurd (by omega) q⟩
    by_cases e : i = j
    · rw [e, mI_eq]
    · rw [mI_n2 e]
      exact h1 i (by omega)
abbrev FTT : List Nat := [0, 2, 3, 4, 5, 11, 12, 13, 14, 15, 16, 18, 19, 20]
/-- reading has begun -/
theorem RF_ft {M N : Mm} {T : List Nat} {L : List Nat} (h : RF L T M N) (hL : ∀ a, a ∈ L → a ∈ [403, 405]) (hT : ∀ k, k ∈ T → k ∈ FTT) : RF [403, 405] FTT M N := h.mono hL hT
theorem r_street {d : Nat} (hm : M.1 402 = fun k => I (g k)) (hT : TR M n b) (hw : ∀ k, k < 23 → M.2.1 406 k = J (nmR (wl k))) : EvQ (d + 7) 84 [.ref 400] M fun r N => r = some (.int (I (streetA (lnsS b n 900 (n + 1) 0 st00 0)))) ∧ TR N 0 b ∧ N.1 400 0 = I 0 ∧ (∀ k, k < 23 → N.2.1 406 k = J (nmR (wl k))) ∧
    (∀ e, lnsS b n 900 (n + 1) 0 st00 0 = .error e → N.1 400 15 = I e.1 ∧ RF [403, 405] FTT M N ∧ ∀ k, k < 21 → N.2.1 405 k = M.2.1 405 k) ∧
    ∀ x, lnsS b n 900 (n + 1) 0 st00 0 = .ok x → N.1 400 15 = I 0 ∧ (N.1 402 = fun k => I (newG x.2.1 g k)) ∧ RNm N 405 0 x.2.1 x.2.2.1 ∧ N.1 400 23 = I 0 ∧ RF [402, 403, 405] (23 :: FTT) M N := by
  have h940 := hT.2.1
  generalize hR : lnsS b n 900 (n + 1) 0 st00 0 = R
  apply e_R_street
  intro At step
  have tk : Ev (d + 6) 56 [.ref 400, .int (I 900)] (sI M 400 0 (I 0)) none (sI (sI (sI (sI (sI M 400 0 (I 0)) 400 3 (I n)) 400 2 (I 0)) 400 4 (I 0)) 400 5 (I 900)) := by
    apply Ev.ofQ
    apply e_R_taken
    intro At _
    rw [mI_n2 (by decide), hT.1]
    exact ⟨rfl, rfl⟩
  refine ⟨_, tk, ?_⟩
  refine q_non r_clears ?_
  rintro N3 ⟨c1, c2, c3⟩
  have F3 : RF [403, 405] FTT M N3 := by
    refine RF.trans ?_ (c2.mono (by decide) (by decide))
    exact RF.u2 (RF.u2 (RF.u2 (RF.u2 (RF.u2 (RF.u2 (RF.u2 (RF.f (by decide)) (by decide)) (by decide)) (by decide)) (by decide)) (by decide)) (by decide)) (by decide)
  have l3 : N3.2.1 = M.2.1 := c3
  have e3 : ∀ k, N3.1 400 k = (sI (sI (sI (sI (sI (sI (sI (sI M 400 0 (I 0)) 400 3 (I n)) 400 2 (I 0)) 400 4 (I 0)) 400 5 (I 900)) 400 15 (I 0)) 400 19 (I 0)) 400 20 (I 0)).1 400 k := fun k => c2.2.1 k (by simp)
  have t3 : TRr N3 n b := ⟨by rw [e3]; simp (disch := omega) only [mI_eq, mI_n2], h940, fun k hk => by rw [(F3.1 401 (by decide) (by decide)).1]; exact hT.2.2 k hk⟩
  have t30 : N3.1 400 0 = I 0 := by
    rw [e3]
    simp (disch := omega) only [mI_eq, mI_n2]
  have t32 : N3.1 400 2 = I 0 := by
    rw [e3]
    simp (disch := omega) only [mI_eq, mI_n2]
  have t34 : N3.1 400 4 = I ((0 : Nat) : Int) := by
    rw [e3]
    simp (disch := omega) only [mI_eq, mI_n2]
    rfl
  have t35 : N3.1 400 5 = I 900 := by
    rw [e3]
    simp (disch := omega) only [mI_eq, mI_n2]
  have t315 : N3.1 400 15 = I 0 := by
    rw [e3]
    simp (disch := omega) only [mI_eq, mI_n2]
  have t319 : N3.1 400 19 = I ((0 : Nat) : Int) := by
    rw [e3]
    simp (disch := omega) only [mI_eq, mI_n2]
    rfl
  have t320 : N3.1 400 20 = I ((0 : Nat) : Int) := by
    rw [e3]
    simp (disch := omega) only [mI_eq, mI_n2]
    rfl
  clear e3
  refine q_non (r_next t3 (L := 900) (p := 0) t35 (by decide) t34 (Nat.zero_le _)) ?_
  rintro N5 ⟨f5, k5⟩
  have F5 : RF [403, 405] FTT M N5 := F3.trans (f5.mono (by decide) (by decide))
  have rt5 : RT N5 b n 900 0 := ⟨⟨⟨by rw [f5.2.1 3 (by decide)]; exact t3.1, h940, fun k hk => by rw [(f5.1 401 (by decide) (by decide)).1]; exact t3.2.2 k hk⟩, by rw [f5.2.1 5 (by decide)]; exact t35, by rw [f5.2.1 15 (by decide)]; exact t315, Nat.zero_le _, by decide⟩, k5, fun k hk => by rw [(f5.1 406 (by decide) (by decide)).2, l3]; exact hw k hk⟩
  have nz : ∀ w : Nat, ∀ k : Nat, k < 3 → ¬ (w : Int) < g00 k := fun w k hk => by
    have : k = 0 ∨ k = 1 ∨ k = 2 := by omega
    rcases this with rfl | rfl | rfl
    · show ¬ (w : Int) < 0
      omega
    · show ¬ (w : Int) < 0
      omega
    · show ¬ (w : Int) < 0
      omega
  have ri5 : RI N5 g00 (fun _ => []) 0 := ⟨fun i hi => by rw [(f5.1 403 (by decide) (by decide)).1]; exact c1 i hi, ⟨fun w hw => absurd hw (nz w 0 (by decide)), fun w hw => absurd hw (nz w 1 (by decide)), fun w hw => absurd hw (nz w 2 (by decide))⟩, by rw [f5.2.1 20 (by decide)]; exact t320⟩
  have tr : ∀ N : Mm, N.1 400 2 = I 0 → TR N 0 b := fun N a1 => ⟨a1, by omega, fun k hk => absurd hk (by omega)⟩
  have key : ∀ (f ln q : Nat) (st : ST) (N : Mm), n < q + f → q ≤ n → RT N b n 900 q → RI N st.1 st.2.1 st.2.2 → RGs st.1 → NMo st.1 st.2.1 → st.2.2 < 8 → RF [403, 405] FTT M N → (∀ k, k < 21 → N.2.1 405 k = M.2.1 405 k) → N.1 400 0 = I 0 → N.1 400 2 = I 0 → N.1 400 19 = I ln → lnsS b n 900 f ln st q = R → At 35 [.ref 400, .retAddr 0] [] N := by
    intro f
    induction f with
    | zero =>
      intro ln q st N h1 h2
      exfalso
      omega
    | succ f ih =>
      intro ln q st N h1 h2 hRT hI hs hm2 hon hF h21 h0 h22 h19 hR
      have hTk := hRT.2.1.2.2.1
      have k4 := (tk_four (b := b) (L := 900) h2).1.2.2.1
      rw [lnsS_s] at hR
      have rl := r_line (d := d) hRT hI hs hm2 (by omega)
      apply s_R_street_35 step
      rw [hTk]
      clear hTk
      generalize tkK b n 900 q = kk at *
      obtain ⟨u1, u2, u3, u4, u5⟩ := rkT_e k4
      rw [I_ne (by omega) (by omega) (by omega) (by omega)]
      refine ⟨fun z => ?_, fun z => ?_⟩
      · rw [if_pos (by omega)] at hR
        refine loopU (P := fun j : Nat => ∀ O : Mm, RF [402, 403, 405] FTT M O → O.1 400 = N.1 400 → O.2.1 = N.2.1 → O.1 403 = N.1 403 → (∀ i, O.1 402 i = if i < j then I (if i < 89 then st.1 i else 0) else I (g i)) → At 80 [.ref 400, .int (I j)] [] O) (n := 303) ?_ ?_ N (hF.mono (by decide) (by decide)) rfl rfl rfl (fun i => by rw [if_neg (by omega), (hF.1 402 (by decide) (by decide)).1, hm])
        · intro O oF o400 oL o403 oS
          apply s_R_street_80 step
          refine ⟨fun q => absurd q (by decide), fun _ => ?_⟩
          refine loopU (P := fun j : Nat => ∀ P : Mm, P.1 = O.1 → RF [402, 403, 405] FTT M P → (∀ a, a ≠ 405 → P.2.1 a = O.2.1 a) → (∀ i, P.2.1 405 i = if i < j then O.2.1 405 (21 + i) else O.2.1 405 i) → At 117 [.ref 400, .int (I j)] [] P) (n := 21) ?_ ?_ O rfl oF (fun _ _ => rfl) (fun i => by rw [if_neg (by omega)])
          · intro P e1 pF pL pN
            apply s_R_street_117 step
            refine ⟨fun q => absurd q (by decide), fun _ => ?_⟩
            have e6 : P.1 402 6 = I (st.1 6) := by rw [e1, oS 6, if_pos (by decide), if_pos (by decide)]
            have e19 : P.1 400 19 = I ln := by rw [e1, o400, h19]
            have j1 : ∀ k, k ≠ 23 → (sI (sI P 402 90 (P.1 402 6)) 400 23 (I 0)).1 400 k = N.1 400 k := fun k hk => by rw [mI_n2 hk, mI_fn (by decide), e1, o400]
            rw [← hR]
            refine ⟨by rw [e19]; rfl, tr _ (by rw [j1 2 (by decide)]; exact h22), by rw [j1 0 (by decide)]; exact h0, fun k hk => ?_, fun e he => ?_, fun x hx => ?_⟩
            · show P.2.1 406 k = _
              rw [pL 406 (by decide), oL]
              exact hRT.2.2 k hk
            · cases he
            · cases hx
              refine ⟨by rw [j1 15 (by decide)]; exact hRT.1.2.2.1, ?_, ?_, mI_eq, RF.u2 (RF.u1 (pF.mono (by decide) (by decide)) (by decide) (by decide)) (by decide)⟩
              · funext i
                rw [mI_fn (by decide), e6]
                unfold newG
                by_cases c : i = 90
                · subst c
                  rw [mI_eq, if_pos rfl]
                · rw [mI_n2 c, if_neg c, e1, oS i]
                  by_cases c2 : i < 303
                  · rw [if_pos c2]
                    by_cases c3 : i < 89
                    · rw [if_pos c3, if_pos c3]
                    · rw [if_neg c3, if_neg c3, if_pos c2]
                  · rw [if_neg c2, if_neg (by omega), if_neg c2]
              · have s1 := hs.1
                obtain ⟨m1, m2, m3⟩ := hI.2.1
                refine ⟨fun w hw => ?_, fun w hw => ?_, fun w hw => ?_⟩
                · have hw : (w : Int) < st.1 0 := hw
                  show P.2.1 405 (0 + w) = _
                  rw [pN, if_pos (by omega), oL, Nat.zero_add]
                  exact m1 w hw
                · have hw : (w : Int) < st.1 1 := hw
                  show P.2.1 405 (0 + (5 + w)) = _
                  rw [pN, if_pos (by omega), oL, Nat.zero_add]
                  exact m2 w hw
                · have hw : (w : Int) < st.1 2 := hw
                  show P.2.1 405 (0 + (15 + w)) = _
                  rw [pN, if_pos (by omega), oL, Nat.zero_add]
                  exact m3 w hw
          · intro j hj nx P e1 pF pL pN
            apply s_R_street_117 step
            rw [I_lt (by omega) (by omega) (by omega) (by omega), show I 21 + I (j : Int) = I ((21 + j : Nat) : Int) by rw [I_add]; exact congrArg I (by omega), ixI (by omega) (by omega), ixI (by omega) (by omega), Int.toNat_natCast, Int.toNat_natCast, I_add]
            refine ⟨fun _ => ⟨inRI (by omega) (by omega) (by omega), inRI (by omega) (by omega) (by omega), nx _ e1 (RF_sL pF (by decide)) (fun a ha => by rw [sL_ne ha]; exact pL a ha) fun i => ?_⟩, fun q => absurd (by omega) q⟩
            by_cases e : i = j
            · subst e
              rw [sL_eq, pN, if_neg (by omega), if_pos (by omega)]
            · rw [sL_n2 e, pN i]
              by_cases c : i < j
              · rw [if_pos c, if_pos (by omega)]
              · rw [if_neg c, if_neg (by omega)]
        · intro j hj nx O oF o400 oL o403 oS
          apply s_R_street_80 step
          rw [I_lt (by omega) (by omega) (by omega) (by omega), I_lt (by omega) (by omega) (by omega) (by omega), ixI (by omega) (by omega), Int.toNat_natCast, I_add]
          have nx2 : ∀ v : Int, (v = if j < 89 then st.1 j else 0) → At 80 [.ref 400, .int (I ((j : Int) + 1))] [] (sI O 402 j (I v)) := by
            intro v hv
            refine nx _ (RF.u1 oF (by decide) (by decide)) (by rw [mI_fn (by decide)]; exact o400) oL (by rw [mI_fn (by decide)]; exact o403) fun i => ?_
            by_cases e : i = j
            · subst e
              rw [mI_eq, if_pos (by omega), hv]
            · rw [mI_n2 e, oS i]
              by_cases c : i < j
              · rw [if_pos c, if_pos (show i < j + 1 by omega)]
              · rw [if_neg c, if_neg (show ¬ i < j + 1 by omega)]
          refine ⟨fun _ => ⟨fun q2 => ⟨inRI (by omega) (by omega) (by omega), inRI (by omega) (by omega) (by omega), ?_⟩, fun q2 => ⟨inRI (by omega) (by omega) (by omega), nx2 0 (by rw [if_neg (by omega)])⟩⟩, fun q => absurd (by omega) q⟩
          rw [o403, hI.1 j (by omega)]
          exact nx2 (st.1 j) (by rw [if_pos (by omega)])
      · rw [if_neg (by omega)] at hR
        refine q_int rl ?_
        rintro v N8 ⟨f8, e1, e2⟩
        have F8 : RF [403, 405] FTT M N8 := hF.trans (f8.1.mono (by decide) (by decide))
        have h218 : ∀ k, k < 21 → N8.2.1 405 k = M.2.1 405 k := fun k hk => (f8.2 k hk).trans (h21 k hk)
        have fin : ∀ (O : Mm) (e : Int × Nat), R = .error e → rFl O e → RF [403, 405] FTT M O → (∀ k, k < 21 → O.2.1 405 k = M.2.1 405 k) → O.1 400 0 = I 0 → O.1 400 2 = I 0 → some (Value.int (I (-1) - O.1 400 16)) = some (.int (I (streetA R))) ∧ TR O 0 b ∧ O.1 400 0 = I 0 ∧ (∀ k, k < 23 → O.2.1 406 k = J (nmR (wl k))) ∧ (∀ e, R = .error e → O.1 400 15 = I e.1 ∧ RF [403, 405] FTT M O ∧ ∀ k, k < 21 → O.2.1 405 k = M.2.1 405 k) ∧ ∀ x, R = .ok x → O.1 400 15 = I 0 ∧ (O.1 402 = fun k => I (newG x.2.1 g k)) ∧ RNm O 405 0 x.2.1 x.2.2.1 ∧ O.1 400 23 = I 0 ∧ RF [402, 403, 405] (23 :: FTT) M O := by
          intro O e hR hO oF o21 o0 o2
          refine ⟨by rw [hO.2.1, I_sub, hR]; rfl, tr _ o2, o0, fun k hk => by rw [(oF.1 406 (by decide) (by decide)).2]; exact hw k hk, fun e' he => ?_, fun x hx => ?_⟩
          · rw [hR] at he
            cases he
            exact ⟨hO.1, oF, o21⟩
          · rw [hR] at hx
            cases hx
        rcases pe_cases (lnS b n 900 st.1 st.2.1 st.2.2 q) with ⟨e, he⟩ | ⟨x, hx⟩
        · obtain ⟨rfl, w⟩ := e1 e he
          rw [bnd_e he] at hR
          exact ⟨fun _ => fin N8 e hR.symm w F8 h218 (by rw [f8.1.2.1 0 (by decide)]; exact h0) (by rw [f8.1.2.1 2 (by decide)]; exact h22), fun z => absurd rfl z⟩
        · obtain ⟨rfl, t6, i6⟩ := e2 x hx
          rw [bnd_o hx] at hR
          refine ⟨fun z => absurd z (by decide), fun _ => ?_⟩
          refine q_int (r_sign t6 (by decide)) ?_
          rintro v N13 ⟨f13, e3, e4⟩
          rcases pe_cases (pSign b n 900 59 x.2) with ⟨e, he⟩ | ⟨q2, hq⟩
          · obtain ⟨rfl, w⟩ := e3 e he
            rw [bnd_e he] at hR
            refine ⟨fun _ => fin N13 e hR.symm w (F8.trans (f13.mono (by decide) (by decide))) (fun k hk => by rw [(f13.1 405 (by decide) (by decide)).2]; exact h218 k hk) (by rw [f13.2.1 0 (by decide), f8.1.2.1 0 (by decide)]; exact h0) (by rw [f13.2.1 2 (by decide), f8.1.2.1 2 (by decide)]; exact h22), fun z => absurd rfl z⟩
          · obtain ⟨rfl, t11⟩ := e4 q2 hq
            rw [bnd_o hq] at hR
            refine ⟨fun z => absurd z (by decide), fun _ => ?_⟩
            obtain ⟨b1, b2, b3, b4⟩ := lns_step h2 hs hm2 hx hq
            have e19 : N13.1 400 19 = I ln := by
              rw [f13.2.1 19 (by decide), f8.1.2.1 19 (by decide)]
              exact h19
            rw [e19, I_add]
            refine ih (ln + 1) q2 x.1 _ (by omega) b4 (RT_fr t11 (fun k hk => mI_n2 (by omega)) (mI_fn (by decide)) rfl rfl) (RI_fr i6 ?_ ?_ ?_) b1 b2 (lnS_on hx hon) (RF.u2 (F8.trans (f13.mono (by decide) (by decide))) (by decide)) (fun k hk => ?_) ?_ ?_ mI_eq hR
            · rw [mI_fn (by decide), (f13.1 403 (by decide) (by decide)).1]
            · exact (f13.1 405 (by decide) (by decide)).2
            · rw [mI_n2 (by decide), f13.2.1 20 (by decide)]
            · show N13.2.1 405 k = _
              rw [(f13.1 405 (by decide) (by decide)).2]
              exact h218 k hk
            · rw [mI_n2 (by decide), f13.2.1 0 (by decide), f8.1.2.1 0 (by decide)]
              exact h0
            · rw [mI_n2 (by decide), f13.2.1 2 (by decide), f8.1.2.1 2 (by decide)]
              exact h22
  refine key (n + 1) 0 0 st00 N5 (by omega) (by omega) rt5 ri5 RGs_00 NMo_00 (by decide) F5 (fun k hk => by rw [(f5.1 405 (by decide) (by decide)).2, l3]) ?_ ?_ ?_ hR
  · rw [f5.2.1 0 (by decide)]
    exact t30
  · rw [f5.2.1 2 (by decide)]
    exact t32
  · rw [f5.2.1 19 (by decide)]
    exact t319
end RST
