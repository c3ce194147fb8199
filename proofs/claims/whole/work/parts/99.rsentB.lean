/-! ===== a sentence's text: the reference's ALL and COND ===== -/
section RSF
variable {b : Nat → Nat} {n L : Nat} {g : Nat → Int} {nm : Nat → List Nat} {M0 : Mm} {At : JJ} {Er : Int × Nat → Prop} {D : Nat} {Q : Option Value → Mm → Prop}
/-- behind a ONE, at a word -/
theorem h_word {X : Mm} {q : Nat} (step : StepQ (D + 5) k_R_sentence Q At) (TX : RT X b n L q) (X49 : X.1 400 49 = I 1) (hw : tkW b n L q ≤ 23) {K : Mm → Prop} (hb : EvQ (D + 5) 161 [.ref 400] X fun r N => ∃ v, r = some (.int v) ∧ (v = I 1 ∧ K N)) (hk : ∀ N, K N → HD At N) : HD At X := by
  have x49 : X.1 400 49 ≠ I 0 := by
    rw [X49]
    decide
  have e11 : X.1 400 11 = I (rkT (tkK b n L q) : Nat) := TX.2.1.2.2.1
  rw [tkW_2.mp hw] at e11
  apply s_R_sentence_48 step
  refine ⟨fun y => absurd y (by decide), fun _ => ⟨fun y => absurd y x49, fun _ => ⟨fun y => ?_, fun y => ⟨fun y => absurd y x49, fun _ => ?_⟩⟩⟩⟩
  · rw [e11] at y
    exact absurd y (by decide)
  · refine q_int hb ?_
    rintro v N ⟨rfl, h⟩
    exact ⟨fun y => absurd y (by decide), fun _ => hk N h⟩
theorem z_all {F : Nat} (step : StepQ (D + 5) k_R_sentence Q At) (hn0 : RN0 M0 g nm) (ih0 : ∀ f, f < F → Z0 b n L g nm M0 At Er f) : Z1 b n L g nm M0 At Er F := by
  intro dp p t0 st S N hV hT hF hd1 hd9 hf hb he hk
  cases F with
  | zero => exact absurd hf (by omega)
  | succ F =>
  have hs := hn0.2.2.1
  have hp0 := hT.1.2.2.2.1
  have wsp := hV.2.2.2.2.2.2
  have b0 := wsp.1
  generalize hR : rdS b n L g nm (F + 1) 1 dp st p = R at he hk
  rw [sR_1] at hR
  have key : ∀ (m q b' k : Nat) (st' : SS) (X : Mm), m ≤ F → RW X S t0 0 b' k st' dp → X.1 400 49 = I 1 → RT X b n L q → RF LSn FSn M0 X → st'.2.1 + 1 ≤ 2 * st'.2.2 → 1 ≤ dpS st'.1 st'.2.1 → 4 * (n - q) + 2 ≤ m → rdS b n L g nm m 3 dp st' q = R → HD At X := by
    intro m
    induction m with
    | zero =>
      intro q b' k st' X hm W X49 TX FX hc hdp hfq hR
      exact absurd hfq (by omega)
    | succ m ihm =>
      intro q b' k st' X hm W X49 TX FX hc hdp hfq hR
      have hq0 := TX.1.2.2.2.1
      rw [sR_3] at hR
      by_cases cw : tkW b n L q = 14
      · rw [if_pos cw] at hR
        have a1 := tk_four (b := b) (n := n) (L := L) hq0
        have p1 := a1.1.2.2.2.1 (by rw [tkW_2.mp (show tkW b n L q ≤ 23 by rw [cw]; decide)]; decide)
        have p2 := a1.1.2.1
        clear a1
        have wsp' := W.2.2.2.2.2.1
        have ok8 := sR_ok (b := b) (n := n) (L := L) (nm := nm) hs m 0 dp st' (tkN b n L q)
        refine h_word step TX X49 (by rw [cw]; decide) (r_behindAnd TX cw hb W) ?_
        rintro N8 ⟨V8, T8, f8⟩
        clear cw
        generalize tkN b n L q = q' at *
        refine ih0 m (by omega) dp q' (t0 + 1) st' (upf S t0 21) N8 V8 T8 (FX.trans f8) hd1 hd9 (by omega) (fun e h => ?_) fun x k' X' hx W' X49' TX' FX' => ?_
        · rw [bnd_e h] at hR
          exact he e hR.symm
        · rw [bnd_o hx] at hR
          obtain ⟨r1, r2, r3, r4, r5, r6⟩ := (ok8 x p2 wsp' hx).1 (Or.inl rfl)
          obtain ⟨o1, o2⟩ := op_ok r1 (c := 21) (by omega) (Or.inr ⟨by decide, by omega⟩)
          rw [if_neg (by decide)] at o2
          refine ihm x.2 1 k' (addc x.1 (21, 0, 0)) X' (by omega) (RW_and W' o1) X49' TX' FX' ?_ ?_ (by omega) hR
          · show x.1.2.1 + 1 + 1 ≤ 2 * x.1.2.2
            omega
          · rw [o2, r4]
            omega
      · rw [if_neg cw] at hR
        exact hk (st', q) b' k X hR.symm W X49 TX FX
  have ok0 := sR_ok (b := b) (n := n) (L := L) (nm := nm) hs F 0 dp st p
  refine ih0 F (by omega) dp p t0 st S N hV hT hF hd1 hd9 (by omega) (fun e h => ?_) fun x k X hx W X49 TX FX => ?_
  · rw [bnd_e h] at hR
    exact he e hR.symm
  · rw [bnd_o hx] at hR
    obtain ⟨s1, s2, s3, s4, s5, s6⟩ := (ok0 x hp0 wsp hx).1 (Or.inl rfl)
    exact key F x.2 0 k x.1 X (Nat.le_refl _) W X49 TX FX (by omega) (by omega) (by omega) hR
theorem z_cond {F : Nat} (step : StepQ (D + 5) k_R_sentence Q At) (hn0 : RN0 M0 g nm) (ih1 : ∀ f, f < F → Z1 b n L g nm M0 At Er f) : Z2 b n L g nm M0 At Er F := by
  intro dp p t0 st S N hV hT hF hd1 hd9 hf hb he hk
  cases F with
  | zero => exact absurd hf (by omega)
  | succ F =>
  have hs := hn0.2.2.1
  have hp0 := hT.1.2.2.2.1
  have wsp := hV.2.2.2.2.2.2
  have b0 := wsp.1
  generalize hR : rdS b n L g nm (F + 1) 2 dp st p = R at he hk
  rw [sR_2] at hR
  have key : ∀ (m q a b' k : Nat) (st' : SS) (X : Mm), m ≤ F → RW X S t0 a b' k st' dp → X.1 400 49 = I 1 → RT X b n L q → RF LSn FSn M0 X → st'.2.1 + 1 ≤ 2 * st'.2.2 → 1 ≤ dpS st'.1 st'.2.1 → 4 * (n - q) + 3 ≤ m → rdS b n L g nm m 4 dp st' q = R → HD At X := by
    intro m
    induction m with
    | zero =>
      intro q a b' k st' X hm W X49 TX FX hc hdp hfq hR
      exact absurd hfq (by omega)
    | succ m ihm =>
      intro q a b' k st' X hm W X49 TX FX hc hdp hfq hR
      have hq0 := TX.1.2.2.2.1
      rw [sR_4] at hR
      by_cases cw : tkW b n L q = 13
      · rw [if_pos cw] at hR
        have a1 := tk_four (b := b) (n := n) (L := L) hq0
        have p1 := a1.1.2.2.2.1 (by rw [tkW_2.mp (show tkW b n L q ≤ 23 by rw [cw]; decide)]; decide)
        have p2 := a1.1.2.1
        clear a1
        have wsp' := W.2.2.2.2.2.1
        have ok8 := sR_ok (b := b) (n := n) (L := L) (nm := nm) hs m 1 dp st' (tkN b n L q)
        refine h_word step TX X49 (by rw [cw]; decide) (r_behindOr TX cw hb W) ?_
        rintro N8 ⟨V8, T8, f8⟩
        clear cw
        generalize tkN b n L q = q' at *
        refine ih1 m (by omega) dp q' (t0 + 1) st' (upf S t0 22) N8 V8 T8 (FX.trans f8) hd1 hd9 (by omega) (topN_up (Or.inl rfl)) (fun e h => ?_) fun x b2 k' X' hx W' X49' TX' FX' => ?_
        · rw [bnd_e h] at hR
          exact he e hR.symm
        · rw [bnd_o hx] at hR
          obtain ⟨r1, r2, r3, r4, r5, r6⟩ := (ok8 x p2 wsp' hx).1 (Or.inr (Or.inl rfl))
          obtain ⟨o1, o2⟩ := op_ok r1 (c := 22) (by omega) (Or.inr ⟨by decide, by omega⟩)
          rw [if_neg (by decide)] at o2
          refine ihm x.2 1 b2 k' (addc x.1 (22, 0, 0)) X' (by omega) (RW_or W' o1) X49' TX' FX' ?_ ?_ (by omega) hR
          · show x.1.2.1 + 1 + 1 ≤ 2 * x.1.2.2
            omega
          · rw [o2, r4]
            omega
      · rw [if_neg cw] at hR
        exact hk (st', q) a b' k X hR.symm W X49 TX FX
  have ok0 := sR_ok (b := b) (n := n) (L := L) (nm := nm) hs F 1 dp st p
  refine ih1 F (by omega) dp p t0 st S N hV hT hF hd1 hd9 (by omega) (topN_m hb fun x y => Or.inr y) (fun e h => ?_) fun x b' k X hx W X49 TX FX => ?_
  · rw [bnd_e h] at hR
    exact he e hR.symm
  · rw [bnd_o hx] at hR
    obtain ⟨s1, s2, s3, s4, s5, s6⟩ := (ok0 x hp0 wsp hx).1 (Or.inr (Or.inl rfl))
    exact key F x.2 0 b' k x.1 X (Nat.le_refl _) W X49 TX FX (by omega) (by omega) (by omega) hR
theorem z_sent (step : StepQ (D + 5) k_R_sentence Q At) (hn0 : RN0 M0 g nm) (hE : ∀ N e, Er e → RF LSn FSn M0 N → rFl N e → Q (some (.int ((I (-1)) - (N.1 400 16)))) N) : ∀ F f, f < F → Z0 b n L g nm M0 At Er f ∧ Z1 b n L g nm M0 At Er f ∧ Z2 b n L g nm M0 At Er f
  | 0, f, h => absurd h (by omega)
  | F + 1, f, h => by
    have ih := z_sent step hn0 hE F
    by_cases c : f < F
    · exact ih f c
    · have e : f = F := by omega
      subst e
      exact ⟨z_one step hn0 hE (fun k hk => (ih k hk).1) (fun k hk => (ih k hk).2.2), z_all step hn0 fun k hk => (ih k hk).1, z_cond step hn0 fun k hk => (ih k hk).2.1⟩
end RSF
