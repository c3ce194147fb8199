/-! ===== a sentence's text: the reference's ONE, ALL, COND ===== -/
section RSE
variable {b : Nat → Nat} {n L : Nat} {g : Nat → Int} {nm : Nat → List Nat} {M0 : Mm} {At : JJ} {Er : Int × Nat → Prop}
theorem addc_lo {st : SS} {c : Int × Int × Int} {i : Nat} (h : i ≠ st.2.1) : (addc st c).1 i = st.1 i := upf_ne h
theorem addc_eq {st : SS} {c : Int × Int × Int} : (addc st c).1 st.2.1 = c := upf_eq
theorem RCd_add {N : Mm} {st : SS} {kc : Nat} {c : Int × Int × Int} (h : RCd N st kc) (hk : kc ≤ st.2.1) : RCd N (addc st c) kc := ⟨h.1, fun i hi => by rw [addc_lo (by omega)]; exact h.2 i hi⟩
theorem RW_not {N : Mm} {S : Nat → Int} {t0 k dp : Nat} {st : SS} (h : RW N (upf S t0 20) (t0 + 1) 0 0 k st (dp + 1)) (hs : SP (addc st (20, 0, 0))) : RW N S t0 0 0 (k + 1) (addc st (20, 0, 0)) dp := by
  obtain ⟨⟨kc, hc, p1, p2, p3, p4, pa, pb⟩, ⟨s1, s2, s3, s4, s5⟩, w46, w48, wt, wsp, wd⟩ := h
  refine ⟨⟨kc, RCd_add hc (by omega), ?_, fun j hj => ?_, fun y => absurd y (by decide), fun y => absurd y (by decide), by decide, by decide⟩, ⟨?_, fun i hi => ?_, fun y => absurd y (by decide), fun y => absurd y (by decide), fun j hj => ?_⟩, w46, ?_, ?_, hs, by omega⟩
  · show kc + (k + 1 + 0 + 0) = st.2.1 + 1
    omega
  · by_cases e : j = k
    · have e2 : kc + j = st.2.1 := by omega
      rw [e2]
      exact addc_eq
    · rw [addc_lo (by omega)]
      exact p2 j (by omega)
  · rw [s1]
    exact congrArg I (by omega)
  · rw [s2 i (by omega), upf_ne (by omega)]
  · by_cases e : j = 0
    · subst e
      rw [show t0 + 0 + 0 + 0 = t0 by omega, s2 t0 (by omega), upf_eq]
    · have := s5 (j - 1) (by omega)
      rw [show t0 + 1 + 0 + 0 + (j - 1) = t0 + 0 + 0 + j by omega] at this
      exact this
  · rw [w48]
    exact congrArg I (by omega)
  · show t0 + 0 + 0 + (k + 1) + 1 ≤ 2 * st.2.2
    omega
theorem RW_and {N : Mm} {S : Nat → Int} {t0 k dp : Nat} {st : SS} (h : RW N (upf S t0 21) (t0 + 1) 0 0 k st dp) (hs : SP (addc st (21, 0, 0))) : RW N S t0 0 1 k (addc st (21, 0, 0)) dp := by
  obtain ⟨⟨kc, hc, p1, p2, p3, p4, pa, pb⟩, ⟨s1, s2, s3, s4, s5⟩, w46, w48, wt, wsp, wd⟩ := h
  refine ⟨⟨kc, RCd_add hc (by omega), ?_, fun j hj => ?_, fun _ => ?_, fun y => absurd y (by decide), by decide, by decide⟩, ⟨?_, fun i hi => ?_, fun y => absurd y (by decide), fun _ => ?_, fun j hj => ?_⟩, w46, w48, ?_, hs, wd⟩
  · show kc + (k + 1 + 0) = st.2.1 + 1
    omega
  · rw [addc_lo (by omega)]
    exact p2 j hj
  · have e2 : kc + k = st.2.1 := by omega
    rw [e2]
    exact addc_eq
  · rw [s1]
  · rw [s2 i (by omega), upf_ne (by omega)]
  · rw [show t0 + 0 = t0 by omega, s2 t0 (by omega), upf_eq]
  · have := s5 j hj
    rw [show t0 + 1 + 0 + 0 + j = t0 + 0 + 1 + j by omega] at this
    exact this
  · show t0 + 0 + 1 + k + 1 ≤ 2 * st.2.2
    omega
theorem RW_or {N : Mm} {S : Nat → Int} {t0 b' k dp : Nat} {st : SS} (h : RW N (upf S t0 22) (t0 + 1) 0 b' k st dp) (hs : SP (addc st (22, 0, 0))) : RW N S t0 1 b' k (addc st (22, 0, 0)) dp := by
  obtain ⟨⟨kc, hc, p1, p2, p3, p4, pa, pb⟩, ⟨s1, s2, s3, s4, s5⟩, w46, w48, wt, wsp, wd⟩ := h
  refine ⟨⟨kc, RCd_add hc (by omega), ?_, fun j hj => ?_, fun y => ?_, fun _ => ?_, by decide, pb⟩, ⟨?_, fun i hi => ?_, fun _ => ?_, fun y => ?_, fun j hj => ?_⟩, w46, w48, ?_, hs, wd⟩
  · show kc + (k + b' + 1) = st.2.1 + 1
    omega
  · rw [addc_lo (by omega)]
    exact p2 j hj
  · rw [addc_lo (by omega)]
    exact p3 y
  · have e2 : kc + k + b' = st.2.1 := by omega
    rw [e2]
    exact addc_eq
  · rw [s1]
  · rw [s2 i (by omega), upf_ne (by omega)]
  · rw [s2 t0 (by omega), upf_eq]
  · have := s4 y
    rw [show t0 + 1 + 0 = t0 + 1 by omega] at this
    exact this
  · have := s5 j hj
    rw [show t0 + 1 + 0 + b' + j = t0 + 1 + b' + j by omega] at this
    exact this
  · show t0 + 1 + b' + k + 1 ≤ 2 * st.2.2
    omega
theorem RW_opn {N : Mm} {S : Nat → Int} {V : Int} {t0 dp : Nat} {st : SS} (h : RW N (upf S t0 V) t0 0 0 0 st dp) : RW N S t0 0 0 0 st dp := by
  obtain ⟨q1, ⟨s1, s2, s3, s4, s5⟩, q3⟩ := h
  exact ⟨q1, ⟨s1, fun i hi => by rw [s2 i hi, upf_ne (by omega)], fun y => absurd y (by decide), fun y => absurd y (by decide), fun j hj => absurd hj (by omega)⟩, q3⟩
theorem topN_up {S : Nat → Int} {t0 : Nat} {V : Int} {P : Int → Prop} (h : P V) : topN (upf S t0 V) (t0 + 1) P := Or.inr (by rw [show t0 + 1 - 1 = t0 by omega, upf_eq]; exact h)
/-- the head of the reference's loop -/
abbrev HD (At : JJ) (N : Mm) : Prop := At 48 [.ref 400, .int (I 1), .retAddr 0] [] N
def Z0 (b : Nat → Nat) (n L : Nat) (g : Nat → Int) (nm : Nat → List Nat) (M0 : Mm) (At : JJ) (Er : Int × Nat → Prop) (f : Nat) : Prop := ∀ (dp p t0 : Nat) (st : SS) (S : Nat → Int) (N : Mm), RV N S t0 st dp → RT N b n L p → RF LSn FSn M0 N → 1 ≤ dp → dp ≤ 9 → 4 * (n - p) + 2 ≤ f → (∀ e, rdS b n L g nm f 0 dp st p = .error e → Er e) → (∀ (x : SS × Nat) (k : Nat) (X : Mm), rdS b n L g nm f 0 dp st p = .ok x → RW X S t0 0 0 k x.1 dp → X.1 400 49 = I 1 → RT X b n L x.2 → RF LSn FSn M0 X → HD At X) → HD At N
def Z1 (b : Nat → Nat) (n L : Nat) (g : Nat → Int) (nm : Nat → List Nat) (M0 : Mm) (At : JJ) (Er : Int × Nat → Prop) (f : Nat) : Prop := ∀ (dp p t0 : Nat) (st : SS) (S : Nat → Int) (N : Mm), RV N S t0 st dp → RT N b n L p → RF LSn FSn M0 N → 1 ≤ dp → dp ≤ 9 → 4 * (n - p) + 3 ≤ f → topN S t0 (fun x => x = 22 ∨ x = 23) → (∀ e, rdS b n L g nm f 1 dp st p = .error e → Er e) → (∀ (x : SS × Nat) (b' k : Nat) (X : Mm), rdS b n L g nm f 1 dp st p = .ok x → RW X S t0 0 b' k x.1 dp → X.1 400 49 = I 1 → RT X b n L x.2 → RF LSn FSn M0 X → HD At X) → HD At N
def Z2 (b : Nat → Nat) (n L : Nat) (g : Nat → Int) (nm : Nat → List Nat) (M0 : Mm) (At : JJ) (Er : Int × Nat → Prop) (f : Nat) : Prop := ∀ (dp p t0 : Nat) (st : SS) (S : Nat → Int) (N : Mm), RV N S t0 st dp → RT N b n L p → RF LSn FSn M0 N → 1 ≤ dp → dp ≤ 9 → 4 * (n - p) + 4 ≤ f → topN S t0 (fun x => x = 23) → (∀ e, rdS b n L g nm f 2 dp st p = .error e → Er e) → (∀ (x : SS × Nat) (a b' k : Nat) (X : Mm), rdS b n L g nm f 2 dp st p = .ok x → RW X S t0 a b' k x.1 dp → X.1 400 49 = I 1 → RT X b n L x.2 → RF LSn FSn M0 X → HD At X) → HD At N
variable {D : Nat} {Q : Option Value → Mm → Prop}
theorem z_one {F : Nat} (step : StepQ (D + 5) k_R_sentence Q At) (hn0 : RN0 M0 g nm) (hE : ∀ N e, Er e → RF LSn FSn M0 N → rFl N e → Q (some (.int ((I (-1)) - (N.1 400 16)))) N) (ih0 : ∀ f, f < F → Z0 b n L g nm M0 At Er f) (ih2 : ∀ f, f < F → Z2 b n L g nm M0 At Er f) : Z0 b n L g nm M0 At Er F := by
  intro dp p t0 st S N hV hT hF hd1 hd9 hf he hk
  cases F with
  | zero => exact absurd hf (by omega)
  | succ F =>
  have hr := RN0_fr hn0 (hF.1 402 (by decide) (by decide)).1 (hF.1 405 (by decide) (by decide)).2
  have hs := hr.2.2.1
  have hp0 := hT.1.2.2.2.1
  have wsp := hV.2.2.2.2.2.2
  have b0 := wsp.1
  have b1 := wsp.2.1
  generalize hR : rdS b n L g nm (F + 1) 0 dp st p = R at he hk
  rw [sR_0] at hR
  apply s_R_sentence_48 step
  refine ⟨fun y => absurd y (by decide), fun _ => ⟨fun c => ⟨fun _ => ?_, fun y => absurd c y⟩, fun c => absurd hV.2.2.2.2.1 c⟩⟩
  refine q_int (r_operand hT hr hV hd9) ?_
  rintro v N8 ⟨f8, o1, o2⟩
  have F8 := hF.trans f8
  have bad : ∀ e, R = .error e → v = I 0 ∧ rFl N8 e → ((v = I 0) → Q (some (.int ((I (-1)) - (N8.1 400 16)))) N8) ∧ (¬ (v = I 0) → HD At N8) := fun e h1 h2 => ⟨fun _ => hE N8 e (he e h1) F8 h2.2, fun y => absurd h2.1 y⟩
  have good : v = I 1 → HD At N8 → ((v = I 0) → Q (some (.int ((I (-1)) - (N8.1 400 16)))) N8) ∧ (¬ (v = I 0) → HD At N8) := fun h1 h2 => ⟨fun y => absurd (h1.symm.trans y) (by decide), fun _ => h2⟩
  by_cases c1 : ¬ isOpn b n L p ∧ ¬ tkW b n L p = 15 ∧ lfC (tkW b n L p) < 0
  · rw [if_pos c1] at hR
    exact bad _ hR.symm (o1 c1)
  rw [if_neg c1] at hR
  obtain ⟨o3, o4⟩ := o2 c1
  by_cases c2 : st.2.2 = 20 ∨ 8 < dp
  · rw [if_pos c2] at hR
    exact bad _ hR.symm (o3 c2)
  rw [if_neg c2] at hR
  obtain ⟨o5, o6⟩ := o4 c2
  have ho : st.2.2 < 20 := by omega
  have hd8 : dp ≤ 8 := by omega
  have hs1 := onee_SP wsp ho
  have a1 := tk_four (b := b) (n := n) (L := L) hp0
  have e1 : (onee st).2.1 = st.2.1 := rfl
  have e2 : (onee st).2.2 = st.2.2 + 1 := rfl
  by_cases c3 : isOpn b n L p
  · rw [if_pos c3] at hR
    obtain ⟨v1, V8, T8⟩ := o5 c3
    have p1 := a1.1.2.2.2.1 (by rw [c3.1]; decide)
    have p2 := a1.1.2.1
    clear a1 c1 c3 o1 o2 o3 o4 o5 o6 c2
    generalize tkN b n L p = q at *
    refine good v1 (ih2 F (by omega) (dp + 1) q (t0 + 1) (onee st) (upf S t0 23) N8 V8 T8 F8 (by omega) (by omega) (by omega) (topN_up rfl) (fun e h => ?_) fun x a b' k X hx W X49 TX FX => ?_)
    · rw [bnd_e h] at hR
      exact he e hR.symm
    · rw [bnd_o hx] at hR
      have w1 := sR_w2 hx
      have x49 : X.1 400 49 ≠ I 0 := by
        rw [X49]
        decide
      have tS := (tk_four (b := b) (L := L) TX.1.2.2.2.1).1.2.2.1
      have e11 : X.1 400 11 = I (rkT (tkK b n L x.2) : Nat) := TX.2.1.2.2.1
      obtain ⟨u1, u2, u3, u4, u5⟩ := rkT_e tS
      apply s_R_sentence_48 step
      refine ⟨fun y => absurd y (by decide), fun _ => ⟨fun y => absurd y x49, fun _ => ⟨fun y => ?_, fun y => ⟨fun y => absurd y x49, fun _ => ?_⟩⟩⟩⟩
      · have k0 : tkK b n L x.2 = 0 := by
          rw [e11] at y
          refine u4.mp ?_
          clear hR tS u1 u2 u3 u4 he hk
          generalize rkT (tkK b n L x.2) = z at *
          by_cases c : z = 0
          · exact c
          · exact absurd y (by rw [I_ne (by omega) (by omega) (by omega) (by omega)]; omega)
        refine q_non (r_nots (topN_up (Or.inr (Or.inr rfl))) k X W) ?_
        rintro X1 ⟨W1, f1, n1⟩
        have T1 := RT_k TX f1 noT1 n1
        refine q_non (r_joinsO (topN_up rfl) W1) ?_
        rintro X2 ⟨W2, f2, n2⟩
        have T2 := RT_k T1 f2 noT2 n2
        have F2 := (FX.trans (f1.mono (by decide) (by decide))).trans (f2.mono (by decide) (by decide))
        have x20 := W2.2.2.2.2.2.1.2.1
        have xt := W2.2.2.2.2.1
        have x47 : X2.1 400 47 = I ((t0 + 1 + 0 + 0 + 0 : Nat) : Int) := W2.2.1.1
        rw [x47, I_lt (by omega) (by omega) (by omega) (by omega)]
        refine ⟨fun _ => r_badT T2 (by decide) fun N3 h1 h2 h3 => hE N3 _ (he _ ?_) (F2.trans (h1.mono (by decide) (by decide))) h3, fun z => absurd (by omega) z⟩
        rw [← hR]
        refine bnd_e ?_
        unfold pSign
        rw [if_neg]
        intro z
        rw [k0] at z
        exact absurd z.1 (by decide)
      · refine q_int (r_behindEnd TX w1 (topN_up rfl) W X49 (by omega)) ?_
        rintro v3 N3 ⟨f3, -, g3⟩
        have F3 := FX.trans f3
        obtain ⟨g4, g5⟩ := g3 (by omega)
        rcases pe_cases (pSign b n L 41 x.2) with ⟨e, h⟩ | ⟨q2, h⟩
        · rw [bnd_e h] at hR
          obtain ⟨g6, g7⟩ := g4 e h
          exact ⟨fun _ => hE N3 e (he e hR.symm) F3 g7, fun y => absurd g6 y⟩
        · rw [bnd_o h] at hR
          obtain ⟨g6, g7, g8, g9⟩ := g5 q2 h
          refine ⟨fun y => absurd (g6.symm.trans y) (by decide), fun _ => hk (x.1, q2) 0 N3 hR.symm (RW_opn g7) g8 g9 F3⟩
  rw [if_neg c3] at hR
  have o7 := o6 c3
  by_cases c4 : tkW b n L p = 15
  · rw [if_pos c4] at hR
    obtain ⟨v1, V8, T8⟩ := o7.1 c4
    have p1 := a1.1.2.2.2.1 (by rw [tkW_2.mp (show tkW b n L p ≤ 23 by rw [c4]; decide)]; decide)
    have p2 := a1.1.2.1
    have ok8 := sR_ok (b := b) (n := n) (L := L) (nm := nm) hs F 0 (dp + 1) (onee st) (tkN b n L p)
    clear a1 c1 c3 c4 o1 o2 o3 o4 o5 o6 o7 c2
    generalize tkN b n L p = q at *
    refine good v1 (ih0 F (by omega) (dp + 1) q (t0 + 1) (onee st) (upf S t0 20) N8 V8 T8 F8 (by omega) (by omega) (by omega) (fun e h => ?_) fun x k X hx W X49 TX FX => ?_)
    · rw [bnd_e h] at hR
      exact he e hR.symm
    · rw [bnd_o hx] at hR
      obtain ⟨q1, q2, q3, q4, q5, q6⟩ := (ok8 x p2 hs1 hx).1 (Or.inl rfl)
      obtain ⟨y1, y2⟩ := op_ok q1 (c := 20) (by omega) (Or.inl ⟨rfl, by omega⟩)
      exact hk (addc x.1 (20, 0, 0), x.2) (k + 1) X hR.symm (RW_not W y1) X49 TX FX
  rw [if_neg c4] at hR
  obtain ⟨g4, g5⟩ := o7.2 c4
  rw [hR] at g4 g5
  rcases pe_cases R with ⟨e, h⟩ | ⟨x, h⟩
  · exact bad e h (g4 e h)
  · obtain ⟨g6, g7, g8, g9⟩ := g5 x h
    exact good g6 (hk x 0 N8 h g7 g8 g9 F8)
end RSE
