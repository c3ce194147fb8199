/-! ===== a sentence's text: the reference's stack ===== -/
def RCd (M : Mm) (st : SS) (kc : Nat) : Prop := M.1 400 45 = I (kc : Int) ∧ ∀ i, i < kc → M.1 404 (3 * i) = I (st.1 i).1 ∧ M.1 404 (3 * i + 1) = I (st.1 i).2.1 ∧ M.1 404 (3 * i + 2) = I (st.1 i).2.2
/-- what is not yet told: an OR, an AND, k NOTs -/
def RPd (st : SS) (kc a b k : Nat) : Prop := kc + (k + b + a) = st.2.1 ∧ (∀ j, j < k → st.1 (kc + j) = (20, 0, 0)) ∧ (b = 1 → st.1 (kc + k) = (21, 0, 0)) ∧ (a = 1 → st.1 (kc + k + b) = (22, 0, 0)) ∧ a ≤ 1 ∧ b ≤ 1
def RSk (M : Mm) (S : Nat → Int) (t0 a b k : Nat) : Prop := M.1 400 47 = I ((t0 + a + b + k : Nat) : Int) ∧ (∀ i, i < t0 → M.1 415 i = I (S i)) ∧ (a = 1 → M.1 415 t0 = I 22) ∧ (b = 1 → M.1 415 (t0 + a) = I 21) ∧ ∀ j, j < k → M.1 415 (t0 + a + b + j) = I 20
/-- behind a ONE: the codes with what is not yet told are st's -/
def RW (M : Mm) (S : Nat → Int) (t0 a b k : Nat) (st : SS) (dp : Nat) : Prop := (∃ kc, RCd M st kc ∧ RPd st kc a b k) ∧ RSk M S t0 a b k ∧ M.1 400 46 = I (st.2.2 : Int) ∧ M.1 400 48 = I ((dp + k : Nat) : Int) ∧ t0 + a + b + k + 1 ≤ 2 * st.2.2 ∧ SP st ∧ (dp + k ≤ 10)
/-- ahead of a ONE -/
def RV (M : Mm) (S : Nat → Int) (t0 : Nat) (st : SS) (dp : Nat) : Prop := RCd M st st.2.1 ∧ RSk M S t0 0 0 0 ∧ M.1 400 46 = I (st.2.2 : Int) ∧ M.1 400 48 = I (dp : Int) ∧ M.1 400 49 = I 0 ∧ t0 ≤ 2 * st.2.2 ∧ SP st
/-- the base's top is not any of these -/
def topN (S : Nat → Int) (t0 : Nat) (P : Int → Prop) : Prop := t0 = 0 ∨ P (S (t0 - 1))
section RSK
variable {M : Mm} {S : Nat → Int} {t0 a b k dp : Nat} {st : SS}
theorem r_code {d kc : Nat} {c s z : Int} (h : RCd M st kc) (hk : kc ≤ 50) : EvQ (d + 1) 156 [.ref 400, .int (I c), .int (I s), .int (I z)] M fun r N => r = none ∧ N.1 400 45 = I ((kc + 1 : Nat) : Int) ∧ (∀ i, i < kc → N.1 404 (3 * i) = I (st.1 i).1 ∧ N.1 404 (3 * i + 1) = I (st.1 i).2.1 ∧ N.1 404 (3 * i + 2) = I (st.1 i).2.2) ∧ (N.1 404 (3 * kc) = I c ∧ N.1 404 (3 * kc + 1) = I s ∧ N.1 404 (3 * kc + 2) = I z) ∧ RF [404] [45] M N ∧ N.2 = M.2 := by
  obtain ⟨h1, h2⟩ := h
  apply e_R_code
  intro At _
  rw [h1, show I 3 * I (kc : Int) = I ((3 * kc : Nat) : Int) by rw [I_mul]; exact congrArg I (by omega), show I ((3 * kc : Nat) : Int) + I 1 = I ((3 * kc + 1 : Nat) : Int) by rw [I_add]; exact congrArg I (by omega), show I ((3 * kc : Nat) : Int) + I 2 = I ((3 * kc + 2 : Nat) : Int) by rw [I_add]; exact congrArg I (by omega), ixI (a := ((3 * kc : Nat) : Int)) (by omega) (by omega), ixI (a := ((3 * kc + 1 : Nat) : Int)) (by omega) (by omega), ixI (a := ((3 * kc + 2 : Nat) : Int)) (by omega) (by omega), Int.toNat_natCast, Int.toNat_natCast, Int.toNat_natCast]
  refine ⟨inRI (by omega) (by omega) (by omega), inRI (by omega) (by omega) (by omega), inRI (by omega) (by omega) (by omega), fun N1 hN => ?_⟩
  have e45 : N1.1 400 45 = I (kc : Int) := by rw [hN, mI_n1 (by decide), mI_n1 (by decide), mI_n1 (by decide), h1]
  rw [e45, I_add]
  have e404 : ∀ v : Int32, (sI N1 400 45 v).1 404 = N1.1 404 := fun v => mI_fn (by decide)
  refine ⟨rfl, mI_eq, fun i hi => ?_, ?_, ?_, ?_⟩
  · rw [e404, hN, mI_n2 (by omega), mI_n2 (by omega), mI_n2 (by omega), mI_n2 (by omega), mI_n2 (by omega), mI_n2 (by omega), mI_n2 (by omega), mI_n2 (by omega), mI_n2 (by omega)]
    exact h2 i hi
  · rw [e404, hN]
    exact ⟨by rw [mI_n2 (by omega), mI_n2 (by omega), mI_eq], by rw [mI_n2 (by omega), mI_eq], mI_eq⟩
  · rw [hN]
    exact RF.u2 (RF.u1 (RF.u1 (RF.st (by decide) (by decide)) (by decide) (by decide)) (by decide) (by decide)) (by decide)
  · show N1.2 = M.2
    rw [hN]
    rfl
theorem r_nots {d : Nat} (hb : topN S t0 fun x => x = 21 ∨ x = 22 ∨ x = 23) : ∀ (k : Nat) (M : Mm), RW M S t0 a b k st dp → EvQ (d + 2) 158 [.ref 400] M fun r N => r = none ∧ RW N S t0 a b 0 st dp ∧ RF [404] [45, 47, 48] M N ∧ N.2 = M.2 := by
  intro k M hW
  apply e_R_nots
  intro At step
  have key : ∀ (k : Nat) (N : Mm), RW N S t0 a b k st dp → RF [404] [45, 47, 48] M N → N.2 = M.2 → At 0 [.ref 400] [] N := by
    intro k
    induction k with
    | zero =>
      intro N hW hF h2
      have hW' := hW
      obtain ⟨⟨kc, hc, p1, p2, p3, p4, pa, pb⟩, ⟨s1, s2, s3, s4, s5⟩, w46, w48, wt, wsp, wd⟩ := hW
      have h20 := wsp.2.1
      apply s_R_nots_0 step
      rw [s1, I_sub, I_lt (by omega) (by omega) (by omega) (by omega)]
      refine ⟨fun q => ?_, fun _ => ⟨rfl, hW', hF, h2⟩⟩
      rw [show ((t0 + a + b + 0 : Nat) : Int) - 1 = ((t0 + a + b - 1 : Nat) : Int) by omega, ixI (by omega) (by omega), Int.toNat_natCast]
      refine ⟨inRI (by omega) (by omega) (by omega), fun z => ?_, fun _ => ⟨rfl, hW', hF, h2⟩⟩
      exfalso
      by_cases b1 : b = 1
      · rw [show t0 + a + b - 1 = t0 + a by omega, s4 b1] at z
        exact absurd z (by decide)
      by_cases a1 : a = 1
      · rw [show t0 + a + b - 1 = t0 by omega, s3 a1] at z
        exact absurd z (by decide)
      rw [show t0 + a + b - 1 = t0 - 1 by omega, s2 (t0 - 1) (by omega)] at z
      rcases hb with hb | hb | hb | hb
      · omega
      · rw [hb] at z
        exact absurd z (by decide)
      · rw [hb] at z
        exact absurd z (by decide)
      · rw [hb] at z
        exact absurd z (by decide)
    | succ k ih =>
      intro N hW hF h2
      obtain ⟨⟨kc, hc, p1, p2, p3, p4, pa, pb⟩, ⟨s1, s2, s3, s4, s5⟩, w46, w48, wt, wsp, wd⟩ := hW
      have h20 := wsp.2.1
      have hcn := wsp.1
      apply s_R_nots_0 step
      rw [s1, w48, I_sub, I_sub, I_lt (by omega) (by omega) (by omega) (by omega), show ((t0 + a + b + (k + 1) : Nat) : Int) - 1 = ((t0 + a + b + k : Nat) : Int) by omega, show ((dp + (k + 1) : Nat) : Int) - 1 = ((dp + k : Nat) : Int) by omega, ixI (by omega) (by omega), Int.toNat_natCast, s5 k (by omega)]
      refine ⟨fun _ => ⟨inRI (by omega) (by omega) (by omega), fun _ => ?_, fun q => absurd rfl q⟩, fun q => absurd (by omega) q⟩
      have hc' : RCd (sI (sI N 400 47 (I ((t0 + a + b + k : Nat) : Int))) 400 48 (I ((dp + k : Nat) : Int))) st kc := by
        unfold RCd at hc ⊢
        rw [mI_n2 (by decide), mI_n2 (by decide), mI_fn (by decide), mI_fn (by decide)]
        exact hc
      refine q_non (r_code (c := 20) (s := 0) (z := 0) hc' (by omega)) ?_
      rintro N3 ⟨n45, nl, ⟨na, nb, nc⟩, nF, n2⟩
      have e20 := p2 0 (by omega)
      rw [Nat.add_zero] at e20
      have g415 : N3.1 415 = N.1 415 := by rw [(nF.1 415 (by decide) (by decide)).1, mI_fn (by decide), mI_fn (by decide)]
      refine ih N3 ⟨⟨kc + 1, ⟨n45, fun i hi => ?_⟩, by omega, fun j hj => ?_, fun hb1 => ?_, fun ha1 => ?_, pa, pb⟩, ⟨?_, fun i hi => ?_, fun ha1 => ?_, fun hb1 => ?_, fun j hj => ?_⟩, ?_, ?_, by omega, wsp, by omega⟩ (hF.trans ((RF.u2 (RF.f (by decide)) (by decide)).trans (nF.mono (by decide) (by decide)))) (by rw [n2]; exact h2)
      · by_cases e : i = kc
        · rw [e, na, nb, nc, e20]
          exact ⟨rfl, rfl, rfl⟩
        · exact nl i (by omega)
      · rw [show kc + 1 + j = kc + (j + 1) by omega]
        exact p2 (j + 1) (by omega)
      · rw [show kc + 1 + k = kc + (k + 1) by omega]
        exact p3 hb1
      · rw [show kc + 1 + k + b = kc + (k + 1) + b by omega]
        exact p4 ha1
      · rw [nF.2.1 47 (by decide), mI_n2 (by decide), mI_eq]
      · rw [g415]
        exact s2 i hi
      · rw [g415]
        exact s3 ha1
      · rw [g415]
        exact s4 hb1
      · rw [g415]
        exact s5 j (by omega)
      · rw [nF.2.1 46 (by decide), mI_n2 (by decide), mI_n2 (by decide)]
        exact w46
      · rw [nF.2.1 48 (by decide), mI_eq]
  exact key k M hW RF.refl rfl
/-- one of the joining words is told -/
theorem r_popB {d : Nat} (hW : RW M S t0 a 1 0 st dp) : EvQ (d + 1) 156 [.ref 400, .int (I 21), .int (I 0), .int (I 0)] (sI M 400 47 (I ((t0 + a : Nat) : Int))) fun r N => r = none ∧ RW N S t0 a 0 0 st dp ∧ RF [404] [45] (sI M 400 47 (I ((t0 + a : Nat) : Int))) N ∧ N.2 = M.2 := by
  obtain ⟨⟨kc, hc, p1, p2, p3, p4, pa, pb⟩, ⟨s1, s2, s3, s4, s5⟩, w46, w48, wt, wsp, wd⟩ := hW
  have h20 := wsp.2.1
  have hcn := wsp.1
  have hc' : RCd (sI M 400 47 (I ((t0 + a : Nat) : Int))) st kc := by
    unfold RCd at hc ⊢
    rw [mI_n2 (by decide), mI_fn (by decide)]
    exact hc
  refine (r_code (c := 21) (s := 0) (z := 0) hc' (by omega)).mono ?_
  rintro r N ⟨rfl, n45, nl, nc, nF, n2⟩
  refine ⟨rfl, ?_, nF, n2⟩
  have e21 := p3 rfl
  rw [Nat.add_zero] at e21
  have g415 : N.1 415 = M.1 415 := by rw [(nF.1 415 (by decide) (by decide)).1, mI_fn (by decide)]
  refine ⟨⟨kc + 1, ⟨n45, fun i hi => ?_⟩, by omega, fun j hj => absurd hj (by omega), fun y => absurd y (by decide), fun ha1 => ?_, pa, by decide⟩, ⟨?_, fun i hi => ?_, fun ha1 => ?_, fun y => absurd y (by decide), fun j hj => absurd hj (by omega)⟩, ?_, ?_, by omega, wsp, wd⟩
  · by_cases e : i = kc
    · rw [e, nc.1, nc.2.1, nc.2.2, e21]
      exact ⟨rfl, rfl, rfl⟩
    · exact nl i (by omega)
  · have := p4 ha1
    rw [show kc + 0 + 1 = kc + 1 + 0 + 0 by omega] at this
    exact this
  · rw [nF.2.1 47 (by decide), mI_eq]
    rfl
  · rw [g415]
    exact s2 i hi
  · rw [g415]
    exact s3 ha1
  · rw [nF.2.1 46 (by decide), mI_n2 (by decide)]
    exact w46
  · rw [nF.2.1 48 (by decide), mI_n2 (by decide)]
    exact w48
theorem r_popA {d : Nat} (hW : RW M S t0 1 0 0 st dp) : EvQ (d + 1) 156 [.ref 400, .int (I 22), .int (I 0), .int (I 0)] (sI M 400 47 (I (t0 : Int))) fun r N => r = none ∧ RW N S t0 0 0 0 st dp ∧ RF [404] [45] (sI M 400 47 (I (t0 : Int))) N ∧ N.2 = M.2 := by
  obtain ⟨⟨kc, hc, p1, p2, p3, p4, pa, pb⟩, ⟨s1, s2, s3, s4, s5⟩, w46, w48, wt, wsp, wd⟩ := hW
  have h20 := wsp.2.1
  have hcn := wsp.1
  have hc' : RCd (sI M 400 47 (I (t0 : Int))) st kc := by
    unfold RCd at hc ⊢
    rw [mI_n2 (by decide), mI_fn (by decide)]
    exact hc
  refine (r_code (c := 22) (s := 0) (z := 0) hc' (by omega)).mono ?_
  rintro r N ⟨rfl, n45, nl, nc, nF, n2⟩
  refine ⟨rfl, ?_, nF, n2⟩
  have e22 : st.1 kc = (22, 0, 0) := p4 rfl
  have g415 : N.1 415 = M.1 415 := by rw [(nF.1 415 (by decide) (by decide)).1, mI_fn (by decide)]
  refine ⟨⟨kc + 1, ⟨n45, fun i hi => ?_⟩, by omega, fun j hj => absurd hj (by omega), fun y => absurd y (by decide), fun y => absurd y (by decide), by decide, by decide⟩, ⟨?_, fun i hi => ?_, fun y => absurd y (by decide), fun y => absurd y (by decide), fun j hj => absurd hj (by omega)⟩, ?_, ?_, by omega, wsp, wd⟩
  · by_cases e : i = kc
    · rw [e, nc.1, nc.2.1, nc.2.2, e22]
      exact ⟨rfl, rfl, rfl⟩
    · exact nl i (by omega)
  · rw [nF.2.1 47 (by decide), mI_eq]
    rfl
  · rw [g415]
    exact s2 i hi
  · rw [nF.2.1 46 (by decide), mI_n2 (by decide)]
    exact w46
  · rw [nF.2.1 48 (by decide), mI_n2 (by decide)]
    exact w48
/-- all that is pending down to an OPEN -/
theorem r_joinsO {d : Nat} (hb : topN S t0 fun x => x = 23) (hW : RW M S t0 a b 0 st dp) : EvQ (d + 2) 157 [.ref 400, .int (I 22)] M fun r N => r = none ∧ RW N S t0 0 0 0 st dp ∧ RF [404] [45, 47] M N ∧ N.2 = M.2 := by
  apply e_R_joins
  intro At step
  have at3 : ∀ N : Mm, RW N S t0 0 0 0 st dp → RF [404] [45, 47] M N → N.2 = M.2 → At 0 [.ref 400, .int (I 22)] [] N := by
    intro N hW hF h2
    have hW' := hW
    obtain ⟨-, ⟨s1, s2, s3, s4, s5⟩, w46, w48, wt, wsp, wd⟩ := hW
    have h20 := wsp.2.1
    apply s_R_joins_0 step
    rw [s1, I_sub, I_lt (by omega) (by omega) (by omega) (by omega)]
    refine ⟨fun q => ?_, fun _ => ⟨rfl, hW', hF, h2⟩⟩
    have e : N.1 415 (t0 - 1) = I 23 := by
      rcases hb with hb | hb
      · omega
      · rw [s2 (t0 - 1) (by omega), hb]
    rw [show ((t0 + 0 + 0 + 0 : Nat) : Int) - 1 = ((t0 - 1 : Nat) : Int) by omega, ixI (by omega) (by omega), Int.toNat_natCast, e]
    exact ⟨inRI (by omega) (by omega) (by omega), fun z => absurd z (by decide), fun _ => ⟨inRI (by omega) (by omega) (by omega), fun z => absurd z (by decide), fun _ => ⟨rfl, hW', hF, h2⟩⟩⟩
  have at2 : ∀ (a : Nat) (N : Mm), RW N S t0 a 0 0 st dp → RF [404] [45, 47] M N → N.2 = M.2 → At 0 [.ref 400, .int (I 22)] [] N := by
    intro a N hW hF h2
    have pa := hW.1.choose_spec.2.2.2.2.2.1
    by_cases a1 : a = 1
    · subst a1
      obtain ⟨-, ⟨s1, s2, s3, s4, s5⟩, w46, w48, wt, wsp, wd⟩ := id hW
      have h20 := wsp.2.1
      apply s_R_joins_0 step
      rw [s1, I_sub, I_lt (by omega) (by omega) (by omega) (by omega), show ((t0 + 1 + 0 + 0 : Nat) : Int) - 1 = (t0 : Int) by omega, ixI (by omega) (by omega), Int.toNat_natCast, s3 rfl]
      refine ⟨fun _ => ⟨inRI (by omega) (by omega) (by omega), fun z => absurd z (by decide), fun _ => ⟨inRI (by omega) (by omega) (by omega), fun _ => ⟨fun _ => ⟨inRI (by omega) (by omega) (by omega), ?_⟩, fun z => absurd rfl z⟩, fun z => absurd rfl z⟩⟩, fun q => absurd (by omega) q⟩
      refine q_non (r_popA hW) ?_
      rintro N3 ⟨n1, n2, n3⟩
      exact at3 N3 n1 (hF.trans ((RF.f (by decide)).trans (n2.mono (by decide) (by decide)))) (n3.trans h2)
    · have : a = 0 := by omega
      subst this
      exact at3 N hW hF h2
  have pb := hW.1.choose_spec.2.2.2.2.2.2
  by_cases b1 : b = 1
  · subst b1
    obtain ⟨-, ⟨s1, s2, s3, s4, s5⟩, w46, w48, wt, wsp, wd⟩ := id hW
    have h20 := wsp.2.1
    apply s_R_joins_0 step
    rw [s1, I_sub, I_lt (by omega) (by omega) (by omega) (by omega), show ((t0 + a + 1 + 0 : Nat) : Int) - 1 = ((t0 + a : Nat) : Int) by omega, ixI (by omega) (by omega), Int.toNat_natCast, s4 rfl]
    refine ⟨fun _ => ⟨inRI (by omega) (by omega) (by omega), fun _ => ⟨inRI (by omega) (by omega) (by omega), ?_⟩, fun z => absurd rfl z⟩, fun q => absurd (by omega) q⟩
    refine q_non (r_popB hW) ?_
    rintro N3 ⟨n1, n2, n3⟩
    exact at2 a N3 n1 ((RF.f (by decide)).trans (n2.mono (by decide) (by decide))) n3
  · have : b = 0 := by omega
    subst this
    exact at2 a M hW RF.refl rfl
/-- what is pending down to an OR -/
theorem r_joinsA {d : Nat} (hb : topN S t0 fun x => x = 22 ∨ x = 23) (hW : RW M S t0 0 b 0 st dp) : EvQ (d + 2) 157 [.ref 400, .int (I 21)] M fun r N => r = none ∧ RW N S t0 0 0 0 st dp ∧ RF [404] [45, 47] M N ∧ N.2 = M.2 := by
  apply e_R_joins
  intro At step
  have at3 : ∀ N : Mm, RW N S t0 0 0 0 st dp → RF [404] [45, 47] M N → N.2 = M.2 → At 0 [.ref 400, .int (I 21)] [] N := by
    intro N hW hF h2
    have hW' := hW
    obtain ⟨-, ⟨s1, s2, s3, s4, s5⟩, w46, w48, wt, wsp, wd⟩ := hW
    have h20 := wsp.2.1
    apply s_R_joins_0 step
    rw [s1, I_sub, I_lt (by omega) (by omega) (by omega) (by omega)]
    refine ⟨fun q => ?_, fun _ => ⟨rfl, hW', hF, h2⟩⟩
    rw [show ((t0 + 0 + 0 + 0 : Nat) : Int) - 1 = ((t0 - 1 : Nat) : Int) by omega, ixI (by omega) (by omega), Int.toNat_natCast]
    rcases hb with hb | hb | hb
    · omega
    · rw [s2 (t0 - 1) (by omega), hb]
      exact ⟨inRI (by omega) (by omega) (by omega), fun z => absurd z (by decide), fun _ => ⟨inRI (by omega) (by omega) (by omega), fun _ => ⟨fun z => absurd z (by decide), fun _ => ⟨rfl, hW', hF, h2⟩⟩, fun z => absurd rfl z⟩⟩
    · rw [s2 (t0 - 1) (by omega), hb]
      exact ⟨inRI (by omega) (by omega) (by omega), fun z => absurd z (by decide), fun _ => ⟨inRI (by omega) (by omega) (by omega), fun z => absurd z (by decide), fun _ => ⟨rfl, hW', hF, h2⟩⟩⟩
  have pb := hW.1.choose_spec.2.2.2.2.2.2
  by_cases b1 : b = 1
  · subst b1
    obtain ⟨-, ⟨s1, s2, s3, s4, s5⟩, w46, w48, wt, wsp, wd⟩ := id hW
    have h20 := wsp.2.1
    apply s_R_joins_0 step
    rw [s1, I_sub, I_lt (by omega) (by omega) (by omega) (by omega), show ((t0 + 0 + 1 + 0 : Nat) : Int) - 1 = ((t0 + 0 : Nat) : Int) by omega, ixI (by omega) (by omega), Int.toNat_natCast, s4 rfl]
    refine ⟨fun _ => ⟨inRI (by omega) (by omega) (by omega), fun _ => ⟨inRI (by omega) (by omega) (by omega), ?_⟩, fun z => absurd rfl z⟩, fun q => absurd (by omega) q⟩
    refine q_non (r_popB hW) ?_
    rintro N3 ⟨n1, n2, n3⟩
    exact at3 N3 n1 ((RF.f (by decide)).trans (n2.mono (by decide) (by decide))) n3
  · have : b = 0 := by omega
    subst this
    exact at3 M hW RF.refl rfl
end RSK
