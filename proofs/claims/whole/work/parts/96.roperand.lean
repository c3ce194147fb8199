/-! ===== a sentence's text: the reference's operand ===== -/
abbrev LSn : List Nat := [404, 415]
abbrev FSn : List Nat := [4, 11, 12, 13, 14, 15, 16, 18, 45, 46, 47, 48, 49]
theorem onee_SP {st : SS} (h : SP st) (ho : st.2.2 < 20) : SP (onee st) := by
  obtain ⟨q1, q2, q3, q4⟩ := h
  refine ⟨?_, ?_, q3, ?_⟩
  · show st.2.1 ≤ 2 * (st.2.2 + 1)
    omega
  · show st.2.2 + 1 ≤ 20
    omega
  · show dpS st.1 st.2.1 ≤ st.2.2 + 1
    omega
section ROP
variable {M : Mm} {b : Nat → Nat} {n L p t0 dp : Nat} {g : Nat → Int} {nm : Nat → List Nat} {st : SS} {S : Nat → Int}
theorem r_leafOf {d : Nat} (h : RT M b n L p) : Ev (d + 2) 159 [.ref 400] M (some (.int (I (lfC (tkW b n L p))))) M := by
  have w16 := fun {d} => r_isWord (d := d) (w := 16) (x := Int64.ofNat 28829673490507108) h (by decide) (by decide)
  have w17 := fun {d} => r_isWord (d := d) (w := 17) (x := Int64.ofNat 504397587812) h (by decide) (by decide)
  have w2 := fun {d} => r_isWord (d := d) (w := 2) (x := Int64.ofNat 31372865427825765) h (by decide) (by decide)
  have w18 := fun {d} => r_isWord (d := d) (w := 18) (x := Int64.ofNat 1935763045) h (by decide) (by decide)
  have w19 := fun {d} => r_isWord (d := d) (w := 19) (x := Int64.ofNat 108187682958948) h (by decide) (by decide)
  have w20 := fun {d} => r_isWord (d := d) (w := 20) (x := Int64.ofNat 512970880104) h (by decide) (by decide)
  have w21 := fun {d} => r_isWord (d := d) (w := 21) (x := Int64.ofNat 439905906546) h (by decide) (by decide)
  have w22 := fun {d} => r_isWord (d := d) (w := 22) (x := Int64.ofNat 121450625394034) h (by decide) (by decide)
  apply Ev.ofQ
  apply e_R_leafOf
  intro At _
  generalize tkW b n L p = w at *
  have y : ∀ {k : Nat}, ¬ (I (if w = k then 1 else 0) = I 0) → w = k := fun z => Classical.byContradiction fun y => z (by rw [bI0]; exact y)
  refine ⟨_, _, w16, fun z0 => ⟨_, _, w17, fun z1 => ⟨_, _, w2, fun z2 => ⟨_, _, w18, fun z3 => ⟨_, _, w19, fun z4 => ⟨_, _, w20, fun z5 => ⟨_, _, w21, fun z6 => ⟨_, _, w22, fun z7 => ?_, fun z7 => ?_⟩, fun z6 => ?_⟩, fun z5 => ?_⟩, fun z4 => ?_⟩, fun z3 => ?_⟩, fun z2 => ?_⟩, fun z1 => ?_⟩, fun z0 => ?_⟩
  · rw [bI0] at z0 z1 z2 z3 z4 z5 z6 z7
    unfold lfC
    rw [if_neg z0, if_neg z1, if_neg z2, if_neg z3, if_neg z4, if_neg z5, if_neg z6, if_neg z7]
    exact ⟨rfl, rfl⟩
  · rw [y z7]
    exact ⟨rfl, rfl⟩
  · rw [y z6]
    exact ⟨rfl, rfl⟩
  · rw [y z5]
    exact ⟨rfl, rfl⟩
  · rw [y z4]
    exact ⟨rfl, rfl⟩
  · rw [y z3]
    exact ⟨rfl, rfl⟩
  · rw [y z2]
    exact ⟨rfl, rfl⟩
  · rw [y z1]
    exact ⟨rfl, rfl⟩
  · rw [y z0]
    exact ⟨rfl, rfl⟩
theorem RT_s {N : Mm} {T : List Nat} (h : RT M b n L p) (hF : RF LSn T M N) (hT : ∀ k, k = 3 ∨ k = 4 ∨ k = 5 ∨ k = 11 ∨ k = 12 ∨ k = 14 ∨ k = 15 → k ∉ T) (h2 : N.2.1 = M.2.1) : RT N b n L p := RT_fr h (fun k hk => hF.2.1 k (hT k hk)) (hF.1 401 (by decide) (by decide)).1 (by rw [h2]) (by rw [h2])
theorem RT_c {N : Mm} (h : RT M b n L p) (hF : RF [404] [45] M N) (h2 : N.2 = M.2) : RT N b n L p := RT_fr h (fun k hk => hF.2.1 k (by rcases hk with rfl | rfl | rfl | rfl | rfl | rfl | rfl <;> decide)) (hF.1 401 (by decide) (by decide)).1 (by rw [h2]) (by rw [h2])
/-- a leaf is told -/
theorem RW_leaf {N : Mm} {c : Int × Int × Int} (hv : t0 ≤ 2 * st.2.2) (hsp : SP (addc (onee st) c)) (h45 : N.1 400 45 = I ((st.2.1 + 1 : Nat) : Int)) (hl : ∀ i, i < st.2.1 → N.1 404 (3 * i) = I (st.1 i).1 ∧ N.1 404 (3 * i + 1) = I (st.1 i).2.1 ∧ N.1 404 (3 * i + 2) = I (st.1 i).2.2) (hc : N.1 404 (3 * st.2.1) = I c.1 ∧ N.1 404 (3 * st.2.1 + 1) = I c.2.1 ∧ N.1 404 (3 * st.2.1 + 2) = I c.2.2) (h46 : N.1 400 46 = I ((st.2.2 + 1 : Nat) : Int)) (h47 : N.1 400 47 = I (t0 : Int)) (hS : ∀ i, i < t0 → N.1 415 i = I (S i)) (h48 : N.1 400 48 = I (dp : Int)) (hd : dp ≤ 9) : RW N S t0 0 0 0 (addc (onee st) c) dp := by
  refine ⟨⟨st.2.1 + 1, ⟨h45, fun i hi => ?_⟩, rfl, fun j hj => absurd hj (by omega), fun y => absurd y (by decide), fun y => absurd y (by decide), by decide, by decide⟩, ⟨h47, hS, fun y => absurd y (by decide), fun y => absurd y (by decide), fun j hj => absurd hj (by omega)⟩, h46, h48, ?_, hsp, by omega⟩
  · show N.1 404 (3 * i) = I (upf st.1 st.2.1 c i).1 ∧ N.1 404 (3 * i + 1) = I (upf st.1 st.2.1 c i).2.1 ∧ N.1 404 (3 * i + 2) = I (upf st.1 st.2.1 c i).2.2
    by_cases e : i = st.2.1
    · rw [e, upf_eq]
      exact hc
    · rw [upf_ne e]
      exact hl i (by omega)
  · show t0 + 0 + 0 + 0 + 1 ≤ 2 * (st.2.2 + 1)
    omega
theorem RW_n {N : Mm} {a b' k : Nat} (h : RW M S t0 a b' k st dp) (hF : RF [] FJ M N) : RW N S t0 a b' k st dp := by
  unfold RW RCd RSk at h ⊢
  rw [hF.2.1 45 (by decide), hF.2.1 46 (by decide), hF.2.1 47 (by decide), hF.2.1 48 (by decide), (hF.1 404 (by decide) (by decide)).1, (hF.1 415 (by decide) (by decide)).1]
  exact h
def OPp (M : Mm) (b : Nat → Nat) (n L : Nat) (g : Nat → Int) (nm : Nat → List Nat) (S : Nat → Int) (t0 : Nat) (st : SS) (dp p : Nat) (v : Int32) (N : Mm) : Prop := RF LSn FSn M N ∧
    (¬ isOpn b n L p ∧ ¬ tkW b n L p = 15 ∧ lfC (tkW b n L p) < 0 → v = I 0 ∧ rFl N (1, tkS b n L p)) ∧
    (¬ (¬ isOpn b n L p ∧ ¬ tkW b n L p = 15 ∧ lfC (tkW b n L p) < 0) → (st.2.2 = 20 ∨ 8 < dp → v = I 0 ∧ rFl N (4, tkS b n L p)) ∧
      (¬ (st.2.2 = 20 ∨ 8 < dp) → (isOpn b n L p → v = I 1 ∧ RV N (upf S t0 23) (t0 + 1) (onee st) (dp + 1) ∧ RT N b n L (tkN b n L p)) ∧
        (¬ isOpn b n L p → (tkW b n L p = 15 → v = I 1 ∧ RV N (upf S t0 20) (t0 + 1) (onee st) (dp + 1) ∧ RT N b n L (tkN b n L p)) ∧
          (¬ tkW b n L p = 15 → RBo (lfR b n L g nm st p) v N fun x => RW N S t0 0 0 0 x.1 dp ∧ N.1 400 49 = I 1 ∧ RT N b n L x.2))))
theorem lfC_4 : ∀ w : Nat, w < 30 → (lfC w = 4 ↔ w = 19) := by decide +kernel
theorem r_operand {d : Nat} (h : RT M b n L p) (hr : RN0 M g nm) (hv : RV M S t0 st dp) (hd : dp ≤ 9) : EvQ (d + 5) 160 [.ref 400] M fun r N => ∃ v, r = some (.int v) ∧ OPp M b n L g nm S t0 st dp p v N := by
  obtain ⟨hc, ⟨s1, s2, -, -, -⟩, w46, w48, w49, wt, wsp⟩ := hv
  have h20 := wsp.2.1
  have hcn := wsp.1
  have hs := hr.2.2.1
  have h0 := hs.1.1
  have hp0 := h.1.2.2.2.1
  have w15 := fun {d} => r_isWord (d := d) (w := 15) (x := Int64.ofNat 7237492) h (by decide) (by decide)
  have lb := lfC_b (tkW b n L p)
  apply e_R_operand
  intro At step
  have F1 : ∀ v : Int32, RF LSn FSn M (sI M 400 46 v) := fun v => RF.f (by decide)
  have at38 : ¬ (¬ isOpn b n L p ∧ ¬ tkW b n L p = 15 ∧ lfC (tkW b n L p) < 0) → At 38 [.ref 400, .int (I (if tkW b n L p = 15 then 1 else 0)), .int (I (if isOpn b n L p then 1 else 0)), .int (I (lfC (tkW b n L p))), .retAddr 0] [] M := by
    intro cA
    apply s_R_operand_38 step
    rw [w46, w48, I_ne (by omega) (by omega) (by omega) (by omega), I_lt (by omega) (by omega) (by omega) (by omega)]
    have four : (st.2.2 = 20 ∨ 8 < dp) → ∃ (v22 : Int32), ∃ (N21 : Mm), (Ev (d + 4) 69 [.ref 400, .int (I 4)] M (some (.int v22)) N21 ∧ ((v22 = I 0 ∨ v22 = I 1) ∧ ∃ v, some (Value.int v22) = some (.int v) ∧ OPp M b n L g nm S t0 st dp p v N21)) := fun c =>
      r_badT h (by decide) fun N hF hL hN => ⟨Or.inl rfl, _, rfl, hF.mono (by decide) (by decide), fun y => absurd y cA, fun _ => ⟨fun _ => ⟨rfl, hN⟩, fun y => absurd c y⟩⟩
    refine ⟨fun q => four (Or.inl (by omega)), fun q => ⟨fun q2 => four (Or.inr (by omega)), fun q2 => ?_⟩⟩
    have cB : ¬ (st.2.2 = 20 ∨ 8 < dp) := by omega
    have hsp1 := onee_SP wsp (by omega)
    apply s_R_operand_62 step
    rw [w46, I_add]
    have h' : RT (sI M 400 46 (I ((st.2.2 : Int) + 1))) b n L p := RT_fr h (fun k hk => mI_n2 (by omega)) (mI_fn (by decide)) rfl rfl
    refine q_non (r_nextT h') ?_
    rintro N30 ⟨f30, t30⟩
    have F30 : RF LSn FSn M N30 := (F1 _).trans (f30.mono (by decide) (by decide))
    have e : ∀ k, k ∉ FJ → N30.1 400 k = (sI M 400 46 (I ((st.2.2 : Int) + 1))).1 400 k := fun k hk => f30.2.1 k hk
    have a : ∀ x, x ≠ 400 → N30.1 x = M.1 x := fun x hx => by rw [(f30.1 x (by simp) hx).1, mI_fn hx]
    have e45 : N30.1 400 45 = I (st.2.1 : Int) := by rw [e 45 (by decide), mI_n2 (by decide)]; exact hc.1
    have e46 : N30.1 400 46 = I ((st.2.2 + 1 : Nat) : Int) := by rw [e 46 (by decide), mI_eq]; rfl
    have e47 : N30.1 400 47 = I (t0 : Int) := by rw [e 47 (by decide), mI_n2 (by decide)]; exact s1
    have e48 : N30.1 400 48 = I (dp : Int) := by rw [e 48 (by decide), mI_n2 (by decide)]; exact w48
    have e49 : N30.1 400 49 = I 0 := by rw [e 49 (by decide), mI_n2 (by decide)]; exact w49
    have hc30 : RCd N30 (onee st) st.2.1 := ⟨e45, fun i hi => by rw [a 404 (by decide)]; exact hc.2 i hi⟩
    have push : ∀ V : Int, inR (N30.1 400 47) 45 ∧ RF LSn FSn M (sI (sI (sI N30 415 (N30.1 400 47).toNatClampNeg (I V)) 400 47 ((N30.1 400 47) + (I 1))) 400 48 ((N30.1 400 48) + (I 1))) ∧ RV (sI (sI (sI N30 415 (N30.1 400 47).toNatClampNeg (I V)) 400 47 ((N30.1 400 47) + (I 1))) 400 48 ((N30.1 400 48) + (I 1))) (upf S t0 V) (t0 + 1) (onee st) (dp + 1) ∧ RT (sI (sI (sI N30 415 (N30.1 400 47).toNatClampNeg (I V)) 400 47 ((N30.1 400 47) + (I 1))) 400 48 ((N30.1 400 48) + (I 1))) b n L (tkN b n L p) := by
      intro V
      rw [e47, e48, I_add, I_add, ixI (by omega) (by omega), Int.toNat_natCast]
      refine ⟨inRI (by omega) (by omega) (by omega), RF.u2 (RF.u2 (RF.u1 F30 (by decide) (by decide)) (by decide)) (by decide), ⟨⟨?_, fun i hi => ?_⟩, ⟨?_, fun i hi => ?_, fun y => absurd y (by decide), fun y => absurd y (by decide), fun j hj => absurd hj (by omega)⟩, ?_, ?_, ?_, ?_, hsp1⟩, RT_fr t30 (fun k hk => by rw [mI_n2 (by omega), mI_n2 (by omega), mI_n1 (by decide)]) (by rw [mI_fn (by decide), mI_fn (by decide), mI_fn (by decide)]) rfl rfl⟩
      · rw [mI_n2 (by decide), mI_n2 (by decide), mI_n1 (by decide)]
        exact e45
      · rw [mI_fn (by decide), mI_fn (by decide), mI_fn (by decide)]
        exact hc30.2 i hi
      · rw [mI_n2 (by decide), mI_eq]
        rfl
      · rw [mI_fn (by decide), mI_fn (by decide)]
        by_cases c : i = t0
        · rw [c, mI_eq, upf_eq]
        · rw [mI_n2 c, upf_ne c, a 415 (by decide)]
          exact s2 i (by omega)
      · rw [mI_n2 (by decide), mI_n2 (by decide), mI_n1 (by decide)]
        exact e46
      · rw [mI_eq]
        rfl
      · rw [mI_n2 (by decide), mI_n2 (by decide), mI_n1 (by decide)]
        exact e49
      · show t0 + 1 ≤ 2 * (st.2.2 + 1)
        omega
    by_cases c15 : tkW b n L p = 15
    · have nO : ¬ isOpn b n L p := fun y => by
        have k4 := y.1
        have k2 := tkW_2.mp (show tkW b n L p ≤ 23 by rw [c15]; decide)
        rw [k2] at k4
        exact absurd k4 (by decide)
      rw [if_pos c15]
      obtain ⟨p1, p2, p3, p4⟩ := push 20
      exact ⟨fun y => absurd y (by decide), fun _ => ⟨fun y => absurd y (by decide), fun _ => ⟨p1, _, rfl, p2, fun y => absurd y cA, fun _ => ⟨fun y => absurd y cB, fun _ => ⟨fun y => absurd y nO, fun _ => ⟨fun _ => ⟨rfl, p3, p4⟩, fun y => absurd c15 y⟩⟩⟩⟩⟩⟩
    rw [if_neg c15]
    by_cases cO : isOpn b n L p
    · rw [if_pos cO]
      obtain ⟨p1, p2, p3, p4⟩ := push 23
      exact ⟨fun _ => ⟨fun y => absurd y (by decide), fun _ => ⟨fun _ => ⟨p1, _, rfl, p2, fun y => absurd y cA, fun _ => ⟨fun y => absurd y cB, fun _ => ⟨fun _ => ⟨rfl, p3, p4⟩, fun y => absurd cO y⟩⟩⟩, fun y => absurd rfl y⟩⟩, fun y => absurd rfl y⟩
    rw [if_neg cO]
    have l0 : 0 ≤ lfC (tkW b n L p) := Int.not_lt.mp fun y => cA ⟨cO, c15, y⟩
    refine ⟨fun _ => ⟨fun _ => ?_, fun y => absurd rfl y⟩, fun y => absurd rfl y⟩
    -- what any end wants
    have fin : ∀ (v : Int32) (N : Mm), RF LSn FSn M N → RBo (lfR b n L g nm st p) v N (fun x => RW N S t0 0 0 0 x.1 dp ∧ N.1 400 49 = I 1 ∧ RT N b n L x.2) → ∃ v', some (Value.int v) = some (.int v') ∧ OPp M b n L g nm S t0 st dp p v' N := fun v N hF hB =>
      ⟨v, rfl, hF, fun y => absurd y cA, fun _ => ⟨fun y => absurd y cB, fun _ => ⟨fun y => absurd y cO, fun _ => ⟨fun y => absurd y c15, fun _ => hB⟩⟩⟩⟩
    have lok : ∀ x, lfR b n L g nm st p = .ok x → SP x.1 := fun x hx => (lfR_ok hs hp0 wsp (by omega) l0 hx).1
    have tkf := tk_four (b := b) (L := L) t30.1.2.2.2.1
    have F49 : RF LSn FSn M (sI N30 400 49 (I 1)) := RF.u2 F30 (by decide)
    have t49 : RT (sI N30 400 49 (I 1)) b n L (tkN b n L p) := RT_fr t30 (fun k hk => mI_n2 (by omega)) (mI_fn (by decide)) rfl rfl
    have hc49 : RCd (sI N30 400 49 (I 1)) (onee st) st.2.1 := by
      unfold RCd at hc30 ⊢
      rw [mI_n2 (by decide), mI_fn (by decide)]
      exact hc30
    have b49 : ∀ k, k ≠ 49 → (sI N30 400 49 (I 1)).1 400 k = N30.1 400 k := fun k hk => mI_n2 hk
    have a49 : ∀ x, x ≠ 400 → (sI N30 400 49 (I 1)).1 x = M.1 x := fun x hx => by rw [mI_fn hx, a x hx]
    have c49 : (sI N30 400 49 (I 1)).1 400 49 = I 1 := mI_eq
    have r49 : RN0 (sI N30 400 49 (I 1)) g nm := RN0_fr hr (a49 402 (by decide)) (by show N30.2.1 405 = _; rw [(f30.1 405 (by decide) (by decide)).2]; rfl)
    have kt := t30.2.1.2.2.1
    have vt := t30.2.1.2.2.2.2
    have n402 : N30.1 402 0 = I (g 0) := by rw [a 402 (by decide), hr.1]
    -- the end behind code
    have endc : ∀ (c : Int × Int × Int) (K N : Mm) (q : Nat), SP (addc (onee st) c) → RF LSn FSn M K → (∀ k, k = 46 ∨ k = 47 ∨ k = 48 ∨ k = 49 → K.1 400 k = (sI N30 400 49 (I 1)).1 400 k) → K.1 415 = M.1 415 → (N.1 400 45 = I ((st.2.1 + 1 : Nat) : Int)) → (∀ i, i < st.2.1 → N.1 404 (3 * i) = I ((onee st).1 i).1 ∧ N.1 404 (3 * i + 1) = I ((onee st).1 i).2.1 ∧ N.1 404 (3 * i + 2) = I ((onee st).1 i).2.2) → (N.1 404 (3 * st.2.1) = I c.1 ∧ N.1 404 (3 * st.2.1 + 1) = I c.2.1 ∧ N.1 404 (3 * st.2.1 + 2) = I c.2.2) → RF [404] [45] K N → RW N S t0 0 0 0 (addc (onee st) c) dp ∧ N.1 400 49 = I 1 := by
      intro c K N q hsp kF k4 k415 n45 nl nc nF
      refine ⟨RW_leaf wt hsp n45 nl nc ?_ ?_ (fun i hi => ?_) ?_ hd, ?_⟩
      · rw [nF.2.1 46 (by decide), k4 46 (by omega), b49 46 (by decide)]
        exact e46
      · rw [nF.2.1 47 (by decide), k4 47 (by omega), b49 47 (by decide)]
        exact e47
      · rw [(nF.1 415 (by decide) (by decide)).1, k415]
        exact s2 i hi
      · rw [nF.2.1 48 (by decide), k4 48 (by omega), b49 48 (by decide)]
        exact e48
      · rw [nF.2.1 49 (by decide), k4 49 (by omega)]
        exact c49
    have wlt : tkW b n L p < 30 := by
      unfold tkW
      split
      · have := wix_b (tkL b n p)
        omega
      · omega
    have l4 := lfC_4 (tkW b n L p) wlt
    have hcn2 : st.2.1 ≤ 50 := by omega
    have eR : lfR b n L g nm st p = if tkW b n L p = 19 then bnd (pNamed b n L nm 0 (g 0).toNat (tkN b n L p)) fun w => .ok (addc (onee st) (4, 0, w), tkN b n L (tkN b n L p))
      else if 5 ≤ lfC (tkW b n L p) then (if isCmp b n L (tkN b n L p) then bnd (pNum b n L 0 999 (tkN b n L (tkN b n L p))) fun x => .ok (addc (onee st) (lfC (tkW b n L p), tkV b n (tkN b n L p), x.1), x.2) else .error (1, tkS b n L (tkN b n L p)))
      else .ok (addc (onee st) (lfC (tkW b n L p), 0, 0), tkN b n L p) := rfl
    rw [I_lt (by omega) (by omega) (by omega) (by omega), I_ne (a := lfC (tkW b n L p)) (b := 4) (by omega) (by omega) (by omega) (by omega), n402]
    refine ⟨fun q3 => ?_, fun q3 => ⟨fun q4 => ?_, fun q4 => ?_⟩⟩
    · rw [if_neg (fun y => by have := l4.mpr y; omega), if_neg (by omega)] at eR
      refine q_non (r_code (c := lfC (tkW b n L p)) (s := 0) (z := 0) hc49 hcn2) ?_
      rintro N35 ⟨n45, nl, nc, nF, n2⟩
      have := endc (lfC (tkW b n L p), 0, 0) _ N35 (tkN b n L p) (lok _ eR) F49 (fun _ _ => rfl) (a49 415 (by decide)) n45 nl nc nF
      exact fin (I 1) N35 (F49.trans (nF.mono (by decide) (by decide))) (RBk (x := (addc (onee st) (lfC (tkW b n L p), 0, 0), tkN b n L p)) eR rfl ⟨this.1, this.2, RT_c t49 nF n2⟩)
    · have c19 := l4.mp q4
      rw [if_pos c19] at eR
      obtain ⟨j0, hj0⟩ := Nn h0.1
      rw [hj0, Int.toNat_natCast] at eR
      rw [hj0, q4]
      refine q_int (r_looksAt (nm := nm) (o := 0) (f := 0) (many := j0) t49 (by omega) (fun i hi => ⟨?_, ?_⟩)) ?_
      · have := r49.2.1.1 i (by omega)
        rw [Nat.zero_add] at this
        rw [Nat.zero_add]
        exact this
      · rw [Nat.zero_add]
        exact hr.2.2.2.1.1 i (by omega)
      rintro v N38 ⟨f38, l38, e1, e2⟩
      have F38 : RF LSn FSn M N38 := F49.trans (f38.mono (by decide) (by decide))
      rcases pe_cases (pNamed b n L nm 0 j0 (tkN b n L p)) with ⟨e9, he⟩ | ⟨x, hx⟩
      · obtain ⟨rfl, u⟩ := e1 e9 he
        rw [bnd_e he] at eR
        exact ⟨fun _ => fin (I 0) N38 F38 (RBe eR rfl u), fun y => absurd rfl y⟩
      obtain ⟨rfl, t38, g38⟩ := e2 x hx
      rw [bnd_o hx] at eR
      refine ⟨fun y => absurd y (by decide), fun _ => ?_⟩
      rw [g38]
      have hc38 : RCd N38 (onee st) st.2.1 := by
        unfold RCd at hc49 ⊢
        rw [f38.2.1 45 (by decide), (f38.1 404 (by decide) (by decide)).1]
        exact hc49
      refine q_non (r_code (c := 4) (s := 0) (z := x) hc38 hcn2) ?_
      rintro N43 ⟨n45, nl, nc, nF, n2⟩
      have t43 : RT N43 b n L (tkN b n L p) := RT_c t38 nF n2
      refine q_non (r_nextT t43) ?_
      rintro N45 ⟨f45, t45⟩
      have ew := endc (4, 0, x) N38 N43 (tkN b n L p) (lok _ eR) F38 (fun k hk => f38.2.1 k (by rcases hk with rfl | rfl | rfl | rfl <;> decide)) (by rw [(f38.1 415 (by decide) (by decide)).1]; exact a49 415 (by decide)) n45 nl nc nF
      refine fin (I 1) N45 ((F38.trans (nF.mono (by decide) (by decide))).trans (f45.mono (by decide) (by decide))) (RBk (x := (addc (onee st) (4, 0, x), tkN b n L (tkN b n L p))) eR rfl ⟨RW_n ew.1 f45, by rw [f45.2.1 49 (by decide)]; exact ew.2, t45⟩)
    · have c19 : ¬ tkW b n L p = 19 := fun y => q4 (l4.mpr y)
      rw [if_neg c19, if_pos (by omega)] at eR
      have tkv := tkf.2.2.2
      have tk1 := tkf.1.2.2.1
      obtain ⟨u1, u2, u3, u4, u5⟩ := rkT_e tk1
      have bad1 : ∀ (K : Mm), RT K b n L (tkN b n L p) → RF LSn FSn M K → lfR b n L g nm st p = .error (1, tkS b n L (tkN b n L p)) → ∃ (v : Int32), ∃ (N : Mm), (Ev (d + 4) 69 [.ref 400, .int (I 1)] K (some (.int v)) N ∧ ((v = I 0 ∨ v = I 1) ∧ ∃ v', some (Value.int v) = some (.int v') ∧ OPp M b n L g nm S t0 st dp p v' N)) := fun K tK kF hR =>
        r_badT tK (by decide) fun N hF hL hN => ⟨Or.inl rfl, fin (I 0) N (kF.trans (hF.mono (by decide) (by decide))) (RBe hR rfl hN)⟩
      have ncmp : ¬ isCmp b n L (tkN b n L p) → lfR b n L g nm st p = .error (1, tkS b n L (tkN b n L p)) := fun y => by rw [eR, if_neg y]
      have pc := fun (y : isCmp b n L (tkN b n L p)) => show lfR b n L g nm st p = bnd (pNum b n L 0 999 (tkN b n L (tkN b n L p))) fun x => .ok (addc (onee st) (lfC (tkW b n L p), tkV b n (tkN b n L p), x.1), x.2) by rw [eR, if_pos y]
      rw [kt]
      have nxt := fun {d} => r_nextT (d := d) t49
      clear eR tkf
      generalize hq1 : tkN b n L p = p1 at *
      by_cases k4 : tkK b n L p1 = 4
      · have vt := vt (Or.inr k4)
        have tkv := tkv k4
        rw [vt, k4]
        refine ⟨fun _ => ?_, fun y => absurd rfl y⟩
        have v0 : 0 ≤ tkV b n p1 ∧ tkV b n p1 ≤ 100 := by
          clear ncmp pc nxt bad1 fin lok hq1
          omega
        clear tkv u1 u2 u3 u4 u5
        generalize hV : tkV b n p1 = V at *
        rw [I_lt (by omega) (by omega) (by omega) (by omega), I_lt (by omega) (by omega) (by omega) (by omega)]
        refine ⟨fun z => bad1 _ t49 F49 (ncmp fun y => ?_), fun z => ⟨fun z2 => bad1 _ t49 F49 (ncmp fun y => ?_), fun z2 => ?_⟩⟩
        · have y2 := y.2.1
          rw [hV] at y2
          clear ncmp pc nxt bad1 fin lok
          omega
        · have y2 := y.2.2
          rw [hV] at y2
          clear ncmp pc nxt bad1 fin lok
          omega
        have hcmp : isCmp b n L p1 := ⟨k4, by rw [hV]; clear ncmp pc nxt bad1 fin lok; omega, by rw [hV]; clear ncmp pc nxt bad1 fin lok; omega⟩
        have pc := pc hcmp
        refine q_non nxt ?_
        rintro N58 ⟨f58, t58⟩
        have F58 : RF LSn FSn M N58 := F49.trans (f58.mono (by decide) (by decide))
        have kt2 := t58.2.1.2.2.1
        have vt2 := t58.2.1.2.2.2.2
        have tk2 := tk_four (b := b) (L := L) t58.1.2.2.2.1
        clear nxt bad1 ncmp
        generalize hq2 : tkN b n L p1 = p2 at *
        obtain ⟨u1, u2, u3, u4, u5⟩ := rkT_e tk2.1.2.2.1
        rw [kt2]
        by_cases k3 : tkK b n L p2 = 3
        · have v2 := tk2.2.2.1 k3
          have ep : pNum b n L 0 999 p2 = .ok (tkV b n p2, tkN b n L p2) := by
            refine bnd_o (y := tkV b n p2) ?_
            unfold pSee
            rw [if_pos k3, if_neg]
            intro y
            rcases y with y | y
            · exact absurd y (Int.not_lt.mpr v2.1)
            · exact absurd y (Int.not_lt.mpr v2.2)
          rw [bnd_o ep] at pc
          rw [k3, vt2 (Or.inl k3)]
          refine ⟨fun _ => ?_, fun y => absurd rfl y⟩
          have hc58 : RCd N58 (onee st) st.2.1 := by
            unfold RCd at hc49 ⊢
            rw [f58.2.1 45 (by decide), (f58.1 404 (by decide) (by decide)).1]
            exact hc49
          refine q_non (r_code (c := lfC (tkW b n L p)) (s := V) (z := tkV b n p2) hc58 hcn2) ?_
          rintro N61 ⟨n45, nl, nc, nF, n2⟩
          have t61 : RT N61 b n L p2 := RT_c t58 nF n2
          refine q_non (r_nextT t61) ?_
          rintro N63 ⟨f63, t63⟩
          have ew := endc (lfC (tkW b n L p), V, tkV b n p2) N58 N61 p2 (lok _ pc) F58 (fun k hk => f58.2.1 k (by rcases hk with rfl | rfl | rfl | rfl <;> decide)) (by rw [(f58.1 415 (by decide) (by decide)).1]; exact a49 415 (by decide)) n45 nl nc nF
          exact fin (I 1) N63 ((F58.trans (nF.mono (by decide) (by decide))).trans (f63.mono (by decide) (by decide))) (RBk (x := (addc (onee st) (lfC (tkW b n L p), V, tkV b n p2), tkN b n L p2)) pc rfl ⟨RW_n ew.1 f63, by rw [f63.2.1 49 (by decide)]; exact ew.2, t63⟩)
        · have ep : pNum b n L 0 999 p2 = .error (1, tkS b n L p2) := by
            refine bnd_e ?_
            unfold pSee
            rw [if_neg k3]
          rw [bnd_e ep] at pc
          have nk : ¬ rkT (tkK b n L p2) = 2 := fun y => k3 (u2.mp y)
          have r5 := u5
          clear v0 lok fin
          generalize rkT (tkK b n L p2) = rk at *
          rw [I_ne (by omega) (by omega) (by omega) (by omega)]
          refine ⟨fun y => absurd (by omega) nk, fun _ => ?_⟩
          exact r_badT t58 (by decide) fun N hF hL hN => ⟨Or.inl rfl, _, rfl, F58.trans (hF.mono (by decide) (by decide)), fun y => absurd y cA, fun _ => ⟨fun y => absurd y cB, fun _ => ⟨fun y => absurd y cO, fun _ => ⟨fun y => absurd y c15, fun _ => RBe pc rfl hN⟩⟩⟩⟩
      · have nk : ¬ rkT (tkK b n L p1) = 3 := fun y => k4 (u3.mp y)
        have er := ncmp fun y => k4 y.1
        have bd := bad1 _ t49 F49 er
        clear ncmp pc nxt bad1 fin lok tkv u1 u2 u3 u4 er
        generalize rkT (tkK b n L p1) = rk at *
        rw [I_ne (by omega) (by omega) (by omega) (by omega)]
        exact ⟨fun y => absurd (by omega) nk, fun _ => bd⟩
  refine ⟨_, _, w15, _, _, r_isSign h (by decide), _, _, r_leafOf h, fun z => ⟨fun z2 => ⟨fun z3 => ?_, fun z3 => ?_⟩, fun z2 => ?_⟩, fun z => ?_⟩
  · rw [bI0] at z z2
    rw [I_lt (by omega) (by omega) (by omega) (by omega)] at z3
    refine r_badT h (by decide) fun N hF hL hN => ⟨Or.inl rfl, _, rfl, hF.mono (by decide) (by decide), fun _ => ⟨rfl, hN⟩, fun y => absurd ⟨z2, z, z3⟩ y⟩
  · rw [I_lt (by omega) (by omega) (by omega) (by omega)] at z3
    exact at38 fun y => z3 y.2.2
  · exact at38 fun y => z2 (by rw [bI0]; exact y.1)
  · exact at38 fun y => z (by rw [bI0]; exact y.2.1)
end ROP
