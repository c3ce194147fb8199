/-! ===== a book's text: the reference's line; what a line does ===== -/
section RBL
variable {M : Mm} {b : Nat → Nat} {n L p m : Nat} {g z : Nat → Int} {nm : Nat → List Nat} {bk : Nat → BL}
theorem RBk2_up {N : Mm} {l : BL} (hk : RBk2 M m bk) (h1 : ∀ i, i < 4 * m → N.1 404 i = M.1 404 i) (h2 : N.1 404 (4 * m) = I (l.1 : Int)) (h3 : N.1 404 (4 * m + 1) = I l.2.1) (h4 : l.1 = 0 → N.1 404 (4 * m + 2) = I l.2.2.1 ∧ N.1 404 (4 * m + 3) = I l.2.2.2) : RBk2 N (m + 1) (upf bk m l) := by
  intro i hi
  by_cases c : i = m
  · subst c
    rw [upf_eq]
    exact ⟨h2, h3, h4⟩
  · rw [upf_ne c, h1 (4 * i) (by omega), h1 (4 * i + 1) (by omega), h1 (4 * i + 2) (by omega), h1 (4 * i + 3) (by omega)]
    exact hk i (by omega)
theorem r_bookLine {d : Nat} (h : RT M b n L p) (hn : RN0 M g nm) (hm : M.1 400 41 = I (m : Int)) (hm4 : m ≤ 40) (hk : RBk2 M m bk) : EvQ (d + 5) 151 [.ref 400] M fun r N => ∃ v, r = some (.int v) ∧ (RF [404] FG M N ∧ RBo (bkLn b n L g nm m p) v N fun x => RT N b n L x.2 ∧ RBk2 N (m + 1) (upf bk m x.1)) := by
  have h1 := hn.2.2.1.1
  obtain ⟨j0, hj0⟩ := Nn h1.1.1
  obtain ⟨j1, hj1⟩ := Nn h1.2.1.1
  have eS : bkLn b n L g nm m p = if tkW b n L p = 9 then (if m = 40 then .error (4, tkS b n L p) else pPost b n L g nm (tkN b n L p))
    else if tkW b n L p = 10 then (if m = 40 then .error (4, tkS b n L p) else bnd (pNamed b n L nm 0 (g 0).toNat (tkN b n L p)) fun w => .ok ((1, w, 0, 0), tkN b n L (tkN b n L p)))
    else if tkW b n L p = 11 then (if m = 40 then .error (4, tkS b n L p) else bnd (pNamed b n L nm 5 (g 1).toNat (tkN b n L p)) fun w => .ok ((2, w, 0, 0), tkN b n L (tkN b n L p)))
    else if tkW b n L p = 12 then (if m = 40 then .error (4, tkS b n L p) else bnd (pSee b n L 1 24 (tkN b n L p)) fun w => .ok ((3, w, 0, 0), tkN b n L (tkN b n L p)))
    else .error (1, tkS b n L p) := rfl
  have w9 := fun {d} => r_isWord (d := d) (w := 9) (x := Int64.ofNat 1886352244) h (by decide) (by decide)
  have w10 := fun {d} => r_isWord (d := d) (w := 10) (x := Int64.ofNat 1903520116) h (by decide) (by decide)
  have w11 := fun {d} => r_isWord (d := d) (w := 11) (x := Int64.ofNat 30064) h (by decide) (by decide)
  have w12 := fun {d} => r_isWord (d := d) (w := 12) (x := Int64.ofNat 1752135026) h (by decide) (by decide)
  apply e_R_bookLine
  intro At _
  rw [hm, show I 4 * I (m : Int) = I ((4 * m : Nat) : Int) by rw [I_mul]; exact congrArg I (by omega), show I ((4 * m : Nat) : Int) + I 1 = I ((4 * m + 1 : Nat) : Int) by rw [I_add]; exact congrArg I (by omega)]
  generalize tkW b n L p = w at *
  -- the 41st
  have full : m = 40 → bkLn b n L g nm m p = .error (4, tkS b n L p) → ∃ (v : Int32), ∃ (N : Mm), (Ev (d + 4) 69 [.ref 400, .int (I 4)] M (some (.int v)) N ∧ ((v = I 0 ∨ v = I 1) ∧ ∃ v', some (Value.int v) = some (.int v') ∧ (RF [404] FG M N ∧ RBo (bkLn b n L g nm m p) v' N fun x => RT N b n L x.2 ∧ RBk2 N (m + 1) (upf bk m x.1)))) := fun _ hR =>
    r_badT h (by decide) fun N hF hL hN => ⟨Or.inl rfl, _, rfl, hF.mono (by decide) (by decide), RBe hR rfl hN⟩
  -- behind the verb
  have fin : ∀ {c : Nat} {R : PE Int} {N6 N32 : Mm} {v : Int32}, c ≠ 0 → m < 40 → RF [] FJ M N6 → RF [] FG (sI N6 404 (4 * m) (I (c : Int))) N32 → (bkLn b n L g nm m p = bnd R fun w => .ok ((c, w, 0, 0), tkN b n L (tkN b n L p))) → RBo R v N32 (fun x => RT N32 b n L (tkN b n L (tkN b n L p)) ∧ N32.1 400 18 = I x) → ((v = I 0 → ∃ v', some (Value.int (I 0)) = some (.int v') ∧ (RF [404] FG M N32 ∧ RBo (bkLn b n L g nm m p) v' N32 fun x => RT N32 b n L x.2 ∧ RBk2 N32 (m + 1) (upf bk m x.1))) ∧ (¬ v = I 0 → inR (I ((4 * m + 1 : Nat) : Int)) 160 ∧ ∃ v', some (Value.int (I 1)) = some (.int v') ∧ (RF [404] FG M (sI N32 404 (I ((4 * m + 1 : Nat) : Int)).toNatClampNeg (N32.1 400 18)) ∧ RBo (bkLn b n L g nm m p) v' (sI N32 404 (I ((4 * m + 1 : Nat) : Int)).toNatClampNeg (N32.1 400 18)) fun x => RT (sI N32 404 (I ((4 * m + 1 : Nat) : Int)).toNatClampNeg (N32.1 400 18)) b n L x.2 ∧ RBk2 (sI N32 404 (I ((4 * m + 1 : Nat) : Int)).toNatClampNeg (N32.1 400 18)) (m + 1) (upf bk m x.1)))) := by
    intro c R N6 N32 v hc hm40 f6 f32 hR hB
    rw [ixI (by omega) (by omega), Int.toNat_natCast]
    have F : RF [404] FG M N32 := (RF.u1 (f6.mono (by decide) (by decide)) (by decide) (by decide)).trans (f32.mono (by decide) (by decide))
    have s32 : N32.1 404 = (sI N6 404 (4 * m) (I (c : Int))).1 404 := (f32.1 404 (by decide) (by decide)).1
    have s6 : N6.1 404 = M.1 404 := (f6.1 404 (by decide) (by decide)).1
    rw [hR]
    rcases pe_cases R with ⟨e, he⟩ | ⟨x, hx⟩
    · obtain ⟨rfl, w⟩ := hB.1 e he
      exact ⟨fun _ => ⟨_, rfl, F, RBe (bnd_e he) rfl w⟩, fun y => absurd rfl y⟩
    · obtain ⟨rfl, t1, g1⟩ := hB.2 x hx
      rw [g1]
      refine ⟨fun y => absurd y (by decide), fun _ => ⟨inRI (by omega) (by omega) (by omega), _, rfl, RF.u1 F (by decide) (by decide), RBk (x := ((c, x, 0, 0), tkN b n L (tkN b n L p))) (bnd_o hx) rfl ⟨RT_fr t1 (fun k hk => mI_n1 (by decide)) (mI_fn (by decide)) rfl rfl, RBk2_up hk (fun i hi => ?_) ?_ mI_eq (fun y => absurd y hc)⟩⟩⟩
      · rw [mI_n2 (by omega), s32, mI_n2 (by omega), s6]
      · rw [mI_n2 (by omega), s32, mI_eq]
  -- the names
  have nmd : ∀ {c o f many : Nat} {N6 : Mm}, m < 40 → RF [] FJ M N6 → RT N6 b n L (tkN b n L p) → o + many ≤ 42 → (∀ i, i < many → M.2.1 405 (o + i) = J (nmR (nm (f + i))) ∧ nmOk (nm (f + i))) → EvQ (d + 4) 79 [.ref 400, .int (I o), .int (I many)] (sI N6 404 (4 * m) (I (c : Int))) fun r N => ∃ v, r = some (.int v) ∧ (RF [] FG (sI N6 404 (4 * m) (I (c : Int))) N ∧ RBo (pNamed b n L nm f many (tkN b n L p)) v N fun x => RT N b n L (tkN b n L (tkN b n L p)) ∧ N.1 400 18 = I x) := by
    intro c o f many N6 _ f6 t6 ho hN
    have t6' : RT (sI N6 404 (4 * m) (I (c : Int))) b n L (tkN b n L p) := RT_fr t6 (fun k hk => mI_n1 (by decide)) (mI_fn (by decide)) rfl rfl
    refine (r_takesName (d := d + 1) (nm := nm) (o := o) (f := f) (many := many) t6' ho fun i hi => ?_).mono ?_
    · show N6.2.1 405 (o + i) = _ ∧ _
      rw [(f6.1 405 (by decide) (by decide)).2]
      exact hN i hi
    · rintro r N ⟨v, rfl, hF, -, hB⟩
      exact ⟨v, rfl, hF, hB⟩
  have s0 : ∀ N6 : Mm, RF [] FJ M N6 → N6.1 402 0 = I (j0 : Int) ∧ N6.1 402 1 = I (j1 : Int) := fun N6 f6 => by
    rw [(f6.1 402 (by decide) (by decide)).1, hn.1]
    dsimp only
    rw [hj0, hj1]
    exact ⟨rfl, rfl⟩
  refine ⟨_, _, w9, fun z0 => ?_, fun z0 => ?_⟩
  · rw [bI0] at z0
    rw [if_neg z0] at eS
    refine ⟨_, _, w10, fun z1 => ?_, fun z1 => ?_⟩
    · rw [bI0] at z1
      rw [if_neg z1] at eS
      refine ⟨_, _, w11, fun z2 => ?_, fun z2 => ?_⟩
      · rw [bI0] at z2
        rw [if_neg z2] at eS
        refine ⟨_, _, w12, fun z3 => ?_, fun z3 => ?_⟩
        · rw [bI0] at z3
          rw [if_neg z3] at eS
          exact r_badT h (by decide) fun N hF hL hN => ⟨Or.inl rfl, _, rfl, hF.mono (by decide) (by decide), RBe eS rfl hN⟩
        · rw [if_pos (Classical.byContradiction fun y => z3 (by rw [bI0]; exact y))] at eS
          rw [hm, I_ne (a := (m : Int)) (b := 40) (by omega) (by omega) (by omega) (by omega)]
          refine ⟨fun q => full (by omega) (by rw [eS, if_pos (by omega)]), fun q => ?_⟩
          have hm40 : ¬ m = 40 := by omega
          rw [if_neg hm40] at eS
          refine q_non (r_nextT h) ?_
          rintro N6 ⟨f6, t6⟩
          rw [ixI (a := ((4 * m : Nat) : Int)) (by omega) (by omega), Int.toNat_natCast]
          refine ⟨inRI (by omega) (by omega) (by omega), ?_⟩
          have t6' : RT (sI N6 404 (4 * m) (I 3)) b n L (tkN b n L p) := RT_fr t6 (fun k hk => mI_n1 (by decide)) (mI_fn (by decide)) rfl rfl
          refine q_int (r_takesNumber t6' (by decide) (by decide)) ?_
          rintro v N ⟨hF, -, e1, e2⟩
          refine fin (c := 3) (by decide) (by omega) f6 hF eS ⟨fun e he => e1 e (bnd_e he), fun x hx => ?_⟩
          have := e2 (x, tkN b n L (tkN b n L p)) (bnd_o hx)
          exact this
      · rw [if_pos (Classical.byContradiction fun y => z2 (by rw [bI0]; exact y))] at eS
        rw [hm, I_ne (a := (m : Int)) (b := 40) (by omega) (by omega) (by omega) (by omega)]
        refine ⟨fun q => full (by omega) (by rw [eS, if_pos (by omega)]), fun q => ?_⟩
        have hm40 : ¬ m = 40 := by omega
        rw [if_neg hm40] at eS
        refine q_non (r_nextT h) ?_
        rintro N6 ⟨f6, t6⟩
        rw [ixI (a := ((4 * m : Nat) : Int)) (by omega) (by omega), Int.toNat_natCast, (s0 N6 f6).2]
        refine ⟨inRI (by omega) (by omega) (by omega), ?_⟩
        rw [hj1, Int.toNat_natCast] at eS
        refine q_int (nmd (c := 2) (o := 5) (f := 5) (many := j1) (by omega) f6 t6 (by omega) (fun i hi => ⟨?_, hn.2.2.2.1.2.1 i (by omega)⟩)) ?_
        · have := hn.2.1.2.1 i (by omega)
          rw [Nat.zero_add] at this
          exact this
        rintro v N ⟨hF, hB⟩
        exact fin (c := 2) (by decide) (by omega) f6 hF eS hB
    · rw [if_pos (Classical.byContradiction fun y => z1 (by rw [bI0]; exact y))] at eS
      rw [hm, I_ne (a := (m : Int)) (b := 40) (by omega) (by omega) (by omega) (by omega)]
      refine ⟨fun q => full (by omega) (by rw [eS, if_pos (by omega)]), fun q => ?_⟩
      have hm40 : ¬ m = 40 := by omega
      rw [if_neg hm40] at eS
      refine q_non (r_nextT h) ?_
      rintro N6 ⟨f6, t6⟩
      rw [ixI (a := ((4 * m : Nat) : Int)) (by omega) (by omega), Int.toNat_natCast, (s0 N6 f6).1]
      refine ⟨inRI (by omega) (by omega) (by omega), ?_⟩
      rw [hj0, Int.toNat_natCast] at eS
      refine q_int (nmd (c := 1) (o := 0) (f := 0) (many := j0) (by omega) f6 t6 (by omega) (fun i hi => ⟨?_, ?_⟩)) ?_
      · have := hn.2.1.1 i (by omega)
        rw [Nat.zero_add]
        rw [Nat.zero_add] at this
        exact this
      · rw [Nat.zero_add]
        exact hn.2.2.2.1.1 i (by omega)
      rintro v N ⟨hF, hB⟩
      exact fin (c := 1) (by decide) (by omega) f6 hF eS hB
  · rw [if_pos (Classical.byContradiction fun y => z0 (by rw [bI0]; exact y))] at eS
    rw [hm, I_ne (a := (m : Int)) (b := 40) (by omega) (by omega) (by omega) (by omega)]
    refine ⟨fun q => full (by omega) (by rw [eS, if_pos (by omega)]), fun q => ?_⟩
    have hm40 : ¬ m = 40 := by omega
    rw [if_neg hm40] at eS
    refine q_non (r_nextT h) ?_
    rintro N6 ⟨f6, t6⟩
    rw [ixI (a := ((4 * m : Nat) : Int)) (by omega) (by omega), Int.toNat_natCast]
    refine ⟨inRI (by omega) (by omega) (by omega), ?_⟩
    have t6' : RT (sI N6 404 (4 * m) (I 0)) b n L (tkN b n L p) := RT_fr t6 (fun k hk => mI_n1 (by decide)) (mI_fn (by decide)) rfl rfl
    have s6 : N6.1 404 = M.1 404 := (f6.1 404 (by decide) (by decide)).1
    refine q_int (r_postLine t6' (RN0_fr hn ?_ ?_) (by omega)) ?_
    · rw [mI_fn (by decide), (f6.1 402 (by decide) (by decide)).1]
    · exact (f6.1 405 (by decide) (by decide)).2
    rintro v N ⟨hF, hK, hB⟩
    rw [← eS] at hB
    refine ⟨RBo_01 hB, v, rfl, (RF.u1 (f6.mono (by decide) (by decide)) (by decide) (by decide)).trans hF, hB.1, fun x hx => ?_⟩
    obtain ⟨u1, u2, u3, u4, u5, u6⟩ := hB.2 x hx
    refine ⟨u1, u2, RBk2_up hk (fun i hi => ?_) ?_ u4 fun _ => ⟨u5, u6⟩⟩
    · rw [hK i (by omega), mI_n2 (by omega), s6]
    · rw [hK (4 * m) (by omega), mI_eq, u3]
      rfl
end RBL
