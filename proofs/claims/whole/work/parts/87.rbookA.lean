/-! ===== a book's text: the reference ===== -/
/-- no wall is named as a drain is -/
def NMd (g : Nat → Int) (nm : Nat → List Nat) : Prop := ∀ w k : Nat, (w : Int) < g 0 → (k : Int) < g 2 → nm w ≠ nm (15 + k)
/-- the street that stands, its names, for the reference -/
def RN0 (M : Mm) (g : Nat → Int) (nm : Nat → List Nat) : Prop := (M.1 402 = fun k => I (g k)) ∧ RNm M 405 0 g nm ∧ RGs g ∧ NMo g nm ∧ NMd g nm
theorem RN0_fr {M N : Mm} {g : Nat → Int} {nm : Nat → List Nat} (h : RN0 M g nm) (h1 : N.1 402 = M.1 402) (h2 : N.2.1 405 = M.2.1 405) : RN0 N g nm := by
  unfold RN0 RNm at h ⊢
  rw [h1, h2]
  exact h
/-- the reference's book: m lines -/
def RBk2 (M : Mm) (m : Nat) (bk : Nat → BL) : Prop := ∀ i, i < m → M.1 404 (4 * i) = I ((bk i).1 : Int) ∧ M.1 404 (4 * i + 1) = I (bk i).2.1 ∧ ((bk i).1 = 0 → M.1 404 (4 * i + 2) = I (bk i).2.2.1 ∧ M.1 404 (4 * i + 3) = I (bk i).2.2.2)
section RBB
variable {M : Mm} {b : Nat → Nat} {n L p m : Nat} {g : Nat → Int} {nm : Nat → List Nat} {bk : Nat → BL}
theorem RBk9 {α : Type} {R : PE α} {v : Int32} {N : Mm} {ok : α → Prop} {x : α} (h : R = .ok x) (h1 : v = I 1) (h2 : ok x) : RBo R v N ok := ⟨fun e' q => (by rw [h] at q; cases q), fun x q => (by rw [h] at q; cases q; exact ⟨h1, h2⟩)⟩
theorem r_postLine {d to : Nat} (h : RT M b n L p) (hn : RN0 M g nm) (hto : to + 4 ≤ 160) : EvQ (d + 4) 152 [.ref 400, .int (I to)] M fun r N => ∃ v, r = some (.int v) ∧ (RF [404] FG M N ∧ (∀ i, (i ≤ to ∨ to + 4 ≤ i) → N.1 404 i = M.1 404 i) ∧ RBo (pPost b n L g nm p) v N fun z => RT N b n L z.2 ∧ z.1.1 = 0 ∧ N.1 404 (to + 1) = I z.1.2.1 ∧ N.1 404 (to + 2) = I z.1.2.2.1 ∧ N.1 404 (to + 3) = I z.1.2.2.2) := by
  have h1 := hn.2.2.1.1
  obtain ⟨j0, hj0⟩ := Nn h1.1.1
  obtain ⟨j2, hj2⟩ := Nn h1.2.2.1.1
  apply e_R_postLine
  intro At _
  rw [show I (to : Int) + I 1 = I ((to + 1 : Nat) : Int) by rw [I_add]; exact congrArg I (by omega), show I (to : Int) + I 2 = I ((to + 2 : Nat) : Int) by rw [I_add]; exact congrArg I (by omega), show I (to : Int) + I 3 = I ((to + 3 : Nat) : Int) by rw [I_add]; exact congrArg I (by omega), ixI (a := ((to + 1 : Nat) : Int)) (by omega) (by omega), ixI (a := ((to + 2 : Nat) : Int)) (by omega) (by omega), ixI (a := ((to + 3 : Nat) : Int)) (by omega) (by omega), Int.toNat_natCast, Int.toNat_natCast, Int.toNat_natCast]
  refine q_int (r_takesNumber h (by decide) (by decide)) ?_
  rintro v N1 ⟨f1, l1, e1, e2⟩
  rcases pe_cases (pNum b n L 0 60 p) with ⟨e, he⟩ | ⟨x, hx⟩
  · obtain ⟨rfl, w⟩ := e1 e he
    refine ⟨fun _ => ⟨_, rfl, f1.mono (by decide) (by decide), fun i _ => by rw [(f1.1 404 (by decide) (by decide)).1], RBe (e := e) (bnd_e he) rfl w⟩, fun z => absurd rfl z⟩
  obtain ⟨rfl, t1, g1⟩ := e2 x hx
  rw [g1]
  refine ⟨fun z => absurd z (by decide), fun _ => ⟨inRI (by omega) (by omega) (by omega), ?_⟩⟩
  have t1' : RT (sI N1 404 (to + 1) (I x.1)) b n L x.2 := RT_fr t1 (fun k hk => mI_n1 (by decide)) (mI_fn (by decide)) rfl rfl
  refine q_int (r_takesNumber t1' (by decide) (by decide)) ?_
  rintro v N6 ⟨f6, l6, e3, e4⟩
  have F6 : RF [404] FG M N6 := (RF.u1 (f1.mono (by decide) (by decide)) (by decide) (by decide)).trans (f6.mono (by decide) (by decide))
  have K6 : ∀ i, i ≠ to + 1 → N6.1 404 i = M.1 404 i := fun i hi => by rw [(f6.1 404 (by decide) (by decide)).1, mI_n2 hi, (f1.1 404 (by decide) (by decide)).1]
  rcases pe_cases (pNum b n L 0 60 x.2) with ⟨e, he⟩ | ⟨y, hy⟩
  · obtain ⟨rfl, w⟩ := e3 e he
    refine ⟨fun _ => ⟨_, rfl, F6, fun i hi => K6 i (by omega), RBe (e := e) ?_ rfl w⟩, fun z => absurd rfl z⟩
    unfold pPost
    rw [bnd_o hx, bnd_e he]
  obtain ⟨rfl, t6, g6⟩ := e4 y hy
  rw [g6]
  refine ⟨fun z => absurd z (by decide), fun _ => ⟨inRI (by omega) (by omega) (by omega), ?_⟩⟩
  have t6' : RT (sI N6 404 (to + 2) (I y.1)) b n L y.2 := RT_fr t6 (fun k hk => mI_n1 (by decide)) (mI_fn (by decide)) rfl rfl
  have F7 : RF [404] FG M (sI N6 404 (to + 2) (I y.1)) := RF.u1 F6 (by decide) (by decide)
  have K7 : ∀ i, i ≠ to + 1 → i ≠ to + 2 → (sI N6 404 (to + 2) (I y.1)).1 404 i = M.1 404 i := fun i hi hi2 => by rw [mI_n2 hi2]; exact K6 i hi
  have L7 : (sI N6 404 (to + 2) (I y.1)).1 404 (to + 1) = I x.1 := by rw [mI_n2 (by omega), (f6.1 404 (by decide) (by decide)).1, mI_eq]
  have L8 : (sI N6 404 (to + 2) (I y.1)).1 404 (to + 2) = I y.1 := mI_eq
  generalize sI N6 404 (to + 2) (I y.1) = K at *
  have w2 := tkW_2 (b := b) (n := n) (L := L) (p := y.2)
  obtain ⟨k1, k2, k3, k4⟩ := tk_four (b := b) (L := L) t6'.1.2.2.2.1
  have s402 : K.1 402 = M.1 402 := (F7.1 402 (by decide) (by decide)).1
  have s405 : K.2.1 405 = M.2.1 405 := (F7.1 405 (by decide) (by decide)).2
  have ePost : pPost b n L g nm p = bnd (pTgt b n L g nm y.2) fun t => .ok ((0, x.1, y.1, t), tkN b n L y.2) := by
    unfold pPost
    rw [bnd_o hx, bnd_o hy]
  refine ⟨_, _, r_isName t6', fun z => ?_, fun z => ?_⟩
  · rw [bI0] at z
    refine r_badT t6' (by decide) fun N hF hL hN => ⟨Or.inl rfl, _, rfl, F7.trans (hF.mono (by decide) (by decide)), fun i hi => by rw [(hF.1 404 (by decide) (by decide)).1]; exact K7 i (by omega) (by omega), RBe (e := (1, tkS b n L y.2)) ?_ rfl hN⟩
    rw [ePost, bnd_e]
    unfold pTgt
    rw [if_neg z]
  · have z2 : tkW b n L y.2 = 23 := Classical.byContradiction fun c => z (by rw [bI0]; exact c)
    have z3 : tkK b n L y.2 = 2 := w2.mp (by omega)
    have e7 := t6'.2.1.2.2.2.1 z3
    have hl := (k2 z3).1
    have b0 := fnd_b (nm := nm) (l := tkL b n y.2) (f := 0) (m := j0)
    have b2 := fnd_b (nm := nm) (l := tkL b n y.2) (f := 15) (m := j2)
    have y0 := r_find (d := d + 2) (nm := nm) (o := 0) (f := 0) (many := j0) e7 hl (by omega) (fun i hi => ⟨by rw [s405, Nat.zero_add]; have := hn.2.1.1 i (by omega); rw [Nat.zero_add] at this; exact this, by rw [Nat.zero_add]; exact hn.2.2.2.1.1 i (by omega)⟩)
    have y2 := r_find (d := d + 2) (nm := nm) (o := 15) (f := 15) (many := j2) e7 hl (by omega) (fun i hi => ⟨by rw [s405]; have := hn.2.1.2.2 i (by omega); rw [Nat.zero_add] at this; exact this, hn.2.2.2.1.2.2 i (by omega)⟩)
    have dj : fnd nm (tkL b n y.2) 0 j0 = -1 ∨ fnd nm (tkL b n y.2) 15 j2 = -1 := by
      rcases b0 with c | ⟨c1, c2, c3⟩
      · exact Or.inl c
      · rcases b2 with c | ⟨c4, c5, c6⟩
        · exact Or.inr c
        · exfalso
          refine hn.2.2.2.2 (fnd nm (tkL b n y.2) 0 j0).toNat (fnd nm (tkL b n y.2) 15 j2).toNat (by omega) (by omega) ?_
          rw [Nat.zero_add] at c3
          rw [c3, c6]
    have eT : pTgt b n L g nm y.2 = if fnd nm (tkL b n y.2) 15 j2 ≠ -1 then .ok (10 + fnd nm (tkL b n y.2) 15 j2) else if fnd nm (tkL b n y.2) 0 j0 = -1 then .error (3, tkS b n L y.2) else .ok (fnd nm (tkL b n y.2) 0 j0) := by
      unfold pTgt pNamed
      rw [if_pos z2, hj0, hj2, Int.toNat_natCast, Int.toNat_natCast, if_pos z2]
    clear k1 k2 k3 k4 w2
    generalize fnd nm (tkL b n y.2) 0 j0 = u0 at *
    generalize fnd nm (tkL b n y.2) 15 j2 = u2 at *
    rw [s402, hn.1]
    dsimp only
    rw [hj0]
    refine ⟨_, _, y0, ?_⟩
    rw [s402, hn.1]
    dsimp only
    rw [hj2]
    refine ⟨_, _, y2, ?_⟩
    rw [I_lt (by omega) (by omega) (by omega) (by omega), I_lt (by omega) (by omega) (by omega) (by omega), I_add]
    have go : ∀ t : Int, pTgt b n L g nm y.2 = .ok t → inR (I ((to + 3 : Nat) : Int)) 160 ∧ (∃ (N35 : Mm), (Ev (d + 3) 68 [.ref 400] (sI K 404 (to + 3) (I t)) none N35 ∧ ∃ v, some (Value.int (I 1)) = some (.int v) ∧ (RF [404] FG M N35 ∧ (∀ i, (i ≤ to ∨ to + 4 ≤ i) → N35.1 404 i = M.1 404 i) ∧ RBo (pPost b n L g nm p) v N35 fun z => RT N35 b n L z.2 ∧ z.1.1 = 0 ∧ N35.1 404 (to + 1) = I z.1.2.1 ∧ N35.1 404 (to + 2) = I z.1.2.2.1 ∧ N35.1 404 (to + 3) = I z.1.2.2.2))) := by
      intro t ht
      have tK : RT (sI K 404 (to + 3) (I t)) b n L y.2 := RT_fr t6' (fun k hk => mI_n1 (by decide)) (mI_fn (by decide)) rfl rfl
      refine ⟨inRI (by omega) (by omega) (by omega), q_non (r_nextT tK) ?_⟩
      rintro N ⟨f9, t9⟩
      have s9 : N.1 404 = (sI K 404 (to + 3) (I t)).1 404 := (f9.1 404 (by decide) (by decide)).1
      refine ⟨_, rfl, (RF.u1 F7 (by decide) (by decide)).trans (f9.mono (by decide) (by decide)), fun i hi => by rw [s9, mI_n2 (by omega)]; exact K7 i (by omega) (by omega), RBk9 (x := ((0, x.1, y.1, t), tkN b n L y.2)) (by rw [ePost, bnd_o ht]) rfl ⟨t9, rfl, by rw [s9, mI_n2 (by omega)]; exact L7, by rw [s9, mI_n2 (by omega)]; exact L8, by rw [s9, mI_eq]⟩⟩
    refine ⟨fun c0 => ⟨fun c2 => ?_, fun c2 => ⟨fun _ => go (10 + u2) (by rw [eT, if_pos (by omega)]), fun y => absurd c0 y⟩⟩, fun c0 => ⟨fun y => absurd y c0, fun _ => go u0 (by rw [eT, if_neg (by omega), if_neg (by omega)])⟩⟩
    refine r_badT t6' (by decide) fun N hF hL hN => ⟨Or.inl rfl, _, rfl, F7.trans (hF.mono (by decide) (by decide)), fun i hi => by rw [(hF.1 404 (by decide) (by decide)).1]; exact K7 i (by omega) (by omega), RBe (e := (3, tkS b n L y.2)) ?_ rfl hN⟩
    rw [ePost, bnd_e]
    rw [eT, if_neg (by omega), if_pos (by omega)]
end RBB
