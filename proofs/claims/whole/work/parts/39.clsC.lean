/-! ===== the class's methods that change a state ===== -/
theorem mI_eq {M : Mm} {a k : Nat} {v : Int32} : (sI M a k v).1 a k = v := by
  rw [mI_at, if_pos ⟨rfl, rfl⟩]
theorem mI_n1 {M : Mm} {a k b j : Nat} {v : Int32} (h : b ≠ a) : (sI M a k v).1 b j = M.1 b j := by
  rw [mI_at, if_neg (fun r => h r.1)]
theorem mI_n2 {M : Mm} {a k b j : Nat} {v : Int32} (h : j ≠ k) : (sI M a k v).1 b j = M.1 b j := by
  rw [mI_at, if_neg (fun r => h r.2)]
theorem mI_fn {M : Mm} {a k b : Nat} {v : Int32} (h : b ≠ a) : (sI M a k v).1 b = M.1 b := up2_ne h
theorem CSt.congr {M : Mm} {o : Nat} {g g' : Nat → Int} (h : CSt M o g) (e : ∀ j, 89 ≤ j → j < 122 → j ≠ 100 → g j = g' j) : CSt M o g' := by
  obtain ⟨⟨c0, c1, c2, c3, c4, c5, c6, c7, c8, c9, c10⟩, cw, cd, ch⟩ := h
  refine ⟨⟨?_, ?_, ?_, ?_, ?_, ?_, ?_, ?_, ?_, ?_, ?_⟩, fun w hw => ?_, fun k hk => ?_, fun k hk => ?_⟩
  · rw [← e 89 (by decide) (by decide) (by decide)]; exact c0
  · rw [← e 90 (by decide) (by decide) (by decide)]; exact c1
  · rw [← e 91 (by decide) (by decide) (by decide)]; exact c2
  · rw [← e 92 (by decide) (by decide) (by decide)]; exact c3
  · rw [← e 96 (by decide) (by decide) (by decide)]; exact c4
  · rw [← e 97 (by decide) (by decide) (by decide)]; exact c5
  · rw [← e 93 (by decide) (by decide) (by decide)]; exact c6
  · rw [← e 94 (by decide) (by decide) (by decide)]; exact c7
  · rw [← e 95 (by decide) (by decide) (by decide)]; exact c8
  · rw [← e 98 (by decide) (by decide) (by decide)]; exact c9
  · rw [← e 99 (by decide) (by decide) (by decide)]; exact c10
  · rw [← e (101 + w) (by omega) (by omega) (by omega)]; exact cw w hw
  · rw [← e (106 + k) (by omega) (by omega) (by omega)]; exact cd k hk
  · rw [← e (112 + k) (by omega) (by omega) (by omega)]; exact ch k hk
section STC
variable {o p : Nat} {M : Mm} {g : Nat → Int}
theorem c_takePosts {d : Nat} (ho : Sa o) (hc : CSt M o g) {f c w : Int} : EvQ (d + 1) 220 [.ref o, .int (I f), .int (I c), .int (I w)] M fun r M' => r = none ∧ CSt M' o (postsG g f c w) ∧ Fr o (o + 4) M M' := by
  obtain ⟨⟨c0, c1, c2, c3, c4, c5, c6, c7, c8, c9, c10⟩, cw, cd, ch⟩ := hc
  apply e_State_takePosts ho
  intro At _
  refine ⟨rfl, ?_, ((Fr.sI (by omega) (by omega)).trans (Fr.sI (by omega) (by omega))).trans (Fr.sI (by omega) (by omega))⟩
  unfold postsG
  refine ⟨⟨?_, ?_, ?_, ?_, ?_, ?_, ?_, ?_, ?_, ?_, ?_⟩, fun w hw => ?_, fun k hk => ?_, fun k hk => ?_⟩
  all_goals simp (disch := omega) only [mI_eq, mI_n1, mI_n2, upf_eq, upf_ne, c0, c1, c2, c3, c4, c5, c6, c7, c8, c9, c10]
  · exact cw w hw
  · exact cd k hk
  · exact ch k hk
theorem c_giveUpWall {d : Nat} (ho : Sa o) (hc : CSt M o g) (hd : RGd g) {w : Nat} (hw : w < 5) : EvQ (d + 1) 222 [.ref o, .int (I w)] M fun r M' => r = none ∧ CSt M' o (quitsG g w) ∧ Fr o (o + 4) M M' := by
  have hb := (bags_b hd).2.2.1 w hw
  have hq := hd.1.2.2.2.2.2.2.2.2.2.1
  obtain ⟨⟨c0, c1, c2, c3, c4, c5, c6, c7, c8, c9, c10⟩, cw, cd, ch⟩ := hc
  rw [show g 98 = ((g 98).toNat : Int) by omega] at c9
  apply e_State_giveUpWall ho
  intro At _
  have cw0 := cw w hw
  simp (disch := omega) only [mI_eq, mI_n1, mI_n2, upf_eq, upf_ne, cw0, c2, c9, shl0 w (by omega), I_or, I_add, I_sub, I_mul, I_div, ixI, Int.toNat_add, Int.toNat_natCast, Int.reduceToNat, I_lt, I_ne, ite_I]
  refine ⟨fun q => absurd q (by omega), fun _ => ⟨fun _ => ⟨inRI (by omega) (by omega) (by omega), inRI (by omega) (by omega) (by omega), ?_⟩, fun q => absurd q (by omega)⟩⟩
  intro N hN
  subst hN
  refine ⟨by trivial, ?_, ((Fr.sI (by omega) (by omega)).trans (Fr.sI (by omega) (by omega))).trans (Fr.sI (by omega) (by omega))⟩
  unfold quitsG
  refine ⟨⟨?_, ?_, ?_, ?_, ?_, ?_, ?_, ?_, ?_, ?_, ?_⟩, fun v hv => ?_, fun k hk => ?_, fun k hk => ?_⟩
  rotate_left 11
  · by_cases q : v = w
    · subst q
      simp (disch := omega) only [mI_eq, mI_n1, mI_n2, upf_eq, upf_ne]
    · simp (disch := omega) only [mI_eq, mI_n1, mI_n2, upf_eq, upf_ne]
      exact cw v hv
  · simp (disch := omega) only [mI_eq, mI_n1, mI_n2, upf_eq, upf_ne]
    exact cd k hk
  · simp (disch := omega) only [mI_eq, mI_n1, mI_n2, upf_eq, upf_ne]
    exact ch k hk
  all_goals simp (disch := omega) only [mI_eq, mI_n1, mI_n2, upf_eq, upf_ne, c0, c1, c2, c3, c4, c5, c6, c7, c8, c9, c10]
theorem c_carryUp {d : Nat} (ho : Sa o) (hc : CSt M o g) (hd : RGd g) {k : Nat} (hk : k < 10) : EvQ (d + 1) 224 [.ref o, .int (I k)] M fun r M' => r = none ∧ CSt M' o (upsG g k) ∧ Fr o (o + 4) M M' := by
  have hq := hd.1.2.2.2.2.2.2.2.2.2.2.1
  obtain ⟨⟨c0, c1, c2, c3, c4, c5, c6, c7, c8, c9, c10⟩, cw, cd, ch⟩ := hc
  rw [show g 99 = ((g 99).toNat : Int) by omega] at c10
  apply e_State_carryUp ho
  intro At _
  simp (disch := omega) only [mI_eq, mI_n1, mI_n2, upf_eq, upf_ne, c3, c10, shl0 k hk, I_or, I_add, I_sub, I_mul, I_div, ixI, Int.toNat_add, Int.toNat_natCast, Int.reduceToNat, I_lt, I_ne, ite_I]
  refine ⟨by trivial, ?_, (Fr.sI (by omega) (by omega)).trans (Fr.sI (by omega) (by omega))⟩
  unfold upsG
  refine ⟨⟨?_, ?_, ?_, ?_, ?_, ?_, ?_, ?_, ?_, ?_, ?_⟩, fun v hv => ?_, fun k hk => ?_, fun k hk => ?_⟩
  all_goals simp (disch := omega) only [mI_eq, mI_n1, mI_n2, upf_eq, upf_ne, c0, c1, c2, c3, c4, c5, c6, c7, c8, c9, c10]
  · exact cw v hv
  · exact cd k hk
  · exact ch k hk
/-- b bags are laid down -/
def layG (g : Nat → Int) (b : Int) : Nat → Int := if opnG g = true then upf (upf (upf g (celG g) (g (celG g) + b)) 91 (g 91 - b)) 97 (g 97 + b) else g
theorem c_layDown {d : Nat} (ho : Sa o) (hp : St p) (hr : CSr M p g) (hc : CSt M o g) (hs : RGs g) (hw : (0 ≤ g 95 ∧ (g 95 < g 0 ∨ g 0 = 0 ∧ g 95 = 0)) ∨ (10 ≤ g 95 ∧ g 95 < 10 + g 2)) (hq : 0 ≤ g 98 ∧ g 98 < 32) {b : Int} : EvQ (d + 2) 226 [.ref o, .ref p, .int (I b)] M fun r M' => r = none ∧ CSt M' o (layG g b) ∧ Fr o (o + 4) M M' := by
  have hc0 := hc
  have h0 := hs.1.1
  have h2 := hs.1.2.2.1
  obtain ⟨⟨c0, c1, c2, c3, c4, c5, c6, c7, c8, c9, c10⟩, cw, cd, ch⟩ := hc
  have c9' := c9
  rw [show g 98 = ((g 98).toNat : Int) by omega] at c9'
  have hbt := bt_lt (g 98).toNat (g 95).toNat
  have ho2 : opnG g = true ↔ (10 ≤ g 95 ∨ 0 < g 0 ∧ ¬ bt (g 98).toNat (g 95).toNat = 1) := by
    unfold opnG opn
    rw [decide_eq_true_eq]
  apply e_State_layDown ho hp
  intro At _
  rw [c8]
  refine ⟨_, _, c_hasWall hp hr hs (by omega), ?_⟩
  rw [bI0, c8]
  refine ⟨fun q => ?_, fun q => ?_⟩
  · rw [I_sub]
    refine ⟨_, _, c_hasDrain hp hr hs (by omega), ?_⟩
    rw [bI0, c8, I_sub]
    refine ⟨fun q2 => ⟨rfl, ?_, Fr.refl⟩, fun q2 => ?_⟩
    · unfold layG
      rw [if_neg (by rw [ho2]; omega)]
      exact hc0
    · obtain ⟨k, hk⟩ := Nn (a := g 95 - 10) (by omega)
      have hcel : celG g = 106 + k := by
        unfold celG
        rw [if_pos (by omega)]
        omega
      rw [hk, ixI (by omega) (by omega), Int.toNat_natCast]
      have cd0 := cd k (by omega)
      simp (disch := omega) only [mI_eq, mI_n1, mI_n2, upf_eq, upf_ne, cd0, c2, c5, I_add, I_sub, I_mul, I_div, ixI, Int.toNat_add, Int.toNat_natCast, Int.reduceToNat, I_lt, I_ne, ite_I]
      refine ⟨inRI (by omega) (by omega) (by omega), inRI (by omega) (by omega) (by omega), fun N hN => ?_⟩
      subst hN
      simp (disch := omega) only [mI_eq, mI_n1, mI_n2, upf_eq, upf_ne, c5, I_add, I_sub, I_mul, I_div, ixI, Int.toNat_add, Int.toNat_natCast, Int.reduceToNat, I_lt, I_ne, ite_I]
      refine ⟨by trivial, ?_, ((Fr.sI (by omega) (by omega)).trans (Fr.sI (by omega) (by omega))).trans (Fr.sI (by omega) (by omega))⟩
      unfold layG
      rw [if_pos (by rw [ho2]; omega), hcel]
      refine ⟨⟨?_, ?_, ?_, ?_, ?_, ?_, ?_, ?_, ?_, ?_, ?_⟩, fun v hv => ?_, fun j hj => ?_, fun j hj => ?_⟩
      rotate_left 11
      · simp (disch := omega) only [mI_eq, mI_n1, mI_n2, upf_eq, upf_ne]
        exact cw v hv
      · by_cases e : j = k
        · subst e
          simp (disch := omega) only [mI_eq, mI_n1, mI_n2, upf_eq, upf_ne]
        · simp (disch := omega) only [mI_eq, mI_n1, mI_n2, upf_eq, upf_ne]
          exact cd j hj
      · simp (disch := omega) only [mI_eq, mI_n1, mI_n2, upf_eq, upf_ne]
        exact ch j hj
      all_goals simp (disch := omega) only [mI_eq, mI_n1, mI_n2, upf_eq, upf_ne, c0, c1, c2, c3, c4, c5, c6, c7, c8, c9, c10]
  · obtain ⟨k, hk⟩ := Nn (a := g 95) (by omega)
    have hcel : celG g = 101 + k := by
      unfold celG
      rw [if_neg (by omega)]
      omega
    rw [hk, c9']
    rw [hk, Int.toNat_natCast] at hbt ho2
    refine ⟨_, _, c_bit (by omega) (by omega), ?_⟩
    rw [I_ne (by omega) (by omega) (by omega) (by omega), c8, hk]
    refine ⟨fun q2 => ⟨rfl, ?_, Fr.refl⟩, fun q2 => ?_⟩
    · unfold layG
      rw [if_neg (by rw [ho2]; omega)]
      exact hc0
    · rw [ixI (by omega) (by omega), Int.toNat_natCast]
      have cw0 := cw k (by omega)
      simp (disch := omega) only [mI_eq, mI_n1, mI_n2, upf_eq, upf_ne, cw0, c2, c5, I_add, I_sub, I_mul, I_div, ixI, Int.toNat_add, Int.toNat_natCast, Int.reduceToNat, I_lt, I_ne, ite_I]
      refine ⟨inRI (by omega) (by omega) (by omega), inRI (by omega) (by omega) (by omega), fun N hN => ?_⟩
      subst hN
      simp (disch := omega) only [mI_eq, mI_n1, mI_n2, upf_eq, upf_ne, c5, I_add, I_sub, I_mul, I_div, ixI, Int.toNat_add, Int.toNat_natCast, Int.reduceToNat, I_lt, I_ne, ite_I]
      refine ⟨by trivial, ?_, ((Fr.sI (by omega) (by omega)).trans (Fr.sI (by omega) (by omega))).trans (Fr.sI (by omega) (by omega))⟩
      unfold layG
      rw [if_pos (by rw [ho2]; omega), hcel]
      refine ⟨⟨?_, ?_, ?_, ?_, ?_, ?_, ?_, ?_, ?_, ?_, ?_⟩, fun v hv => ?_, fun j hj => ?_, fun j hj => ?_⟩
      rotate_left 11
      · by_cases e : v = k
        · subst e
          simp (disch := omega) only [mI_eq, mI_n1, mI_n2, upf_eq, upf_ne]
        · simp (disch := omega) only [mI_eq, mI_n1, mI_n2, upf_eq, upf_ne]
          exact cw v hv
      · simp (disch := omega) only [mI_eq, mI_n1, mI_n2, upf_eq, upf_ne]
        exact cd j hj
      · simp (disch := omega) only [mI_eq, mI_n1, mI_n2, upf_eq, upf_ne]
        exact ch j hj
      all_goals simp (disch := omega) only [mI_eq, mI_n1, mI_n2, upf_eq, upf_ne, c0, c1, c2, c3, c4, c5, c6, c7, c8, c9, c10]
theorem c_work {d : Nat} (ho : Sa o) (hp : St p) (hr : CSr M p g) (hc : CSt M o g) (hs : RGs g) (hd : RGd g) : EvQ (d + 3) 225 [.ref o, .ref p] M fun r M' => r = none ∧ CSt M' o (workG g) ∧ Fr o (o + 4) M M' := by
  have hf := fillG_b hs hd
  have hca := carG_b hs hd
  have hcel := celG_b hs hd
  have hba := bags_b hd
  have hd0 := hd.1
  have hc0 := hc
  obtain ⟨⟨c0, c1, c2, c3, c4, c5, c6, c7, c8, c9, c10⟩, cw, cd, ch⟩ := hc
  apply e_State_work ho hp
  intro At _
  refine ⟨_, _, c_bagsEach ho hp hr hc0 hs hd, ?_⟩
  intro N hN
  have hfl : (if M.1 o 1 < M.1 o 6 / I 2 * I (eachI g (g 92)) then M.1 o 1 else M.1 o 6 / I 2 * I (eachI g (g 92))) = I (fillG g) := by
    rw [c1, c6]
    simp (disch := omega) only [I_add, I_sub, I_mul, I_div, ixI, Int.toNat_add, Int.toNat_natCast, Int.reduceToNat, I_lt, I_ne, ite_I]
    rfl
  rw [hfl, c1] at hN
  simp (disch := omega) only [mI_eq, mI_n1, mI_n2, upf_eq, upf_ne, c2, I_add, I_sub, I_mul, I_div, ixI, Int.toNat_add, Int.toNat_natCast, Int.reduceToNat, I_lt, I_ne, ite_I] at hN
  have hcN : CSt N o (upf (upf g 90 (g 90 - fillG g)) 91 (g 91 + fillG g)) := by
    subst hN
    refine ⟨⟨?_, ?_, ?_, ?_, ?_, ?_, ?_, ?_, ?_, ?_, ?_⟩, fun v hv => ?_, fun j hj => ?_, fun j hj => ?_⟩
    all_goals simp (disch := omega) only [mI_eq, mI_n1, mI_n2, upf_eq, upf_ne, c0, c1, c2, c3, c4, c5, c6, c7, c8, c9, c10]
    · exact cw v hv
    · exact cd j hj
    · exact ch j hj
  have hfN : Fr o (o + 4) M N := by
    subst hN
    exact (Fr.sI (by omega) (by omega)).trans (Fr.sI (by omega) (by omega))
  have hrN := hr.fr ho hp hfN
  have e1 : SameS g (upf (upf g 90 (g 90 - fillG g)) 91 (g 91 + fillG g)) := fun j hj => by rw [upf_ne (by omega), upf_ne (by omega)]
  have hsN := hs.same e1
  have hrN2 := CSr.same hs hrN e1
  have hb : (if N.1 o 2 < N.1 o 7 * I (eachI g (g 92)) then N.1 o 2 else N.1 o 7 * I (eachI g (g 92))) = I (mnI (g 91 + fillG g) (g 94 * eachI g (g 92))) := by
    rw [hcN.1.2.2.1, hcN.1.2.2.2.2.2.2.2.1]
    simp (disch := omega) only [mI_eq, mI_n1, mI_n2, upf_eq, upf_ne, I_add, I_sub, I_mul, I_div, ixI, Int.toNat_add, Int.toNat_natCast, Int.reduceToNat, I_lt, I_ne, ite_I]
    rfl
  rw [hb]
  have hol : opnG (upf (upf g 90 (g 90 - fillG g)) 91 (g 91 + fillG g)) = opnG g := rfl
  have hcl : celG (upf (upf g 90 (g 90 - fillG g)) 91 (g 91 + fillG g)) = celG g := rfl
  refine q_non (c_layDown ho hp hrN2 hcN hsN hd0.2.2.2.2.2.2.1 hd0.2.2.2.2.2.2.2.2.2.1) ?_
  intro N2 ⟨hc2, hf2⟩
  have hc3 : CSt N2 o (upf (upf (upf (upf g 90 (g 90 - fillG g)) 91 (g 91 + fillG g - carG g)) 97 (g 97 + carG g)) (celG g) (g (celG g) + carG g)) := by
    refine hc2.congr fun j h1 h2 h3 => ?_
    unfold layG
    rw [hol, hcl]
    by_cases q : opnG g = true
    · have ec : carG g = mnI (g 91 + fillG g) (g 94 * eachI g (g 92)) := by
        unfold carG
        rw [if_pos q]
      rw [if_pos q, ← ec]
      by_cases q1 : j = celG g
      · subst q1
        simp (disch := omega) only [upf_eq, upf_ne]
      · by_cases q2 : j = 97
        · subst q2
          simp (disch := omega) only [upf_eq, upf_ne]
        · by_cases q3 : j = 91
          · subst q3
            simp (disch := omega) only [upf_eq, upf_ne]
          · simp (disch := omega) only [upf_eq, upf_ne]
    · have ec : carG g = 0 := by
        unfold carG
        rw [if_neg q]
      rw [if_neg q, ec, Int.sub_zero, Int.add_zero, Int.add_zero]
      by_cases q1 : j = celG g
      · subst q1
        simp (disch := omega) only [upf_eq, upf_ne]
      · by_cases q2 : j = 97
        · subst q2
          simp (disch := omega) only [upf_eq, upf_ne]
        · simp (disch := omega) only [upf_ne]
  obtain ⟨⟨x0, x1, x2, x3, x4, x5, x6, x7, x8, x9, x10⟩, xw, xd, xh⟩ := hc3
  simp (disch := omega) only [upf_eq, upf_ne] at x0 x1 x2 x3 x4 x5 x6 x7 x8 x9 x10
  have fin : ∀ t : Int, t = tirG g → CSt (sI N2 o 3 (I t)) o (workG g) := by
    intro t ht
    subst ht
    unfold workG
    refine ⟨⟨?_, ?_, ?_, ?_, ?_, ?_, ?_, ?_, ?_, ?_, ?_⟩, fun v hv => ?_, fun j hj => ?_, fun j hj => ?_⟩
    all_goals simp (disch := omega) only [mI_eq, mI_n1, mI_n2, upf_eq, upf_ne, x0, x1, x2, x3, x4, x5, x6, x7, x8, x9, x10]
    · exact xw v hv
    · exact xd j hj
    · have := xh j hj
      simp (disch := omega) only [upf_ne] at this
      exact this
  rw [x6, x7, x3]
  simp (disch := omega) only [I_add, I_sub, I_mul, I_div, ixI, Int.toNat_add, Int.toNat_natCast, Int.reduceToNat, I_lt, I_ne, ite_I]
  unfold tirG at fin
  refine ⟨fun q => ⟨by trivial, fin _ (by rw [if_pos q]), (hfN.trans hf2).trans (Fr.sI (by omega) (by omega))⟩, fun q => ⟨by trivial, fin _ ?_, (hfN.trans hf2).trans (Fr.sI (by omega) (by omega))⟩⟩
  rw [if_neg q]
  unfold mxI
  rfl
theorem floodB_congr {g g' : Nat → Int} {nd q k : Nat} {h : Int} (hk : k < 10) (hn : nd ≤ 6) (h13 : 0 ≤ g (13 + k) ∧ g (13 + k) ≤ 5) (e : ∀ j, j < 89 ∨ (101 ≤ j ∧ j < 112) → g' j = g j) : floodB g' nd q k h = floodB g nd q k h := by
  unfold floodB
  rw [e (33 + k) (by omega), e (13 + k) (by omega)]
  have e2 : leakS g' (g (13 + k) - 1) h nd = leakS g (g (13 + k) - 1) h nd := by
    unfold leakS
    refine setL_congr fun i hi => ?_
    rw [e (43 + i) (by omega), e (49 + i) (by omega), e (106 + i) (by omega), e (55 + i) (by omega)]
  rw [e2]
  by_cases z : g (13 + k) = 0
  · simp [z]
  · have e3 : higI g' q (g (13 + k) - 1).toNat = higI g q (g (13 + k) - 1).toNat := by
      unfold higI
      rw [e (8 + (g (13 + k) - 1).toNat) (by omega), e (101 + (g (13 + k) - 1).toNat) (by omega)]
    rw [e3]
theorem c_goHour {d : Nat} (ho : Sa o) (hp : St p) (hr : CSr M p g) (hc : CSt M o g) (hs : RGs g) (hd : RGd g) (ht : g 92 ≤ 199) (h48 : g 89 < 48) : EvQ (d + 4) 227 [.ref o, .ref p] M fun r M' => r = none ∧ CSt M' o (hourG g) ∧ Fr o (o + 4) M M' := by
  apply e_State_goHour ho hp
  intro At step
  refine q_non (c_work ho hp hr hc hs hd) ?_
  intro N ⟨hcN, hfN⟩
  have e1 := workG_same hs hd
  have hsN := hs.same e1
  have hdN := RGd_work hs hd ht
  have hrN := CSr.same hs (hr.fr ho hp hfN) e1
  have h48N : workG g 89 < 48 := by rw [(workG_at hs hd).1]; exact h48
  unfold hourG at step
  refine ⟨_, _, c_river ho hp hrN hcN hsN hdN, ?_⟩
  have hrb := river_b hsN hdN ((workG g) 89)
  obtain ⟨n, hn⟩ := Nn hsN.1.2.1.1
  have en : ((workG g) 1).toNat = n := by omega
  unfold tideG at step
  rw [en] at step
  generalize hR : river (workG g) ((workG g) 89) = R at hrb step ⊢
  have h1b := hsN.1.2.1
  have key := loopU (P := fun k : Nat => ∀ N : Mm, CSt N o (flL (workG g) R k) → Fr o (o + 4) M N → At 13 [.ref o, .ref p, .int (I R), .int (I (k : Int))] [] N) (n := n) ?_ ?_
  · exact key N hcN hfN
  · intro N2 hc2 hf2
    apply s_State_goHour_13 ho hp step
    have hr2 := CSr.same hs (hr.fr ho hp hf2) e1
    rw [hr2.1.2.1, hn]
    refine ⟨fun q => absurd q (by rw [I_lt (by omega) (by omega) (by omega) (by omega)]; omega), fun _ => ⟨rfl, ?_, hf2.trans (Fr.sI (by omega) (by omega))⟩⟩
    have e9 : flL (workG g) R n 89 = (workG g) 89 := flL_at n 89 (by decide) (Or.inl (by decide))
    obtain ⟨⟨c0, c1, c2, c3, c4, c5, c6, c7, c8, c9, c10⟩, cw, cd, ch⟩ := hc2
    rw [c0, e9, I_add]
    refine ⟨⟨?_, ?_, ?_, ?_, ?_, ?_, ?_, ?_, ?_, ?_, ?_⟩, fun v hv => ?_, fun j hj => ?_, fun j hj => ?_⟩
    all_goals simp (disch := omega) only [mI_eq, mI_n1, mI_n2, upf_eq, upf_ne, c0, c1, c2, c3, c4, c5, c6, c7, c8, c9, c10]
    · exact cw v hv
    · exact cd j hj
    · exact ch j hj
  · intro k hk nx N2 hc2 hf2
    apply s_State_goHour_13 ho hp step
    have hr1 := CSr.same hs (hr.fr ho hp hf2) e1
    have hd2 := flL_RGd (h := R) hsN hdN h48N k (by omega)
    have ea := fun j h1 h2 => flL_at (g := (workG g)) (h := R) k j h1 h2
    have e2 : SameS (workG g) (flL (workG g) R k) := fun j hj => ea j (by omega) (Or.inl (by omega))
    have hs2 := hsN.same e2
    have hr2 := CSr.same hsN hr1 e2
    have ek : flL (workG g) R k (112 + k) = (workG g) (112 + k) := ea (112 + k) (by omega) (Or.inr (by omega))
    have hb := hdN.2.2.2 k (by omega)
    have hbk := hsN.2.2.1 k (by omega)
    unfold flL fl1 at nx
    refine ⟨fun _ => ⟨_, _, c_isFlooded ho hc2 hd2 (by omega), ?_⟩, fun q => ?_⟩
    · rw [I_add]
      by_cases q : flL (workG g) R k (112 + k) = 0
      · rw [if_pos q]
        refine ⟨fun _ => ⟨_, _, c_wouldFlood ho hp hr2 hc2 hs2 hd2 (by rw [ea 1 (by decide) (Or.inl (by decide))]; omega) (by omega), ?_⟩, fun r => absurd rfl r⟩
        have ef : floodB (flL (workG g) R k) (flL (workG g) R k 2).toNat (flL (workG g) R k 98).toNat k R = floodB (workG g) ((workG g) 2).toNat ((workG g) 98).toNat k R := by
          rw [ea 2 (by decide) (Or.inl (by decide)), ea 98 (by decide) (Or.inl (by decide))]
          have h2 := hsN.1.2.2.1
          have h0 := hsN.1.1
          exact floodB_congr (by omega) (by omega) (by omega) fun j hj => ea j (by omega) (Or.inl (by omega))
        rw [ef, bI0]
        refine ⟨fun r => nx N2 ?_ hf2, fun r => ⟨inRI (by omega) (by omega) (by omega), nx _ ?_ (hf2.trans (Fr.sI (by omega) (by omega)))⟩⟩
        · rw [if_neg (fun z => r z.2)]
          exact hc2
        · rw [if_pos ⟨q, Decidable.of_not_not r⟩, ixI (by omega) (by omega), Int.toNat_natCast]
          have e9 : flL (workG g) R k 89 = (workG g) 89 := ea 89 (by decide) (Or.inl (by decide))
          obtain ⟨⟨c0, c1, c2, c3, c4, c5, c6, c7, c8, c9, c10⟩, cw, cd, ch⟩ := hc2
          rw [c0, e9]
          refine ⟨⟨?_, ?_, ?_, ?_, ?_, ?_, ?_, ?_, ?_, ?_, ?_⟩, fun v hv => ?_, fun j hj => ?_, fun j hj => ?_⟩
          rotate_left 11
          · simp (disch := omega) only [mI_eq, mI_n1, mI_n2, upf_eq, upf_ne]
            exact cw v hv
          · simp (disch := omega) only [mI_eq, mI_n1, mI_n2, upf_eq, upf_ne]
            exact cd j hj
          · by_cases e : j = k
            · subst e
              simp (disch := omega) only [mI_eq, mI_n1, mI_n2, upf_eq, upf_ne, Int.add_sub_cancel]
            · simp (disch := omega) only [mI_eq, mI_n1, mI_n2, upf_eq, upf_ne]
              exact ch j hj
          all_goals simp (disch := omega) only [mI_eq, mI_n1, mI_n2, upf_eq, upf_ne, c0, c1, c2, c3, c4, c5, c6, c7, c8, c9, c10]
          all_goals rw [e9]
      · rw [if_neg q]
        refine ⟨fun r => absurd r (by decide), fun _ => nx N2 ?_ hf2⟩
        rw [if_neg (fun z => q z.1)]
        exact hc2
    · rw [hr1.1.2.1, hn] at q
      exact absurd (show I (k : Int) < I (n : Int) by rw [I_lt (by omega) (by omega) (by omega) (by omega)]; omega) q
theorem c_goHours {d : Nat} (ho : Sa o) (hp : St p) (hr : CSr M p g) (hc : CSt M o g) (hs : RGs g) (hd : RGd g) (hn : RN g) {n : Nat} (hn9 : n < 1000) : EvQ (d + 5) 228 [.ref o, .ref p, .int (I n)] M fun r M' => r = none ∧ CSt M' o (hrsG g n) ∧ Fr o (o + 4) M M' := by
  apply e_State_goHours ho hp
  intro At step
  have key : ∀ (j i : Nat) (u : Nat → Int) (N : Mm), i + j = n → CSt N o u → SameS g u → RGd u → RN u → hrsG g n = hrsG u j → Fr o (o + 4) M N → At 2 [.ref o, .ref p, .int (I n), .int (I i)] [] N := by
    intro j
    induction j with
    | zero =>
      intro i u N hi hcN eN hdN hnN he hfN
      apply s_State_goHours_2 ho hp step
      rw [I_lt (by omega) (by omega) (by omega) (by omega)]
      refine ⟨fun q => absurd q (by omega), fun _ => ⟨rfl, ?_, hfN⟩⟩
      rw [he]
      exact hcN
    | succ j ih =>
      intro i u N hi hcN eN hdN hnN he hfN
      apply s_State_goHours_2 ho hp step
      have h0 := hdN.1.1
      rw [I_lt (by omega) (by omega) (by omega) (by omega), hcN.1.1, I_lt (by omega) (by omega) (by omega) (by omega)]
      rw [hrsG_s] at he
      refine ⟨fun _ => ⟨fun q => ?_, fun q => ⟨rfl, ?_, hfN⟩⟩, fun q => absurd q (by omega)⟩
      · rw [if_pos q] at he
        have hsN := hs.same eN
        have b := RN_b hdN hnN
        refine q_non (c_goHour ho hp (CSr.same hs (hr.fr ho hp hfN) eN) hcN hsN hdN (by omega) q) ?_
        intro N2 ⟨hc2, hf2⟩
        rw [I_add]
        have e2 := hourG_same hsN hdN
        exact ih (i + 1) (hourG u) N2 (by omega) hc2 (fun j hj => (e2 j hj).trans (eN j hj)) (RGd_hour hsN hdN (by omega) q) (RN_hour hsN hdN ⟨by have := hnN.1; omega, hnN.2⟩) he (hfN.trans hf2)
      · rw [if_neg q] at he
        rw [he]
        exact hcN
  exact key n 0 g M (by omega) hc (fun _ _ => rfl) hd hn rfl Fr.refl
theorem c_drawHours {d : Nat} (ho : Sa o) (hp : St p) (hr : CSr M p g) (hc : CSt M o g) (hs : RGs g) (hd : RGd g) (hn : RN g) {n : Nat} (hn9 : n < 1000) {x : Int32} : EvQ (d + 5) 229 [.ref o, .ref p, .int (I n), .int x] M fun r M' => r = none ∧ CSt M' o (drwG g x n) ∧ Fr o (o + 4) M M' := by
  apply e_State_drawHours ho hp
  intro At step
  have key : ∀ (j i : Nat) (x1 : Int32) (u : Nat → Int) (N : Mm), i + j = n → CSt N o u → SameS g u → RGd u → RN u → drwG g x n = drwG u x1 j → Fr o (o + 4) M N → At 6 [.ref o, .ref p, .int (I n), .retAddr 0, .int x1, .int (I i)] [] N := by
    intro j
    induction j with
    | zero =>
      intro i x1 u N hi hcN eN hdN hnN he hfN
      apply s_State_drawHours_6 ho hp step
      rw [I_lt (by omega) (by omega) (by omega) (by omega)]
      refine ⟨fun q => absurd q (by omega), fun _ => ⟨rfl, ?_, hfN⟩⟩
      rw [he]
      exact hcN
    | succ j ih =>
      intro i x1 u N hi hcN eN hdN hnN he hfN
      apply s_State_drawHours_6 ho hp step
      have h0 := hdN.1.1
      rw [I_lt (by omega) (by omega) (by omega) (by omega), hcN.1.1, I_lt (by omega) (by omega) (by omega) (by omega)]
      rw [drwG_s] at he
      refine ⟨fun _ => ⟨fun q => ?_, fun q => ⟨rfl, ?_, hfN⟩⟩, fun q => absurd q (by omega)⟩
      · rw [if_pos q] at he
        have hsN := hs.same eN
        have b := RN_b hdN hnN
        obtain ⟨r1, r2, r3, r4, r5⟩ := rain_ok (x := rndN x1) hsN hdN hnN q
        have fin0 : ∀ (z : Nat → Int) (N2 : Mm), SameS u z → RGd z → (z 96 ≤ z 89 + 1 ∧ z 92 ≤ z 89 + pc10 (z 99).toNat) → z 89 = u 89 → z 92 = u 92 → drwG g x n = drwG (hourG z) (rndN x1) j → CSt N2 o z → Fr o (o + 4) M N2 → ∃ N4 : Mm, (Ev (d + 4) 227 [.ref o, .ref p] N2 none N4 ∧ (At 6 [.ref o, .ref p, .int (I n), .retAddr 0, .int (rndN x1), .int (I i + I 1)] [] N4)) := by
          intro z N2 r1 r2 r3 r4 r5 he hc2 hf2
          have zs := hsN.same r1
          have ez : SameS g z := fun j hj => (r1 j hj).trans (eN j hj)
          refine q_non (c_goHour ho hp (CSr.same hs (hr.fr ho hp hf2) ez) hc2 zs r2 (by omega) (by omega)) ?_
          intro N3 ⟨hc3, hf3⟩
          rw [I_add]
          have e2 := hourG_same zs r2
          exact ih (i + 1) (rndN x1) (hourG z) N3 (by omega) hc3 (fun j hj => (e2 j hj).trans (ez j hj)) (RGd_hour zs r2 (by omega) (by omega)) (RN_hour zs r2 r3) he (hf2.trans hf3)
        have fin := fun N2 => fin0 _ N2 r1 r2 r3 r4 r5 he
        refine ⟨fun q2 => fin _ ?_ (hfN.trans (Fr.sI (by omega) (by omega))), fun q2 => fin N ?_ hfN⟩
        · rw [if_pos (show rndT (rndN x1) = I 0 from q2)]
          unfold rainG
          obtain ⟨⟨c0, c1, c2, c3, c4, c5, c6, c7, c8, c9, c10⟩, cw, cd, ch⟩ := hcN
          rw [c4, I_add]
          refine ⟨⟨?_, ?_, ?_, ?_, ?_, ?_, ?_, ?_, ?_, ?_, ?_⟩, fun v hv => ?_, fun j hj => ?_, fun j hj => ?_⟩
          all_goals simp (disch := omega) only [mI_eq, mI_n1, mI_n2, upf_eq, upf_ne, c0, c1, c2, c3, c4, c5, c6, c7, c8, c9, c10]
          · exact cw v hv
          · exact cd j hj
          · exact ch j hj
        · rw [if_neg (show ¬ rndT (rndN x1) = I 0 from q2)]
          exact hcN
      · rw [if_neg q] at he
        rw [he]
        exact hcN
  exact key n 0 x g M (by omega) hc (fun _ _ => rfl) hd hn rfl Fr.refl
theorem c_copyInts {d : Nat} {a b n : Nat} (h1 : lay a = 100) (h2 : lay b = 100) (n1 : alen a = n) (n2 : alen b = n) (hn : n < 5000) : Ev (d + 1) 49 [.ref a, .ref b] M none (upr M.1 b (cpf (M.1 a) (M.1 b) 0 0 n), M.2) := by
  apply Ev.ofQ
  apply e_B_copyInts h1 h2
  intro At _
  have e : (if I (alen b) < I (alen a) then I (alen b) else I (alen a)) = I n := by
    rw [n1, n2]
    split <;> rfl
  rw [e, ixI (by omega) (by omega), Int.toNat_natCast, n1, n2, I_zero, I_lt (by omega) (by omega) (by omega) (by omega)]
  exact ⟨by omega, by omega, by omega, rfl, rfl⟩
theorem cpf_lt {α : Type} {f g : Nat → α} {n k : Nat} (h : k < n) : cpf f g 0 0 n k = f k := by
  unfold cpf
  rw [if_pos (by omega)]
  congr 1
  omega
theorem c_stateCopy {d : Nat} (ho : Sa o) (hp : Sa p) (hne : o ≠ p) (hc : CSt M p g) : EvQ (d + 2) 208 [.ref o, .ref p] M fun r M' => r = none ∧ CSt M' o g ∧ Fr o (o + 4) M M' := by
  have hap := Sa_Sa ho hp hne
  have hc0 := hc
  obtain ⟨⟨c0, c1, c2, c3, c4, c5, c6, c7, c8, c9, c10⟩, cw, cd, ch⟩ := hc
  apply e_State_copyFrom ho hp
  intro At _ N1 h1 N2 h2
  have f1 : Fr o (o + 4) M N1 := by
    subst h1
    exact ((((Fr.sI (by omega) (by omega)).trans (Fr.sI (by omega) (by omega))).trans (Fr.sI (by omega) (by omega))).trans (Fr.sI (by omega) (by omega)))
  have f2 : Fr o (o + 4) N1 N2 := by
    subst h2
    exact ((((Fr.sI (by omega) (by omega)).trans (Fr.sI (by omega) (by omega))).trans (Fr.sI (by omega) (by omega))).trans (Fr.sI (by omega) (by omega)))
  have p1 : ∀ a, p ≤ a → a < p + 4 → N1.1 a = M.1 a := fun a q1 q2 => (f1 a (by omega)).1
  have p2 : ∀ a, p ≤ a → a < p + 4 → N2.1 a = M.1 a := fun a q1 q2 => ((f1.trans f2) a (by omega)).1
  simp (disch := omega) only [mI_eq, mI_n1, mI_n2, upf_eq, upf_ne, c0, c1, c2, c3] at h1
  simp (disch := omega) only [mI_eq, mI_n1, mI_n2, upf_eq, upf_ne, p1 p (by omega) (by omega), c4, c5, c6, c7] at h2
  rw [p2 p (by omega) (by omega)]
  simp (disch := omega) only [mI_eq, mI_n1, mI_n2, upf_eq, upf_ne, p2 p (by omega) (by omega), c8, c9, c10]
  generalize hN3 : sI (sI (sI N2 o 8 (I (g 95))) o 9 (I (g 98))) o 10 (I (g 99)) = N3
  have f3 : Fr o (o + 4) M N3 := by
    subst hN3
    exact (f1.trans f2).trans (((Fr.sI (by omega) (by omega)).trans (Fr.sI (by omega) (by omega))).trans (Fr.sI (by omega) (by omega)))
  have p3 : ∀ a, p ≤ a → a < p + 4 → N3.1 a = M.1 a := fun a q1 q2 => (f3 a (by omega)).1
  have x : N3.1 o 0 = I (g 89) ∧ N3.1 o 1 = I (g 90) ∧ N3.1 o 2 = I (g 91) ∧ N3.1 o 3 = I (g 92) ∧ N3.1 o 4 = I (g 96) ∧ N3.1 o 5 = I (g 97) ∧ N3.1 o 6 = I (g 93) ∧ N3.1 o 7 = I (g 94) ∧ N3.1 o 8 = I (g 95) ∧ N3.1 o 9 = I (g 98) ∧ N3.1 o 10 = I (g 99) := by
    subst hN3 h2 h1
    refine ⟨?_, ?_, ?_, ?_, ?_, ?_, ?_, ?_, ?_, ?_, ?_⟩
    all_goals simp (disch := omega) only [mI_eq, mI_n1, mI_n2, upf_eq, upf_ne]
  refine ⟨_, c_copyInts (Sa_1 hp) (Sa_1 ho) (Sal_1 hp) (Sal_1 ho) (by omega), _, c_copyInts (Sa_2 hp) (Sa_2 ho) (Sal_2 hp) (Sal_2 ho) (by omega), _, c_copyInts (Sa_3 hp) (Sa_3 ho) (Sal_3 hp) (Sal_3 ho) (by omega), by trivial, ?_, ?_⟩
  · refine ⟨?_, fun v hv => ?_, fun j hj => ?_, fun j hj => ?_⟩
    · dsimp only
      rw [upr_ne (by omega), upr_ne (by omega), upr_ne (by omega)]
      exact x
    · dsimp only
      rw [upr_ne (by omega), upr_ne (by omega), upr_eq, cpf_lt hv, p3 (p + 1) (by omega) (by omega)]
      exact cw v hv
    · dsimp only
      rw [upr_ne (by omega), upr_eq, cpf_lt hj, upr_ne (by omega), p3 (p + 2) (by omega) (by omega)]
      exact cd j hj
    · dsimp only
      rw [upr_eq, cpf_lt hj, upr_ne (by omega), upr_ne (by omega), p3 (p + 3) (by omega) (by omega)]
      exact ch j hj
  · exact ((f3.trans (Fr.upI (by omega) (by omega))).trans (Fr.upI (by omega) (by omega))).trans (Fr.upI (by omega) (by omega))
/-- as a new STREET is -/
def freshG (g : Nat → Int) : Nat → Int := fun j => if j < 89 then g j else if j = 90 then g 6 else 0
theorem c_begin {d : Nat} (ho : Sa o) (hp : St p) (hr : CSr M p g) : EvQ (d + 1) 207 [.ref o, .ref p] M fun r M' => r = none ∧ CSt M' o (freshG g) ∧ Fr o (o + 4) M M' := by
  have hap := Sa_St ho hp
  apply e_State_begin ho hp
  intro At step
  have e6 := hr.1.2.2.2.2.2.2.1
  have k101 := loopU (P := fun k : Nat => ∀ N : Mm, (N.1 o 0 = I 0 ∧ N.1 o 1 = I (g 6) ∧ N.1 o 2 = I 0 ∧ N.1 o 3 = I 0 ∧ N.1 o 4 = I 0 ∧ N.1 o 5 = I 0 ∧ N.1 o 6 = I 0 ∧ N.1 o 7 = I 0 ∧ N.1 o 8 = I 0 ∧ N.1 o 9 = I 0 ∧ N.1 o 10 = I 0) → (∀ w : Nat, w < 5 → N.1 (o + 1) w = I 0) → (∀ w : Nat, w < 6 → N.1 (o + 2) w = I 0) → (∀ w : Nat, w < k → N.1 (o + 3) w = I (-1)) → Fr o (o + 4) M N → At 101 [.ref o, .retAddr 0, .int (I (k : Int))] [] N) (n := 10) ?_ ?_
  rotate_left
  · intro N h1 h2 h3 h4 hf
    apply s_State_begin_101 ho step
    rw [I_lt (by omega) (by omega) (by omega) (by omega)]
    refine ⟨fun q => absurd q (by omega), fun _ => ⟨rfl, ⟨h1, fun w hw => ?_, fun w hw => ?_, fun w hw => ?_⟩, hf⟩⟩
    · rw [h2 w hw]
      unfold freshG
      rw [if_neg (by omega), if_neg (by omega)]
    · rw [h3 w hw]
      unfold freshG
      rw [if_neg (by omega), if_neg (by omega)]
    · rw [h4 w hw]
      unfold freshG
      rw [if_neg (by omega), if_neg (by omega)]
      rfl
  · intro k hk nx N h1 h2 h3 h4 hf
    apply s_State_begin_101 ho step
    simp (disch := omega) only [I_add, I_sub, I_mul, I_div, ixI, Int.toNat_add, Int.toNat_natCast, Int.reduceToNat, I_lt, I_ne, ite_I]
    refine ⟨fun _ => ⟨inRI (by omega) (by omega) (by omega), nx _ ?_ (fun w hw => ?_) (fun w hw => ?_) (fun w hw => ?_) (hf.trans (Fr.sI (by omega) (by omega)))⟩, fun q => absurd q (by omega)⟩
    · simp (disch := omega) only [mI_n1]
      exact h1
    · simp (disch := omega) only [mI_n1]
      exact h2 w hw
    · simp (disch := omega) only [mI_n1]
      exact h3 w hw
    · by_cases e : w = k
      · subst e
        exact mI_eq
      · rw [mI_n2 e]
        exact h4 w (by omega)
  have k80 := loopU (P := fun k : Nat => ∀ N : Mm, (N.1 o 0 = I 0 ∧ N.1 o 1 = I (g 6) ∧ N.1 o 2 = I 0 ∧ N.1 o 3 = I 0 ∧ N.1 o 4 = I 0 ∧ N.1 o 5 = I 0 ∧ N.1 o 6 = I 0 ∧ N.1 o 7 = I 0 ∧ N.1 o 8 = I 0 ∧ N.1 o 9 = I 0 ∧ N.1 o 10 = I 0) → (∀ w : Nat, w < 5 → N.1 (o + 1) w = I 0) → (∀ w : Nat, w < k → N.1 (o + 2) w = I 0) → Fr o (o + 4) M N → At 80 [.ref o, .retAddr 0, .int (I (k : Int))] [] N) (n := 6) ?_ ?_
  rotate_left
  · intro N h1 h2 h3 hf
    apply s_State_begin_80 ho step
    rw [I_lt (by omega) (by omega) (by omega) (by omega)]
    exact ⟨fun q => absurd q (by omega), fun _ => k101 N h1 h2 h3 (fun w hw => absurd hw (by omega)) hf⟩
  · intro k hk nx N h1 h2 h3 hf
    apply s_State_begin_80 ho step
    simp (disch := omega) only [I_add, I_sub, I_mul, I_div, ixI, Int.toNat_add, Int.toNat_natCast, Int.reduceToNat, I_lt, I_ne, ite_I]
    refine ⟨fun _ => ⟨inRI (by omega) (by omega) (by omega), nx _ ?_ (fun w hw => ?_) (fun w hw => ?_) (hf.trans (Fr.sI (by omega) (by omega)))⟩, fun q => absurd q (by omega)⟩
    · simp (disch := omega) only [mI_n1]
      exact h1
    · simp (disch := omega) only [mI_n1]
      exact h2 w hw
    · by_cases e : w = k
      · subst e
        exact mI_eq
      · rw [mI_n2 e]
        exact h3 w (by omega)
  have k60 := loopU (P := fun k : Nat => ∀ N : Mm, (N.1 o 0 = I 0 ∧ N.1 o 1 = I (g 6) ∧ N.1 o 2 = I 0 ∧ N.1 o 3 = I 0 ∧ N.1 o 4 = I 0 ∧ N.1 o 5 = I 0 ∧ N.1 o 6 = I 0 ∧ N.1 o 7 = I 0 ∧ N.1 o 8 = I 0 ∧ N.1 o 9 = I 0 ∧ N.1 o 10 = I 0) → (∀ w : Nat, w < k → N.1 (o + 1) w = I 0) → Fr o (o + 4) M N → At 60 [.ref o, .retAddr 0, .int (I (k : Int))] [] N) (n := 5) ?_ ?_
  rotate_left
  · intro N h1 h2 hf
    apply s_State_begin_60 ho step
    rw [I_lt (by omega) (by omega) (by omega) (by omega)]
    exact ⟨fun q => absurd q (by omega), fun _ => k80 N h1 h2 (fun w hw => absurd hw (by omega)) hf⟩
  · intro k hk nx N h1 h2 hf
    apply s_State_begin_60 ho step
    simp (disch := omega) only [I_add, I_sub, I_mul, I_div, ixI, Int.toNat_add, Int.toNat_natCast, Int.reduceToNat, I_lt, I_ne, ite_I]
    refine ⟨fun _ => ⟨inRI (by omega) (by omega) (by omega), nx _ ?_ (fun w hw => ?_) (hf.trans (Fr.sI (by omega) (by omega)))⟩, fun q => absurd q (by omega)⟩
    · simp (disch := omega) only [mI_n1]
      exact h1
    · by_cases e : w = k
      · subst e
        exact mI_eq
      · rw [mI_n2 e]
        exact h2 w (by omega)
  intro N1 h1
  refine k60 _ ?_ (fun w hw => absurd hw (by omega)) ?_
  · subst h1
    refine ⟨?_, ?_, ?_, ?_, ?_, ?_, ?_, ?_, ?_, ?_, ?_⟩
    all_goals simp (disch := omega) only [mI_eq, mI_n1, mI_n2, upf_eq, upf_ne, e6]
  · subst h1
    exact (((((((((((Fr.sI (by omega) (by omega)).trans (Fr.sI (by omega) (by omega))).trans (Fr.sI (by omega) (by omega))).trans (Fr.sI (by omega) (by omega))).trans (Fr.sI (by omega) (by omega))).trans (Fr.sI (by omega) (by omega))).trans (Fr.sI (by omega) (by omega))).trans (Fr.sI (by omega) (by omega))).trans (Fr.sI (by omega) (by omega))).trans (Fr.sI (by omega) (by omega))).trans (Fr.sI (by omega) (by omega)))
end STC
