/-! ===== said: class and reference ===== -/
theorem pc10_setL {P : Nat → Bool} : ∀ n : Nat, n ≤ 10 → pc10 (setL P n) = cntL P n
  | 0, _ => (by decide : pc10 0 = 0)
  | n + 1, h => by
    unfold setL cntL
    by_cases q : P n = true
    · rw [if_pos q, if_pos q, pc10_or (by omega) (by rw [bt_setL, if_neg (by omega)]; decide), pc10_setL n (by omega)]
    · rw [if_neg q, if_neg q, Nat.or_zero, pc10_setL n (by omega)]
      rfl
/-- from house h on, the one before which k are told -/
def kthL (P : Nat → Bool) (k : Int) : Nat → Nat → Int
  | 0, _ => -1
  | r + 1, h => if P h = true ∧ (cntL P h : Int) = k then (h : Int) else kthL P k r (h + 1)
theorem kthL_no {P : Nat → Bool} {k : Int} (hk : k < 0) : ∀ r h : Nat, kthL P k r h = -1
  | 0, _ => rfl
  | r + 1, h => by
    unfold kthL
    rw [if_neg (by omega), kthL_no hk r (h + 1)]
def saidA (g : Nat → Int) (k : Int) : Int := if g 122 = 0 then -1 else if k = -1 then (cntL (fun h => sayT g h) (g 1).toNat : Int) else kthL (fun h => sayT g h) k (g 1).toNat 0
section SAJ
variable {M : Mm} {ps so : Nat} {g : Nat → Int}
theorem b_said {d : Nat} (hb : CB M ps g) (ho : Se so) (h7 : M.2.2 1 7 = so) (hq : SG g) (hsq : CSq M so g) {k : Int} (hk : (-2147483648 ≤ k ∧ k < 2147483648)) : EvQ (d + 7) 41 [.ref 1, .int (I k)] M fun v M' => v = some (.int (I (saidA g k))) ∧ SF so M M' := by
  obtain ⟨hp, h2, hr, hc, hs, hd, hn⟩ := hb
  have h1 := hs.1.2.1
  obtain ⟨nh, hnh⟩ := Nn h1.1
  have enh : (g 1).toNat = nh := by omega
  have hpf := St_Se hp ho
  apply e_B_said
  intro At step
  rw [h7, h2]
  unfold saidA at step ⊢
  rw [enh] at step ⊢
  refine ⟨ho, fun q => ?_, fun q => ?_⟩
  · have e0 := hsq.2.2.1 q
    rw [if_pos e0]
    exact ⟨rfl, fun _ _ => rfl, rfl⟩
  · have e0 : ¬ g 122 = 0 := fun z => q (hsq.2.2.2 z)
    have := hq.1
    rw [if_neg e0] at step ⊢
    refine q_int (P := fun v N => v = I (setL (fun h => sayT g h) (g 1).toNat : Nat) ∧ SF so M N) ((c_housesSaid ho hp hr hc hs hd hq hsq (by omega)).mono fun r N h => ⟨_, h.1, rfl, h.2⟩) ?_
    rintro v N ⟨a1, a2⟩
    rw [a1, enh, I_ne (by omega) (by omega) (by omega) (by omega)]
    have hlt := setL_lt10 (fun h => sayT g h) (n := nh) (by omega)
    refine ⟨fun q2 => ⟨_, _, v_bitCount hlt, ?_⟩, fun q2 => ?_⟩
    · rw [pc10_setL nh (by omega), if_pos q2]
      exact ⟨rfl, a2⟩
    · rw [if_neg q2] at step
      have e7 : N.1 ps 7 = I nh := by rw [a2.1 ps (by omega), hr.1.2.1, hnh]
      have h2N : N.2.2 1 2 = ps := by rw [a2.2]; exact h2
      have key : ∀ r h : Nat, h + r = nh → kthL (fun h => sayT g h) k r h = kthL (fun h => sayT g h) k nh 0 → At 43 [.ref 1, .int (I k), .int (I (setL (fun h => sayT g h) nh : Nat)), .int (I (cntL (fun h => sayT g h) h)), .int (I h)] [] N := by
        intro r
        induction r with
        | zero =>
          intro h hh e
          apply s_B_said_43 step
          rw [h2N, e7, I_lt (by omega) (by omega) (by omega) (by omega)]
          refine ⟨hp, fun z => absurd z (by omega), fun _ => ⟨?_, a2⟩⟩
          rw [← e]
          rfl
        | succ r ih =>
          intro h hh e
          have cb := cntL_b (P := fun h => sayT g h) h
          apply s_B_said_43 step
          rw [h2N, e7, I_lt (by omega) (by omega) (by omega) (by omega)]
          refine ⟨hp, fun _ => ⟨_, _, c_bit hlt (by omega), ?_⟩, fun z => absurd (by omega) z⟩
          have nx := ih (h + 1) (by omega)
          have eb := bt_setL (P := fun h => sayT g h) (n := nh) (k := h)
          have ek : kthL (fun h => sayT g h) k (r + 1) h = if sayT g h = true ∧ (cntL (fun h => sayT g h) h : Int) = k then (h : Int) else kthL (fun h => sayT g h) k r (h + 1) := rfl
          have ec : cntL (fun h => sayT g h) (h + 1) = cntL (fun h => sayT g h) h + (if sayT g h = true then 1 else 0) := rfl
          rw [ek] at e
          rw [ec] at nx
          rw [eb]
          cases hT : sayT g h with
          | true =>
            rw [hT, if_pos rfl] at nx
            rw [hT] at e
            rw [if_pos ⟨by omega, rfl⟩, I_ne (by omega) (by omega) (by omega) (by omega), I_ne (by omega) (by omega) (by omega) (by omega)]
            simp only [I_add]
            refine ⟨fun _ => ⟨fun q4 => ⟨?_, a2⟩, fun q4 => nx ?_⟩, fun z => absurd rfl z⟩
            · rw [if_pos ⟨rfl, q4⟩] at e
              rw [← e]
            · rw [if_neg (fun z => q4 z.2)] at e
              exact e
          | false =>
            rw [hT, if_neg (by decide), Nat.add_zero] at nx
            rw [hT, if_neg (fun z => absurd z.1 (by decide))] at e
            rw [if_neg (by simp [hT])]
            simp only [I_add]
            exact ⟨fun z => absurd z (by decide), fun _ => nx e⟩
      exact key nh 0 (by omega) rfl
theorem r_isLeaf {d : Nat} (hm : M.1 402 = fun k => I (g k)) (hs : RGs g) (hd : RGd g) (hq : SG g) {i h : Nat} (hi : (i : Int) < g 122) (hl : cdC g i ≤ 7) (hh : (h : Int) < g 1) : Ev (d + 4) 163 [.ref 400, .int (I h), .int (I (cdC g i)), .int (I (cdS g i)), .int (I (cdN g i))] M (some (.int (I (if leafT g i h = true then 1 else 0)))) M := by
  have h0 := hs.1.1
  have h1 := hs.1.2.1
  have hrv := river_b hs hd (g 89)
  have b89 := hd.1.1
  have bh := hs.2.2.1 h (by omega)
  have b1 := hd.1.2.2.2.2.2.2.2.2.2.2.1
  have b2 := hd.1.2.2.2.2.2.2.2.2.2.2.2
  have fl := (hd.2.2.2 h (by omega)).2.2.1
  obtain ⟨u1, hu1⟩ := Nn b1.1
  obtain ⟨u2, hu2⟩ := Nn b2.1
  have e : ∀ k, M.1 402 k = I (g k) := fun k => by rw [hm]
  have e99 : M.1 402 99 = I (u1 : Int) := by rw [e, hu1]
  have e100 : M.1 402 100 = I (u2 : Int) := by rw [e, hu2]
  rw [hu2, Int.toNat_natCast] at fl
  have hcd := hq.2.2 i hi
  have hC : 0 ≤ cdC g i ∧ cdC g i ≤ 7 := by omega
  have hN : 0 ≤ cdN g i ∧ cdN g i ≤ 999 := by
    rcases hcd with z | z | z
    · exact z.2.2.1
    · omega
    · omega
  have hS : 0 ≤ cdS g i ∧ cdS g i ≤ 62 := by
    rcases hcd with z | z | z
    · exact z.2.2.2.2
    · omega
    · omega
  have i303 : inR (I (13 + (h : Int))) 303 := inRI (by omega) (by omega) (by omega)
  have i304 : inR (I (23 + (h : Int))) 303 := inRI (by omega) (by omega) (by omega)
  have i305 : inR (I (33 + (h : Int))) 303 := inRI (by omega) (by omega) (by omega)
  have bool01 : ∀ b : Bool, (I (if b = true then 1 else 0) : Int32) = I 0 ∨ (I (if b = true then 1 else 0) : Int32) = I 1 := fun b => by cases b <;> simp
  have p01 : ∀ P : Prop, [Decidable P] → (I (if P then 1 else 0) : Int32) = I 0 ∨ (I (if P then 1 else 0) : Int32) = I 1 := fun P _ => by split <;> simp
  have cmp : ∀ v : Int, (-2147483648 ≤ v ∧ v < 2147483648) → ((I (cdS g i) = I 60 → (I v < I (cdN g i) → (some (Value.int (I 1)) = some (Value.int (I (if cmpT v (cdS g i) (cdN g i) = true then 1 else 0))) ∧ M = M)) ∧ (¬ I v < I (cdN g i) → (some (Value.int (I 0)) = some (Value.int (I (if cmpT v (cdS g i) (cdN g i) = true then 1 else 0))) ∧ M = M))) ∧ (¬ I (cdS g i) = I 60 → (I (cdS g i) = I 61 → (I v = I (cdN g i) → (some (Value.int (I 1)) = some (Value.int (I (if cmpT v (cdS g i) (cdN g i) = true then 1 else 0))) ∧ M = M)) ∧ (¬ I v = I (cdN g i) → (some (Value.int (I 0)) = some (Value.int (I (if cmpT v (cdS g i) (cdN g i) = true then 1 else 0))) ∧ M = M))) ∧ (¬ I (cdS g i) = I 61 → (I (cdN g i) < I v → (some (Value.int (I 1)) = some (Value.int (I (if cmpT v (cdS g i) (cdN g i) = true then 1 else 0))) ∧ M = M)) ∧ (¬ I (cdN g i) < I v → (some (Value.int (I 0)) = some (Value.int (I (if cmpT v (cdS g i) (cdN g i) = true then 1 else 0))) ∧ M = M))))) := by
    intro v hv
    unfold cmpT
    rw [I_lt (by omega) (by omega) (by omega) (by omega), I_lt (by omega) (by omega) (by omega) (by omega), I_ne (by omega) (by omega) (by omega) (by omega), I_ne (by omega) (by omega) (by omega) (by omega), I_ne (by omega) (by omega) (by omega) (by omega)]
    refine ⟨fun q => ⟨fun q2 => ?_, fun q2 => ?_⟩, fun q => ⟨fun q1 => ⟨fun q2 => ?_, fun q2 => ?_⟩, fun q1 => ⟨fun q2 => ?_, fun q2 => ?_⟩⟩⟩
    · rw [if_pos q, if_pos (decide_eq_true q2)]
      exact ⟨rfl, rfl⟩
    · rw [if_pos q, if_neg (by simpa using q2)]
      exact ⟨rfl, rfl⟩
    · rw [if_neg q, if_pos q1, if_pos (decide_eq_true q2)]
      exact ⟨rfl, rfl⟩
    · rw [if_neg q, if_pos q1, if_neg (by simpa using q2)]
      exact ⟨rfl, rfl⟩
    · rw [if_neg q, if_neg q1, if_pos (decide_eq_true q2)]
      exact ⟨rfl, rfl⟩
    · rw [if_neg q, if_neg q1, if_neg (by simpa using q2)]
      exact ⟨rfl, rfl⟩
  apply Ev.ofQ
  apply e_R_isLeaf
  intro At _
  rw [e99, e100]
  generalize hc0 : cdC g i = c at *
  have hcs : c = 0 ∨ c = 1 ∨ c = 2 ∨ c = 3 ∨ c = 4 ∨ c = 5 ∨ c = 6 ∨ c = 7 := by omega
  have sel : ∀ k : Int, 0 ≤ k ∧ k < 10 → (I c = I k) = (c = k) := fun k hk => I_ne (by omega) (by omega) (by omega) (by omega)
  rw [sel 0 (by decide), sel 1 (by decide), sel 2 (by decide), sel 3 (by decide), sel 4 (by decide), sel 5 (by decide), sel 6 (by decide)]
  refine ⟨fun z => ?_, fun z => ?_, fun z => ?_, fun z => ?_, fun z => ?_, fun z => ⟨fun z5 => ?_, fun z5 => ⟨fun z6 => ?_, fun z6 => ?_⟩⟩⟩
  · have hT : leafT g i h = decide (g (112 + h) ≠ 0) := by
      unfold leafT
      rw [hc0, z]
      rfl
    rw [hT]
    refine ⟨_, _, v_bitOf (by omega) (by omega), p01 _, ?_, rfl⟩
    by_cases w : g (112 + h) = 0
    · rw [if_neg (fun y => absurd w (fl.1 y)), if_neg (by simp [w])]
    · rw [if_pos (fl.2 w), if_pos (by simp [w])]
  · have hT : leafT g i h = decide (bt (g 99).toNat h = 1) := by
      unfold leafT
      rw [hc0, z]
      rfl
    rw [hT]
    refine ⟨_, _, v_bitOf (by omega) (by omega), p01 _, ?_, rfl⟩
    rw [hu1, Int.toNat_natCast]
    simp only [decide_eq_true_eq]
  · have hT : leafT g i h = decide (g (13 + h) = 0) := by
      unfold leafT
      rw [hc0, z]
      rfl
    rw [hT]
    refine ⟨_, _, v_isOutside hm (by omega) (by omega), p01 _, ?_, rfl⟩
    simp only [decide_eq_true_eq]
  · have hT : leafT g i h = (decide (g (112 + h) = 0) && !(floodB g (g 2).toNat (g 98).toNat h (river g (g 89)))) := by
      unfold leafT
      rw [hc0, z]
      rfl
    rw [hT]
    refine ⟨_, _, v_bitOf (by omega) (by omega), fun q => ?_, fun q => ?_⟩
    · have w : g (112 + h) = 0 := Classical.byContradiction fun y => by
        rw [if_pos (fl.2 y)] at q
        exact absurd q (by decide)
      rw [e 89]
      refine ⟨_, _, r_riverAt hm hs (by omega), _, _, r_wouldFlood hm hs hd (by omega) (by omega), ?_⟩
      cases hf : floodB g (g 2).toNat (g 98).toNat h (river g (g 89)) with
      | true =>
        refine ⟨fun z => absurd z (by decide), fun _ => ?_⟩
        rw [if_neg (by simp)]
        exact ⟨rfl, rfl⟩
      | false =>
        refine ⟨fun _ => ?_, fun z => absurd rfl z⟩
        rw [if_pos (by simp [w])]
        exact ⟨rfl, rfl⟩
    · have w : ¬ g (112 + h) = 0 := fun y => q (by rw [if_neg (fun x => absurd y (fl.1 x))])
      rw [if_neg (by simp [w])]
      exact ⟨rfl, rfl⟩
  · have hT : leafT g i h = decide (g (13 + h) = cdN g i + 1) := by
      unfold leafT
      rw [hc0, z]
      rfl
    rw [hT]
    simp (disch := omega) only [e, I_add, I_sub, I_mul, I_div, ixI, Int.toNat_add, Int.toNat_natCast, Int.reduceToNat, I_lt, I_ne, ite_I]
    refine ⟨i303, fun q => ?_, fun q => ?_⟩
    · rw [if_pos (decide_eq_true q)]
      exact ⟨rfl, by trivial⟩
    · rw [if_neg (by simpa using q)]
      exact ⟨rfl, by trivial⟩
  · have hT : leafT g i h = cmpT (g (23 + h)) (cdS g i) (cdN g i) := by
      unfold leafT
      rw [hc0, z5]
      rfl
    rw [hT, I_add, ixI (by omega) (by omega), show (23 + (h : Int)).toNat = 23 + h by omega, e]
    refine ⟨i304, cmp _ (by omega)⟩
  · have hT : leafT g i h = cmpT (g (33 + h)) (cdS g i) (cdN g i) := by
      unfold leafT
      rw [hc0, z6]
      rfl
    rw [hT, I_add, ixI (by omega) (by omega), show (33 + (h : Int)).toNat = 33 + h by omega, e]
    refine ⟨i305, cmp _ (by omega)⟩
  · have z7 : c = 7 := by omega
    have hT : leafT g i h = cmpT h (cdS g i) (cdN g i) := by
      unfold leafT
      rw [hc0, z7]
      rfl
    rw [hT]
    exact cmp _ (by omega)
theorem r_isSaid {d : Nat} (hm : M.1 402 = fun k => I (g k)) (hs : RGs g) (hd : RGd g) (hq : SG g) (hpos : 0 < g 122) {h : Nat} (hh : (h : Int) < g 1) : EvQ (d + 5) 164 [.ref 400, .int (I h)] M fun v M' => v = some (.int (I (if sayT g h = true then 1 else 0))) ∧ RF [416] [] M M' := by
  obtain ⟨nq, hnq⟩ := Nn (a := g 122) (by omega)
  have enq : (g 122).toNat = nq := by omega
  have q0 := hq.1
  have p01 : ∀ P : Prop, [Decidable P] → (I (if P then 1 else 0) : Int32) = I 0 ∨ (I (if P then 1 else 0) : Int32) = I 1 := fun P _ => by split <;> simp
  apply e_R_isSaid
  intro At step
  refine loopU (P := fun i : Nat => ∀ N : Mm, RF [416] [] M N → (∀ j, j < dpG g i → N.1 416 j = I (if evG g h i j = true then 1 else 0)) → At 4 [.ref 400, .int (I h), .int (I (dpG g i)), .int (I i), .retAddr 0] [] N) (n := nq) ?_ ?_ M RF.refl (fun j hj => absurd hj (by show ¬ j < 0; omega))
  · intro N hF hS
    have e : ∀ k, N.1 402 k = I (g k) := fun k => by rw [(hF.1 402 (by decide) (by decide)).1, hm]
    have hd1 := hq.2.1 hpos
    rw [enq] at hd1
    apply s_R_isSaid_4 step
    rw [e 122, hnq, I_lt (by omega) (by omega) (by omega) (by omega), hS 0 (by omega)]
    unfold sayT
    rw [enq]
    exact ⟨fun q => absurd q (by omega), fun _ => ⟨p01 _, rfl, hF⟩⟩
  · intro i hi nx N hF hS
    have e : ∀ k, N.1 402 k = I (g k) := fun k => by rw [(hF.1 402 (by decide) (by decide)).1, hm]
    have hmN : N.1 402 = fun k => I (g k) := by rw [(hF.1 402 (by decide) (by decide)).1, hm]
    have hcd := hq.2.2 i (by omega)
    have d20 := dpG_20 hq i (by omega)
    have put : ∀ (k : Nat) (v : Int), RF [416] [] M (sI N 416 k (I v)) := fun k v => hF.u1 (by decide) (by decide)
    have i1 : inR (I (123 + 3 * (i : Int))) 303 := inRI (by omega) (by omega) (by omega)
    have i2 : inR (I (123 + 3 * (i : Int) + 1)) 303 := inRI (by omega) (by omega) (by omega)
    have i3 : inR (I (123 + 3 * (i : Int) + 2)) 303 := inRI (by omega) (by omega) (by omega)
    have eC : g (123 + 3 * i) = cdC g i := rfl
    have eS : g (123 + 3 * i + 1) = cdS g i := by unfold cdS; rw [show 124 + 3 * i = 123 + 3 * i + 1 by omega]
    have eN : g (123 + 3 * i + 2) = cdN g i := by unfold cdN; rw [show 125 + 3 * i = 123 + 3 * i + 2 by omega]
    have x1 : (I (123 + 3 * (i : Int))).toNatClampNeg = 123 + 3 * i := by rw [ixI (by omega) (by omega)]; omega
    have x2 : (I (123 + 3 * (i : Int) + 1)).toNatClampNeg = 123 + 3 * i + 1 := by rw [ixI (by omega) (by omega)]; omega
    have x3 : (I (123 + 3 * (i : Int) + 2)).toNatClampNeg = 123 + 3 * i + 2 := by rw [ixI (by omega) (by omega)]; omega
    have fwd : ∀ N' : Mm, RF [416] [] M N' → (∀ j, j < dpG g (i + 1) → N'.1 416 j = I (if evG g h (i + 1) j = true then 1 else 0)) → At 204 [.ref 400, .int (I h), .int (I (dpG g (i + 1))), .int (I i), .retAddr 0] [] N' := by
      intro N' a1 a2
      apply s_R_isSaid_204 step
      rw [I_add]
      exact nx N' a1 a2
    rw [dpG_s] at fwd
    simp only [evG_s] at fwd
    have cb : 0 ≤ cdC g i ∧ cdC g i ≤ 22 := by omega
    apply s_R_isSaid_4 step
    simp only [I_mul, I_add, I_sub, e, x1, x2, x3, eC, eS, eN]
    rw [hnq, I_lt (by omega) (by omega) (by omega) (by omega), I_ne (by omega) (by omega) (by omega) (by omega), I_ne (by omega) (by omega) (by omega) (by omega), I_ne (by omega) (by omega) (by omega) (by omega)]
    refine ⟨fun _ => ?_, fun q => absurd (by omega) q⟩
    refine ⟨i1, fun z => ?_, fun z => ⟨i1, fun z2 => ⟨i1, fun _ => ?_, fun y => absurd z2 y⟩, fun z2 => ⟨i1, fun z3 => ⟨i1, fun y => absurd y z2, fun _ => ?_⟩, fun z3 => ⟨i1, i2, i3, ?_⟩⟩⟩⟩
    · rw [if_pos z] at fwd
      simp only [if_pos z] at fwd
      rw [ixI (by omega) (by omega), show ((dpG g i : Int) - 1).toNat = dpG g i - 1 by omega, hS (dpG g i - 1) (by omega)]
      have i45 : inR (I ((dpG g i : Int) - 1)) 45 := inRI (by omega) (by omega) (by omega)
      have fin : ∀ b : Bool, (!(evG g h i (dpG g i - 1))) = b → At 204 [.ref 400, .int (I h), .int (I (dpG g i)), .int (I i), .retAddr 0] [] (sI N 416 (dpG g i - 1) (I (if b = true then 1 else 0))) := by
        intro b hb
        refine fwd _ (put _ _) fun j hj => ?_
        by_cases w : j = dpG g i - 1
        · subst w
          rw [mI_eq, upf_eq, hb]
        · rw [mI_n2 w, upf_ne w]
          exact hS j (by omega)
      cases hx : evG g h i (dpG g i - 1) with
      | true => exact ⟨i45, fun y => absurd y (by decide), fun _ => ⟨i45, fin false (by rw [hx]; rfl)⟩⟩
      | false => exact ⟨i45, fun _ => ⟨i45, fin true (by rw [hx]; rfl)⟩, fun y => absurd rfl y⟩
    · have y20 : ¬ cdC g i = 20 := z
      rw [if_neg y20, if_pos (by omega)] at fwd
      simp only [if_neg y20, if_pos z2] at fwd
      have e1 : (I ((dpG g i : Int) + -1 - 1)).toNatClampNeg = dpG g i - 2 := by
        rw [ixI (by omega) (by omega)]
        omega
      have e2 : (I ((dpG g i : Int) + -1)).toNatClampNeg = dpG g i - 1 := by
        rw [ixI (by omega) (by omega)]
        omega
      have d2 : 2 ≤ dpG g i := by omega
      rw [e1, e2, hS (dpG g i - 1) (by omega), hS (dpG g i - 2) (by omega)]
      have i45 : inR (I ((dpG g i : Int) + -1 - 1)) 45 := inRI (by omega) (by omega) (by omega)
      have i46 : inR (I ((dpG g i : Int) + -1)) 45 := inRI (by omega) (by omega) (by omega)
      have fin : ∀ b : Bool, (evG g h i (dpG g i - 2) && evG g h i (dpG g i - 1)) = b → At 204 [.ref 400, .int (I h), .int (I ((dpG g i : Int) + -1)), .int (I i), .retAddr 0] [] (sI N 416 (dpG g i - 2) (I (if b = true then 1 else 0))) := by
        intro b hb
        rw [show (dpG g i : Int) + -1 = ((dpG g i - 1 : Nat) : Int) by omega]
        refine fwd _ (put _ _) fun j hj => ?_
        by_cases w : j = dpG g i - 2
        · subst w
          rw [mI_eq, upf_eq, hb]
        · rw [mI_n2 w, upf_ne w]
          exact hS j (by omega)
      cases hx : evG g h i (dpG g i - 2) with
      | false => exact ⟨i45, fun _ => ⟨i45, fin false (by rw [hx]; rfl)⟩, fun y => absurd rfl y⟩
      | true =>
        refine ⟨i45, fun y => absurd y (by decide), fun _ => ⟨i46, ?_⟩⟩
        cases hy : evG g h i (dpG g i - 1) with
        | false => exact ⟨fun _ => ⟨i45, fin false (by rw [hx, hy]; rfl)⟩, fun y => absurd rfl y⟩
        | true => exact ⟨fun y => absurd y (by decide), fun _ => ⟨i45, fin true (by rw [hx, hy]; rfl)⟩⟩
    · have y20 : ¬ cdC g i = 20 := z
      rw [if_neg y20, if_pos (by omega)] at fwd
      simp only [if_neg y20, if_neg z2, if_pos z3] at fwd
      have e1 : (I ((dpG g i : Int) + -1 - 1)).toNatClampNeg = dpG g i - 2 := by
        rw [ixI (by omega) (by omega)]
        omega
      have e2 : (I ((dpG g i : Int) + -1)).toNatClampNeg = dpG g i - 1 := by
        rw [ixI (by omega) (by omega)]
        omega
      have d2 : 2 ≤ dpG g i := by omega
      rw [e1, e2, hS (dpG g i - 1) (by omega), hS (dpG g i - 2) (by omega)]
      have i45 : inR (I ((dpG g i : Int) + -1 - 1)) 45 := inRI (by omega) (by omega) (by omega)
      have i46 : inR (I ((dpG g i : Int) + -1)) 45 := inRI (by omega) (by omega) (by omega)
      have fin : ∀ b : Bool, (evG g h i (dpG g i - 2) || evG g h i (dpG g i - 1)) = b → At 204 [.ref 400, .int (I h), .int (I ((dpG g i : Int) + -1)), .int (I i), .retAddr 0] [] (sI N 416 (dpG g i - 2) (I (if b = true then 1 else 0))) := by
        intro b hb
        rw [show (dpG g i : Int) + -1 = ((dpG g i - 1 : Nat) : Int) by omega]
        refine fwd _ (put _ _) fun j hj => ?_
        by_cases w : j = dpG g i - 2
        · subst w
          rw [mI_eq, upf_eq, hb]
        · rw [mI_n2 w, upf_ne w]
          exact hS j (by omega)
      cases hx : evG g h i (dpG g i - 2) with
      | true => exact ⟨i45, fun y => absurd y (by decide), fun _ => ⟨i45, fin true (by rw [hx]; rfl)⟩⟩
      | false =>
        refine ⟨i45, fun _ => ⟨i46, ?_⟩, fun y => absurd rfl y⟩
        cases hy : evG g h i (dpG g i - 1) with
        | false => exact ⟨fun _ => ⟨i45, fin false (by rw [hx, hy]; rfl)⟩, fun y => absurd rfl y⟩
        | true => exact ⟨fun y => absurd y (by decide), fun _ => ⟨i45, fin true (by rw [hx, hy]; rfl)⟩⟩
    · rw [if_neg z, if_neg (by omega)] at fwd
      simp only [if_neg z, if_neg z2, if_neg z3] at fwd
      rw [ixI (by omega) (by omega), Int.toNat_natCast]
      refine ⟨_, _, r_isLeaf hmN hs hd hq (by omega) (by omega) hh, p01 _, inRI (by omega) (by omega) (by omega), fwd _ (put _ _) fun j hj => ?_⟩
      by_cases w : j = dpG g i
      · subst w
        rw [mI_eq, upf_eq]
      · rw [mI_n2 w, upf_ne w]
        exact hS j (by omega)
theorem kthL_s {P : Nat → Bool} {k : Int} {r h : Nat} : kthL P k (r + 1) h = if P h = true ∧ (cntL P h : Int) = k then (h : Int) else kthL P k r (h + 1) := rfl
theorem r_said {d : Nat} (hm : M.1 402 = fun k => I (g k)) (hs : RGs g) (hd : RGd g) (hq : SG g) {k : Int} (hk : (-2147483648 ≤ k ∧ k < 2147483648)) : EvQ (d + 6) 165 [.ref 400, .int (I k)] M fun v M' => v = some (.int (I (saidA g k))) ∧ RF [416] [0] M M' ∧ M'.1 400 0 = I 0 := by
  have h1 := hs.1.2.1
  have hq0 := hq.1
  obtain ⟨nh, hnh⟩ := Nn h1.1
  have enh : (g 1).toNat = nh := by omega
  have e : ∀ k, M.1 402 k = I (g k) := fun k => by rw [hm]
  have F0 : RF [416] [0] M (sI M 400 0 (I 0)) := RF.f (by decide)
  apply e_R_said
  intro At step
  unfold saidA at step ⊢
  rw [enh] at step ⊢
  rw [e 122, I_ne (by omega) (by omega) (by omega) (by omega), I_lt (by omega) (by omega) (by omega) (by omega)]
  refine ⟨fun q => ?_, fun q => ⟨fun q2 => ?_, fun q2 => ?_⟩⟩
  · rw [if_pos q]
    exact ⟨rfl, F0, mI_eq⟩
  · rw [if_neg q, if_neg (by omega), kthL_no (by omega)]
    exact ⟨rfl, F0, mI_eq⟩
  · rw [if_neg q] at step
    have key : ∀ r h : Nat, h + r = nh → kthL (fun h => sayT g h) k r h = kthL (fun h => sayT g h) k nh 0 → ∀ N : Mm, RF [416] [0] M N → N.1 400 0 = I 0 → At 26 [.ref 400, .int (I k), .int (I (cntL (fun h => sayT g h) h)), .int (I h)] [] N := by
      intro r
      induction r with
      | zero =>
        intro h hh ek N hF hN
        have eN : ∀ k, N.1 402 k = I (g k) := fun k => by rw [(hF.1 402 (by decide) (by decide)).1, hm]
        apply s_R_said_26 step
        rw [eN 1, hnh, I_lt (by omega) (by omega) (by omega) (by omega), I_ne (a := k) (b := -1) (by omega) (by omega) (by omega) (by omega)]
        refine ⟨fun z => absurd z (by omega), fun _ => ⟨fun q3 => ⟨?_, hF, hN⟩, fun q3 => ⟨?_, hF, hN⟩⟩⟩
        · rw [if_pos q3, show h = nh by omega]
        · rw [if_neg q3, ← ek]
          rfl
      | succ r ih =>
        intro h hh ek N hF hN
        have eN : ∀ k, N.1 402 k = I (g k) := fun k => by rw [(hF.1 402 (by decide) (by decide)).1, hm]
        have hmN : N.1 402 = fun k => I (g k) := by rw [(hF.1 402 (by decide) (by decide)).1, hm]
        have cb := cntL_b (P := fun h => sayT g h) h
        have nx := ih (h + 1) (by omega)
        have ec : cntL (fun h => sayT g h) (h + 1) = cntL (fun h => sayT g h) h + (if sayT g h = true then 1 else 0) := rfl
        rw [kthL_s] at ek
        rw [ec] at nx
        apply s_R_said_26 step
        rw [eN 1, hnh, I_lt (by omega) (by omega) (by omega) (by omega)]
        refine ⟨fun _ => ?_, fun z => absurd (by omega) z⟩
        refine q_int (P := fun v N2 => v = I (if sayT g h = true then 1 else 0) ∧ RF [416] [] N N2) ((r_isSaid hmN hs hd hq (by omega) (by omega)).mono fun r N2 h => ⟨_, h.1, rfl, h.2⟩) ?_
        rintro v N2 ⟨a1, a2⟩
        have hF2 : RF [416] [0] M N2 := hF.trans (a2.mono (fun _ q => q) (by decide))
        have hN2 : N2.1 400 0 = I 0 := by rw [a2.2.1 0 (by decide)]; exact hN
        rw [a1]
        simp only [I_add]
        cases hT : sayT g h with
        | true =>
          rw [hT, if_pos rfl] at nx
          rw [hT] at ek
          rw [I_ne (by omega) (by omega) (by omega) (by omega) (a := ((cntL (fun h => sayT g h) h : Nat) : Int))]
          refine ⟨fun z => absurd z (by decide), fun _ => ⟨fun q4 => ⟨?_, hF2, hN2⟩, fun q4 => nx ?_ N2 hF2 hN2⟩⟩
          · rw [if_pos ⟨rfl, q4⟩] at ek
            rw [if_neg (by omega), ← ek]
          · rw [if_neg (fun z => q4 z.2)] at ek
            exact ek
        | false =>
          rw [hT, if_neg (by decide), Nat.add_zero] at nx
          rw [hT, if_neg (fun z => absurd z.1 (by decide))] at ek
          exact ⟨fun _ => nx ek N2 hF2 hN2, fun z => absurd rfl z⟩
    exact key nh 0 (by omega) rfl _ F0 mI_eq
end SAJ
