/-! ===== street(): the class ===== -/
def streetA (R : PE (Nat × ST)) : Int := match R with
  | .error e => -1 - e.2
  | .ok x => x.1
/-- the numbers of a new street -/
def newG (g' g : Nat → Int) : Nat → Int := fun k => if k = 90 then g' 6 else if k < 89 then g' k else if k < 303 then 0 else g k
theorem newG_90 {g' g : Nat → Int} : newG g' g 90 = g' 6 := rfl
theorem newG_lo {g' g : Nat → Int} {k : Nat} (h : k < 89) : newG g' g k = g' k := by
  unfold newG
  rw [if_neg (by omega), if_pos h]
theorem newG_0 {g' g : Nat → Int} {k : Nat} (h : 89 ≤ k) (h2 : k < 303) (h3 : k ≠ 90) : newG g' g k = 0 := by
  unfold newG
  rw [if_neg h3, if_neg (by omega), if_pos h2]
theorem RGs_lo {g g' : Nat → Int} (e : ∀ i, i < 89 → g' i = g i) (h : RGs g) : RGs g' := by
  obtain ⟨h1, h2, h3, h4, h5, h6, h7, h8⟩ := h
  refine ⟨?_, fun w hw => ?_, fun k hk => ?_, fun k hk => ?_, fun k hk => ?_, fun k hk => ?_, fun j k hj hk => ?_, fun j k hj hk => ?_⟩
  · rw [e 0 (by omega), e 1 (by omega), e 2 (by omega), e 3 (by omega), e 4 (by omega), e 5 (by omega), e 6 (by omega), e 7 (by omega)]
    exact h1
  · rw [e (8 + w) (by omega), e 0 (by omega)]
    exact h2 w hw
  · rw [e (13 + k) (by omega), e (23 + k) (by omega), e (33 + k) (by omega), e 0 (by omega), e 1 (by omega)]
    exact h3 k hk
  · rw [e (43 + k) (by omega), e (49 + k) (by omega), e (55 + k) (by omega), e 0 (by omega), e 2 (by omega)]
    exact h4 k hk
  · rw [e (61 + k) (by omega), e (67 + k) (by omega), e 3 (by omega)]
    exact h5 k hk
  · rw [e (73 + k) (by omega), e (81 + k) (by omega)]
    exact h6 k hk
  · rw [e 3 (by omega)] at hj hk
    rw [e (61 + j) (by omega), e (61 + k) (by omega)]
    exact h7 j k hj hk
  · rw [e 4 (by omega)] at hj hk
    rw [e (73 + j) (by omega), e (73 + k) (by omega)]
    exact h8 j k hj hk
theorem CSr_lo {g g' : Nat → Int} (e : ∀ i, i < 89 → g' i = g i) {M : Mm} {p : Nat} (hs : RGs g) (h : CSr M p g) : CSr M p g' := by
  have hs1 := hs.1
  obtain ⟨h1, h2, h3, h4, h5, h6⟩ := h
  refine ⟨?_, fun w hw => ?_, fun k hk => ?_, fun k hk => ?_, fun k hk => ?_, fun k hk => ?_⟩
  · rw [e 0 (by omega), e 1 (by omega), e 2 (by omega), e 3 (by omega), e 4 (by omega), e 5 (by omega), e 6 (by omega), e 7 (by omega)]
    exact h1
  · rw [e 0 (by omega)] at hw
    rw [e (8 + w) (by omega)]
    exact h2 w hw
  · rw [e 1 (by omega)] at hk
    rw [e (13 + k) (by omega), e (23 + k) (by omega), e (33 + k) (by omega)]
    exact h3 k hk
  · rw [e 2 (by omega)] at hk
    rw [e (43 + k) (by omega), e (49 + k) (by omega), e (55 + k) (by omega)]
    exact h4 k hk
  · rw [e 3 (by omega)] at hk
    rw [e (61 + k) (by omega), e (67 + k) (by omega)]
    exact h5 k hk
  · rw [e 4 (by omega)] at hk
    rw [e (73 + k) (by omega), e (81 + k) (by omega)]
    exact h6 k hk
theorem new_ok {g' g : Nat → Int} (hs : RGs g') : RGs (newG g' g) ∧ RGd (newG g' g) ∧ RN (newG g' g) ∧ SG (newG g' g) := by
  have hs1 := hs.1
  have z : ∀ k, 89 ≤ k → k < 303 → k ≠ 90 → newG g' g k = 0 := fun k a b c => newG_0 a b c
  have b0 : ∀ k : Nat, bt 0 k = 0 := fun k => by unfold bt; rw [Nat.zero_div]
  refine ⟨RGs_lo (fun i hi => newG_lo hi) hs, ⟨?_, fun w hw => ?_, fun k hk => ?_, fun k hk => ?_⟩, ?_, ?_⟩
  · unfold tot
    rw [newG_90, z 89 (by omega) (by omega) (by omega), z 91 (by omega) (by omega) (by omega), z 92 (by omega) (by omega) (by omega), z 93 (by omega) (by omega) (by omega), z 94 (by omega) (by omega) (by omega), z 95 (by omega) (by omega) (by omega), z 96 (by omega) (by omega) (by omega), z 98 (by omega) (by omega) (by omega), z 99 (by omega) (by omega) (by omega), z 100 (by omega) (by omega) (by omega), z 101 (by omega) (by omega) (by omega), z 102 (by omega) (by omega) (by omega), z 103 (by omega) (by omega) (by omega), z 104 (by omega) (by omega) (by omega), z 105 (by omega) (by omega) (by omega), z 106 (by omega) (by omega) (by omega), z 107 (by omega) (by omega) (by omega), z 108 (by omega) (by omega) (by omega), z 109 (by omega) (by omega) (by omega), z 110 (by omega) (by omega) (by omega), z 111 (by omega) (by omega) (by omega), newG_lo (show 0 < 89 by omega), newG_lo (show 2 < 89 by omega)]
    exact ⟨by omega, by omega, by omega, by omega, by omega, by omega, by omega, by omega, trivial, by omega, by omega, by omega⟩
  · rw [z (101 + w) (by omega) (by omega) (by omega)]
    omega
  · rw [z (106 + k) (by omega) (by omega) (by omega)]
    omega
  · rw [z (112 + k) (by omega) (by omega) (by omega), z 100 (by omega) (by omega) (by omega), Int.toNat_zero, b0]
    omega
  · unfold RN
    rw [z 89 (by omega) (by omega) (by omega), z 92 (by omega) (by omega) (by omega), z 96 (by omega) (by omega) (by omega), z 99 (by omega) (by omega) (by omega)]
    omega
  · have z2 := z 122 (by omega) (by omega) (by omega)
    unfold SG
    rw [z2]
    exact ⟨by omega, fun q => absurd q (by omega), fun i hi => absurd hi (by omega)⟩
section BST
variable {M : Mm} {b : Nat → Nat} {n ps so : Nat} {g : Nat → Int} {nm : Nat → List Nat}
theorem c_tpBegin {d L : Nat} (h : TC M n b) (hL : L < 1000) : EvQ (d + 4) 259 [.ref 2, .int (I L)] M fun r N => r = none ∧ Fr 2 3 M N ∧ CT N b n L 0 := by
  apply e_Tape_begin
  intro At _
  have h1 : TC (sI (sI (sI (sI M 2 2 (I L)) 2 3 (I 0)) 2 9 (I 0)) 2 10 (I 0)) n b := ⟨by simp (disch := omega) only [mI_n2]; exact h.1, h.2.1, fun k hk => by simp (disch := omega) only [mI_n1]; exact h.2.2 k hk⟩
  refine q_non (c_next h1 (L := L) (p := 0) (by simp (disch := omega) only [mI_eq, mI_n2]) hL (by simp (disch := omega) only [mI_eq, mI_n2]; rfl) (Nat.zero_le _)) ?_
  rintro N ⟨q2, q3⟩
  have e : ∀ k, k ≠ 3 → k ≠ 4 → k ≠ 5 → k ≠ 6 → N.1 2 k = _ := q2.2
  refine ⟨rfl, ((((Fr.sI (by omega) (by omega)).trans (Fr.sI (by omega) (by omega))).trans (Fr.sI (by omega) (by omega))).trans (Fr.sI (by omega) (by omega))).trans fun a ha => q2.1 a (by omega), CT_of ⟨?_, h.2.1, fun k hk => ?_⟩ ?_ ?_ (Nat.zero_le _) hL q3⟩
  · rw [e 1 (by decide) (by decide) (by decide) (by decide)]
    exact h1.1
  · rw [(q2.1 3 (by decide)).1]
    exact h1.2.2 k hk
  · rw [e 2 (by decide) (by decide) (by decide) (by decide)]
    simp (disch := omega) only [mI_eq, mI_n2]
  · rw [e 9 (by decide) (by decide) (by decide) (by decide)]
    simp (disch := omega) only [mI_eq, mI_n2]
theorem c_stBegin {d o p : Nat} {g' : Nat → Int} (ho : Sa o) (hp : St p) (h : M.1 p 16 = I (g' 6)) : EvQ (d + 1) 207 [.ref o, .ref p] M fun r N => r = none ∧ CSt N o (newG g' g) ∧ Fr o (o + 4) M N := by
  have hop := Sa_St ho hp
  have z : ∀ k, 89 ≤ k → k < 303 → k ≠ 90 → newG g' g k = 0 := fun k a b c => newG_0 a b c
  apply e_State_begin ho hp
  intro At step
  intro N1 hN1
  have F1 : Fr o (o + 4) M (sI N1 o 10 (I 0)) := by
    rw [hN1]
    exact ((((((((((Fr.sI (by omega) (by omega)).trans (Fr.sI (by omega) (by omega))).trans (Fr.sI (by omega) (by omega))).trans (Fr.sI (by omega) (by omega))).trans (Fr.sI (by omega) (by omega))).trans (Fr.sI (by omega) (by omega))).trans (Fr.sI (by omega) (by omega))).trans (Fr.sI (by omega) (by omega))).trans (Fr.sI (by omega) (by omega))).trans (Fr.sI (by omega) (by omega))).trans (Fr.sI (by omega) (by omega))
  have E1 : ∀ k, k ≤ 10 → (sI N1 o 10 (I 0)).1 o k = if k = 1 then I (g' 6) else I 0 := by
    intro k hk
    have e16 : (sI M o 0 (I 0)).1 p 16 = I (g' 6) := by rw [mI_n1 (by omega), h]
    rw [hN1, e16]
    have : k = 0 ∨ k = 1 ∨ k = 2 ∨ k = 3 ∨ k = 4 ∨ k = 5 ∨ k = 6 ∨ k = 7 ∨ k = 8 ∨ k = 9 ∨ k = 10 := by omega
    rcases this with rfl | rfl | rfl | rfl | rfl | rfl | rfl | rfl | rfl | rfl | rfl <;> (simp (disch := omega) only [mI_eq, mI_n2]; rfl)
  refine loopU (P := fun j : Nat => ∀ N : Mm, Fr o (o + 4) M N → (∀ k, k ≤ 10 → N.1 o k = if k = 1 then I (g' 6) else I 0) → (∀ w, w < j → N.1 (o + 1) w = I 0) → At 60 [.ref o, .retAddr 0, .int (I j)] [] N) (n := 5) ?_ ?_ _ F1 E1 (fun w hw => absurd hw (by omega))
  · intro N hF hE h1
    apply s_State_begin_60 ho step
    refine ⟨fun q => absurd q (by decide), fun _ => ?_⟩
    refine loopU (P := fun j : Nat => ∀ O : Mm, Fr o (o + 4) M O → (∀ k, k ≤ 10 → O.1 o k = if k = 1 then I (g' 6) else I 0) → (∀ w, w < 5 → O.1 (o + 1) w = I 0) → (∀ w, w < j → O.1 (o + 2) w = I 0) → At 80 [.ref o, .retAddr 0, .int (I j)] [] O) (n := 6) ?_ ?_ N hF hE h1 (fun w hw => absurd hw (by omega))
    · intro O hF hE h1 h2
      apply s_State_begin_80 ho step
      refine ⟨fun q => absurd q (by decide), fun _ => ?_⟩
      refine loopU (P := fun j : Nat => ∀ P : Mm, Fr o (o + 4) M P → (∀ k, k ≤ 10 → P.1 o k = if k = 1 then I (g' 6) else I 0) → (∀ w, w < 5 → P.1 (o + 1) w = I 0) → (∀ w, w < 6 → P.1 (o + 2) w = I 0) → (∀ w, w < j → P.1 (o + 3) w = I (-1)) → At 101 [.ref o, .retAddr 0, .int (I j)] [] P) (n := 10) ?_ ?_ O hF hE h1 h2 (fun w hw => absurd hw (by omega))
      · intro P hF hE h1 h2 h3
        apply s_State_begin_101 ho step
        refine ⟨fun q => absurd q (by decide), fun _ => ⟨rfl, ⟨?_, fun w hw => ?_, fun w hw => ?_, fun w hw => ?_⟩, hF⟩⟩
        · rw [hE 0 (by omega), hE 1 (by omega), hE 2 (by omega), hE 3 (by omega), hE 4 (by omega), hE 5 (by omega), hE 6 (by omega), hE 7 (by omega), hE 8 (by omega), hE 9 (by omega), hE 10 (by omega), newG_90, z 89 (by omega) (by omega) (by omega), z 91 (by omega) (by omega) (by omega), z 92 (by omega) (by omega) (by omega), z 93 (by omega) (by omega) (by omega), z 94 (by omega) (by omega) (by omega), z 95 (by omega) (by omega) (by omega), z 96 (by omega) (by omega) (by omega), z 97 (by omega) (by omega) (by omega), z 98 (by omega) (by omega) (by omega), z 99 (by omega) (by omega) (by omega)]
          exact ⟨rfl, rfl, rfl, rfl, rfl, rfl, rfl, rfl, rfl, rfl, rfl⟩
        · rw [h1 w hw, z (101 + w) (by omega) (by omega) (by omega)]
        · rw [h2 w hw, z (106 + w) (by omega) (by omega) (by omega)]
        · rw [h3 w hw, z (112 + w) (by omega) (by omega) (by omega)]
          rfl
      · intro j hj nx P hF hE h1 h2 h3
        apply s_State_begin_101 ho step
        rw [I_lt (by omega) (by omega) (by omega) (by omega), ixI (by omega) (by omega), Int.toNat_natCast, I_add]
        refine ⟨fun _ => ⟨inRI (by omega) (by omega) (by omega), nx _ (hF.trans (Fr.sI (by omega) (by omega))) (fun k hk => by rw [mI_n1 (by omega)]; exact hE k hk) (fun w hw => by rw [mI_n1 (by omega)]; exact h1 w hw) (fun w hw => by rw [mI_n1 (by omega)]; exact h2 w hw) fun w hw => ?_⟩, fun q => absurd (by omega) q⟩
        by_cases e : w = j
        · rw [e, mI_eq]
        · rw [mI_n2 e]
          exact h3 w (by omega)
    · intro j hj nx P hF hE h1 h2
      apply s_State_begin_80 ho step
      rw [I_lt (by omega) (by omega) (by omega) (by omega), ixI (by omega) (by omega), Int.toNat_natCast, I_add]
      refine ⟨fun _ => ⟨inRI (by omega) (by omega) (by omega), nx _ (hF.trans (Fr.sI (by omega) (by omega))) (fun k hk => by rw [mI_n1 (by omega)]; exact hE k hk) (fun w hw => by rw [mI_n1 (by omega)]; exact h1 w hw) fun w hw => ?_⟩, fun q => absurd (by omega) q⟩
      by_cases e : w = j
      · rw [e, mI_eq]
      · rw [mI_n2 e]
        exact h2 w (by omega)
  · intro j hj nx P hF hE h1
    apply s_State_begin_60 ho step
    rw [I_lt (by omega) (by omega) (by omega) (by omega), ixI (by omega) (by omega), Int.toNat_natCast, I_add]
    refine ⟨fun _ => ⟨inRI (by omega) (by omega) (by omega), nx _ (hF.trans (Fr.sI (by omega) (by omega))) (fun k hk => by rw [mI_n1 (by omega)]; exact hE k hk) fun w hw => ?_⟩, fun q => absurd (by omega) q⟩
    by_cases e : w = j
    · rw [e, mI_eq]
    · rw [mI_n2 e]
      exact h1 w (by omega)
theorem c_clearQ {d : Nat} (ho : Se so) : Ev (d + 1) 193 [.ref so] M none (sI (sI M so 4 (I 0)) so 5 (I 0)) := by
  apply Ev.ofQ
  apply e_Sentence_clear ho
  intro At _
  exact ⟨rfl, rfl⟩
/-- what street() leaves as it was -/
def FB (ps so : Nat) (M N : Mm) : Prop := (∀ a, a ≠ 1 → a ≠ 2 → a ≠ 4 → a ≠ 20 → ¬ (ps ≤ a ∧ a < ps + 17) → ¬ (200 ≤ a ∧ a < 204) → a ≠ so → N.1 a = M.1 a ∧ N.2.1 a = M.2.1 a ∧ N.2.2 a = M.2.2 a) ∧ (∀ k, k ≠ 12 → N.1 1 k = M.1 1 k) ∧ N.2.1 1 = M.2.1 1 ∧ (∀ k, k ≠ 2 → k ≠ 3 → N.2.2 1 k = M.2.2 1 k) ∧ (∀ k, k ≠ 2 → N.1 20 k = M.1 20 k) ∧ N.2.1 20 = M.2.1 20 ∧ N.2.2 20 = M.2.2 20
theorem b_street {d ps' : Nat} (hT : TC M n b) (h2 : M.2.2 1 2 = ps) (h3 : M.2.2 1 3 = ps') (hp' : ps' = 100 ∨ ps' = 120) (ho : so = 300 ∨ so = 310) (h7 : M.2.2 1 7 = so) : EvQ (d + 8) 2 [.ref 1] M fun r N => r = some (.int (I (streetA (lnsS b n 900 (n + 1) 0 st00 0)))) ∧ TC N 0 b ∧
    (∀ e, lnsS b n 900 (n + 1) 0 st00 0 = .error e → N.1 1 12 = I e.1 ∧ FS ps' M (sI N 1 12 (M.1 1 12))) ∧
    ∀ x, lnsS b n 900 (n + 1) 0 st00 0 = .ok x → N.1 1 12 = I 0 ∧ N.2.2 1 2 = ps' ∧ N.2.2 1 3 = ps ∧ CSr N ps' x.2.1 ∧ CNm N ps' x.2.1 x.2.2.1 ∧ CSt N 200 (newG x.2.1 g) ∧ N.1 so 4 = I 0 ∧ N.1 so 5 = I 0 ∧ N.1 20 2 = I 0 ∧ FB ps' so M N ∧ N.2.2 so = M.2.2 so := by
  have hst : St ps' := by rcases hp' with rfl | rfl <;> simp [St]
  have hse : Se so := by rcases ho with rfl | rfl <;> simp [Se]
  have h940 := hT.2.1
  generalize hR : lnsS b n 900 (n + 1) 0 st00 0 = R
  apply e_B_street
  intro At _
  refine q_non (c_tpBegin (L := 900) hT (by decide)) ?_
  rintro N1 ⟨f1, t1⟩
  rw [(f1 1 (by omega)).2.2, h3]
  refine q_int (c_readStreet t1 hst) ?_
  rintro v N3 ⟨f2, e1, e2⟩
  have F3 : FS ps' M N3 := FS_trans (FS_f FS_refl f1) f2
  have g3 : N3.2.2 1 3 = ps' := by rw [(F3 1 (by omega) (by omega) (by omega)).2.2, h3]
  have g2 : N3.2.2 1 2 = ps := by rw [(F3 1 (by omega) (by omega) (by omega)).2.2, h2]
  have g7 : N3.2.2 1 7 = so := by rw [(F3 1 (by omega) (by omega) (by omega)).2.2, h7]
  have t3 : ∀ N : Mm, N.1 2 1 = I 0 → N.1 3 = N3.1 3 → TC N 0 b := fun N a1 a2 => ⟨a1, by omega, fun k hk => absurd hk (by omega)⟩
  rw [g3, g2]
  rw [hR] at e1 e2
  rcases pe_cases R with ⟨e, he⟩ | ⟨x, hx⟩
  · obtain ⟨c1, c2, c3, c4, c5⟩ := e1 e he
    have c6 : (e.1 = 0) = False := eq_false (by omega)
    rw [c1, I_ne (by omega) (by omega) (by omega) (by omega), c2, I_sub]
    refine ⟨fun z => absurd z (by omega), fun _ => ⟨by rw [he]; rfl, t3 _ (by rw [mI_n1 (by decide), mI_eq]) (by rw [mI_fn (by decide), mI_fn (by decide)]), fun e' he' => ?_, fun x hx => ?_⟩⟩
    · rw [he] at he'
      cases he'
      refine ⟨mI_eq, fun a a1 a2 a3 => ?_⟩
      refine ⟨?_, (F3 a a1 a2 a3).2.1, (F3 a a1 a2 a3).2.2⟩
      by_cases c : a = 1
      · subst c
        funext k
        by_cases c2 : k = 12
        · subst c2
          rw [mI_eq]
        · rw [mI_n2 c2, mI_n2 c2, mI_n1 (by decide), (F3 1 (by omega) (by omega) (by omega)).1]
      · rw [mI_fn c, mI_fn c, mI_fn a1, (F3 a a1 a2 a3).1]
    · rw [he] at hx
      cases hx
  · obtain ⟨rfl, c2, c3, c4, c5, c6, c7⟩ := e2 x hx
    rw [c2]
    refine ⟨fun _ => ?_, fun z => absurd rfl z⟩
    have m1 : ∀ a, a ≠ 1 → a ≠ 2 → (sR (sR (sI (sI N3 2 1 (I 0)) 1 12 (I 0)) 1 3 ps) 1 2 ps').1 a = N3.1 a := fun a q1 q2 => by
      show (sI (sI N3 2 1 (I 0)) 1 12 (I 0)).1 a = _
      rw [mI_fn q1, mI_fn q2]
    have m2 : ∀ a, a ≠ 1 → (sR (sR (sI (sI N3 2 1 (I 0)) 1 12 (I 0)) 1 3 ps) 1 2 ps').2.2 a = N3.2.2 a := fun a q1 => by
      show up2 (up2 N3.2.2 1 3 ps) 1 2 ps' a = _
      rw [up2_ne q1, up2_ne q1]
    have m3 : ∀ k, k ≠ 2 → k ≠ 3 → (sR (sR (sI (sI N3 2 1 (I 0)) 1 12 (I 0)) 1 3 ps) 1 2 ps').2.2 1 k = N3.2.2 1 k := fun k q1 q2 => by
      show up2 (up2 N3.2.2 1 3 ps) 1 2 ps' 1 k = _
      rw [up2_eq, upf_ne q1, up2_eq, upf_ne q2]
    have m4 : (sR (sR (sI (sI N3 2 1 (I 0)) 1 12 (I 0)) 1 3 ps) 1 2 ps').2.2 1 3 = ps := by
      show up2 (up2 N3.2.2 1 3 ps) 1 2 ps' 1 3 = _
      rw [up2_eq, upf_ne (by decide), up2_eq, upf_eq]
    have m5 : (sR (sR (sI (sI N3 2 1 (I 0)) 1 12 (I 0)) 1 3 ps) 1 2 ps').2.2 1 2 = ps' := by
      show up2 (up2 N3.2.2 1 3 ps) 1 2 ps' 1 2 = _
      rw [up2_eq, upf_eq]
    have m6 : ∀ k, k ≠ 12 → (sR (sR (sI (sI N3 2 1 (I 0)) 1 12 (I 0)) 1 3 ps) 1 2 ps').1 1 k = N3.1 1 k := fun k q => by
      show (sI (sI N3 2 1 (I 0)) 1 12 (I 0)).1 1 k = _
      rw [mI_n2 q, mI_n1 (by decide)]
    have m7 : (sR (sR (sI (sI N3 2 1 (I 0)) 1 12 (I 0)) 1 3 ps) 1 2 ps').1 1 12 = I 0 := by
      show (sI (sI N3 2 1 (I 0)) 1 12 (I 0)).1 1 12 = _
      rw [mI_eq]
    have m8 : (sR (sR (sI (sI N3 2 1 (I 0)) 1 12 (I 0)) 1 3 ps) 1 2 ps').1 2 1 = I 0 := by
      show (sI (sI N3 2 1 (I 0)) 1 12 (I 0)).1 2 1 = _
      rw [mI_n1 (by decide), mI_eq]
    have m9 : (sR (sR (sI (sI N3 2 1 (I 0)) 1 12 (I 0)) 1 3 ps) 1 2 ps').2.1 = N3.2.1 := rfl
    generalize sR (sR (sI (sI N3 2 1 (I 0)) 1 12 (I 0)) 1 3 ps) 1 2 ps' = N7 at *
    have hp5 : 100 ≤ ps' := St_lo hst
    refine q_non (c_stBegin (g := g) (g' := x.2.1) Sa200 hst (by rw [m1 ps' (by omega) (by omega)]; exact c3.1.2.2.2.2.2.2.1)) ?_
    rintro N8 ⟨s1, f8⟩
    have g8 : N8.2.2 1 7 = so := by rw [(f8 1 (by omega)).2.2, m3 7 (by decide) (by decide), g7]
    rw [g8]
    refine ⟨hse, _, c_clearQ hse, ?_⟩
    have n1 : ∀ a, a ≠ so → a ≠ 20 → (sI (sI (sI N8 so 4 (I 0)) so 5 (I 0)) 20 2 (I 0)).1 a = N8.1 a := fun a q1 q2 => by rw [mI_fn q2, mI_fn q1, mI_fn q1]
    have F7 : ∀ a, a ≠ 1 → a ≠ 2 → a ≠ 4 → ¬ (ps' ≤ a ∧ a < ps' + 17) → N7.1 a = M.1 a ∧ N7.2.1 a = M.2.1 a ∧ N7.2.2 a = M.2.2 a := fun a q1 q2 q3 q4 => ⟨by rw [m1 a q1 q2]; exact (F3 a q2 q3 q4).1, by rw [m9]; exact (F3 a q2 q3 q4).2.1, by rw [m2 a q1]; exact (F3 a q2 q3 q4).2.2⟩
    have F1' := F3 1 (by omega) (by omega) (by omega)
    have hso : 300 ≤ so := by rcases ho with rfl | rfl <;> decide
    have hps : ps' + 17 ≤ 200 := by rcases hp' with rfl | rfl <;> decide
    refine ⟨by rw [hx]; rfl, t3 _ ?_ ?_, fun e he => ?_, fun x' hx' => ?_⟩
    · rw [n1 2 (by omega) (by omega), (f8 2 (by omega)).1, m8]
    · rw [n1 3 (by omega) (by omega), (f8 3 (by omega)).1, m1 3 (by omega) (by omega)]
    · rw [hx] at he
      cases he
    · rw [hx] at hx'
      cases hx'
      refine ⟨?_, ?_, ?_, c3.of fun a a1 a2 => ?_, CNm_fr c4 fun a a1 a2 => ?_, s1.of fun a a1 a2 => ?_, ?_, ?_, mI_eq, ⟨fun a q1 q2 q3 q4 q5 q6 q7 => ⟨?_, ?_, ?_⟩, fun k hk => ?_, ?_, fun k k2 k3 => ?_, fun k hk => ?_, ?_, ?_⟩, ?_⟩
      · rw [n1 1 (by omega) (by omega), (f8 1 (by omega)).1, m7]
      · show N8.2.2 1 2 = _
        rw [(f8 1 (by omega)).2.2, m5]
      · show N8.2.2 1 3 = _
        rw [(f8 1 (by omega)).2.2, m4]
      · rw [n1 a (by omega) (by omega), (f8 a (by omega)).1, m1 a (by omega) (by omega)]
      · show N8.2.1 a = _
        rw [(f8 a (by omega)).2.1, m9]
      · rw [n1 a (by omega) (by omega)]
      · rw [mI_n1 (by omega), mI_n2 (by decide), mI_eq]
      · rw [mI_n1 (by omega), mI_eq]
      · rw [n1 a q7 q4, (f8 a (by omega)).1]
        exact (F7 a q1 q2 q3 q5).1
      · show N8.2.1 a = _
        rw [(f8 a (by omega)).2.1]
        exact (F7 a q1 q2 q3 q5).2.1
      · show N8.2.2 a = _
        rw [(f8 a (by omega)).2.2]
        exact (F7 a q1 q2 q3 q5).2.2
      · rw [n1 1 (by omega) (by omega), (f8 1 (by omega)).1, m6 k hk, F1'.1]
      · show N8.2.1 1 = _
        rw [(f8 1 (by omega)).2.1, m9, F1'.2.1]
      · show N8.2.2 1 k = _
        rw [(f8 1 (by omega)).2.2, m3 k k2 k3, F1'.2.2]
      · rw [mI_n2 hk, mI_n1 (by omega), mI_n1 (by omega), (f8 20 (by omega)).1, (F7 20 (by omega) (by omega) (by omega) (by omega)).1]
      · show N8.2.1 20 = _
        rw [(f8 20 (by omega)).2.1, (F7 20 (by omega) (by omega) (by omega) (by omega)).2.1]
      · show N8.2.2 20 = _
        rw [(f8 20 (by omega)).2.2, (F7 20 (by omega) (by omega) (by omega) (by omega)).2.2]
      · show N8.2.2 so = _
        rw [(f8 so (by omega)).2.2, (F7 so (by omega) (by omega) (by omega) (by omega)).2.2]
end BST
