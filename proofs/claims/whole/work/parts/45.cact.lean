/-! ===== the class's acts ===== -/
def CU (M : Mm) (ps : Nat) (g : Nat → Int) (n : Nat) (us : Nat → Nat → Int) : Prop := CB M ps g ∧ (∃ nx, PC M nx n us) ∧ UI g n us
theorem PC.fr {M M' : Mm} {nx n : Nat} {us : Nat → Nat → Int} (h : PC M nx n us) (hf : ∀ a, (a = 20 ∨ 210 ≤ a ∧ a < 250) → M'.1 a = M.1 a) : PC M' nx n us := by
  obtain ⟨p1, p2, p3, p4, p5⟩ := h
  refine ⟨by rw [hf 20 (Or.inl rfl)]; exact p1, by rw [hf 20 (Or.inl rfl)]; exact p2, p3, p4, fun i hi => (p5 i hi).of fun a h1 h2 => hf a (Or.inr ?_)⟩
  have : (nx + 15 - i) % 8 < 8 := Nat.mod_lt _ (by decide)
  omega
theorem St_far {p : Nat} (h : St p) : 22 ≤ p ∧ (p + 17 ≤ 200 ∨ 250 ≤ p) := by
  rcases h with rfl | rfl | rfl | rfl <;> decide
theorem CB.fr {M M' : Mm} {ps : Nat} {g g' : Nat → Int} (h : CB M ps g) (hf : Fr2 20 22 200 250 M M') (e : SameO g g') (hd : RGd g') (hn : RN g') (hc : CSt M' 200 g') : CB M' ps g' := by
  obtain ⟨hp, ep, hr, -, hs, -, -⟩ := h
  have h2 := St_far hp
  refine ⟨hp, by rw [(hf 1 (by omega) (by omega)).2.2]; exact ep, CSr.same hs (hr.of fun a h1 h3 => (hf a (by omega) (by omega)).1) e.s, hc, hs.same e.s, hd, hn⟩
theorem RN_quits {g : Nat → Int} {w : Nat} (hn : RN g) (hw : w < 5) : RN (quitsG g w) := by
  have e : ∀ j, j ≠ 91 → j ≠ 101 + w → j ≠ 98 → quitsG g w j = g j := fun j q1 q2 q3 => by
    unfold quitsG
    rw [upf_ne q3, upf_ne q2, upf_ne q1]
  unfold RN at hn ⊢
  rw [e 96 (by omega) (by omega) (by omega), e 89 (by omega) (by omega) (by omega), e 92 (by omega) (by omega) (by omega), e 99 (by omega) (by omega) (by omega)]
  exact hn
section CAC
variable {M : Mm} {ps n : Nat} {g : Nat → Int} {us : Nat → Nat → Int}
/-- what is so is kept, and an act done -/
theorem c_doing {d y : Nat} {args : List Value} {g' : Nat → Int} (h : CU M ps g n us) (e : SameO g g') (hd : RGd g') (hn : RN g') (hact : ∀ N, CB N ps g → EvQ (d + 3) y args N fun r M' => r = none ∧ CSt M' 200 g' ∧ Fr 200 204 N M') :
    EvQ (d + 3) 186 [.ref 20, .ref 200] M fun r N => r = none ∧ CB N ps g ∧ Fr2 20 22 200 250 M N ∧ EvQ (d + 3) y args N fun r M' => r = none ∧ CU M' ps g' (keptN true n) (keptU true g us) ∧ Fr2 20 22 200 250 M M' := by
  obtain ⟨hb, ⟨nx, hP⟩, hU⟩ := h
  obtain ⟨hp, ep, hr, hc, hs, hd0, hn0⟩ := hb
  refine (c_keep Sa200 (by decide) hP hc).mono ?_
  rintro r N ⟨rfl, ⟨nx', hPN⟩, hf⟩
  have hbN : CB N ps g := CB.fr ⟨hp, ep, hr, hc, hs, hd0, hn0⟩ (hf.mono (by omega) (by omega) (by omega) (by omega)) SameO.refl hd0 hn0 (hc.of fun a h1 h2 => (hf a (by omega) (by omega)).1)
  have hfN : Fr2 20 22 200 250 M N := hf.mono (by omega) (by omega) (by omega) (by omega)
  refine ⟨rfl, hbN, hfN, (hact N hbN).mono ?_⟩
  rintro r M' ⟨rfl, hc', hf'⟩
  have hf2 : Fr2 20 22 200 250 M M' := hfN.trans (hf'.mono (by omega) (by omega)).two'
  refine ⟨rfl, ⟨CB.fr ⟨hp, ep, hr, hc, hs, hd0, hn0⟩ hf2 e hd hn hc', ⟨nx', ?_⟩, hU.kept hd0 hn0 e⟩, hf2⟩
  exact PC.fr (by exact hPN) fun a ha => (hf' a (by omega)).1
theorem b_post {d : Nat} (h : CU M ps g n us) {f c w : Int} (hf : (-2147483648 ≤ f ∧ f < 2147483648)) (hc2 : (-2147483648 ≤ c ∧ c < 2147483648)) (hw : (-2147483648 ≤ w ∧ w < 2147483648)) : EvQ (d + 5) 9 [.ref 1, .int (I f), .int (I c), .int (I w)] M fun r M' => r = some (.int (I (postA g f c w))) ∧ CU M' ps (actG (decide (postA g f c w = 0)) (postsG g f c w) g) (keptN (decide (postA g f c w = 0)) n) (keptU (decide (postA g f c w = 0)) g us) ∧ Fr2 20 22 200 250 M M' := by
  have h0 := h
  obtain ⟨⟨hp, ep, hr, hc, hs, hd, hn⟩, -, -⟩ := h
  have h5 := hs.1.2.2.2.2.2.1
  have no : ∀ v : Int, v = postA g f c w → ¬ v = 0 → (some (Value.int (I v)) = some (.int (I (postA g f c w))) ∧ CU M ps (actG (decide (postA g f c w = 0)) (postsG g f c w) g) (keptN (decide (postA g f c w = 0)) n) (keptU (decide (postA g f c w = 0)) g us) ∧ Fr2 20 22 200 250 M M) := by
    intro v hv hne
    subst hv
    rw [decide_eq_false hne]
    exact ⟨rfl, h0, Fr2.refl⟩
  apply e_B_post
  intro At _
  refine ⟨_, _, c_isWithin hf (by omega) (by omega), ?_⟩
  rw [bI0]
  refine ⟨fun q => no _ (by simp (disch := omega) only [postA, if_neg]) (by decide), fun q => ⟨_, _, c_isWithin hc2 (by omega) (by omega), ?_⟩⟩
  rw [bI0, ep, hr.1.2.2.2.2.2.1, I_add]
  refine ⟨fun q2 => no _ (by simp (disch := omega) only [postA, if_neg]) (by decide), fun q2 => ⟨hp, ?_⟩⟩
  rw [I_lt (by omega) (by omega) (by omega) (by omega)]
  refine ⟨fun q3 => no _ (by simp (disch := omega) only [postA, if_neg]) (by decide), fun q3 => ⟨_, _, c_hasTarget hp hr hs hw, ?_⟩⟩
  rw [bI0]
  refine ⟨fun q4 => no _ (by simp (disch := omega) only [postA, if_neg]) (by decide), fun q4 => ⟨_, _, c_isPosted Sa200 hc hs hd hf hc2 hw, ?_⟩⟩
  have hA : postA g f c w = if g 93 = f ∧ g 94 = c ∧ g 95 = w then 1 else 0 := by
    unfold postA
    rw [if_pos ⟨by omega, by omega, by omega, by omega⟩]
  rw [bI0]
  refine ⟨fun q5 => ?_, fun q5 => no _ (by rw [hA, if_pos (Decidable.of_not_not q5)]) (by decide)⟩
  rw [if_neg q5] at hA
  rw [hA, decide_eq_true rfl]
  refine q_non (c_doing (y := 220) (args := [.ref 200, .int (I f), .int (I c), .int (I w)]) (g' := postsG g f c w) h0 postsG_o (RGd_posts hd (by omega) (by omega)) hn fun N hN => c_takePosts Sa200 hN.2.2.2.1) ?_
  rintro N ⟨-, -, hN⟩
  exact q_non hN fun M' hM' => ⟨rfl, hM'⟩
theorem b_quit {d : Nat} (h : CU M ps g n us) {w : Int} (hw : (-2147483648 ≤ w ∧ w < 2147483648)) : EvQ (d + 5) 10 [.ref 1, .int (I w)] M fun r M' => r = some (.int (I (quitA g w))) ∧ CU M' ps (actG (decide (quitA g w = 0)) (quitsG g w.toNat) g) (keptN (decide (quitA g w = 0)) n) (keptU (decide (quitA g w = 0)) g us) ∧ Fr2 20 22 200 250 M M' := by
  have h0 := h
  obtain ⟨⟨hp, ep, hr, hc, hs, hd, hn⟩, -, -⟩ := h
  have hb0 := hs.1.1
  have no : ∀ v : Int, v = quitA g w → ¬ v = 0 → (some (Value.int (I v)) = some (.int (I (quitA g w))) ∧ CU M ps (actG (decide (quitA g w = 0)) (quitsG g w.toNat) g) (keptN (decide (quitA g w = 0)) n) (keptU (decide (quitA g w = 0)) g us) ∧ Fr2 20 22 200 250 M M) := by
    intro v hv hne
    subst hv
    rw [decide_eq_false hne]
    exact ⟨rfl, h0, Fr2.refl⟩
  apply e_B_quit
  intro At _
  rw [ep]
  refine ⟨hp, _, _, c_hasWall hp hr hs hw, ?_⟩
  rw [bI0]
  refine ⟨fun q => no _ (by simp (disch := omega) only [quitA, if_neg]) (by decide), fun q => ?_⟩
  obtain ⟨k, rfl⟩ := Nn (a := w) (by omega)
  have hA : quitA g k = (bt (g 98).toNat k : Int) := by
    unfold quitA
    rw [if_pos (Decidable.of_not_not q), Int.toNat_natCast]
  have hbt := bt_lt (g 98).toNat k
  refine ⟨_, _, c_whyNotQuit Sa200 hc hd (by omega), ?_⟩
  rw [I_ne (by omega) (by omega) (by omega) (by omega)]
  refine ⟨fun q2 => ?_, fun q2 => no _ hA.symm q2⟩
  rw [hA, q2, decide_eq_true rfl, Int.toNat_natCast]
  refine q_non (c_doing (y := 222) (args := [.ref 200, .int (I k)]) (g' := quitsG g k) h0 (quitsG_o (by omega)) (RGd_quits hd (by omega)) (RN_quits hn (by omega)) fun N hN => c_giveUpWall Sa200 hN.2.2.2.1 hd (by omega)) ?_
  rintro N ⟨-, -, hN⟩
  exact q_non hN fun M' hM' => ⟨rfl, hM'⟩
theorem b_up {d : Nat} (h : CU M ps g n us) {w : Int} (hw : (-2147483648 ≤ w ∧ w < 2147483648)) : EvQ (d + 5) 11 [.ref 1, .int (I w)] M fun r M' => r = some (.int (I (upA g w))) ∧ CU M' ps (actG (decide (upA g w = 0)) (upsG g w.toNat) g) (keptN (decide (upA g w = 0)) n) (keptU (decide (upA g w = 0)) g us) ∧ Fr2 20 22 200 250 M M' := by
  have h0 := h
  obtain ⟨⟨hp, ep, hr, hc, hs, hd, hn⟩, -, -⟩ := h
  have hb0 := hs.1.2.1
  have no : ∀ v : Int, v = upA g w → ¬ v = 0 → (some (Value.int (I v)) = some (.int (I (upA g w))) ∧ CU M ps (actG (decide (upA g w = 0)) (upsG g w.toNat) g) (keptN (decide (upA g w = 0)) n) (keptU (decide (upA g w = 0)) g us) ∧ Fr2 20 22 200 250 M M) := by
    intro v hv hne
    subst hv
    rw [decide_eq_false hne]
    exact ⟨rfl, h0, Fr2.refl⟩
  apply e_B_up
  intro At _
  rw [ep]
  refine ⟨hp, _, _, c_hasHouse hp hr hs hw, ?_⟩
  rw [bI0]
  refine ⟨fun q => no _ (by simp (disch := omega) only [upA, if_neg]) (by decide), fun q => ?_⟩
  obtain ⟨k, rfl⟩ := Nn (a := w) (by omega)
  have hA : upA g k = (if g (112 + k) = 0 then (if bt (g 99).toNat k = 1 then 2 else 0) else 1) := by
    unfold upA
    rw [if_pos (Decidable.of_not_not q), Int.toNat_natCast]
  refine ⟨_, _, c_whyNotUp Sa200 hc hd (by omega), ?_⟩
  rw [← hA]
  have hAb : 0 ≤ upA g k ∧ upA g k ≤ 2 := by
    rw [hA]
    split
    · split <;> decide
    · decide
  rw [I_ne (by omega) (by omega) (by omega) (by omega)]
  refine ⟨fun q2 => ?_, fun q2 => no _ rfl q2⟩
  have hnb : ¬ bt (g 99).toNat k = 1 := by
    intro z
    rw [if_pos z] at hA
    split at hA <;> omega
  have hb2 := RN_b hd hn
  rw [q2, decide_eq_true rfl, Int.toNat_natCast]
  refine q_non (c_doing (y := 224) (args := [.ref 200, .int (I k)]) (g' := upsG g k) h0 upsG_o (RGd_ups hd (by omega) (by omega)) (RN_ups hd hn (by omega) hnb) fun N hN => c_carryUp Sa200 hN.2.2.2.1 hd (by omega)) ?_
  rintro N ⟨-, -, hN⟩
  exact q_non hN fun M' hM' => ⟨rfl, hM'⟩
theorem b_hours {d : Nat} (h : CU M ps g n us) {w : Int} (hw : (-2147483648 ≤ w ∧ w < 2147483648)) : EvQ (d + 6) 12 [.ref 1, .int (I w)] M fun r M' => r = some (.int (I (hoursA g w))) ∧ CU M' ps (actG (decide (0 < hoursA g w)) (hrsG g w.toNat) g) (keptN (decide (0 < hoursA g w)) n) (keptU (decide (0 < hoursA g w)) g us) ∧ Fr2 20 22 200 250 M M' := by
  have h0 := h
  obtain ⟨⟨hp, ep, hr, hc, hs, hd, hn⟩, -, -⟩ := h
  have hb0 := hd.1.1
  have no : ∀ v : Int, v = hoursA g w → ¬ 0 < v → (some (Value.int (I v)) = some (.int (I (hoursA g w))) ∧ CU M ps (actG (decide (0 < hoursA g w)) (hrsG g w.toNat) g) (keptN (decide (0 < hoursA g w)) n) (keptU (decide (0 < hoursA g w)) g us) ∧ Fr2 20 22 200 250 M M) := by
    intro v hv hne
    subst hv
    rw [decide_eq_false hne]
    exact ⟨rfl, h0, Fr2.refl⟩
  apply e_B_hours
  intro At _
  refine ⟨_, _, c_isWithin hw (by omega) (by omega), ?_⟩
  rw [bI0]
  refine ⟨fun q => no _ (by simp (disch := omega) only [hoursA, if_neg]) (by decide), fun q => ?_⟩
  have hA : hoursA g w = mnI w (48 - g 89) := by
    unfold hoursA
    rw [if_pos (Decidable.of_not_not q)]
  have e48 : (if I 48 - M.1 200 0 < I w then I 48 - M.1 200 0 else I w) = I (hoursA g w) := by
    rw [hc.1.1, hA]
    simp (disch := omega) only [I_add, I_sub, I_mul, I_div, ixI, Int.toNat_add, Int.toNat_natCast, Int.reduceToNat, I_lt, I_ne, ite_I, mnI_c]
  rw [e48]
  have hmn : 0 ≤ hoursA g w ∧ hoursA g w ≤ 24 ∧ hoursA g w ≤ w := by
    rw [hA]
    unfold mnI
    split <;> omega
  rw [I_lt (by omega) (by omega) (by omega) (by omega)]
  refine ⟨fun q2 => ?_, fun q2 => no _ rfl q2⟩
  have eh : hrsG g (hoursA g w).toNat = hrsG g w.toNat := by
    rw [hrsG_cap hs hd hn, hrsG_cap (n := w.toNat) hs hd hn, hA]
    congr 1
    unfold mnI
    split <;> omega
  obtain ⟨k, hk⟩ := Nn (a := hoursA g w) (by omega)
  obtain ⟨o1, o2, o3⟩ := hrsG_ok (n := w.toNat) hs hd hn
  rw [decide_eq_true q2, hk]
  rw [hk, Int.toNat_natCast] at eh
  refine q_non (c_doing (y := 228) (args := [.ref 200, .ref ps, .int (I k)]) (g' := hrsG g w.toNat) h0 (hrsG_o hs hd hn) o2 o3 fun N hN => ?_) ?_
  · rw [← eh]
    exact c_goHours Sa200 hp hN.2.2.1 hN.2.2.2.1 hs hd hn (by omega)
  · rintro N ⟨hbN, -, hN⟩
    rw [hbN.2.1]
    exact q_non hN fun M' hM' => ⟨rfl, hM'⟩
theorem b_drawn {d : Nat} (h : CU M ps g n us) {w : Int} {x : Int32} (hw : (-2147483648 ≤ w ∧ w < 2147483648)) : EvQ (d + 6) 36 [.ref 1, .int (I w), .int x] M fun r M' => r = some (.int (I (hoursA g w))) ∧ CU M' ps (actG (decide (0 < hoursA g w)) (drwG g x w.toNat) g) (keptN (decide (0 < hoursA g w)) n) (keptU (decide (0 < hoursA g w)) g us) ∧ Fr2 20 22 200 250 M M' := by
  have h0 := h
  obtain ⟨⟨hp, ep, hr, hc, hs, hd, hn⟩, -, -⟩ := h
  have hb0 := hd.1.1
  have no : ∀ v : Int, v = hoursA g w → ¬ 0 < v → (some (Value.int (I v)) = some (.int (I (hoursA g w))) ∧ CU M ps (actG (decide (0 < hoursA g w)) (drwG g x w.toNat) g) (keptN (decide (0 < hoursA g w)) n) (keptU (decide (0 < hoursA g w)) g us) ∧ Fr2 20 22 200 250 M M) := by
    intro v hv hne
    subst hv
    rw [decide_eq_false hne]
    exact ⟨rfl, h0, Fr2.refl⟩
  apply e_B_drawn
  intro At _
  refine ⟨_, _, c_isWithin hw (by omega) (by omega), ?_⟩
  rw [bI0]
  refine ⟨fun q => no _ (by simp (disch := omega) only [hoursA, if_neg]) (by decide), fun q => ?_⟩
  have hA : hoursA g w = mnI w (48 - g 89) := by
    unfold hoursA
    rw [if_pos (Decidable.of_not_not q)]
  have e48 : (if I 48 - M.1 200 0 < I w then I 48 - M.1 200 0 else I w) = I (hoursA g w) := by
    rw [hc.1.1, hA]
    simp (disch := omega) only [I_add, I_sub, I_mul, I_div, ixI, Int.toNat_add, Int.toNat_natCast, Int.reduceToNat, I_lt, I_ne, ite_I, mnI_c]
  rw [e48]
  have hmn : 0 ≤ hoursA g w ∧ hoursA g w ≤ 24 ∧ hoursA g w ≤ w := by
    rw [hA]
    unfold mnI
    split <;> omega
  rw [I_lt (by omega) (by omega) (by omega) (by omega)]
  refine ⟨fun q2 => ?_, fun q2 => no _ rfl q2⟩
  have eh : drwG g x (hoursA g w).toNat = drwG g x w.toNat := by
    rw [drwG_cap hs hd hn, drwG_cap (n := w.toNat) hs hd hn, hA]
    congr 1
    unfold mnI
    split <;> omega
  obtain ⟨k, hk⟩ := Nn (a := hoursA g w) (by omega)
  obtain ⟨o1, o2, o3⟩ := drwG_ok (n := w.toNat) (x := x) hs hd hn
  rw [decide_eq_true q2, hk]
  rw [hk, Int.toNat_natCast] at eh
  refine q_non (c_doing (y := 229) (args := [.ref 200, .ref ps, .int (I k), .int x]) (g' := drwG g x w.toNat) h0 (drwG_o hs hd hn) o2 o3 fun N hN => ?_) ?_
  · rw [← eh]
    exact c_drawHours Sa200 hp hN.2.2.1 hN.2.2.2.1 hs hd hn (by omega)
  · rintro N ⟨hbN, -, hN⟩
    rw [hbN.2.1]
    exact q_non hN fun M' hM' => ⟨rfl, hM'⟩
theorem b_undo {d : Nat} (h : CU M ps g n us) : EvQ (d + 4) 13 [.ref 1] M fun r M' => r = some (.int (I ((n : Int) - 1))) ∧ CU M' ps (actG (decide (0 < n)) (mixG g (us 0)) g) (n - 1) (if 0 < n then tailU us else us) ∧ Fr2 20 22 200 250 M M' := by
  obtain ⟨hb, ⟨nx, hP⟩, hU⟩ := h
  apply e_B_undo
  intro At _
  refine q_int (P := fun v M' => v = I ((n : Int) - 1) ∧ CU M' ps (actG (decide (0 < n)) (mixG g (us 0)) g) (n - 1) (if 0 < n then tailU us else us) ∧ Fr2 20 22 200 250 M M') ((c_giveBack hP).mono ?_) ?_
  · rintro r N ⟨rfl, ⟨nx', hP'⟩, h1, h2, hf⟩
    refine ⟨_, rfl, rfl, ?_, hf.mono (by omega) (by omega) (by omega) (by omega)⟩
    by_cases q : 0 < n
    · rw [decide_eq_true q]
      rw [if_pos q] at hP' ⊢
      have u0 := hU 0 q
      exact ⟨hb.fr (hf.mono (by omega) (by omega) (by omega) (by omega)) mixG_o u0.1 u0.2 ((h1 q).congr fun j j1 j2 _ => (mixG_same j1 j2).symm), ⟨nx', hP'⟩, hU.tail q⟩
    · rw [decide_eq_false q]
      rw [if_neg q] at hP' ⊢
      rw [h2 (by omega)]
      rw [h2 (by omega)] at hP'
      have e0 : n = 0 := by omega
      subst e0
      exact ⟨hb, ⟨nx', hP'⟩, hU⟩
  · rintro v M' ⟨rfl, h1, h2⟩
    exact ⟨rfl, h1, h2⟩
theorem b_tryEnd {d : Nat} (hb : CB M ps g) : EvQ (d + 6) 30 [.ref 1] M fun r M' => r = none ∧ CB M' ps g ∧ CSt M' 205 (hrsG g 48) ∧ Fr 205 209 M M' := by
  have hb0 := hb
  obtain ⟨hp, ep, hr, hc, hs, hd, hn⟩ := hb
  have h89 := hd.1.1
  apply e_B_tryToTheEnd
  intro At _
  refine q_non (c_stateCopy Sa205 Sa200 (by decide) hc) ?_
  rintro N ⟨hcN, hfN⟩
  have hbN : CB N ps g := hb0.fr (hfN.mono (by omega) (by omega)).two' SameO.refl hd hn (hc.of fun a h1 h2 => (hfN a (by omega)).1)
  rw [hbN.2.1, hcN.1.1, I_sub]
  obtain ⟨k, hk⟩ := Nn (a := 48 - g 89) (by omega)
  rw [hk]
  refine q_non (c_goHours Sa205 hp hbN.2.2.1 hcN hs hd hn (by omega)) ?_
  rintro N2 ⟨hc2, hf2⟩
  have hb2 : CB N2 ps g := hbN.fr (hf2.mono (by omega) (by omega)).two' SameO.refl hd hn (hbN.2.2.2.1.of fun a h1 h2 => (hf2 a (by omega)).1)
  refine ⟨rfl, hb2, ?_, hfN.trans hf2⟩
  rw [hrsG_cap hs hd hn, show min 48 (48 - g 89).toNat = k by omega]
  exact hc2
theorem b_when {d : Nat} (hb : CB M ps g) {w : Int} (hw : (-2147483648 ≤ w ∧ w < 2147483648)) : EvQ (d + 7) 28 [.ref 1, .int (I w)] M fun r M' => r = some (.int (I (whenA g w))) ∧ CB M' ps g ∧ Fr 205 209 M M' := by
  have hb0 := hb
  obtain ⟨hp, ep, hr, hc, hs, hd, hn⟩ := hb
  have hbn := hs.1.2.1
  apply e_B_when
  intro At _
  rw [ep]
  refine ⟨hp, _, _, c_hasHouse hp hr hs hw, ?_⟩
  rw [bI0]
  refine ⟨fun q => ⟨by simp (disch := omega) only [whenA, if_neg], hb0, Fr.refl⟩, fun q => ?_⟩
  obtain ⟨k, rfl⟩ := Nn (a := w) (by omega)
  refine ⟨_, _, c_isFlooded Sa200 hc hd (by omega), ?_⟩
  unfold whenA
  rw [Int.toNat_natCast]
  by_cases z : g (112 + k) = 0
  · rw [if_pos z, if_pos ⟨Decidable.of_not_not q, z⟩]
    refine ⟨fun _ => q_non (b_tryEnd hb0) ?_, fun r => absurd rfl r⟩
    rintro N ⟨hbN, hcN, hfN⟩
    rw [ixI (by omega) (by omega), Int.toNat_natCast, hcN.2.2.2 k (by omega)]
    exact ⟨inRI (by omega) (by omega) (by omega), rfl, hbN, hfN⟩
  · rw [if_neg z, if_neg (fun y => z y.2)]
    exact ⟨fun r => absurd r (by decide), fun _ => ⟨rfl, hb0, Fr.refl⟩⟩
theorem b_last {d : Nat} (hb : CB M ps g) : EvQ (d + 7) 29 [.ref 1] M fun r M' => r = some (.int (I (savedG (hrsG g 48)))) ∧ CB M' ps g ∧ Fr 205 209 M M' := by
  have hb0 := hb
  obtain ⟨hp, ep, hr, hc, hs, hd, hn⟩ := hb
  apply e_B_last
  intro At _
  refine q_non (b_tryEnd hb0) ?_
  rintro N ⟨hbN, hcN, hfN⟩
  obtain ⟨o1, o2, o3⟩ := hrsG_ok (n := 48) hs hd hn
  rw [hbN.2.1]
  exact ⟨_, _, c_saved Sa205 hp (CSr.same hs hbN.2.2.1 o1) hcN (hs.same o1) o2, rfl, hbN, hfN⟩
theorem oddsL_b {k : Nat} {x : Int32} : ∀ m : Nat, 0 ≤ oddsL g k x m ∧ oddsL g k x m ≤ m
  | 0 => ⟨Int.le_refl 0, Int.le_refl 0⟩
  | m + 1 => by
    have := oddsL_b (k := k) (x := x) m
    unfold oddsL
    split <;> omega
theorem b_odds {d : Nat} (hb : CB M ps g) {w m : Int} {x : Int32} (hw : (-2147483648 ≤ w ∧ w < 2147483648)) (hm : (-2147483648 ≤ m ∧ m < 2147483648)) : EvQ (d + 7) 37 [.ref 1, .int (I w), .int (I m), .int x] M fun r M' => r = some (.int (I (oddsA g w m x))) ∧ CB M' ps g ∧ Fr 205 209 M M' := by
  have hb0 := hb
  obtain ⟨hp, ep, hr, hc, hs, hd, hn⟩ := hb
  have hbn := hs.1.2.1
  apply e_B_odds
  intro At step
  rw [ep]
  refine ⟨hp, _, _, c_hasHouse hp hr hs hw, ?_⟩
  rw [bI0]
  refine ⟨fun q => ⟨by simp (disch := omega) only [oddsA, if_neg], hb0, Fr.refl⟩, fun q => ⟨_, _, c_isWithin hm (by omega) (by omega), ?_⟩⟩
  rw [bI0]
  refine ⟨fun q2 => ⟨by simp (disch := omega) only [oddsA, if_neg], hb0, Fr.refl⟩, fun q2 => ?_⟩
  obtain ⟨k, rfl⟩ := Nn (a := w) (by omega)
  obtain ⟨j, rfl⟩ := Nn (a := m) (by omega)
  have hA : oddsA g k j x = oddsL g k x j := by
    unfold oddsA
    rw [if_pos ⟨Decidable.of_not_not q, Decidable.of_not_not q2⟩, Int.toNat_natCast, Int.toNat_natCast]
  rw [hA] at step
  refine loopU (P := fun i : Nat => ∀ N : Mm, CB N ps g → Fr 205 209 M N → At 29 [.ref 1, .int (I k), .int (I j), .int x, .int (I (oddsL g k x i)), .int (I (i : Int))] [] N) (n := j) ?_ ?_ M hb0 Fr.refl
  · intro N hbN hfN
    apply s_B_odds_29 step
    rw [I_lt (by omega) (by omega) (by omega) (by omega)]
    exact ⟨fun q => absurd q (by omega), fun _ => ⟨rfl, hbN, hfN⟩⟩
  · intro i hi nx N hbN hfN
    apply s_B_odds_29 step
    rw [I_lt (by omega) (by omega) (by omega) (by omega)]
    refine ⟨fun _ => ?_, fun q => absurd (by omega) q⟩
    refine q_non (c_stateCopy Sa205 Sa200 (by decide) hbN.2.2.2.1) ?_
    rintro N1 ⟨hc1, hf1⟩
    have hb1 : CB N1 ps g := hbN.fr (hf1.mono (by omega) (by omega)).two' SameO.refl hd hn (hbN.2.2.2.1.of fun a h1 h2 => (hf1 a (by omega)).1)
    rw [hb1.2.1]
    refine q_non (c_drawHours (n := 24) Sa205 hp hb1.2.2.1 hc1 hs hd hn (by omega)) ?_
    rintro N2 ⟨hc2, hf2⟩
    have hb2 : CB N2 ps g := hb1.fr (hf2.mono (by omega) (by omega)).two' SameO.refl hd hn (hb1.2.2.2.1.of fun a h1 h2 => (hf2 a (by omega)).1)
    obtain ⟨o1, o2, o3⟩ := drwG_ok (n := 24) (x := x + I i) hs hd hn
    refine ⟨_, _, c_isFlooded Sa205 hc2 o2 (by omega), ?_⟩
    have nx := nx N2 hb2 ((hfN.trans hf1).trans hf2)
    unfold oddsL at nx
    rw [I_add, I_add, I_add]
    by_cases z : drwG g (x + I i) 24 (112 + k) = 0
    · rw [if_pos z] at nx ⊢
      exact ⟨fun _ => nx, fun r => absurd rfl r⟩
    · rw [if_neg z] at nx ⊢
      exact ⟨fun r => absurd r (by decide), fun _ => nx⟩
end CAC
