/-! ===== house and sure: the reference ===== -/
theorem r_thr1 {d : Nat} {M : Mm} : Ev (d + 1) 52 [.ref 400, .int (I 1)] M (some (.int (I 1))) (sI M 400 0 (I 1)) := by
  apply Ev.ofQ
  apply e_R_throwsIf
  intro At _
  exact ⟨fun q => absurd q (by decide), fun _ => ⟨Or.inr rfl, rfl, rfl⟩⟩
theorem r_thr0 {d : Nat} {M : Mm} : Ev (d + 1) 52 [.ref 400, .int (I 0)] M (some (.int (I 0))) (sI M 400 0 (I 0)) := by
  apply Ev.ofQ
  apply e_R_throwsIf
  intro At _
  exact ⟨fun _ => ⟨Or.inl rfl, rfl, rfl⟩, fun q => absurd rfl q⟩
def houseO (g : Nat → Int) (h x : Int) : Prop := (0 ≤ h ∧ h < g 1) ∧ (0 ≤ x ∧ x ≤ 5)
def houseV (g : Nat → Int) (h : Nat) (x : Int) : Int :=
  if x = 0 then g (13 + h) - 1 else if x = 1 then g (23 + h) else if x = 2 then g (33 + h) else if x = 3 then bt (g 100).toNat h else if x = 4 then g (112 + h) - 1 else bt (g 99).toNat h
theorem r_house {g : Nat → Int} {d : Nat} {M : Mm} (hm : M.1 402 = fun k => I (g k)) (hs : RGs g) (hd : RGd g) {h x : Int} (hh : (-2147483648 ≤ h ∧ h < 2147483648)) (hx : (-2147483648 ≤ x ∧ x < 2147483648)) : EvQ (d + 3) 97 [.ref 400, .int (I h), .int (I x)] M fun v M' => (¬ houseO g h x → v = some (.int (I 0)) ∧ M' = sI M 400 0 (I 1)) ∧ (houseO g h x → v = some (.int (I (houseV g h.toNat x))) ∧ M' = sI M 400 0 (I 0)) := by
  have h1 := hs.1.2.1
  apply e_R_house
  intro At step
  refine ⟨_, _, r_isHouse hm hs hh, fun q => ?_, fun q => ?_⟩
  · have no : ¬ houseO g h x := fun z => by
      rw [if_pos z.1] at q
      exact absurd q (by decide)
    exact ⟨_, _, r_thr1, fun z => absurd z (by decide), fun _ => ⟨fun _ => ⟨rfl, rfl⟩, fun z => absurd z no⟩⟩
  have qh : 0 ≤ h ∧ h < g 1 := Classical.byContradiction fun z => q (by rw [if_neg z])
  refine ⟨_, _, v_isIn (by omega) (by omega) (by omega), fun q => ?_, fun q => ?_⟩
  · have no : ¬ houseO g h x := fun z => by
      rw [if_pos z.2] at q
      exact absurd q (by decide)
    exact ⟨_, _, r_thr1, fun z => absurd z (by decide), fun _ => ⟨fun _ => ⟨rfl, rfl⟩, fun z => absurd z no⟩⟩
  have qx : 0 ≤ x ∧ x ≤ 5 := Classical.byContradiction fun z => q (by rw [if_neg z])
  have ok : houseO g h x := ⟨qh, qx⟩
  refine ⟨_, _, r_thr0, fun _ => ?_, fun z => absurd rfl z⟩
  obtain ⟨hn, ehn⟩ := Nn qh.1
  subst ehn
  rw [Int.toNat_natCast] at step
  have e : ∀ k, (sI M 400 0 (I 0)).1 402 k = I (g k) := fun k => by rw [mI_fn (by decide), hm]
  have b1 := hd.1.2.2.2.2.2.2.2.2.2.2.1
  have b2 := hd.1.2.2.2.2.2.2.2.2.2.2.2
  obtain ⟨u1, hu1⟩ := Nn b1.1
  obtain ⟨u2, hu2⟩ := Nn b2.1
  have e99 : (sI M 400 0 (I 0)).1 402 99 = I (u1 : Int) := by rw [e, hu1]
  have e100 : (sI M 400 0 (I 0)).1 402 100 = I (u2 : Int) := by rw [e, hu2]
  rw [I_ne (by omega) (by omega) (by omega) (by omega), I_ne (by omega) (by omega) (by omega) (by omega), I_ne (by omega) (by omega) (by omega) (by omega), I_ne (by omega) (by omega) (by omega) (by omega), I_ne (by omega) (by omega) (by omega) (by omega), e99, e100, I_and_1 (by omega) (by omega), I_and_1 (by omega) (by omega)]
  unfold houseV at step ⊢
  rw [hu1, hu2]
  simp only [Int.toNat_natCast]
  simp (disch := omega) only [e, I_add, I_sub, I_mul, I_div, ixI, Int.toNat_add, Int.toNat_natCast, Int.reduceToNat, I_lt, I_ne, ite_I]
  refine ⟨fun q => ⟨inRI (by omega) (by omega) (by omega), ?_⟩, fun q => ⟨inRI (by omega) (by omega) (by omega), ?_⟩, fun q => ⟨inRI (by omega) (by omega) (by omega), ?_⟩, fun q => ?_, fun q => ⟨inRI (by omega) (by omega) (by omega), ?_⟩, fun q => ?_⟩
  · exact ⟨fun z => absurd ok z, fun _ => ⟨by rw [if_pos q], by trivial⟩⟩
  · exact ⟨fun z => absurd ok z, fun _ => ⟨by rw [if_neg (by omega), if_pos q], by trivial⟩⟩
  · exact ⟨fun z => absurd ok z, fun _ => ⟨by rw [if_neg (by omega), if_neg (by omega), if_pos q], by trivial⟩⟩
  · exact ⟨fun z => absurd ok z, fun _ => ⟨by rw [if_neg (by omega), if_neg (by omega), if_neg (by omega), if_pos q], by trivial⟩⟩
  · exact ⟨fun z => absurd ok z, fun _ => ⟨by rw [if_neg (by omega), if_neg (by omega), if_neg (by omega), if_neg (by omega), if_pos q], by trivial⟩⟩
  · exact ⟨fun z => absurd ok z, fun _ => ⟨by rw [if_neg (by omega), if_neg (by omega), if_neg (by omega), if_neg (by omega), if_neg (by omega)], by trivial⟩⟩
/-- the odds of the crests from l up, and of those up to h among them -/
def froG (g : Nat → Int) (l : Int) : Int := sumL (fun k => if g (61 + k) < l then 0 else g (67 + k)) (g 3).toNat
def uptG (g : Nat → Int) (h l : Int) : Int := sumL (fun k => if g (61 + k) < l then 0 else if h < g (61 + k) then 0 else g (67 + k)) (g 3).toNat
theorem froG_b {g : Nat → Int} (hs : RGs g) {l : Int} : 0 ≤ froG g l ∧ froG g l ≤ 594 := by
  have h3 := hs.1.2.2.2.1
  have hb := sumL_b (f := fun k => if g (61 + k) < l then 0 else g (67 + k)) (c := 99) (N := (g 3).toNat) (fun k hk => by have := hs.2.2.2.2.1 k (by omega); split <;> omega) (by decide) _ (Nat.le_refl _)
  unfold froG
  omega
theorem uptG_b {g : Nat → Int} (hs : RGs g) {h l : Int} : 0 ≤ uptG g h l ∧ uptG g h l ≤ 594 := by
  have h3 := hs.1.2.2.2.1
  have hb := sumL_b (f := fun k => if g (61 + k) < l then 0 else if h < g (61 + k) then 0 else g (67 + k)) (c := 99) (N := (g 3).toNat) (fun k hk => by have := hs.2.2.2.2.1 k (by omega); split <;> (try split) <;> omega) (by decide) _ (Nat.le_refl _)
  unfold uptG
  omega
theorem uptG_d {g : Nat → Int} {h l : Int} : uptG g h l = froG g l - froG g (if h + 1 ≤ l then l else h + 1) := by
  have : uptG g h l + froG g (if h + 1 ≤ l then l else h + 1) = froG g l := by
    unfold uptG froG
    rw [← sumL_add]
    exact sumL_congr fun k _ => by
      split <;> split <;> (try split) <;> (try split) <;> omega
  omega
def sureO (g : Nat → Int) (h l x : Int) : Prop := (0 ≤ h ∧ h ≤ 60) ∧ (0 ≤ l ∧ l ≤ 60) ∧ (0 ≤ x ∧ x ≤ 1) ∧ froG g l ≠ 0
def sureV (g : Nat → Int) (h l x : Int) : Int := fracA (uptG g h l).toNat (froG g l).toNat x
theorem r_sure {g : Nat → Int} {d : Nat} {M : Mm} (hm : M.1 402 = fun k => I (g k)) (hs : RGs g) {h l x : Int} (hh : (-2147483648 ≤ h ∧ h < 2147483648)) (hl : (-2147483648 ≤ l ∧ l < 2147483648)) (hx : (-2147483648 ≤ x ∧ x < 2147483648)) : EvQ (d + 2) 129 [.ref 400, .int (I h), .int (I l), .int (I x)] M fun v M' => (¬ sureO g h l x → v = some (.int (I 0)) ∧ M' = sI M 400 0 (I 1)) ∧ (sureO g h l x → v = some (.int (I (sureV g h l x))) ∧ M' = sI M 400 0 (I 0)) := by
  have h3 := hs.1.2.2.2.1
  obtain ⟨nc, hnc⟩ := Nn h3.1
  have enc : (g 3).toNat = nc := by omega
  have e : ∀ k, M.1 402 k = I (g k) := fun k => by rw [hm]
  have fb := froG_b hs (l := l)
  have ub := uptG_b hs (h := h) (l := l)
  apply e_R_sure
  intro At step
  have hL := loopU (P := fun k : Nat => At 9 [.ref 400, .int (I h), .int (I l), .int (I x), .int (I (sumL (fun k => if g (61 + k) < l then 0 else g (67 + k)) k)), .int (I (sumL (fun k => if g (61 + k) < l then 0 else if h < g (61 + k) then 0 else g (67 + k)) k)), .int (I k)] [] M) (n := nc) ?_ ?_
  · exact hL
  · apply s_R_sure_9 step
    rw [e 3, hnc, I_lt (by omega) (by omega) (by omega) (by omega)]
    refine ⟨fun q => absurd q (by omega), fun _ => ?_⟩
    rw [← enc]
    change ∃ v N, _ ∧ _
    rw [show sumL (fun k => if g (61 + k) < l then 0 else g (67 + k)) (g 3).toNat = froG g l from rfl, show sumL (fun k => if g (61 + k) < l then 0 else if h < g (61 + k) then 0 else g (67 + k)) (g 3).toNat = uptG g h l from rfl]
    refine ⟨_, _, v_isIn (by omega) (by omega) (by omega), fun q => ?_, fun q => ?_⟩
    · have no : ¬ sureO g h l x := fun z => by
        rw [if_pos z.1] at q
        exact absurd q (by decide)
      exact ⟨_, _, r_thr1, fun z => absurd z (by decide), fun _ => ⟨fun _ => ⟨rfl, rfl⟩, fun z => absurd z no⟩⟩
    have qh : 0 ≤ h ∧ h ≤ 60 := Classical.byContradiction fun z => q (by rw [if_neg z])
    refine ⟨_, _, v_isIn (by omega) (by omega) (by omega), fun q => ?_, fun q => ?_⟩
    · have no : ¬ sureO g h l x := fun z => by
        rw [if_pos z.2.1] at q
        exact absurd q (by decide)
      exact ⟨_, _, r_thr1, fun z => absurd z (by decide), fun _ => ⟨fun _ => ⟨rfl, rfl⟩, fun z => absurd z no⟩⟩
    have ql : 0 ≤ l ∧ l ≤ 60 := Classical.byContradiction fun z => q (by rw [if_neg z])
    refine ⟨_, _, v_isIn (by omega) (by omega) (by omega), fun q => ?_, fun q => ?_⟩
    · have no : ¬ sureO g h l x := fun z => by
        rw [if_pos z.2.2.1] at q
        exact absurd q (by decide)
      exact ⟨_, _, r_thr1, fun z => absurd z (by decide), fun _ => ⟨fun _ => ⟨rfl, rfl⟩, fun z => absurd z no⟩⟩
    have qx : 0 ≤ x ∧ x ≤ 1 := Classical.byContradiction fun z => q (by rw [if_neg z])
    rw [I_ne (by omega) (by omega) (by omega) (by omega)]
    refine ⟨fun q => ?_, fun q => ?_⟩
    · have no : ¬ sureO g h l x := fun z => z.2.2.2 q
      exact ⟨_, _, r_thr1, fun z => absurd z (by decide), fun _ => ⟨fun _ => ⟨rfl, rfl⟩, fun z => absurd z no⟩⟩
    have ok : sureO g h l x := ⟨qh, ql, qx, q⟩
    refine ⟨_, _, r_thr0, fun _ => ?_, fun z => absurd rfl z⟩
    unfold sureV at step ⊢
    obtain ⟨an, han⟩ := Nn ub.1
    obtain ⟨bn, hbn⟩ := Nn fb.1
    rw [han, hbn, Int.toNat_natCast, Int.toNat_natCast]
    exact ⟨_, _, r_part (by omega) (by omega) (by omega) hx, fun z => absurd ok z, fun _ => ⟨rfl, rfl⟩⟩
  · intro k hk nx
    apply s_R_sure_9 step
    have bk := hs.2.2.2.2.1 k (by omega)
    have i1 : inR (I (61 + (k : Int))) 303 := inRI (by omega) (by omega) (by omega)
    have i2 : inR (I (67 + (k : Int))) 303 := inRI (by omega) (by omega) (by omega)
    unfold sumL at nx
    generalize sumL (fun k => if g (61 + k) < l then 0 else g (67 + k)) k = S1 at nx ⊢
    generalize sumL (fun k => if g (61 + k) < l then 0 else if h < g (61 + k) then 0 else g (67 + k)) k = S2 at nx ⊢
    simp (disch := omega) only [e, hnc, I_add, I_sub, I_mul, I_div, ixI, Int.toNat_add, Int.toNat_natCast, Int.reduceToNat, I_lt, I_ne, ite_I]
    refine ⟨fun _ => ⟨i1, fun q => ?_, fun q => ⟨i2, i1, fun q2 => ?_, fun q2 => ⟨i2, ?_⟩⟩⟩, fun q => absurd (by omega) q⟩
    · rw [if_pos q, if_pos q, Int.add_zero, Int.add_zero] at nx
      exact nx
    · rw [if_neg q, if_neg q, if_pos q2] at nx
      exact nx
    · rw [if_neg q, if_neg q, if_neg q2] at nx
      exact nx
