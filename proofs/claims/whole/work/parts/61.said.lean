/-! ===== what may be said of a house: the sentence's codes ===== -/
def cdC (g : Nat → Int) (i : Nat) : Int := g (123 + 3 * i)
def cdS (g : Nat → Int) (i : Nat) : Int := g (124 + 3 * i)
def cdN (g : Nat → Int) (i : Nat) : Int := g (125 + 3 * i)
def dpG (g : Nat → Int) : Nat → Nat
  | 0 => 0
  | i + 1 => if cdC g i = 20 then dpG g i else if cdC g i = 21 ∨ cdC g i = 22 then dpG g i - 1 else dpG g i + 1
/-- the codes are a whole sentence's, each behind its parts -/
def SG (g : Nat → Int) : Prop := (0 ≤ g 122 ∧ g 122 ≤ 40) ∧ (0 < g 122 → dpG g (g 122).toNat = 1) ∧ ∀ i : Nat, (i : Int) < g 122 →
  ((0 ≤ cdC g i ∧ cdC g i ≤ 7) ∧ dpG g i < 20 ∧ (0 ≤ cdN g i ∧ cdN g i ≤ 999) ∧ (5 ≤ cdC g i → cdS g i = 60 ∨ cdS g i = 61 ∨ cdS g i = 62) ∧ (0 ≤ cdS g i ∧ cdS g i ≤ 62)) ∨ (cdC g i = 20 ∧ 1 ≤ dpG g i) ∨ ((cdC g i = 21 ∨ cdC g i = 22) ∧ 2 ≤ dpG g i)
def vbA (c : Int) : Nat := if c = 0 then 616 else if c = 1 then 617 else if c = 2 then 602 else if c = 3 then 618 else if c = 4 then 619 else if c = 5 then 620 else if c = 6 then 621 else if c = 7 then 622 else if c = 20 then 615 else if c = 21 then 614 else 613
/-- the class's sentence at o -/
def CSq (M : Mm) (o : Nat) (g : Nat → Int) : Prop := M.1 o 4 = I (g 122) ∧ (∀ i : Nat, (i : Int) < g 122 → M.2.2 (o + 1) i = vbA (cdC g i) ∧ M.1 (o + 2) i = I (cdS g i) ∧ M.1 (o + 3) i = I (cdN g i)) ∧ (M.1 o 5 = I 0 ↔ g 122 = 0)
def cmpT (v s n : Int) : Bool := if s = 60 then decide (v < n) else if s = 61 then decide (v = n) else decide (n < v)
def leafT (g : Nat → Int) (i h : Nat) : Bool :=
  if cdC g i = 0 then decide (g (112 + h) ≠ 0) else if cdC g i = 1 then decide (bt (g 99).toNat h = 1) else if cdC g i = 2 then decide (g (13 + h) = 0)
  else if cdC g i = 3 then decide (g (112 + h) = 0) && !(floodB g (g 2).toNat (g 98).toNat h (river g (g 89)))
  else if cdC g i = 4 then decide (g (13 + h) = cdN g i + 1)
  else if cdC g i = 5 then cmpT (g (23 + h)) (cdS g i) (cdN g i) else if cdC g i = 6 then cmpT (g (33 + h)) (cdS g i) (cdN g i) else cmpT h (cdS g i) (cdN g i)
def evG (g : Nat → Int) (h : Nat) : Nat → Nat → Bool
  | 0 => fun _ => false
  | i + 1 => if cdC g i = 20 then upf (evG g h i) (dpG g i - 1) (!(evG g h i (dpG g i - 1)))
    else if cdC g i = 21 then upf (evG g h i) (dpG g i - 2) (evG g h i (dpG g i - 2) && evG g h i (dpG g i - 1))
    else if cdC g i = 22 then upf (evG g h i) (dpG g i - 2) (evG g h i (dpG g i - 2) || evG g h i (dpG g i - 1))
    else upf (evG g h i) (dpG g i) (leafT g i h)
def sayT (g : Nat → Int) (h : Nat) : Bool := evG g h (g 122).toNat 0
theorem dpG_s {g : Nat → Int} {i : Nat} : dpG g (i + 1) = if cdC g i = 20 then dpG g i else if cdC g i = 21 ∨ cdC g i = 22 then dpG g i - 1 else dpG g i + 1 := rfl
theorem evG_s {g : Nat → Int} {h i : Nat} : evG g h (i + 1) = if cdC g i = 20 then upf (evG g h i) (dpG g i - 1) (!(evG g h i (dpG g i - 1)))
    else if cdC g i = 21 then upf (evG g h i) (dpG g i - 2) (evG g h i (dpG g i - 2) && evG g h i (dpG g i - 1))
    else if cdC g i = 22 then upf (evG g h i) (dpG g i - 2) (evG g h i (dpG g i - 2) || evG g h i (dpG g i - 1))
    else upf (evG g h i) (dpG g i) (leafT g i h) := rfl
theorem dpG_20 {g : Nat → Int} (hq : SG g) : ∀ i : Nat, (i : Int) ≤ g 122 → dpG g i ≤ 20
  | 0, _ => Nat.zero_le _
  | i + 1, h => by
    have ih := dpG_20 hq i (by omega)
    have hc := hq.2.2 i (by omega)
    rw [dpG_s]
    split
    · exact ih
    · split
      · omega
      · omega
theorem setL_and {P R : Nat → Bool} {n : Nat} (hn : n ≤ 10) : setL P n &&& setL R n = setL (fun k => P k && R k) n := by
  have h1 := setL_lt10 P hn
  refine bt_ext (Nat.lt_of_le_of_lt Nat.and_le_left h1) (setL_lt10 _ hn) fun k hk => ?_
  rw [bt_tb, Nat.testBit_and]
  have a := bt_setL (P := P) (n := n) (k := k)
  have b := bt_setL (P := R) (n := n) (k := k)
  have c := bt_setL (P := fun k => P k && R k) (n := n) (k := k)
  rw [bt_tb] at a b
  rw [c]
  cases hx : (setL P n).testBit k <;> cases hy : (setL R n).testBit k <;> cases hP : P k <;> cases hR : R k <;> by_cases q : k < n <;> simp_all
theorem setL_or {P R : Nat → Bool} {n : Nat} (hn : n ≤ 10) : setL P n ||| setL R n = setL (fun k => P k || R k) n := by
  have h1 := setL_lt10 P hn
  have h2 := setL_lt10 R hn
  refine bt_ext (Nat.or_lt_two_pow (n := 10) h1 h2) (setL_lt10 _ hn) fun k hk => ?_
  rw [bt_or, bt_setL, bt_setL, bt_setL]
  cases hP : P k <;> cases hR : R k <;> by_cases q : k < n <;> simp_all
theorem setL_not {P : Nat → Bool} {n : Nat} (hn : n ≤ 10) : les (2 ^ n - 1) (setL P n) = setL (fun k => !(P k)) n := by
  have hp : 2 ^ n ≤ 1024 := Nat.le_trans (Nat.pow_le_pow_right (by decide) hn) (by decide)
  have hp0 : 0 < 2 ^ n := Nat.pow_pos (by decide)
  refine bt_ext (les_lt (by omega)) (setL_lt10 _ hn) fun k hk => ?_
  rw [bt_les hk, bt_setL, bt_setL, bt_tb, Nat.testBit_two_pow_sub_one]
  cases hP : P k <;> by_cases q : k < n <;> simp_all
theorem shl10 : ∀ k : Nat, k < 11 → (I 1 <<< (I (k : Int) &&& 31)) - I 1 = I ((2 ^ k - 1 : Nat) : Int) := by decide +kernel
theorem St_Se {p o : Nat} (hp : St p) (h : Se o) : p + 17 ≤ o ∨ o + 5 ≤ p := by
  rcases hp with rfl | rfl | rfl | rfl <;> rcases h with rfl | rfl | rfl | rfl <;> decide
theorem Se_far {o : Nat} (h : Se o) : 205 + 45 ≤ o := by
  rcases h with rfl | rfl | rfl | rfl <;> decide
section SAI
variable {M : Mm} {ps so : Nat} {g : Nat → Int}
theorem c_compares {d : Nat} (ho : Se so) {v s n : Int} {i : Nat} (hi : i < 40) (e2 : M.1 (so + 2) i = I s) (e3 : M.1 (so + 3) i = I n) (hs : s = 60 ∨ s = 61 ∨ s = 62) (hn : 0 ≤ n ∧ n ≤ 999) (hv : (-2147483648 ≤ v ∧ v < 2147483648)) : Ev (d + 1) 206 [.ref so, .int (I v), .int (I i)] M (some (.int (I (if cmpT v s n = true then 1 else 0)))) M := by
  apply Ev.ofQ
  apply e_Sentence_compares ho
  intro At _
  have hi4 : inR (I (i : Int)) 40 := inRI (by omega) (by omega) (by omega)
  unfold cmpT
  rw [ixI (by omega) (by omega), Int.toNat_natCast, e2, e3, I_lt (by omega) (by omega) (by omega) (by omega), I_lt (by omega) (by omega) (by omega) (by omega), I_ne (by omega) (by omega) (by omega) (by omega), I_ne (by omega) (by omega) (by omega) (by omega), I_ne (by omega) (by omega) (by omega) (by omega)]
  refine ⟨hi4, fun q => ⟨hi4, fun q2 => ?_, fun q2 => ?_⟩, fun q => ⟨hi4, fun q1 => ⟨hi4, fun q2 => ?_, fun q2 => ?_⟩, fun q1 => ⟨hi4, fun q2 => ?_, fun q2 => ?_⟩⟩⟩
  · rw [if_pos q, if_pos (decide_eq_true q2)]
    exact ⟨rfl, rfl⟩
  · rw [if_pos q, if_neg (by simpa using q2)]
    exact ⟨rfl, rfl⟩
  · rw [if_neg q, if_neg (show ¬ s = 61 by omega), if_pos (decide_eq_true q2)]
    exact ⟨rfl, rfl⟩
  · rw [if_neg q, if_neg (show ¬ s = 61 by omega), if_neg (by simpa using q2)]
    exact ⟨rfl, rfl⟩
  · rw [if_neg q, if_pos (show s = 61 by omega), if_pos (decide_eq_true q2)]
    exact ⟨rfl, rfl⟩
  · rw [if_neg q, if_pos (show s = 61 by omega), if_neg (by simpa using q2)]
    exact ⟨rfl, rfl⟩
theorem c_isSo {d : Nat} (ho : Se so) (hp : St ps) (hr : CSr M ps g) (hc : CSt M 200 g) (hs : RGs g) (hd : RGd g) (hq : SG g) (hsq : CSq M so g) {i h : Nat} (hi : (i : Int) < g 122) (hl : cdC g i ≤ 7) (hh : (h : Int) < g 1) : Ev (d + 4) 205 [.ref so, .ref ps, .ref 200, .int (I i), .int (I h)] M (some (.int (I (if leafT g i h = true then 1 else 0)))) M := by
  have h0 := hs.1.1
  have h1 := hs.1.2.1
  have hrv := river_b hs hd (g 89)
  have bh := hs.2.2.1 h (by omega)
  have rh := hr.2.2.1 h hh
  have b1 := hd.1.2.2.2.2.2.2.2.2.2.2.1
  obtain ⟨u1, hu1⟩ := Nn b1.1
  have e10 := hc.1.2.2.2.2.2.2.2.2.2.2
  rw [hu1] at e10
  have sq := hsq.2.1 i hi
  have h40 : (i : Int) < 40 := by have := hq.1; omega
  have hcd := hq.2.2 i hi
  have hC : 0 ≤ cdC g i ∧ cdC g i ≤ 7 := by omega
  have hN : 0 ≤ cdN g i ∧ cdN g i ≤ 999 := by
    rcases hcd with z | z | z
    · exact z.2.2.1
    · omega
    · omega
  have hS : 5 ≤ cdC g i → cdS g i = 60 ∨ cdS g i = 61 ∨ cdS g i = 62 := by
    rcases hcd with z | z | z
    · exact z.2.2.2.1
    · omega
    · omega
  have i4 : inR (I (i : Int)) 40 := inRI (by omega) (by omega) (by omega)
  have i10 : inR (I (h : Int)) 10 := inRI (by omega) (by omega) (by omega)
  have bool01 : ∀ b : Bool, (I (if b = true then 1 else 0) : Int32) = I 0 ∨ (I (if b = true then 1 else 0) : Int32) = I 1 := fun b => by cases b <;> simp
  apply Ev.ofQ
  apply e_Sentence_isSo ho hp Sa200
  intro At _
  refine ⟨i4, ?_⟩
  rw [ixI (a := (i : Int)) (by omega) (by omega), ixI (a := (h : Int)) (by omega) (by omega), Int.toNat_natCast, Int.toNat_natCast, sq.1, sq.2.2, rh.1, rh.2.1, rh.2.2, e10]
  generalize hc0 : cdC g i = c at *
  have hcs : c = 0 ∨ c = 1 ∨ c = 2 ∨ c = 3 ∨ c = 4 ∨ c = 5 ∨ c = 6 ∨ c = 7 := by omega
  have hI : ∀ x : Int, 0 ≤ x → x < 23 → inR (I x) 23 := fun x a b => inRI (by omega) (by omega) (by omega)
  have tab : ∀ x : Nat, (I (((600 + x) - 600 : Nat) : Int)) = I (x : Int) := fun x => by rw [Nat.add_sub_cancel_left]
  rcases hcs with z | z | z | z | z | z | z | z
  · subst z
    have hT : leafT g i h = decide (g (112 + h) ≠ 0) := by
      unfold leafT
      rw [hc0]
      rfl
    rw [hT, show vbA 0 = 616 from rfl]
    refine ⟨fun q => absurd q (by decide), fun _ => ⟨by decide, hI _ (by decide) (by decide), ?_⟩⟩
    rw [show (I (swTab (I ((616 - 600 : Nat) : Int)).toNatClampNeg)) = I 9 from by decide]
    refine ⟨fun _ => ⟨_, _, c_isFlooded Sa200 hc hd (by omega), ?_, ?_⟩, fun q => absurd q (by decide), fun q => absurd q (by decide), fun q => absurd q (by decide), fun q => absurd q (by decide), fun q => absurd q (by decide), fun q => absurd q (by decide), fun q => absurd q (by decide), fun q => absurd q (by decide)⟩
    · split <;> simp
    · by_cases w : g (112 + h) = 0
      · rw [if_pos w, if_neg (by simp [w])]
        exact ⟨rfl, rfl⟩
      · rw [if_neg w, if_pos (by simp [w])]
        exact ⟨rfl, rfl⟩
  · subst z
    have hT : leafT g i h = decide (bt (g 99).toNat h = 1) := by
      unfold leafT
      rw [hc0]
      rfl
    rw [hT, show vbA 1 = 617 from rfl]
    refine ⟨fun q => absurd q (by decide), fun _ => ⟨by decide, hI _ (by decide) (by decide), ?_⟩⟩
    rw [show (I (swTab (I ((617 - 600 : Nat) : Int)).toNatClampNeg)) = I 10 from by decide]
    refine ⟨fun q => absurd q (by decide), fun _ => ⟨_, _, c_bit (by omega) (by omega), ?_⟩, fun q => absurd q (by decide), fun q => absurd q (by decide), fun q => absurd q (by decide), fun q => absurd q (by decide), fun q => absurd q (by decide), fun q => absurd q (by decide), fun q => absurd q (by decide)⟩
    rw [hu1, Int.toNat_natCast]
    have := bt_lt u1 h
    rw [I_ne (by omega) (by omega) (by omega) (by omega)]
    refine ⟨fun q => ?_, fun q => ?_⟩
    · rw [if_pos (decide_eq_true (by omega))]
      exact ⟨rfl, rfl⟩
    · rw [if_neg (by simpa using (by omega : ¬ bt u1 h = 1))]
      exact ⟨rfl, rfl⟩
  · subst z
    have hT : leafT g i h = decide (g (13 + h) = 0) := by
      unfold leafT
      rw [hc0]
      rfl
    rw [hT, show vbA 2 = 602 from rfl]
    refine ⟨fun q => absurd q (by decide), fun _ => ⟨by decide, hI _ (by decide) (by decide), ?_⟩⟩
    rw [show (I (swTab (I ((602 - 600 : Nat) : Int)).toNatClampNeg)) = I 11 from by decide]
    refine ⟨fun q => absurd q (by decide), fun q => absurd q (by decide), fun _ => ⟨i10, ?_⟩, fun q => absurd q (by decide), fun q => absurd q (by decide), fun q => absurd q (by decide), fun q => absurd q (by decide), fun q => absurd q (by decide), fun q => absurd q (by decide)⟩
    rw [I_ne (by omega) (by omega) (by omega) (by omega)]
    refine ⟨fun q => ?_, fun q => ?_⟩
    · rw [if_pos (decide_eq_true (by omega))]
      exact ⟨rfl, rfl⟩
    · rw [if_neg (by simpa using (by omega : ¬ g (13 + h) = 0))]
      exact ⟨rfl, rfl⟩
  · subst z
    have hT : leafT g i h = (decide (g (112 + h) = 0) && !(floodB g (g 2).toNat (g 98).toNat h (river g (g 89)))) := by
      unfold leafT
      rw [hc0]
      rfl
    rw [hT, show vbA 3 = 618 from rfl]
    refine ⟨fun q => absurd q (by decide), fun _ => ⟨by decide, hI _ (by decide) (by decide), ?_⟩⟩
    rw [show (I (swTab (I ((618 - 600 : Nat) : Int)).toNatClampNeg)) = I 12 from by decide]
    refine ⟨fun q => absurd q (by decide), fun q => absurd q (by decide), fun q => absurd q (by decide), fun _ => ⟨_, _, c_isFlooded Sa200 hc hd (by omega), fun q => ?_, fun q => ?_⟩, fun q => absurd q (by decide), fun q => absurd q (by decide), fun q => absurd q (by decide), fun q => absurd q (by decide), fun q => absurd q (by decide)⟩
    · have w : g (112 + h) = 0 := Classical.byContradiction fun z => by
        rw [if_neg z] at q
        exact absurd q (by decide)
      refine ⟨_, _, c_river Sa200 hp hr hc hs hd, _, _, c_wouldFlood Sa200 hp hr hc hs hd hh (by omega), ?_⟩
      cases hf : floodB g (g 2).toNat (g 98).toNat h (river g (g 89)) with
      | true =>
        refine ⟨fun z => absurd z (by decide), fun _ => ?_⟩
        rw [if_neg (by simp)]
        exact ⟨rfl, rfl⟩
      | false =>
        refine ⟨fun _ => ?_, fun z => absurd rfl z⟩
        rw [if_pos (by simp [w])]
        exact ⟨rfl, rfl⟩
    · have w : ¬ g (112 + h) = 0 := fun z => q (by rw [if_pos z])
      rw [if_neg (by simp [w])]
      exact ⟨rfl, rfl⟩
  · subst z
    have hT : leafT g i h = decide (g (13 + h) = cdN g i + 1) := by
      unfold leafT
      rw [hc0]
      rfl
    rw [hT, show vbA 4 = 619 from rfl]
    refine ⟨fun q => absurd q (by decide), fun _ => ⟨by decide, hI _ (by decide) (by decide), ?_⟩⟩
    rw [show (I (swTab (I ((619 - 600 : Nat) : Int)).toNatClampNeg)) = I 13 from by decide]
    refine ⟨fun q => absurd q (by decide), fun q => absurd q (by decide), fun q => absurd q (by decide), fun q => absurd q (by decide), fun _ => ⟨i10, i4, ?_⟩, fun q => absurd q (by decide), fun q => absurd q (by decide), fun q => absurd q (by decide), fun q => absurd q (by decide)⟩
    rw [I_ne (by omega) (by omega) (by omega) (by omega)]
    refine ⟨fun q => ?_, fun q => ?_⟩
    · rw [if_pos (decide_eq_true (by omega))]
      exact ⟨rfl, rfl⟩
    · rw [if_neg (by simpa using (by omega : ¬ g (13 + h) = cdN g i + 1))]
      exact ⟨rfl, rfl⟩
  · subst z
    have hT : leafT g i h = cmpT (g (23 + h)) (cdS g i) (cdN g i) := by
      unfold leafT
      rw [hc0]
      rfl
    rw [hT, show vbA 5 = 620 from rfl]
    refine ⟨fun q => absurd q (by decide), fun _ => ⟨by decide, hI _ (by decide) (by decide), ?_⟩⟩
    rw [show (I (swTab (I ((620 - 600 : Nat) : Int)).toNatClampNeg)) = I 14 from by decide]
    refine ⟨fun q => absurd q (by decide), fun q => absurd q (by decide), fun q => absurd q (by decide), fun q => absurd q (by decide), fun q => absurd q (by decide), fun _ => ⟨i10, _, _, c_compares ho (by omega) sq.2.1 sq.2.2 (hS (by decide)) hN (by omega), bool01 _, rfl, rfl⟩, fun q => absurd q (by decide), fun q => absurd q (by decide), fun q => absurd q (by decide)⟩
  · subst z
    have hT : leafT g i h = cmpT (g (33 + h)) (cdS g i) (cdN g i) := by
      unfold leafT
      rw [hc0]
      rfl
    rw [hT, show vbA 6 = 621 from rfl]
    refine ⟨fun q => absurd q (by decide), fun _ => ⟨by decide, hI _ (by decide) (by decide), ?_⟩⟩
    rw [show (I (swTab (I ((621 - 600 : Nat) : Int)).toNatClampNeg)) = I 15 from by decide]
    refine ⟨fun q => absurd q (by decide), fun q => absurd q (by decide), fun q => absurd q (by decide), fun q => absurd q (by decide), fun q => absurd q (by decide), fun q => absurd q (by decide), fun _ => ⟨i10, _, _, c_compares ho (by omega) sq.2.1 sq.2.2 (hS (by decide)) hN (by omega), bool01 _, rfl, rfl⟩, fun q => absurd q (by decide), fun q => absurd q (by decide)⟩
  · subst z
    have hT : leafT g i h = cmpT h (cdS g i) (cdN g i) := by
      unfold leafT
      rw [hc0]
      rfl
    rw [hT, show vbA 7 = 622 from rfl]
    refine ⟨fun q => absurd q (by decide), fun _ => ⟨by decide, hI _ (by decide) (by decide), ?_⟩⟩
    rw [show (I (swTab (I ((622 - 600 : Nat) : Int)).toNatClampNeg)) = I 16 from by decide]
    refine ⟨fun q => absurd q (by decide), fun q => absurd q (by decide), fun q => absurd q (by decide), fun q => absurd q (by decide), fun q => absurd q (by decide), fun q => absurd q (by decide), fun q => absurd q (by decide), fun _ => ⟨_, _, c_compares ho (by omega) sq.2.1 sq.2.2 (hS (by decide)) hN (by omega), bool01 _, rfl, rfl⟩, fun q => absurd q (by decide)⟩
theorem c_housesOfStep {d : Nat} (ho : Se so) (hp : St ps) (hr : CSr M ps g) (hc : CSt M 200 g) (hs : RGs g) (hd : RGd g) (hq : SG g) (hsq : CSq M so g) {i : Nat} (hi : (i : Int) < g 122) (hl : cdC g i ≤ 7) : Ev (d + 5) 204 [.ref so, .ref ps, .ref 200, .int (I i)] M (some (.int (I (setL (fun h => leafT g i h) (g 1).toNat : Nat)))) M := by
  have h1 := hs.1.2.1
  obtain ⟨nh, hnh⟩ := Nn h1.1
  have enh : (g 1).toNat = nh := by omega
  rw [enh]
  have e7 := hr.1.2.1
  rw [hnh] at e7
  apply Ev.ofQ
  apply e_Sentence_housesOfStep ho hp Sa200
  intro At step
  refine loopU (P := fun k : Nat => At 6 [.ref so, .ref ps, .ref 200, .int (I i), .int (I (setL (fun h => leafT g i h) k : Nat)), .int (I k)] [] M) (n := nh) ?_ ?_
  · apply s_Sentence_housesOfStep_6 ho hp Sa200 step
    rw [e7, I_lt (by omega) (by omega) (by omega) (by omega)]
    exact ⟨fun q => absurd q (by omega), fun _ => ⟨rfl, rfl⟩⟩
  · intro k hk nx
    apply s_Sentence_housesOfStep_6 ho hp Sa200 step
    rw [e7, I_lt (by omega) (by omega) (by omega) (by omega)]
    refine ⟨fun _ => ⟨_, _, c_isSo ho hp hr hc hs hd hq hsq hi hl (by omega), ?_⟩, fun q => absurd (by omega) q⟩
    cases hT : leafT g i k with
    | true =>
      rw [or_T (P := fun h => leafT g i h) hT (by omega), I_add]
      exact ⟨fun z => absurd z (by decide), fun _ => nx⟩
    | false =>
      rw [or_F (P := fun h => leafT g i h) hT, I_add]
      exact ⟨fun _ => nx, fun z => absurd rfl z⟩
theorem vbA_leaf {c : Int} (h : 0 ≤ c ∧ c ≤ 7) : rE (vbA c) ∧ ¬ vbA c = 615 ∧ ¬ vbA c = 614 ∧ ¬ vbA c = 613 := by
  have hcs : c = 0 ∨ c = 1 ∨ c = 2 ∨ c = 3 ∨ c = 4 ∨ c = 5 ∨ c = 6 ∨ c = 7 := by omega
  rcases hcs with z | z | z | z | z | z | z | z <;> subst z <;> exact ⟨Or.inr (by decide), by decide, by decide, by decide⟩
def SF (so : Nat) (M M' : Mm) : Prop := (∀ a, a ≠ so + 4 → M'.1 a = M.1 a) ∧ M'.2 = M.2
theorem CSq.sf {M' : Mm} (h : CSq M so g) (f : SF so M M') : CSq M' so g := by
  obtain ⟨h1, h2, h3⟩ := h
  have e : M'.1 so = M.1 so := f.1 so (by omega)
  refine ⟨by rw [e]; exact h1, fun i hi => ?_, by rw [e]; exact h3⟩
  rw [f.1 (so + 2) (by omega), f.1 (so + 3) (by omega), f.2]
  exact h2 i hi
theorem c_housesSaid {d : Nat} (ho : Se so) (hp : St ps) (hr : CSr M ps g) (hc : CSt M 200 g) (hs : RGs g) (hd : RGd g) (hq : SG g) (hsq : CSq M so g) (hpos : 0 < g 122) : EvQ (d + 6) 203 [.ref so, .ref ps, .ref 200] M fun v M' => v = some (.int (I (setL (fun h => sayT g h) (g 1).toNat : Nat))) ∧ SF so M M' := by
  have h1 := hs.1.2.1
  obtain ⟨nh, hnh⟩ := Nn h1.1
  have enh : (g 1).toNat = nh := by omega
  obtain ⟨nq, hnq⟩ := Nn (a := g 122) (by omega)
  have enq : (g 122).toNat = nq := by omega
  have q0 := hq.1
  have hfar := Se_far ho
  have hpf := St_Se hp ho
  rw [enh]
  apply e_Sentence_housesSaid ho hp Sa200
  intro At step
  rw [hr.1.2.1, hnh, shl10 nh (by omega)]
  refine loopU (P := fun i : Nat => ∀ N : Mm, SF so M N → (∀ j, j < dpG g i → N.1 (so + 4) j = I (setL (fun h => evG g h i j) nh : Nat)) → At 15 [.ref so, .ref ps, .ref 200, .int (I ((2 ^ nh - 1 : Nat) : Int)), .int (I (dpG g i)), .int (I i), .retAddr 0] [] N) (n := nq) ?_ ?_ M ⟨fun _ _ => rfl, rfl⟩ (fun j hj => absurd hj (by show ¬ j < 0; omega))
  · intro N hF hS
    have sqN := hsq.sf hF
    have hd1 := hq.2.1 hpos
    rw [enq] at hd1
    apply s_Sentence_housesSaid_15 ho hp Sa200 step
    rw [sqN.1, hnq, hd1, I_lt (by omega) (by omega) (by omega) (by omega), I_lt (by omega) (by omega) (by omega) (by omega), hS 0 (by omega)]
    unfold sayT
    rw [enq]
    exact ⟨fun q => absurd q (by omega), fun _ => ⟨fun q => absurd q (by omega), fun _ => ⟨rfl, hF⟩⟩⟩
  · intro i hi nx N hF hS
    have sqN := hsq.sf hF
    have sq := sqN.2.1 i (by omega)
    have hcd := hq.2.2 i (by omega)
    have d20 := dpG_20 hq i (by omega)
    have i4 : inR (I (i : Int)) 40 := inRI (by omega) (by omega) (by omega)
    have hrN : CSr N ps g := hr.of fun a q1 q2 => hF.1 a (by omega)
    have hcN : CSt N 200 g := hc.of fun a q1 q2 => hF.1 a (by omega)
    have put : ∀ (k : Nat) (v : Int), SF so M (sI N (so + 4) k (I v)) := fun k v => ⟨fun a ha => by rw [mI_fn ha]; exact hF.1 a ha, hF.2⟩
    rw [dpG_s] at nx
    have evs : ∀ h, evG g h (i + 1) = _ := fun h => evG_s
    simp only [evG_s] at nx
    apply s_Sentence_housesSaid_15 ho hp Sa200 step
    rw [sqN.1, hnq, ixI (a := (i : Int)) (by omega) (by omega), Int.toNat_natCast, sq.1, I_lt (by omega) (by omega) (by omega) (by omega)]
    refine ⟨fun _ => ?_, fun q => absurd (by omega) q⟩
    rcases hcd with z | ⟨z, z2⟩ | ⟨z | z, z2⟩
    · obtain ⟨hre, v1, v2, v3⟩ := vbA_leaf z.1
      rw [if_neg (by omega), if_neg (by omega)] at nx
      refine ⟨i4, hre, fun q => absurd q v1, fun _ => ?_⟩
      apply s_Sentence_housesSaid_72 ho hp Sa200 step
      refine ⟨hre, fun q => absurd q v2, fun _ => ?_⟩
      apply s_Sentence_housesSaid_111 ho hp Sa200 step
      refine ⟨hre, fun q => absurd q v3, fun _ => ?_⟩
      apply s_Sentence_housesSaid_150 ho hp Sa200 step
      rw [I_lt (by omega) (by omega) (by omega) (by omega)]
      refine ⟨fun _ => ⟨_, _, c_housesOfStep ho hp hrN hcN hs hd hq sqN (by omega) z.1.2, inRI (by omega) (by omega) (by omega), ?_⟩, fun q => absurd (by omega) q⟩
      apply s_Sentence_housesSaid_175 ho hp Sa200 step
      rw [enh, ixI (by omega) (by omega), Int.toNat_natCast]
      simp only [I_add]
      refine nx _ (put _ _) fun j hj => ?_
      have ev1 : ∀ h, (if cdC g i = 20 then upf (evG g h i) (dpG g i - 1) (!(evG g h i (dpG g i - 1))) else if cdC g i = 21 then upf (evG g h i) (dpG g i - 2) (evG g h i (dpG g i - 2) && evG g h i (dpG g i - 1)) else if cdC g i = 22 then upf (evG g h i) (dpG g i - 2) (evG g h i (dpG g i - 2) || evG g h i (dpG g i - 1)) else upf (evG g h i) (dpG g i) (leafT g i h)) = upf (evG g h i) (dpG g i) (leafT g i h) := fun h => by
        rw [if_neg (show ¬ cdC g i = 20 by omega), if_neg (show ¬ cdC g i = 21 by omega), if_neg (show ¬ cdC g i = 22 by omega)]
      simp only [ev1]
      by_cases e : j = dpG g i
      · subst e
        rw [mI_eq]
        simp only [upf_eq]
      · rw [mI_n2 e]
        simp only [upf_ne e]
        exact hS j (by omega)
    · have hv : vbA (cdC g i) = 615 := by rw [z]; rfl
      rw [if_pos z] at nx
      rw [hv, I_lt (by omega) (by omega) (by omega) (by omega), I_sub, ixI (by omega) (by omega), show ((dpG g i : Int) - 1).toNat = dpG g i - 1 by omega]
      refine ⟨i4, Or.inr (by decide), fun _ => ⟨fun q => absurd q (by omega), fun _ => ⟨inRI (by omega) (by omega) (by omega), inRI (by omega) (by omega) (by omega), ?_⟩⟩, fun q => absurd rfl q⟩
      apply s_Sentence_housesSaid_175 ho hp Sa200 step
      have hp1024 : 2 ^ nh ≤ 1024 := Nat.le_trans (Nat.pow_le_pow_right (by decide) (show nh ≤ 10 by omega)) (by decide)
      have hp0 : 0 < 2 ^ nh := Nat.pow_pos (by decide)
      rw [hS (dpG g i - 1) (by omega), I_les (by omega), setL_not (by omega)]
      simp only [I_add]
      refine nx _ (put _ _) fun j hj => ?_
      simp only [z, if_true]
      by_cases e : j = dpG g i - 1
      · subst e
        rw [mI_eq]
        simp only [upf_eq]
      · rw [mI_n2 e]
        simp only [upf_ne e]
        exact hS j (by omega)
    · have hv : vbA (cdC g i) = 614 := by rw [z]; rfl
      rw [if_neg (by omega), if_pos (Or.inl z)] at nx
      rw [hv]
      refine ⟨i4, Or.inr (by decide), fun q => absurd q (by decide), fun _ => ?_⟩
      apply s_Sentence_housesSaid_72 ho hp Sa200 step
      rw [I_lt (by omega) (by omega) (by omega) (by omega), I_add, I_sub, ixI (by omega) (by omega), ixI (by omega) (by omega), show ((dpG g i : Int) + -1 - 1).toNat = dpG g i - 2 by omega, show ((dpG g i : Int) + -1).toNat = dpG g i - 1 by omega]
      refine ⟨Or.inr (by decide), fun _ => ⟨fun q => absurd q (by omega), fun _ => ⟨inRI (by omega) (by omega) (by omega), inRI (by omega) (by omega) (by omega), inRI (by omega) (by omega) (by omega), ?_⟩⟩, fun q => absurd rfl q⟩
      apply s_Sentence_housesSaid_175 ho hp Sa200 step
      rw [hS (dpG g i - 1) (by omega), hS (dpG g i - 2) (by omega), I_and, setL_and (by omega), show (dpG g i : Int) + -1 = ((dpG g i - 1 : Nat) : Int) by omega]
      simp only [I_add]
      refine nx _ (put _ _) fun j hj => ?_
      have e0 : ¬ (21 : Int) = 20 := by decide
      simp only [z, if_true, if_neg e0]
      by_cases e : j = dpG g i - 2
      · subst e
        rw [mI_eq]
        simp only [upf_eq]
      · rw [mI_n2 e]
        simp only [upf_ne e]
        exact hS j (by omega)
    · have hv : vbA (cdC g i) = 613 := by rw [z]; rfl
      rw [if_neg (by omega), if_pos (Or.inr z)] at nx
      rw [hv]
      refine ⟨i4, Or.inr (by decide), fun q => absurd q (by decide), fun _ => ?_⟩
      apply s_Sentence_housesSaid_72 ho hp Sa200 step
      refine ⟨Or.inr (by decide), fun q => absurd q (by decide), fun _ => ?_⟩
      apply s_Sentence_housesSaid_111 ho hp Sa200 step
      rw [I_lt (by omega) (by omega) (by omega) (by omega), I_add, I_sub, ixI (by omega) (by omega), ixI (by omega) (by omega), show ((dpG g i : Int) + -1 - 1).toNat = dpG g i - 2 by omega, show ((dpG g i : Int) + -1).toNat = dpG g i - 1 by omega]
      refine ⟨Or.inr (by decide), fun _ => ⟨fun q => absurd q (by omega), fun _ => ⟨inRI (by omega) (by omega) (by omega), inRI (by omega) (by omega) (by omega), inRI (by omega) (by omega) (by omega), ?_⟩⟩, fun q => absurd rfl q⟩
      apply s_Sentence_housesSaid_175 ho hp Sa200 step
      rw [hS (dpG g i - 1) (by omega), hS (dpG g i - 2) (by omega), I_or, setL_or (by omega), show (dpG g i : Int) + -1 = ((dpG g i - 1 : Nat) : Int) by omega]
      simp only [I_add]
      refine nx _ (put _ _) fun j hj => ?_
      have e0 : ¬ (22 : Int) = 20 := by decide
      have e1 : ¬ (22 : Int) = 21 := by decide
      simp only [z, if_true, if_neg e0, if_neg e1]
      by_cases e : j = dpG g i - 2
      · subst e
        rw [mI_eq]
        simp only [upf_eq]
      · rw [mI_n2 e]
        simp only [upf_ne e]
        exact hS j (by omega)
end SAI
