/-! ===== the class's methods that change nothing: the rest of the street, the state ===== -/
theorem or_T {P : Nat → Bool} {k : Nat} (h : P k = true) (hk : k < 10) : I ((setL P k : Nat) : Int) ||| (I 1 <<< (I (k : Int) &&& 31)) = I ((setL P (k + 1) : Nat) : Int) := by
  have e : setL P (k + 1) = setL P k ||| (if P k = true then 2 ^ k else 0) := rfl
  rw [shl0 k hk, I_or, e, h, if_pos rfl]
theorem or_F {P : Nat → Bool} {k : Nat} (h : P k = false) : I ((setL P k : Nat) : Int) ||| I 0 = I ((setL P (k + 1) : Nat) : Int) := by
  have e : setL P (k + 1) = setL P k ||| (if P k = true then 2 ^ k else 0) := rfl
  rw [show I 0 = I ((0 : Nat) : Int) from rfl, I_or, e, h, if_neg (by decide)]
theorem setL_congr {P R : Nat → Bool} : ∀ {n : Nat}, (∀ k, k < n → P k = R k) → setL P n = setL R n
  | 0, _ => rfl
  | n + 1, h => by
    unfold setL
    rw [setL_congr (n := n) fun k hk => h k (by omega), h n (by omega)]
theorem mxI_c {a b : Int} : (if a < b then b else a) = mxI a b := by
  unfold mxI
  split <;> split <;> omega
theorem mnI_c {a b : Int} : (if b < a then b else a) = mnI a b := by
  unfold mnI
  split <;> split <;> omega
section STB
variable {o p : Nat} {M : Mm} {g : Nat → Int}
theorem c_housesBehind {d : Nat} (hp : St p) (hr : CSr M p g) (hs : RGs g) {w : Int} (hw : -1 ≤ w ∧ w < 1000) : Ev (d + 1) 242 [.ref p, .int (I w)] M (some (.int (I (housesS g w (g 1).toNat)))) M := by
  obtain ⟨⟨h0, h1, -⟩, -, hb, -⟩ := hs
  obtain ⟨n, hn⟩ := Nn h1.1
  have en : (g 1).toNat = n := by omega
  have e := hr.1.2.1
  rw [hn] at e
  rw [en]
  apply Ev.ofQ
  apply e_Street_housesBehind hp
  intro At step
  refine loopU (P := fun k => At 4 [.ref p, .int (I w), .int (I (setL (fun k => decide (g (13 + k) = w + 1)) k)), .int (I (k : Int))] [] M) (n := n) ?_ ?_
  · apply s_Street_housesBehind_4 hp step
    simp (disch := omega) only [e, I_lt]
    exact ⟨fun q => absurd q (by omega), fun _ => ⟨by trivial, by trivial⟩⟩
  · intro k hk nx
    apply s_Street_housesBehind_4 hp step
    have b := hb k (by omega)
    simp (disch := omega) only [e, (hr.2.2.1 k (by omega)).1, I_add, I_sub, I_mul, I_div, ixI, Int.toNat_add, Int.toNat_natCast, Int.reduceToNat, I_lt, I_ne, ite_I]
    refine ⟨fun _ => ⟨inRI (by omega) (by omega) (by omega), fun q => ?_, fun q => ?_⟩, fun q => absurd q (by omega)⟩
    · rw [or_T (by simp only [decide_eq_true_eq]; omega) (by omega)]
      exact nx
    · rw [or_F (by simp only [decide_eq_false_iff_not]; omega)]
      exact nx
def drainsS (g : Nat → Int) (w : Int) (n : Nat) : Nat := setL (fun k => decide (g (43 + k) = w)) n
theorem c_drainsOf {d : Nat} (hp : St p) (hr : CSr M p g) (hs : RGs g) {w : Int} (hw : -1 ≤ w ∧ w < 1000) : Ev (d + 1) 243 [.ref p, .int (I w)] M (some (.int (I (drainsS g w (g 2).toNat)))) M := by
  obtain ⟨⟨-, -, h1, -⟩, -, -, hb, -⟩ := hs
  obtain ⟨n, hn⟩ := Nn h1.1
  have en : (g 2).toNat = n := by omega
  have e := hr.1.2.2.1
  rw [hn] at e
  rw [en]
  apply Ev.ofQ
  apply e_Street_drainsOf hp
  intro At step
  refine loopU (P := fun k => At 4 [.ref p, .int (I w), .int (I (setL (fun k => decide (g (43 + k) = w)) k)), .int (I (k : Int))] [] M) (n := n) ?_ ?_
  · apply s_Street_drainsOf_4 hp step
    simp (disch := omega) only [e, I_lt]
    exact ⟨fun q => absurd q (by omega), fun _ => ⟨by trivial, by trivial⟩⟩
  · intro k hk nx
    apply s_Street_drainsOf_4 hp step
    have b := hb k (by omega)
    simp (disch := omega) only [e, (hr.2.2.2.1 k (by omega)).1, I_add, I_sub, I_mul, I_div, ixI, Int.toNat_add, Int.toNat_natCast, Int.reduceToNat, I_lt, I_ne, ite_I]
    refine ⟨fun _ => ⟨inRI (by omega) (by omega) (by omega), fun q => ?_, fun q => ?_⟩, fun q => absurd q (by omega)⟩
    · rw [or_T (by simp only [decide_eq_true_eq]; omega) (by omega)]
      exact nx
    · rw [or_F (by simp only [decide_eq_false_iff_not]; omega)]
      exact nx
theorem c_worthOf {d : Nat} (hp : St p) (hr : CSr M p g) (hs : RGs g) {b : Nat} (hb1 : b < 1024) : Ev (d + 2) 244 [.ref p, .int (I b)] M (some (.int (I (sumL (fun k => (bt b k : Int) * g (23 + k)) (g 1).toNat)))) M := by
  obtain ⟨⟨-, h1, -⟩, -, hb, -⟩ := hs
  obtain ⟨n, hn⟩ := Nn h1.1
  have en : (g 1).toNat = n := by omega
  have e := hr.1.2.1
  rw [hn] at e
  rw [en]
  apply Ev.ofQ
  apply e_Street_worthOf hp
  intro At step
  refine loopU (P := fun k => At 4 [.ref p, .int (I b), .int (I (sumL (fun k => (bt b k : Int) * g (23 + k)) k)), .int (I (k : Int))] [] M) (n := n) ?_ ?_
  · apply s_Street_worthOf_4 hp step
    simp (disch := omega) only [e, I_lt]
    exact ⟨fun q => absurd q (by omega), fun _ => ⟨by trivial, by trivial⟩⟩
  · intro k hk nx
    apply s_Street_worthOf_4 hp step
    refine ⟨fun _ => ⟨_, _, c_bit hb1 (by omega), ?_⟩, fun q => ?_⟩
    · simp (disch := omega) only [(hr.2.2.1 k (by omega)).2.1, I_add, I_sub, I_mul, I_div, ixI, Int.toNat_add, Int.toNat_natCast, Int.reduceToNat, I_lt, I_ne, ite_I]
      exact ⟨inRI (by omega) (by omega) (by omega), nx⟩
    · simp (disch := omega) only [e, I_lt] at q
      exact absurd q (by omega)
theorem c_isFlooded {d : Nat} (ho : Sa o) (hc : CSt M o g) (hd : RGd g) {h : Nat} (hh : h < 10) : Ev (d + 1) 212 [.ref o, .int (I h)] M (some (.int (I (if g (112 + h) = 0 then 0 else 1)))) M := by
  have b := hd.2.2.2 h hh
  have e := hc.2.2.2 h hh
  apply Ev.ofQ
  apply e_State_isFlooded ho
  intro At _
  simp (disch := omega) only [e, I_add, I_sub, I_mul, I_div, ixI, Int.toNat_add, Int.toNat_natCast, Int.reduceToNat, I_lt, I_ne, ite_I]
  repeat' (first | apply And.intro | intro _)
  all_goals first | exact True.intro | (exfalso; omega) | rfl | exact inRI (by omega) (by omega) (by omega) | (rename_i zz; exact inRI (by omega) (by omega) (by omega) zz) | (rw [if_pos (by omega)]) | (rw [if_neg (by omega)])
theorem c_floodedHouses {d : Nat} (ho : Sa o) (hp : St p) (hr : CSr M p g) (hc : CSt M o g) (hs : RGs g) (hd : RGd g) : Ev (d + 2) 213 [.ref o, .ref p] M (some (.int (I (setL (fun k => decide (g (112 + k) ≠ 0)) (g 1).toNat)))) M := by
  obtain ⟨⟨-, h1, -⟩, -⟩ := hs
  obtain ⟨n, hn⟩ := Nn h1.1
  have en : (g 1).toNat = n := by omega
  have e := hr.1.2.1
  rw [hn] at e
  rw [en]
  apply Ev.ofQ
  apply e_State_floodedHouses ho hp
  intro At step
  refine loopU (P := fun k => At 4 [.ref o, .ref p, .int (I (setL (fun k => decide (g (112 + k) ≠ 0)) k)), .int (I (k : Int))] [] M) (n := n) ?_ ?_
  · apply s_State_floodedHouses_4 ho hp step
    simp (disch := omega) only [e, I_lt]
    exact ⟨fun q => absurd q (by omega), fun _ => ⟨by trivial, by trivial⟩⟩
  · intro k hk nx
    apply s_State_floodedHouses_4 ho hp step
    refine ⟨fun _ => ⟨_, _, c_isFlooded ho hc hd (by omega), ?_⟩, fun q => ?_⟩
    · by_cases q : g (112 + k) = 0
      · rw [if_pos q, or_F (by simp [q])]
        exact ⟨fun _ => by rw [I_add]; exact nx, fun q => absurd rfl q⟩
      · rw [if_neg q, or_T (by simp [q]) (by omega)]
        exact ⟨fun q => absurd q (by decide), fun _ => by rw [I_add]; exact nx⟩
    · simp (disch := omega) only [e, I_lt] at q
      exact absurd q (by omega)
theorem c_river {d : Nat} (ho : Sa o) (hp : St p) (hr : CSr M p g) (hc : CSt M o g) (hs : RGs g) (hd : RGd g) : Ev (d + 2) 209 [.ref o, .ref p] M (some (.int (I (river g (g 89))))) M := by
  obtain ⟨⟨-, -, -, -, h4, -⟩, -, -, -, -, hb, -, hi⟩ := hs
  obtain ⟨⟨t0, -⟩, -⟩ := hd
  obtain ⟨n, hn⟩ := Nn h4.1
  have e := hr.1.2.2.2.2.1
  rw [hn] at e
  apply Ev.ofQ
  apply e_State_river ho hp
  intro At _
  rw [hc.1.1]
  refine ⟨_, _, c_latest (St_ga hp) e (by omega) (fun k hk => (hr.2.2.2.2.2 k (by omega)).1) (fun k hk => (hr.2.2.2.2.2 k (by omega)).2) (by omega) (fun k hk => ?_) (fun j k hj hk => hi j k (by omega) (by omega)), ?_⟩
  · have := hb k (by omega)
    omega
  · rw [hc.1.2.2.2.2.1, I_add]
    unfold river
    rw [hn]
    exact ⟨rfl, rfl⟩
/-- the greatest river of the first n hours from now on -/
def gRiv (g : Nat → Int) : Nat → Int
  | 0 => river g (g 89)
  | n + 1 => mxI (gRiv g n) (river g (g 89 + n))
theorem river_b (hs : RGs g) (hd : RGd g) (t : Int) : 0 ≤ river g t ∧ river g t ≤ 109 := by
  obtain ⟨⟨-, -, -, -, h4, -⟩, -, -, -, -, hb, -⟩ := hs
  obtain ⟨⟨h0, -, -, -, -, -, -, hra, -⟩, -⟩ := hd
  unfold river
  have aux : ∀ n : Nat, n ≤ (g 4).toNat → 0 ≤ (rivL (fun k => g (73 + k)) (fun k => g (81 + k)) t n).2 ∧ (rivL (fun k => g (73 + k)) (fun k => g (81 + k)) t n).2 ≤ 60 := by
    intro n
    induction n with
    | zero => intro _; exact ⟨Int.le_refl 0, by show (0 : Int) ≤ 60; decide⟩
    | succ n ih =>
      intro hn
      have i := ih (by omega)
      have b := hb n (by omega)
      unfold rivL
      split
      · exact i
      · exact ⟨b.2.2.1, b.2.2.2⟩
  have := aux _ (Nat.le_refl _)
  omega
theorem gRiv_b (hs : RGs g) (hd : RGd g) : ∀ n : Nat, 0 ≤ gRiv g n ∧ gRiv g n ≤ 109
  | 0 => river_b hs hd _
  | n + 1 => by
    have h1 := gRiv_b hs hd n
    have h2 := river_b hs hd (g 89 + n)
    unfold gRiv mxI
    split <;> assumption
theorem c_greatestRiver {d : Nat} (ho : Sa o) (hp : St p) (hr : CSr M p g) (hc : CSt M o g) (hs : RGs g) (hd : RGd g) : Ev (d + 3) 210 [.ref o, .ref p] M (some (.int (I (gRiv g (48 - g 89).toNat)))) M := by
  have hs0 := hs
  have hd0 := hd
  obtain ⟨⟨-, -, -, -, h4, -⟩, -, -, -, -, hb, -, hi⟩ := hs0
  obtain ⟨⟨t0, -, -, -, -, -, -, hra, -⟩, -⟩ := hd0
  obtain ⟨n, hn⟩ := Nn h4.1
  have e := hr.1.2.2.2.2.1
  rw [hn] at e
  apply Ev.ofQ
  apply e_State_greatestRiver ho hp
  intro At step
  refine ⟨_, _, c_river ho hp hr hc hs hd, ?_⟩
  rw [hc.1.1]
  have h := loopU (P := fun k : Nat => At 11 [.ref o, .ref p, .int (I (gRiv g k)), .int (I (g 89 + k))] [] M) (n := (48 - g 89).toNat) ?_ ?_
  · have h := h
    rw [show g 89 + ((0 : Nat) : Int) = g 89 by omega] at h
    exact h
  · apply s_State_greatestRiver_11 ho hp step
    simp (disch := omega) only [I_lt]
    exact ⟨fun q => absurd q (by omega), fun _ => ⟨by trivial, by trivial⟩⟩
  · intro k hk nx
    apply s_State_greatestRiver_11 ho hp step
    have b1 := gRiv_b hs hd k
    have b2 := river_b hs hd (g 89 + k)
    have er : river g (g 89 + k) = (rivL (fun k => g (73 + k)) (fun k => g (81 + k)) (g 89 + k) n).2 + g 96 := by
      unfold river
      rw [hn]
      rfl
    refine ⟨fun _ => ⟨_, _, c_latest (St_ga hp) e (by omega) (fun k hk => (hr.2.2.2.2.2 k (by omega)).1) (fun k hk => (hr.2.2.2.2.2 k (by omega)).2) (by omega) (fun k hk => ?_) (fun j k hj hk => hi j k (by omega) (by omega)), ?_⟩, fun q => ?_⟩
    · have := hb k (by omega)
      omega
    · rw [hc.1.2.2.2.2.1, I_add, ← er]
      unfold gRiv at nx
      generalize river g (g 89 + k) = z1 at b2 nx ⊢
      generalize gRiv g k = z2 at b1 nx ⊢
      simp (disch := omega) only [I_add, I_sub, I_mul, I_div, ixI, Int.toNat_add, Int.toNat_natCast, Int.reduceToNat, I_lt, I_ne, ite_I, mxI_c]
      rw [show g 89 + (k : Int) + 1 = g 89 + ((k + 1 : Nat) : Int) by omega]
      exact nx
    · simp (disch := omega) only [I_lt] at q
      exact absurd q (by omega)
theorem c_bagsEach {d : Nat} (ho : Sa o) (hp : St p) (hr : CSr M p g) (hc : CSt M o g) (hs : RGs g) (hd : RGd g) : Ev (d + 1) 211 [.ref o, .ref p] M (some (.int (I (eachI g (g 92))))) M := by
  obtain ⟨⟨-, -, -, -, -, -, -, h7⟩, -⟩ := hs
  obtain ⟨⟨t0, -, -, -, ht, -⟩, -⟩ := hd
  apply Ev.ofQ
  apply e_State_bagsEach ho hp
  intro At _
  rw [hr.1.2.2.2.2.2.2.2, hc.1.2.2.2.1]
  unfold eachI mxI
  simp (disch := omega) only [I_add, I_sub, I_mul, I_div, ixI, Int.toNat_add, Int.toNat_natCast, Int.reduceToNat, I_lt, I_ne, ite_I]
  exact ⟨by trivial, by trivial⟩
theorem c_leaking {d : Nat} (ho : Sa o) (hp : St p) (hr : CSr M p g) (hc : CSt M o g) (hs : RGs g) (hd : RGd g) {w h : Int} (hw : (-2147483648 ≤ w ∧ w < 2147483648)) (hh : (-2147483648 ≤ h ∧ h < 2147483648)) : Ev (d + 1) 215 [.ref o, .ref p, .int (I w), .int (I h)] M (some (.int (I (leakS g w h (g 2).toNat)))) M := by
  have hba := bags_b hd
  obtain ⟨⟨-, -, h1, -⟩, -, -, hb, -⟩ := hs
  obtain ⟨n, hn⟩ := Nn h1.1
  have en : (g 2).toNat = n := by omega
  have e := hr.1.2.2.1
  rw [hn] at e
  rw [en]
  apply Ev.ofQ
  apply e_State_leakingDrains ho hp
  intro At step
  refine loopU (P := fun k => At 6 [.ref o, .ref p, .int (I w), .int (I h), .int (I (setL (fun k => decide (g (43 + k) = w ∧ g (49 + k) ≤ h ∧ g (106 + k) < g (55 + k))) k)), .int (I (k : Int)), .retAddr 0] [] M) (n := n) ?_ ?_
  · apply s_State_leakingDrains_6 ho hp step
    simp (disch := omega) only [e, I_lt]
    exact ⟨fun q => absurd q (by omega), fun _ => ⟨by trivial, by trivial⟩⟩
  · intro k hk nx
    apply s_State_leakingDrains_6 ho hp step
    have b := hb k (by omega)
    have b2 := hba.2.2.2 k (by omega)
    have r3 := hr.2.2.2.1 k (by omega)
    have cc := hc.2.2.1 k (by omega)
    have hi : inR (I (k : Int)) 6 := inRI (by omega) (by omega) (by omega)
    simp (disch := omega) only [e, r3.1, r3.2.1, r3.2.2, cc, I_add, I_sub, I_mul, I_div, ixI, Int.toNat_add, Int.toNat_natCast, Int.reduceToNat, I_lt, I_ne, ite_I]
    refine ⟨fun _ => ⟨fun _ => ⟨hi, fun q => ⟨hi, fun q2 => ?_, fun q2 => ⟨hi, hi, fun q3 => ?_, fun q3 => ?_⟩⟩, fun q => ?_⟩, fun q => absurd q (by omega)⟩, fun q => absurd q (by omega)⟩
    · rw [or_F (by simp only [decide_eq_false_iff_not]; omega)]
      exact nx
    · rw [or_T (by simp only [decide_eq_true_eq]; omega) (by omega)]
      exact nx
    · rw [or_F (by simp only [decide_eq_false_iff_not]; omega)]
      exact nx
    · rw [or_F (by simp only [decide_eq_false_iff_not]; omega)]
      exact nx
theorem c_isStopped {d : Nat} (ho : Sa o) (hp : St p) (hr : CSr M p g) (hc : CSt M o g) (hs : RGs g) (hd : RGd g) {k : Nat} (hk : (k : Int) < g 2) : Ev (d + 2) 214 [.ref o, .ref p, .int (I k)] M (some (.int (I (if g (55 + k) ≤ g (106 + k) then 1 else 0)))) M := by
  have hba := bags_b hd
  have hs0 := hs
  obtain ⟨⟨-, -, h1, -⟩, -, -, hb, -⟩ := hs0
  have b := hb k (by omega)
  have b2 := hba.2.2.2 k (by omega)
  apply Ev.ofQ
  apply e_State_isStopped ho hp
  intro At _
  refine ⟨_, _, c_hasDrain hp hr hs (by omega), ?_⟩
  rw [bI0]
  have r3 := hr.2.2.2.1 k (by omega)
  have cc := hc.2.2.1 k (by omega)
  have hi : inR (I (k : Int)) 6 := inRI (by omega) (by omega) (by omega)
  simp (disch := omega) only [r3.2.2, cc, I_add, I_sub, I_mul, I_div, ixI, Int.toNat_add, Int.toNat_natCast, Int.reduceToNat, I_lt, I_ne, ite_I]
  exact ⟨fun q => absurd q (by omega), fun _ => ⟨hi, hi, fun q => ⟨by rw [if_neg (by omega)], by trivial⟩, fun q => ⟨by rw [if_pos (by omega)], by trivial⟩⟩⟩
theorem tri_mono {a b : Int} (h0 : 0 ≤ a) (h : a ≤ b) : tri a ≤ tri b := by
  unfold tri
  have h1 : a * (a + 1) ≤ b * (b + 1) := Int.mul_le_mul h (by omega) (by omega) (by omega)
  omega
theorem hgtL_spec {wi b : Int} (hw : 1 ≤ wi) (hb : 0 ≤ b ∧ b ≤ 999) : ∀ (n : Nat) (z : Int), 0 ≤ z → z + n = 1000 → wi * tri z ≤ b → ∀ h : Int, 0 ≤ h → h ≤ 1000 → (hgtL wi b n z < h ↔ (z < h ∧ b < wi * tri h))
  | 0, z, hz, hn, hle, h, h0, h1 => by
    unfold hgtL
    omega
  | n + 1, z, hz, hn, hle, h, h0, h1 => by
    unfold hgtL
    by_cases q : wi * tri (z + 1) ≤ b
    · rw [if_pos q, hgtL_spec hw hb n (z + 1) (by omega) (by omega) q h h0 h1]
      by_cases q2 : z + 1 < h
      · omega
      · by_cases q3 : h = z + 1
        · subst q3
          omega
        · omega
    · rw [if_neg q]
      constructor
      · intro q2
        refine ⟨q2, ?_⟩
        have h3 : wi * tri (z + 1) ≤ wi * tri h := Int.mul_le_mul_of_nonneg_left (tri_mono (by omega) (by omega)) (by omega)
        omega
      · exact fun q2 => q2.1
theorem hgt_lt {wi b h : Int} (hw : 1 ≤ wi) (hb : 0 ≤ b ∧ b ≤ 999) (h0 : 0 ≤ h) (h1 : h ≤ 1000) : hgt wi b < h ↔ b < wi * tri h := by
  unfold hgt
  rw [hgtL_spec hw hb 1000 0 (by decide) (by decide) (by rw [show tri 0 = 0 by decide, Int.mul_zero]; exact hb.1) h h0 h1]
  constructor
  · exact fun q => q.2
  · intro q
    refine ⟨?_, q⟩
    by_cases e : h = 0
    · subst e
      rw [show tri 0 = 0 by decide, Int.mul_zero] at q
      omega
    · omega
theorem c_heightOf {d : Nat} (ho : Sa o) (hp : St p) (hr : CSr M p g) (hc : CSt M o g) (hs : RGs g) (hd : RGd g) {w : Nat} (hw : (w : Int) < g 0) : Ev (d + 3) 216 [.ref o, .ref p, .int (I w)] M (some (.int (I (higI g (g 98).toNat w)))) M := by
  have hba := bags_b hd
  have hs0 := hs
  obtain ⟨⟨h0, -⟩, hb, -⟩ := hs0
  have hb := hb w (by omega)
  have hb2 := hba.2.2.1 w (by omega)
  have hq := hd.1.2.2.2.2.2.2.2.2.2.1
  have e9 := hc.1.2.2.2.2.2.2.2.2.2.1
  rw [show g 98 = ((g 98).toNat : Int) by omega] at e9
  apply Ev.ofQ
  apply e_State_heightOf ho hp
  intro At step
  refine ⟨_, _, c_hasWall hp hr hs (by omega), ?_⟩
  rw [bI0]
  refine ⟨fun q => absurd ⟨by omega, hw⟩ q, fun _ => ⟨_, _, by rw [e9]; exact c_bit (by omega) (by omega), ?_⟩⟩
  have hbt := bt_lt (g 98).toNat w
  simp (disch := omega) only [I_add, I_sub, I_mul, I_div, ixI, Int.toNat_add, Int.toNat_natCast, Int.reduceToNat, I_lt, I_ne, ite_I]
  unfold higI at step ⊢
  refine ⟨fun q => ⟨by rw [if_pos (by omega)], by trivial⟩, fun q => ?_⟩
  rw [if_neg (by omega)] at step
  unfold hgt at step
  have key : ∀ (n : Nat) (z : Int), 0 ≤ z → z + n = 1000 → hgtL (g (8 + w)) (g (101 + w)) 1000 0 = hgtL (g (8 + w)) (g (101 + w)) n z → At 24 [.ref o, .ref p, .int (I w), .int (I z)] [] M := by
    intro n
    induction n with
    | zero =>
      intro z hz hn hh
      apply s_State_heightOf_24 ho hp step
      simp (disch := omega) only [I_lt]
      refine ⟨fun q => absurd q (by omega), fun _ => ⟨?_, by trivial⟩⟩
      rw [hh]
      rfl
    | succ n ih =>
      intro z hz hn hh
      apply s_State_heightOf_24 ho hp step
      have ht := tri_nn (h := z + 1) (by omega)
      have ht2 := tri_le (h := z + 1) (by omega) (by omega)
      have hg0 : 0 ≤ g (8 + w) * tri (z + 1) := Int.mul_nonneg (by omega) ht
      have hg2 : g (8 + w) * tri (z + 1) ≤ 20 * 2001000 := Int.mul_le_mul hb.2.1 ht2 ht (by omega)
      rw [I_add]
      refine ⟨fun _ => ⟨_, _, c_bagsFor hp hr hs (by omega) (by omega) (by omega), ?_⟩, fun q => ?_⟩
      · rw [if_pos ⟨by omega, hw⟩]
        rw [show hgtL (g (8 + w)) (g (101 + w)) (n + 1) z = if g (8 + w) * tri (z + 1) ≤ g (101 + w) then hgtL (g (8 + w)) (g (101 + w)) n (z + 1) else z from rfl] at hh
        simp (disch := omega) only [hc.2.1 w (by omega), I_add, I_sub, I_mul, I_div, ixI, Int.toNat_add, Int.toNat_natCast, Int.reduceToNat, I_lt, I_ne, ite_I]
        refine ⟨inRI (by omega) (by omega) (by omega), fun q => ⟨?_, by trivial⟩, fun q => ?_⟩
        · rw [if_neg (by omega)] at hh
          rw [hh]
        · rw [if_pos (by omega)] at hh
          exact ih (z + 1) (by omega) (by omega) hh
      · simp (disch := omega) only [I_lt] at q
        exact absurd q (by omega)
  exact key 1000 0 (by omega) (by omega) rfl
theorem c_wouldFlood {d : Nat} (ho : Sa o) (hp : St p) (hr : CSr M p g) (hc : CSt M o g) (hs : RGs g) (hd : RGd g) {k : Nat} (hk : (k : Int) < g 1) {h : Int} (hh : 0 ≤ h ∧ h ≤ 1000) : Ev (d + 3) 217 [.ref o, .ref p, .int (I k), .int (I h)] M (some (.int (I (if floodB g (g 2).toNat (g 98).toNat k h then 1 else 0)))) M := by
  have hba := bags_b hd
  have hs0 := hs
  obtain ⟨⟨h0, h1, -⟩, hb, hbk, -⟩ := hs0
  have hk1 := hbk k (by omega)
  have hq := hd.1.2.2.2.2.2.2.2.2.2.1
  have e9 := hc.1.2.2.2.2.2.2.2.2.2.1
  rw [show g 98 = ((g 98).toNat : Int) by omega] at e9
  have r3 := hr.2.2.1 k hk
  apply Ev.ofQ
  apply e_State_wouldFlood ho hp
  intro At _
  refine ⟨_, _, c_hasHouse hp hr hs (by omega), ?_⟩
  rw [bI0]
  refine ⟨fun q => absurd ⟨by omega, hk⟩ q, fun _ => ⟨inRI (by omega) (by omega) (by omega), ?_⟩⟩
  rw [ixI (by omega) (by omega), Int.toNat_natCast, r3.1, r3.2.2]
  unfold floodB
  simp (disch := omega) only [I_lt, decide_eq_true_eq]
  refine ⟨fun q1 => ⟨inRI (by omega) (by omega) (by omega), ?_⟩, fun q1 => ⟨by rw [if_neg (fun r => q1 r.1)], by trivial⟩⟩
  refine ⟨_, _, c_hasWall hp hr hs (by omega), ?_⟩
  rw [bI0]
  refine ⟨fun q2 => ⟨by rw [if_pos ⟨q1, Or.inl (by omega)⟩], rfl⟩, fun q2 => ?_⟩
  obtain ⟨w, hw⟩ : ∃ w : Nat, g (13 + k) - 1 = (w : Int) := ⟨(g (13 + k) - 1).toNat, by omega⟩
  rw [hw] at q2
  rw [hw, Int.toNat_natCast]
  have hw0 : (w : Int) < g 0 := by omega
  have hbw := hb w (by omega)
  have hb2 := hba.2.2.1 w (by omega)
  have hbt := bt_lt (g 98).toNat w
  refine ⟨_, _, by rw [e9]; exact c_bit (by omega) (by omega), ?_⟩
  rw [I_ne (by omega) (by omega) (by omega) (by omega)]
  refine ⟨fun q3 => ⟨by rw [if_pos ⟨q1, Or.inr (Or.inl (by omega))⟩], rfl⟩, fun q3 => ?_⟩
  refine ⟨_, _, c_bagsFor hp hr hs (by omega) hh.1 (by omega), ?_⟩
  rw [if_pos ⟨by omega, hw0⟩, Int.toNat_natCast, ixI (by omega) (by omega), Int.toNat_natCast, hc.2.1 w (by omega)]
  have ht := tri_nn hh.1
  have ht2 := tri_le hh.1 (by omega)
  have hg0 : 0 ≤ g (8 + w) * tri h := Int.mul_nonneg (by omega) ht
  have hg2 : g (8 + w) * tri h ≤ 20 * 2001000 := Int.mul_le_mul hbw.2.1 ht2 ht (by omega)
  rw [I_lt (by omega) (by omega) (by omega) (by omega)]
  have eh : higI g (g 98).toNat w = hgt (g (8 + w)) (g (101 + w)) := by
    unfold higI
    rw [if_neg (by omega)]
  have el := hgt_lt (hbw.2.2 hw0) hb2 hh.1 (h := h) (by omega)
  refine ⟨inRI (by omega) (by omega) (by omega), fun q4 => ⟨by rw [if_pos ⟨q1, Or.inr (Or.inr (Or.inl (by rw [eh]; exact el.mpr q4)))⟩], rfl⟩, fun q4 => ?_⟩
  refine ⟨_, _, c_leaking ho hp hr hc hs hd (by omega) (by omega), ?_⟩
  have hl : leakS g w h (g 2).toNat < 2 ^ (g 2).toNat := setL_lt _ _
  have h2 := hs.1.2.2.1
  have hl2 : 2 ^ (g 2).toNat ≤ 2 ^ 6 := Nat.pow_le_pow_right (by decide) (by omega)
  have hl3 : (2 : Nat) ^ 6 = 64 := by decide
  generalize leakS g w h (g 2).toNat = L at hl ⊢
  rw [I_ne (by omega) (by omega) (by omega) (by omega)]
  refine ⟨fun q5 => ⟨by rw [if_neg (by intro r; rcases r.2 with r | r | r | r; (exact absurd r (by omega)); (exact q3 (by omega)); (rw [eh] at r; exact q4 (el.mp r)); exact r (by omega))], rfl⟩, fun q5 => ⟨by rw [if_pos ⟨q1, Or.inr (Or.inr (Or.inr (by omega)))⟩], rfl⟩⟩
theorem c_saved {d : Nat} (ho : Sa o) (hp : St p) (hr : CSr M p g) (hc : CSt M o g) (hs : RGs g) (hd : RGd g) : Ev (d + 2) 218 [.ref o, .ref p] M (some (.int (I (savL (fun k => g (23 + k)) (g 100).toNat (g 99).toNat (g 1).toNat)))) M := by
  obtain ⟨⟨-, h1, -⟩, -, hb, -⟩ := hs
  have hu := hd.1.2.2.2.2.2.2.2.2.2.2.1
  obtain ⟨n, hn⟩ := Nn h1.1
  have en : (g 1).toNat = n := by omega
  have e := hr.1.2.1
  have e10 := hc.1.2.2.2.2.2.2.2.2.2.2
  rw [show g 99 = ((g 99).toNat : Int) by omega] at e10
  rw [hn] at e
  rw [en]
  apply Ev.ofQ
  apply e_State_savedWorth ho hp
  intro At step
  refine loopU (P := fun k => At 4 [.ref o, .ref p, .int (I (savL (fun k => g (23 + k)) (g 100).toNat (g 99).toNat k)), .int (I (k : Int))] [] M) (n := n) ?_ ?_
  · apply s_State_savedWorth_4 ho hp step
    simp (disch := omega) only [e, I_lt]
    exact ⟨fun q => absurd q (by omega), fun _ => ⟨by trivial, by trivial⟩⟩
  · intro k hk nx
    apply s_State_savedWorth_4 ho hp step
    have b := hb k (by omega)
    have f3 := hd.2.2.2 k (by omega)
    have r3 := hr.2.2.1 k (by omega)
    have hbt := bt_lt (g 99).toNat k
    unfold savL at nx
    refine ⟨fun _ => ⟨_, _, c_isFlooded ho hc hd (by omega), ?_⟩, fun q => ?_⟩
    · simp (disch := omega) only [r3.2.1, I_add, I_sub, I_mul, I_div, ixI, Int.toNat_add, Int.toNat_natCast, Int.reduceToNat, I_lt, I_ne, ite_I]
      refine ⟨fun q => ?_, fun q => ⟨_, _, by rw [e10]; exact c_bit (by omega) (by omega), ?_⟩⟩
      · have q0 : g (112 + k) = 0 := by
          by_cases z : g (112 + k) = 0
          · exact z
          · rw [if_neg z] at q
            exact absurd q (by decide)
        rw [if_neg (fun z => (f3.2.2.1.mp z) q0)] at nx
        exact ⟨inRI (by omega) (by omega) (by omega), nx⟩
      · have q0 : g (112 + k) ≠ 0 := fun z => q (by rw [if_pos z])
        rw [if_pos (f3.2.2.1.mpr q0)] at nx
        simp (disch := omega) only [r3.2.1, I_add, I_sub, I_mul, I_div, ixI, Int.toNat_add, Int.toNat_natCast, Int.reduceToNat, I_lt, I_ne, ite_I]
        refine ⟨fun q2 => ⟨inRI (by omega) (by omega) (by omega), ?_⟩, fun q2 => ?_⟩
        · rw [if_pos (by omega)] at nx
          exact nx
        · rw [if_neg (by omega), Int.add_zero] at nx
          exact nx
    · simp (disch := omega) only [e, I_lt] at q
      exact absurd q (by omega)
theorem c_isPosted {d : Nat} (ho : Sa o) (hc : CSt M o g) (hs : RGs g) (hd : RGd g) {a b w : Int} (ha : (-2147483648 ≤ a ∧ a < 2147483648)) (hb : (-2147483648 ≤ b ∧ b < 2147483648)) (hw : (-2147483648 ≤ w ∧ w < 2147483648)) : Ev (d + 1) 219 [.ref o, .int (I a), .int (I b), .int (I w)] M (some (.int (I (if g 93 = a ∧ g 94 = b ∧ g 95 = w then 1 else 0)))) M := by
  have h0 := hs.1.1
  have h2 := hs.1.2.2.1
  obtain ⟨-, -, -, -, -, h5, h6, -⟩ := hd.1
  obtain ⟨-, -, -, -, -, -, c6, c7, c8, -⟩ := hc.1
  apply Ev.ofQ
  apply e_State_isPosted ho
  intro At _
  simp (disch := omega) only [c6, c7, c8, I_add, I_sub, I_mul, I_div, ixI, Int.toNat_add, Int.toNat_natCast, Int.reduceToNat, I_lt, I_ne, ite_I]
  refine ⟨fun q1 => ⟨fun q2 => ⟨fun q3 => ⟨by rw [if_pos ⟨q1, q2, q3⟩], by trivial⟩, fun q3 => ⟨by rw [if_neg (fun r => q3 r.2.2)], by trivial⟩⟩, fun q2 => ⟨by rw [if_neg (fun r => q2 r.2.1)], by trivial⟩⟩, fun q1 => ⟨by rw [if_neg (fun r => q1 r.1)], by trivial⟩⟩
theorem c_whyNotQuit {d : Nat} (ho : Sa o) (hc : CSt M o g) (hd : RGd g) {w : Nat} (hw : w < 10) : Ev (d + 2) 221 [.ref o, .int (I w)] M (some (.int (I (bt (g 98).toNat w)))) M := by
  have hq := hd.1.2.2.2.2.2.2.2.2.2.1
  have e9 := hc.1.2.2.2.2.2.2.2.2.2.1
  rw [show g 98 = ((g 98).toNat : Int) by omega] at e9
  apply Ev.ofQ
  apply e_State_whyNotQuit ho
  intro At _
  exact ⟨_, _, by rw [e9]; exact c_bit (by omega) (by omega), rfl, rfl⟩
theorem c_whyNotUp {d : Nat} (ho : Sa o) (hc : CSt M o g) (hd : RGd g) {k : Nat} (hk : k < 10) : Ev (d + 2) 223 [.ref o, .int (I k)] M (some (.int (I (if g (112 + k) = 0 then (if bt (g 99).toNat k = 1 then 2 else 0) else 1)))) M := by
  have hq := hd.1.2.2.2.2.2.2.2.2.2.2.1
  have e10 := hc.1.2.2.2.2.2.2.2.2.2.2
  have hbt := bt_lt (g 99).toNat k
  rw [show g 99 = ((g 99).toNat : Int) by omega] at e10
  apply Ev.ofQ
  apply e_State_whyNotUp ho
  intro At _
  refine ⟨_, _, c_isFlooded ho hc hd hk, ?_⟩
  by_cases q : g (112 + k) = 0
  · rw [if_pos q, if_pos q]
    refine ⟨fun _ => ⟨_, _, by rw [e10]; exact c_bit (by omega) hk, ?_⟩, fun r => absurd rfl r⟩
    rw [I_ne (by omega) (by omega) (by omega) (by omega)]
    exact ⟨fun r => ⟨by rw [if_pos (by omega)], rfl⟩, fun r => ⟨by rw [if_neg (by omega)], rfl⟩⟩
  · rw [if_neg q, if_neg q]
    exact ⟨fun r => absurd r (by decide), fun _ => ⟨rfl, rfl⟩⟩
end STB
