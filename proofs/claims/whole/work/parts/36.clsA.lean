/-! ===== the class's methods that change nothing: rows of pairs, the street ===== -/
def sumL (f : Nat → Int) : Nat → Int
  | 0 => 0
  | n + 1 => sumL f n + f n
def mxL (f : Nat → Int) : Nat → Int
  | 0 => 0
  | n + 1 => mxI (mxL f n) (f n)
theorem mxL_b {f : Nat → Int} {c : Int} {N : Nat} (h : ∀ k, k < N → 0 ≤ f k ∧ f k ≤ c) (hc : 0 ≤ c) : ∀ k, k ≤ N → 0 ≤ mxL f k ∧ mxL f k ≤ c
  | 0, _ => ⟨Int.le_refl 0, hc⟩
  | k + 1, hk => by
    have h1 := mxL_b h hc k (by omega)
    have h2 := h k (by omega)
    unfold mxL mxI
    split <;> omega
theorem sumL_b {f : Nat → Int} {c : Int} {N : Nat} (h : ∀ k, k < N → 0 ≤ f k ∧ f k ≤ c) (hc : 0 ≤ c) : ∀ k, k ≤ N → 0 ≤ sumL f k ∧ sumL f k ≤ c * k
  | 0, _ => ⟨Int.le_refl 0, by simp [sumL]⟩
  | k + 1, hk => by
    have h1 := sumL_b h hc k (by omega)
    have h2 := h k (by omega)
    unfold sumL
    have e : c * ((k + 1 : Nat) : Int) = c * k + c := by
      rw [Int.natCast_add, Int.mul_add]
      simp
    omega
theorem sumL_congr {f g : Nat → Int} : ∀ {n : Nat}, (∀ k, k < n → f k = g k) → sumL f n = sumL g n
  | 0, _ => rfl
  | n + 1, h => by
    unfold sumL
    rw [sumL_congr (n := n) fun k hk => h k (by omega), h n (by omega)]
section PRS
variable {o no : Nat} {M : Mm} {n : Nat} {ks vs : Nat → Int}
theorem Pr_le (ho : Pr o no) : no ≤ 8 := by
  rcases ho with ⟨-, h⟩ | ⟨-, h⟩ <;> omega
theorem c_sumFrom {d : Nat} (ho : Pr o no) (hn : M.1 o 2 = I n) (hno : n ≤ no) (hk : ∀ k, k < n → M.1 (o + 1) k = I (ks k)) (hv : ∀ k, k < n → M.1 (o + 2) k = I (vs k)) {t : Int} (ht : (-2147483648 ≤ t ∧ t < 2147483648)) (hb : ∀ k, k < n → (-2147483648 ≤ ks k ∧ ks k < 2147483648)) : Ev (d + 1) 182 [.ref o, .int (I t)] M (some (.int (I (sumL (fun k => if ks k < t then 0 else vs k) n)))) M := by
  have h8 := Pr_le ho
  apply Ev.ofQ
  apply e_Pairs_sumFrom ho
  intro At step
  refine loopU (P := fun k => At 4 [.ref o, .int (I t), .int (I (sumL (fun k => if ks k < t then 0 else vs k) k)), .int (I (k : Int))] [] M) (n := n) ?_ ?_
  · apply s_Pairs_sumFrom_4 ho step
    simp (disch := omega) only [hn, I_lt]
    exact ⟨fun q => absurd q (by omega), fun _ => ⟨by trivial, by trivial⟩⟩
  · intro k hkn nx
    apply s_Pairs_sumFrom_4 ho step
    have b := hb k hkn
    unfold sumL at nx
    simp (disch := omega) only [hn, hk k hkn, hv k hkn, I_add, I_sub, I_mul, I_div, ixI, Int.toNat_add, Int.toNat_natCast, Int.reduceToNat, I_lt, I_ne, ite_I]
    refine ⟨fun _ => ⟨inRI (by omega) (by omega) (by omega), fun q => ?_, fun q => ⟨inRI (by omega) (by omega) (by omega), ?_⟩⟩, fun q => absurd q (by omega)⟩
    · rw [if_pos q] at nx
      exact nx
    · rw [if_neg q] at nx
      exact nx
theorem c_greatestKey {d : Nat} (ho : Pr o no) (hn : M.1 o 2 = I n) (hno : n ≤ no) (hk : ∀ k, k < n → M.1 (o + 1) k = I (ks k)) (hb : ∀ k, k < n → 0 ≤ ks k ∧ ks k ≤ 60) : Ev (d + 1) 183 [.ref o] M (some (.int (I (mxL ks n)))) M := by
  have h8 := Pr_le ho
  apply Ev.ofQ
  apply e_Pairs_greatestKey ho
  intro At step
  refine loopU (P := fun k => At 4 [.ref o, .int (I (mxL ks k)), .int (I (k : Int))] [] M) (n := n) ?_ ?_
  · apply s_Pairs_greatestKey_4 ho step
    simp (disch := omega) only [hn, I_lt]
    exact ⟨fun q => absurd q (by omega), fun _ => ⟨by trivial, by trivial⟩⟩
  · intro k hkn nx
    apply s_Pairs_greatestKey_4 ho step
    have b := hb k hkn
    have b2 := mxL_b hb (by decide) k (by omega)
    unfold mxL mxI at nx
    simp (disch := omega) only [hn, hk k hkn, I_add, I_sub, I_mul, I_div, ixI, Int.toNat_add, Int.toNat_natCast, Int.reduceToNat, I_lt, I_ne, ite_I]
    refine ⟨fun _ => ⟨inRI (by omega) (by omega) (by omega), ?_⟩, fun q => absurd q (by omega)⟩
    by_cases q : ks k < mxL ks k
    · rw [if_pos q] at nx
      rw [if_neg (by omega)]
      exact nx
    · rw [if_neg q] at nx
      by_cases q2 : mxL ks k < ks k
      · rw [if_pos q2]
        exact nx
      · rw [if_neg q2, show mxL ks k = ks k by omega]
        exact nx
/-- the place of the greatest key up to t among the first k: -1 without -/
def bstL (ks : Nat → Int) (t : Int) : Nat → Int
  | 0 => -1
  | k + 1 => if t < ks k then bstL ks t k else if bstL ks t k = -1 then (k : Int) else if ks (bstL ks t k).toNat < ks k then (k : Int) else bstL ks t k
theorem bstL_b {ks : Nat → Int} {t : Int} : ∀ n : Nat, -1 ≤ bstL ks t n ∧ bstL ks t n < n
  | 0 => by unfold bstL; omega
  | n + 1 => by
    have := bstL_b (ks := ks) (t := t) n
    unfold bstL
    split
    · omega
    · split
      · omega
      · split <;> omega
theorem bst_riv {ks vs : Nat → Int} {t : Int} {N : Nat} (h0 : ∀ k, k < N → 0 ≤ ks k) (hd : ∀ j k, j < N → k < N → ks j = ks k → j = k) : ∀ n, n ≤ N → rivL ks vs t n = if bstL ks t n = -1 then (-1, 0) else (ks (bstL ks t n).toNat, vs (bstL ks t n).toNat)
  | 0, _ => rfl
  | n + 1, hn => by
    have ih := bst_riv (vs := vs) (t := t) h0 hd n (by omega)
    have b := bstL_b (ks := ks) (t := t) n
    unfold rivL bstL
    generalize bstL ks t n = z at ih b ⊢
    rw [ih]
    have hk := h0 n (by omega)
    by_cases q1 : t < ks n
    · rw [if_pos (Or.inl q1), if_pos q1]
    · rw [if_neg q1]
      by_cases q2 : z = -1
      · rw [if_pos q2, if_pos q2, if_neg (by dsimp only; omega), if_neg (by omega), Int.toNat_natCast]
      · rw [if_neg q2, if_neg q2]
        have hz : z.toNat < n := by omega
        by_cases q3 : ks z.toNat < ks n
        · rw [if_pos q3, if_neg (by dsimp only; omega), if_neg (by omega), Int.toNat_natCast]
        · rw [if_neg q3, if_neg q2]
          have hne : ks z.toNat ≠ ks n := fun e => by
            have := hd _ _ (by omega) (by omega) e
            omega
          rw [if_pos (Or.inr (by dsimp only; omega))]
theorem c_latest {d : Nat} (ho : Pr o no) (hn : M.1 o 2 = I n) (hno : n ≤ no) (hk : ∀ k, k < n → M.1 (o + 1) k = I (ks k)) (hv : ∀ k, k < n → M.1 (o + 2) k = I (vs k)) {t : Int} (ht : (-2147483648 ≤ t ∧ t < 2147483648)) (hb : ∀ k, k < n → 0 ≤ ks k ∧ ks k ≤ 60) (hd : ∀ j k, j < n → k < n → ks j = ks k → j = k) : Ev (d + 1) 184 [.ref o, .int (I t)] M (some (.int (I (rivL ks vs t n).2))) M := by
  have h8 := Pr_le ho
  apply Ev.ofQ
  apply e_Pairs_latestValue ho
  intro At step
  refine loopU (P := fun k => At 4 [.ref o, .int (I t), .int (I (bstL ks t k)), .int (I (k : Int))] [] M) (n := n) ?_ ?_
  · apply s_Pairs_latestValue_4 ho step
    have e := bst_riv (vs := vs) (t := t) (fun k h => (hb k h).1) hd n (Nat.le_refl n)
    have b := bstL_b (ks := ks) (t := t) n
    rw [e]
    generalize bstL ks t n = z at b ⊢
    simp (disch := omega) only [hn, I_add, I_sub, I_mul, I_div, ixI, Int.toNat_add, Int.toNat_natCast, Int.reduceToNat, I_lt, I_ne, ite_I]
    refine ⟨fun q => absurd q (by omega), fun _ => ⟨fun q => ⟨by rw [if_pos q], by trivial⟩, fun q => ⟨inRI (by omega) (by omega) (by omega), ?_, by trivial⟩⟩⟩
    rw [if_neg q, ixI (by omega) (by omega), hv _ (by omega)]
  · intro k hkn nx
    apply s_Pairs_latestValue_4 ho step
    have b := hb k hkn
    have b2 := bstL_b (ks := ks) (t := t) k
    unfold bstL at nx
    generalize bstL ks t k = z at nx b2 ⊢
    simp (disch := omega) only [hn, hk k hkn, I_add, I_sub, I_mul, I_div, ixI, Int.toNat_add, Int.toNat_natCast, Int.reduceToNat, I_lt, I_ne, ite_I]
    refine ⟨fun _ => ⟨inRI (by omega) (by omega) (by omega), fun q => ?_, fun q => ⟨fun q2 => ?_, fun q2 => ⟨inRI (by omega) (by omega) (by omega), inRI (by omega) (by omega) (by omega), ?_⟩⟩⟩, fun q => absurd q (by omega)⟩
    · rw [if_pos q] at nx
      exact nx
    · rw [if_neg q, if_pos q2] at nx
      exact nx
    · rw [if_neg q, if_neg q2] at nx
      have b3 := hb z.toNat (by omega)
      simp (disch := omega) only [ixI, hk z.toNat (by omega), I_lt]
      refine ⟨fun q3 => ?_, fun q3 => ?_⟩
      · rw [if_pos q3] at nx
        exact nx
      · rw [if_neg q3] at nx
        exact nx
theorem c_has {d : Nat} (ho : Pr o no) (hn : M.1 o 2 = I n) (hno : n ≤ no) (hk : ∀ k, k < n → M.1 (o + 1) k = I (ks k)) {t : Int} (ht : (-2147483648 ≤ t ∧ t < 2147483648)) (hb : ∀ k, k < n → (-2147483648 ≤ ks k ∧ ks k < 2147483648)) : Ev (d + 1) 180 [.ref o, .int (I t)] M (some (.int (I (if ∃ k, k < n ∧ ks k = t then 1 else 0)))) M := by
  have h8 := Pr_le ho
  apply Ev.ofQ
  apply e_Pairs_has ho
  intro At step
  have key : (∀ k, k < 0 → ks k ≠ t) → At 2 [.ref o, .int (I t), .int (I ((0 : Nat) : Int))] [] M := by
    refine loopU (P := fun j => (∀ k, k < j → ks k ≠ t) → At 2 [.ref o, .int (I t), .int (I (j : Int))] [] M) (n := n) ?_ ?_
    · intro h
      apply s_Pairs_has_2 ho step
      simp (disch := omega) only [hn, I_lt]
      refine ⟨fun q => absurd q (by omega), fun _ => ⟨?_, by trivial⟩⟩
      rw [if_neg]
      rintro ⟨k, h1, h2⟩
      exact h k h1 h2
    · intro k hkn nx h
      apply s_Pairs_has_2 ho step
      have b := hb k hkn
      simp (disch := omega) only [hn, hk k hkn, I_add, I_sub, I_mul, I_div, ixI, Int.toNat_add, Int.toNat_natCast, Int.reduceToNat, I_lt, I_ne, ite_I]
      refine ⟨fun _ => ⟨inRI (by omega) (by omega) (by omega), fun q => ⟨?_, by trivial⟩, fun q => ?_⟩, fun q => absurd q (by omega)⟩
      · rw [if_pos ⟨k, hkn, q⟩]
      · refine nx fun j hj => ?_
        by_cases e : j = k
        · subst e
          exact q
        · exact h j (by omega)
  exact key fun k hk => absurd hk (by omega)
end PRS
section STR
variable {o p : Nat} {M : Mm} {g : Nat → Int}
theorem c_isWithin {d : Nat} {a b c : Int} (h1 : (-2147483648 ≤ a ∧ a < 2147483648)) (h2 : (-2147483648 ≤ b ∧ b < 2147483648)) (h3 : (-2147483648 ≤ c ∧ c < 2147483648)) : Ev (d + 1) 45 [.int (I a), .int (I b), .int (I c)] M (some (.int (I (if b ≤ a ∧ a ≤ c then 1 else 0)))) M := by
  apply Ev.ofQ
  apply e_B_isWithin
  intro At _
  simp (disch := omega) only [I_lt]
  repeat' (first | apply And.intro | intro _)
  all_goals first | exact True.intro | (exfalso; omega) | rfl | exact inRI (by omega) (by omega) (by omega) | (rename_i zz; exact inRI (by omega) (by omega) (by omega) zz) | (rw [if_pos (by omega)]) | (rw [if_neg (by omega)])
theorem c_bit {d : Nat} {n k : Nat} (h1 : n < 1024) (h2 : k < 10) : Ev (d + 1) 46 [.int (I n), .int (I k)] M (some (.int (I (bt n k)))) M := by
  apply Ev.ofQ
  apply e_B_bit
  intro At _
  rw [bit_u h1 h2]
  exact ⟨rfl, rfl⟩
theorem c_hasWall {d : Nat} (hp : St p) (hr : CSr M p g) (hs : RGs g) {w : Int} (hw : (-2147483648 ≤ w ∧ w < 2147483648)) : Ev (d + 1) 237 [.ref p, .int (I w)] M (some (.int (I (if 0 ≤ w ∧ w < g 0 then 1 else 0)))) M := by
  obtain ⟨⟨h0, -⟩, -⟩ := hs
  have e := hr.1.1
  apply Ev.ofQ
  apply e_Street_hasWall hp
  intro At _
  simp (disch := omega) only [e, I_lt]
  repeat' (first | apply And.intro | intro _)
  all_goals first | exact True.intro | (exfalso; omega) | rfl | exact inRI (by omega) (by omega) (by omega) | (rename_i zz; exact inRI (by omega) (by omega) (by omega) zz) | (rw [if_pos (by omega)]) | (rw [if_neg (by omega)])
theorem c_hasHouse {d : Nat} (hp : St p) (hr : CSr M p g) (hs : RGs g) {w : Int} (hw : (-2147483648 ≤ w ∧ w < 2147483648)) : Ev (d + 1) 238 [.ref p, .int (I w)] M (some (.int (I (if 0 ≤ w ∧ w < g 1 then 1 else 0)))) M := by
  obtain ⟨⟨-, h0, -⟩, -⟩ := hs
  have e := hr.1.2.1
  apply Ev.ofQ
  apply e_Street_hasHouse hp
  intro At _
  simp (disch := omega) only [e, I_lt]
  repeat' (first | apply And.intro | intro _)
  all_goals first | exact True.intro | (exfalso; omega) | rfl | exact inRI (by omega) (by omega) (by omega) | (rename_i zz; exact inRI (by omega) (by omega) (by omega) zz) | (rw [if_pos (by omega)]) | (rw [if_neg (by omega)])
theorem c_hasDrain {d : Nat} (hp : St p) (hr : CSr M p g) (hs : RGs g) {w : Int} (hw : (-2147483648 ≤ w ∧ w < 2147483648)) : Ev (d + 1) 239 [.ref p, .int (I w)] M (some (.int (I (if 0 ≤ w ∧ w < g 2 then 1 else 0)))) M := by
  obtain ⟨⟨-, -, h0, -⟩, -⟩ := hs
  have e := hr.1.2.2.1
  apply Ev.ofQ
  apply e_Street_hasDrain hp
  intro At _
  simp (disch := omega) only [e, I_lt]
  repeat' (first | apply And.intro | intro _)
  all_goals first | exact True.intro | (exfalso; omega) | rfl | exact inRI (by omega) (by omega) (by omega) | (rename_i zz; exact inRI (by omega) (by omega) (by omega) zz) | (rw [if_pos (by omega)]) | (rw [if_neg (by omega)])
theorem c_hasTarget {d : Nat} (hp : St p) (hr : CSr M p g) (hs : RGs g) {w : Int} (hw : (-2147483648 ≤ w ∧ w < 2147483648)) : Ev (d + 2) 240 [.ref p, .int (I w)] M (some (.int (I (if 0 ≤ w ∧ w < g 0 ∨ 10 ≤ w ∧ w < 10 + g 2 then 1 else 0)))) M := by
  have hs0 := hs
  obtain ⟨⟨h0, -, h2, -⟩, -⟩ := hs0
  apply Ev.ofQ
  apply e_Street_hasTarget hp
  intro At _
  refine ⟨_, _, c_hasWall hp hr hs hw, ?_⟩
  rw [bI0]
  simp (disch := omega) only [I_add, I_sub, I_mul, I_div, ixI, Int.toNat_add, Int.toNat_natCast, Int.reduceToNat, I_lt, I_ne, ite_I]
  refine ⟨fun q => ⟨fun q2 => ⟨by rw [if_neg (by omega)], by trivial⟩, fun q2 => ⟨_, _, c_hasDrain hp hr hs (by omega), ?_⟩⟩, fun q => ⟨by rw [if_pos (by omega)], by trivial⟩⟩
  rw [bI0]
  refine ⟨fun q3 => ⟨by rw [if_neg (by omega)], rfl⟩, fun q3 => ⟨by rw [if_pos (by omega)], rfl⟩⟩
theorem c_bagsFor {d : Nat} (hp : St p) (hr : CSr M p g) (hs : RGs g) {w : Int} (hw : (-2147483648 ≤ w ∧ w < 2147483648)) {h : Int} (h0 : 0 ≤ h) (h1 : h ≤ 2000) : Ev (d + 2) 241 [.ref p, .int (I w), .int (I h)] M (some (.int (I (if 0 ≤ w ∧ w < g 0 then g (8 + w.toNat) * tri h else 0)))) M := by
  have hs0 := hs
  obtain ⟨⟨hw0, -⟩, -⟩ := hs0
  apply Ev.ofQ
  apply e_Street_bagsFor hp
  intro At _
  have hh : 0 ≤ h * (h + 1) := Int.mul_nonneg h0 (by omega)
  have hb : h * (h + 1) ≤ 2000 * 2001 := Int.mul_le_mul h1 (by omega) (by omega) (by omega)
  refine ⟨_, _, c_hasWall hp hr hs hw, ?_⟩
  rw [bI0]
  refine ⟨fun q => ⟨by rw [if_neg q], by trivial⟩, fun q => ?_⟩
  have e := hr.2.1 w.toNat (by omega)
  simp (disch := omega) only [I_add, I_sub, I_mul, I_div, ixI, Int.toNat_add, Int.toNat_natCast, Int.reduceToNat, I_lt, I_ne, ite_I, e]
  refine ⟨inRI (by omega) (by omega) (by omega), ?_, by trivial⟩
  rw [if_pos (by omega)]
  rfl
end STR
