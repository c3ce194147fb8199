/-! ===== what is due to those outside: the class ===== -/
def cntL (P : Nat → Bool) : Nat → Nat
  | 0 => 0
  | n + 1 => cntL P n + (if P n then 1 else 0)
theorem cntL_mono {P R : Nat → Bool} : ∀ {n : Nat}, (∀ i, i < n → P i = true → R i = true) → cntL P n ≤ cntL R n
  | 0, _ => Nat.le_refl _
  | n + 1, h => by
    have ih := cntL_mono (n := n) fun i hi => h i (by omega)
    have h1 := h n (by omega)
    unfold cntL
    by_cases q : P n = true
    · rw [if_pos q, if_pos (h1 q)]
      omega
    · rw [if_neg q]
      omega
theorem cntL_lt {P R : Nat → Bool} {b : Nat} : ∀ {n : Nat}, (∀ i, i < n → P i = true → R i = true) → b < n → ¬ P b = true → R b = true → cntL P n + 1 ≤ cntL R n
  | 0, _, hb, _, _ => absurd hb (by omega)
  | n + 1, h, hb, h1, h2 => by
    unfold cntL
    by_cases e : b = n
    · subst e
      have ih := cntL_mono (n := b) fun i hi => h i (by omega)
      rw [if_neg h1, if_pos h2]
      omega
    · have ih := cntL_lt (n := n) (fun i hi => h i (by omega)) (by omega) h1 h2
      have h3 := h n (by omega)
      by_cases q : P n = true
      · rw [if_pos q, if_pos (h3 q)]
        omega
      · rw [if_neg q]
        omega
theorem cntL_b {P : Nat → Bool} : ∀ n : Nat, cntL P n ≤ n
  | 0 => Nat.le_refl _
  | n + 1 => by
    have := cntL_b (P := P) n
    unfold cntL
    split <;> omega
theorem cntL_upd {P R : Nat → Bool} {b : Nat} : ∀ {n : Nat}, (∀ i, i < n → i ≠ b → P i = R i) → b < n → ¬ P b = true → R b = true → cntL R n = cntL P n + 1
  | 0, _, hb, _, _ => absurd hb (by omega)
  | n + 1, h, hb, h1, h2 => by
    unfold cntL
    by_cases e : b = n
    · subst e
      have ec : ∀ m, m ≤ b → cntL R m = cntL P m := by
        intro m
        induction m with
        | zero => intro _; rfl
        | succ m ih =>
          intro hm
          unfold cntL
          rw [ih (by omega), h m (by omega) (by omega)]
      rw [if_neg h1, if_pos h2, ec b (Nat.le_refl _)]
    · have ih := cntL_upd (n := n) (fun i hi => h i (by omega)) (by omega) h1 h2
      rw [ih, h n (by omega) (by omega)]
      omega
def outW (g : Nat → Int) (k : Nat) : Int := if g (13 + k) = 0 then g (23 + k) else 0
def allW (g : Nat → Int) : Int := sumL (outW g) (g 1).toNat
def basW (g : Nat → Int) (w : Int) (k : Nat) : Int := if g (13 + k) = 0 then w * g (23 + k) / allW g else 0
def remW (g : Nat → Int) (w : Int) (k : Nat) : Int := w * g (23 + k) % allW g
/-- k's rest is served ahead of j's -/
def preW (g : Nat → Int) (w : Int) (k j : Nat) : Bool := decide (g (13 + k) = 0 ∧ (remW g w j < remW g w k ∨ remW g w k = remW g w j ∧ k < j))
def mreW (g : Nat → Int) (w : Int) : Int := w - sumL (basW g w) (g 1).toNat
def dueA (g : Nat → Int) (h w : Int) : Int := if (0 ≤ h ∧ h < g 1) ∧ g (13 + h.toNat) = 0 ∧ (0 ≤ w ∧ w ≤ 999) then w * g (23 + h.toNat) / allW g + (if (cntL (fun i => preW g w i h.toNat) (g 1).toNat : Int) < mreW g w then 1 else 0) else -1
theorem allW_b {g : Nat → Int} (hs : RGs g) : 0 ≤ allW g ∧ allW g ≤ 990 := by
  have h1 := hs.1.2.1
  have := sumL_b (f := outW g) (c := 99) (N := (g 1).toNat) (fun k hk => by
    have b := hs.2.2.1 k (by omega)
    unfold outW
    split <;> omega) (by decide) _ (Nat.le_refl _)
  unfold allW
  omega
theorem sumL_ge {f : Nat → Int} {k : Nat} : ∀ {n : Nat}, (∀ i, i < n → 0 ≤ f i) → k < n → f k ≤ sumL f n
  | 0, _, h => absurd h (by omega)
  | n + 1, h, hk => by
    unfold sumL
    have hn := h n (by omega)
    by_cases e : k = n
    · subst e
      have : 0 ≤ sumL f k := by
        have : ∀ m, m ≤ k → 0 ≤ sumL f m := by
          intro m
          induction m with
          | zero => intro _; exact Int.le_refl 0
          | succ m ih =>
            intro hm
            have i1 := ih (by omega)
            have i2 := h m (by omega)
            unfold sumL
            omega
        exact this k (Nat.le_refl _)
      omega
    · have := sumL_ge (n := n) (fun i hi => h i (by omega)) (k := k) (by omega)
      omega
theorem allW_pos {g : Nat → Int} (hs : RGs g) {h : Nat} (hh : (h : Int) < g 1) (h0 : g (13 + h) = 0) : 1 ≤ allW g := by
  have h1 := hs.1.2.1
  have b := hs.2.2.1 h (by omega)
  have := sumL_ge (f := outW g) (k := h) (n := (g 1).toNat) (fun k hk => by
    have b := hs.2.2.1 k (by omega)
    unfold outW
    split <;> omega) (by omega)
  have e : outW g h = g (23 + h) := if_pos h0
  unfold allW
  omega
theorem wmul_b {g : Nat → Int} (hs : RGs g) {w : Int} (hw : 0 ≤ w ∧ w ≤ 999) {k : Nat} (hk : k < 10) : 0 ≤ w * g (23 + k) ∧ w * g (23 + k) ≤ 999 * 99 := by
  have b := hs.2.2.1 k hk
  exact mulb hw ⟨by omega, by omega⟩
section DUE
variable {M : Mm} {ps : Nat} {g : Nat → Int}
theorem b_due {d : Nat} (hb : CB M ps g) {h w : Int} (hh : (-2147483648 ≤ h ∧ h < 2147483648)) (hw : (-2147483648 ≤ w ∧ w < 2147483648)) : Ev (d + 4) 26 [.ref 1, .int (I h), .int (I w)] M (some (.int (I (dueA g h w)))) M := by
  obtain ⟨hp, ep, hr, hc, hs, hd, -⟩ := hb
  have h1 := hs.1.2.1
  apply Ev.ofQ
  apply e_B_due
  intro At step
  rw [ep]
  refine ⟨hp, _, _, c_hasHouse hp hr hs hh, ?_⟩
  rw [bI0, ep]
  refine ⟨fun q => ⟨by simp (disch := omega) only [dueA, if_neg], rfl⟩, fun q => ?_⟩
  obtain ⟨k, rfl⟩ := Nn (a := h) (by omega)
  have hk : (k : Int) < g 1 := by omega
  have bk := hs.2.2.1 k (by omega)
  have r3 := hr.2.2.1 k hk
  have h0b := hs.1.1
  rw [ixI (by omega) (by omega), Int.toNat_natCast, r3.1, I_ne (by omega) (by omega) (by omega) (by omega)]
  refine ⟨hp, inRI (by omega) (by omega) (by omega), fun q0 => ⟨_, _, c_isWithin hw (by omega) (by omega), ?_⟩, fun q0 => ⟨by simp (disch := omega) only [dueA, if_neg, Int.toNat_natCast], rfl⟩⟩
  rw [bI0]
  refine ⟨fun q2 => ⟨by simp (disch := omega) only [dueA, if_neg], rfl⟩, fun q2 => ?_⟩
  rw [ep]
  have hbl : housesS g (-1) (g 1).toNat < 1024 := setL_lt10 _ (by omega)
  refine ⟨hp, _, _, c_housesBehind hp hr hs (by omega), _, _, c_worthOf hp hr hs hbl, ?_⟩
  have eall : sumL (fun j => (bt (housesS g (-1) (g 1).toNat) j : Int) * g (23 + j)) (g 1).toNat = allW g := by
    refine sumL_congr fun j hj => ?_
    unfold housesS outW
    rw [bt_setL]
    by_cases z : g (13 + j) = 0
    · rw [if_pos ⟨hj, by simp [z]⟩, if_pos z]
      simp
    · rw [if_neg (by intro x; exact z (by have := x.2; simp only [decide_eq_true_eq] at this; omega)), if_neg z]
      simp
  rw [eall, ep]
  have ab := allW_b hs
  have ap := allW_pos hs hk (by omega)
  have wk := wmul_b hs (w := w) (by omega) (k := k) (by omega)
  rw [I_lt (by omega) (by omega) (by omega) (by omega), r3.2.1, I_mul, I_rem (by omega) (by omega) (by omega) (by omega)]
  refine ⟨fun _ => ⟨hp, inRI (by omega) (by omega) (by omega), ?_, ?_⟩, fun z => absurd (by omega) z⟩
  · rw [I_ne (by omega) (by omega) (by omega) (by omega)]
    omega
  have hA : dueA g k w = w * g (23 + k) / allW g + (if (cntL (fun i => preW g w i k) (g 1).toNat : Int) < mreW g w then 1 else 0) := by
    unfold dueA
    rw [if_pos ⟨by omega, by rw [Int.toNat_natCast]; omega, by omega⟩, Int.toNat_natCast]
  rw [hA] at step
  have eR : w * g (23 + k) % allW g = remW g w k := rfl
  rw [eR]
  have rb : 0 ≤ remW g w k ∧ remW g w k < 990 := by
    have := Int.emod_lt_of_pos (w * g (23 + k)) (show 0 < allW g by omega)
    have := Int.emod_nonneg (w * g (23 + k)) (show allW g ≠ 0 by omega)
    unfold remW
    omega
  have bb : ∀ j : Nat, j ≤ (g 1).toNat → 0 ≤ sumL (basW g w) j ∧ sumL (basW g w) j ≤ (999 * 99) * j := sumL_b (c := 999 * 99) (N := (g 1).toNat) (fun i hi => by
    have wi := wmul_b hs (w := w) (by omega) (k := i) (by omega)
    have d1 := Int.ediv_nonneg wi.1 (show 0 ≤ allW g by omega)
    have d2 := Int.ediv_le_self (allW g) wi.1
    unfold basW
    split <;> omega) (by decide)
  have h := loopU (P := fun j : Nat => At 83 [.ref 1, .int (I k), .int (I w), .int (I (allW g)), .int (I (w - sumL (basW g w) j)), .int (I (cntL (fun i => preW g w i k) j : Nat)), .int (I (remW g w k)), .int (I (j : Int)), .retAddr 0, .retAddr 0] [] M) (n := (g 1).toNat) ?_ ?_
  · have e0 : w - sumL (basW g w) 0 = w := by
      show w - 0 = w
      omega
    rw [e0] at h
    exact h
  · apply s_B_due_83 step
    rw [ep, hr.1.2.1, I_lt (by omega) (by omega) (by omega) (by omega)]
    refine ⟨hp, fun z => absurd z (by omega), fun _ => ?_⟩
    have sb := bb (g 1).toNat (Nat.le_refl _)
    have cb := cntL_b (P := fun i => preW g w i k) (g 1).toNat
    have em : w - sumL (basW g w) (g 1).toNat = mreW g w := rfl
    rw [ixI (by omega) (by omega), Int.toNat_natCast, r3.2.1, I_mul, I_div wk.1 (by omega) (by omega) (by omega), I_add, I_add, I_lt (by omega) (by omega) (by omega) (by omega), em, I_ne (by omega) (by omega) (by omega) (by omega)]
    refine ⟨inRI (by omega) (by omega) (by omega), by omega, fun z => ⟨?_, rfl⟩, fun z => ⟨?_, rfl⟩⟩
    · rw [if_pos z]
    · rw [if_neg z]
  · intro j hj nx
    apply s_B_due_83 step
    have rj := hr.2.2.1 j (by omega)
    have bj := hs.2.2.1 j (by omega)
    have wj := wmul_b hs (w := w) (by omega) (k := j) (by omega)
    have eRj : w * g (23 + j) % allW g = remW g w j := rfl
    have rbj : 0 ≤ remW g w j ∧ remW g w j < 990 := by
      have := Int.emod_lt_of_pos (w * g (23 + j)) (show 0 < allW g by omega)
      have := Int.emod_nonneg (w * g (23 + j)) (show allW g ≠ 0 by omega)
      unfold remW
      omega
    have hi : inR (I (j : Int)) 10 := inRI (by omega) (by omega) (by omega)
    have nT : preW g w j k = true → At 83 [.ref 1, .int (I k), .int (I w), .int (I (allW g)), .int (I (w - sumL (basW g w) j - basW g w j)), .int (I ((cntL (fun i => preW g w i k) j : Nat) + 1)), .int (I (remW g w k)), .int (I ((j : Int) + 1)), .retAddr 0, .retAddr 0] [] M := by
      intro z
      have nx := nx
      unfold sumL cntL at nx
      rw [if_pos z, show w - (sumL (basW g w) j + basW g w j) = w - sumL (basW g w) j - basW g w j by omega] at nx
      exact nx
    have nF : preW g w j k = false → At 83 [.ref 1, .int (I k), .int (I w), .int (I (allW g)), .int (I (w - sumL (basW g w) j - basW g w j)), .int (I ((cntL (fun i => preW g w i k) j : Nat) + 0)), .int (I (remW g w k)), .int (I ((j : Int) + 1)), .retAddr 0, .retAddr 0] [] M := by
      intro z
      have nx := nx
      unfold sumL cntL at nx
      rw [if_neg (by rw [z]; decide), show w - (sumL (basW g w) j + basW g w j) = w - sumL (basW g w) j - basW g w j by omega] at nx
      exact nx
    rw [ep, hr.1.2.1, I_lt (by omega) (by omega) (by omega) (by omega), ixI (by omega) (by omega), Int.toNat_natCast, rj.1, rj.2.1, I_mul, I_rem wj.1 (by omega) (by omega) (by omega), I_div wj.1 (by omega) (by omega) (by omega), eRj]
    simp (disch := omega) only [I_ne, I_lt, I_add, I_sub]
    have na : ¬ allW g = 0 := by omega
    refine ⟨hp, fun _ => ⟨hi, fun q0 => ?_, fun q0 => ?_⟩, fun z => absurd (by omega) z⟩
    · have eb : basW g w j = w * g (23 + j) / allW g := if_pos (by omega)
      rw [eb] at nT nF
      refine ⟨hi, na, na, fun q1 => ?_, fun q1 => ⟨na, fun q2 => ⟨fun q3 => ?_, fun q3 => ?_⟩, fun q2 => ?_⟩⟩
      · exact nT (by unfold preW; rw [decide_eq_true_eq]; omega)
      · exact nT (by unfold preW; rw [decide_eq_true_eq]; omega)
      · exact nF (by unfold preW; rw [decide_eq_false_iff_not]; omega)
      · exact nF (by unfold preW; rw [decide_eq_false_iff_not]; omega)
    · have eb : basW g w j = 0 := if_neg (by omega)
      rw [eb, Int.sub_zero, Int.add_zero] at nF
      exact nF (by unfold preW; rw [decide_eq_false_iff_not]; omega)
end DUE
