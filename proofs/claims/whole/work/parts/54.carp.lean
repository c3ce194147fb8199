/-! ===== carpets: the class ===== -/
def carV (g : Nat → Int) (k : Nat) : Int := g (23 + k) / 2
/-- whose carpets may be carried -/
def carS (g : Nat → Int) (k : Nat) : Bool := decide (g (112 + k) = 0 ∧ ¬ bt (g 99).toNat k = 1 ∧ g (33 + k) < mxL (fun k => g (61 + k)) (g 3).toNat)
def carC (g : Nat → Int) (t k : Nat) : Bool := carS g k && !decide (bt t k = 1)
def dcL (C : Nat → Bool) (v : Nat → Int) : Nat → Int
  | 0 => -1
  | k + 1 => if C k = true ∧ (dcL C v k = -1 ∨ v (dcL C v k).toNat < v k) then (k : Int) else dcL C v k
theorem dcL_b {C : Nat → Bool} {v : Nat → Int} : ∀ n : Nat, -1 ≤ dcL C v n ∧ dcL C v n < n
  | 0 => by unfold dcL; omega
  | n + 1 => by
    have := dcL_b (C := C) (v := v) n
    unfold dcL
    split <;> omega
def grL (g : Nat → Int) : Nat → Nat × Int
  | 0 => (0, 0)
  | i + 1 => if dcL (carC g (grL g i).1) (carV g) (g 1).toNat = -1 then grL g i else ((grL g i).1 ||| 2 ^ (dcL (carC g (grL g i).1) (carV g) (g 1).toNat).toNat, (grL g i).2 + carV g (dcL (carC g (grL g i).1) (carV g) (g 1).toNat).toNat)
theorem grL_lt {g : Nat → Int} (hs : RGs g) : ∀ i : Nat, (grL g i).1 < 1024
  | 0 => by show 0 < 1024; decide
  | i + 1 => by
    have ih := grL_lt hs i
    have h1 := hs.1.2.1
    have b := dcL_b (C := carC g (grL g i).1) (v := carV g) (g 1).toNat
    unfold grL
    split
    · exact ih
    · exact or_lt1024 ih (pow10 (by omega))
def carpA (g : Nat → Int) (n : Int) : Int := if 0 ≤ n ∧ n ≤ 10 then (grL g n.toNat).2 else -1
def carpN (g : Nat → Int) (n mv : Int) : Int := if 0 ≤ n ∧ n ≤ 10 then ((grL g n.toNat).1 : Int) else mv
section CRP
variable {M : Mm} {ps : Nat} {g : Nat → Int}
theorem c_dearest {d : Nat} (hb : CB M ps g) {t : Nat} (ht : t < 1024) : Ev (d + 2) 32 [.ref 1, .int (I t)] M (some (.int (I (dcL (carC g t) (carV g) (g 1).toNat)))) M := by
  obtain ⟨hp, ep, hr, hc, hs, hd, -⟩ := hb
  have h1 := hs.1.2.1
  have h3 := hs.1.2.2.2.1
  have hu := hd.1.2.2.2.2.2.2.2.2.2.2.1
  obtain ⟨nh, hnh⟩ := Nn h1.1
  have enh : (g 1).toNat = nh := by omega
  obtain ⟨nc, hnc⟩ := Nn h3.1
  have enc : (g 3).toNat = nc := by omega
  have e3 := hr.1.2.2.2.1
  rw [hnc] at e3
  have e10 := hc.1.2.2.2.2.2.2.2.2.2.2
  rw [show g 99 = ((g 99).toNat : Int) by omega] at e10
  have mb := mxL_b (f := fun k => g (61 + k)) (c := 60) (N := nc) (fun k hk => by have := hs.2.2.2.2.1 k (by omega); omega) (by decide) _ (Nat.le_refl _)
  rw [enh]
  apply Ev.ofQ
  apply e_B_dearestCarpets
  intro At step
  rw [ep]
  refine ⟨hp, _, _, c_greatestKey (St_cr hp) e3 (by omega) (fun j hj => (hr.2.2.2.2.1 j (by omega)).1) (fun j hj => by have := hs.2.2.2.2.1 j (by omega); omega), ?_⟩
  refine loopU (P := fun k : Nat => At 16 [.ref 1, .int (I t), .int (I (mxL (fun k => g (61 + k)) nc)), .int (I (dcL (carC g t) (carV g) k)), .int (I (k : Int)), .retAddr 0] [] M) (n := nh) ?_ ?_
  · apply s_B_dearestCarpets_16 step
    rw [ep, hr.1.2.1, hnh, I_lt (by omega) (by omega) (by omega) (by omega)]
    exact ⟨hp, fun z => absurd z (by omega), fun _ => ⟨rfl, rfl⟩⟩
  · intro k hk nx
    apply s_B_dearestCarpets_16 step
    have b := hs.2.2.1 k (by omega)
    have db := dcL_b (C := carC g t) (v := carV g) k
    have hbu := bt_lt (g 99).toNat k
    have hbt := bt_lt t k
    have r3 := hr.2.2.1 k (by omega)
    have hi : inR (I (k : Int)) 10 := inRI (by omega) (by omega) (by omega)
    have hC : (carC g t k = true) = (g (112 + k) = 0 ∧ ¬ bt (g 99).toNat k = 1 ∧ g (33 + k) < mxL (fun k => g (61 + k)) nc ∧ ¬ bt t k = 1) := by
      unfold carC carS
      rw [enc]
      simp only [Bool.and_eq_true, decide_eq_true_eq, Bool.not_eq_true', decide_eq_false_iff_not, and_assoc]
    unfold dcL at nx
    have nT : carC g t k = true ∧ (dcL (carC g t) (carV g) k = -1 ∨ carV g (dcL (carC g t) (carV g) k).toNat < carV g k) → At 16 [.ref 1, .int (I t), .int (I (mxL (fun k => g (61 + k)) nc)), .int (I (k : Int)), .int (I (k : Int) + I 1), .retAddr 0] [] M := by
      intro z
      rw [if_pos z] at nx
      rw [I_add]
      exact nx
    have nF : ¬ (carC g t k = true ∧ (dcL (carC g t) (carV g) k = -1 ∨ carV g (dcL (carC g t) (carV g) k).toNat < carV g k)) → At 16 [.ref 1, .int (I t), .int (I (mxL (fun k => g (61 + k)) nc)), .int (I (dcL (carC g t) (carV g) k)), .int (I (k : Int) + I 1), .retAddr 0] [] M := by
      intro z
      rw [if_neg z] at nx
      rw [I_add]
      exact nx
    rw [hC] at nT nF
    clear nx
    generalize dcL (carC g t) (carV g) k = z at nT nF db ⊢
    rw [ep, hr.1.2.1, hnh, I_lt (by omega) (by omega) (by omega) (by omega)]
    refine ⟨hp, fun _ => ⟨_, _, c_isFlooded Sa200 hc hd (by omega), ?_⟩, fun y => absurd (by omega) y⟩
    by_cases y1 : g (112 + k) = 0
    · rw [if_pos y1]
      refine ⟨fun _ => ⟨_, _, by rw [e10]; exact c_bit (by omega) (by omega), ?_⟩, fun y => absurd rfl y⟩
      rw [I_ne (by omega) (by omega) (by omega) (by omega)]
      refine ⟨fun y2 => ⟨_, _, c_bit ht (by omega), ?_⟩, fun y2 => nF (fun y => y.1.2.1 (by omega))⟩
      rw [I_ne (by omega) (by omega) (by omega) (by omega), ep]
      refine ⟨fun y3 => ⟨hp, hi, ?_⟩, fun y3 => nF (fun y => y.1.2.2.2 (by omega))⟩
      rw [ixI (by omega) (by omega), Int.toNat_natCast, r3.2.2, r3.2.1, I_lt (by omega) (by omega) (by omega) (by omega), I_ne (by omega) (by omega) (by omega) (by omega), I_div (by omega) (by omega) (by omega) (by omega)]
      refine ⟨fun y4 => ⟨fun y5 => nT ⟨⟨y1, by omega, y4, by omega⟩, Or.inl y5⟩, fun y5 => ⟨hi, inRI (by omega) (by omega) (by omega), ?_⟩⟩, fun y4 => nF (fun y => y4 y.1.2.2.1)⟩
      have rz := hr.2.2.1 z.toNat (by omega)
      have bz := hs.2.2.1 z.toNat (by omega)
      rw [ixI (by omega) (by omega), rz.2.1, I_div (by omega) (by omega) (by omega) (by omega), I_lt (by omega) (by omega) (by omega) (by omega)]
      refine ⟨fun y6 => nT ⟨⟨y1, by omega, y4, by omega⟩, Or.inr y6⟩, fun y6 => nF (fun y => ?_)⟩
      rcases y.2 with x | x
      · exact y5 x
      · exact y6 x
    · rw [if_neg y1]
      exact ⟨fun y => absurd y (by decide), fun _ => nF (fun y => y1 y.1.1)⟩
theorem b_carpets {d : Nat} (hb : CB M ps g) {w mv : Int} (hw : (-2147483648 ≤ w ∧ w < 2147483648)) (e16 : M.1 1 16 = I mv) : EvQ (d + 3) 31 [.ref 1, .int (I w)] M fun r M' => r = some (.int (I (carpA g w))) ∧ CB M' ps g ∧ M'.1 1 16 = I (carpN g w mv) ∧ F1 205 209 [16] M M' := by
  have hb0 := hb
  obtain ⟨hp, ep, hr, hc, hs, hd, -⟩ := hb
  have h1 := hs.1.2.1
  apply e_B_carpets
  intro At step
  refine ⟨_, _, c_isWithin hw (by omega) (by omega), ?_⟩
  rw [bI0]
  refine ⟨fun q => ⟨by simp (disch := omega) only [carpA, if_neg], hb0, by simp (disch := omega) only [carpN, if_neg]; exact e16, F1.refl⟩, fun q => ?_⟩
  obtain ⟨n, rfl⟩ := Nn (a := w) (by omega)
  have hA : carpA g n = (grL g n).2 := by
    unfold carpA
    rw [if_pos (Decidable.of_not_not q), Int.toNat_natCast]
  have hN : carpN g n mv = ((grL g n).1 : Int) := by
    unfold carpN
    rw [if_pos (Decidable.of_not_not q), Int.toNat_natCast]
  rw [hA, hN] at step
  refine loopU (P := fun i : Nat => At 19 [.ref 1, .int (I n), .int (I ((grL g i).1 : Nat)), .int (I (grL g i).2), .int (I (i : Int)), .retAddr 0] [] M) (n := n) ?_ ?_
  · apply s_B_carpets_19 step
    rw [I_lt (by omega) (by omega) (by omega) (by omega)]
    exact ⟨fun z => absurd z (by omega), fun _ => ⟨rfl, hb0.f1, mI_eq, F1.st (by simp)⟩⟩
  · intro i hi nx
    apply s_B_carpets_19 step
    have gl := grL_lt hs i
    have db := dcL_b (C := carC g (grL g i).1) (v := carV g) (g 1).toNat
    unfold grL at nx
    generalize grL g i = y at nx gl db ⊢
    rw [I_lt (by omega) (by omega) (by omega) (by omega)]
    refine ⟨fun _ => ⟨_, _, c_dearest hb0 gl, ?_⟩, fun z => absurd (by omega) z⟩
    generalize dcL (carC g y.1) (carV g) (g 1).toNat = z at nx db ⊢
    rw [I_ne (by omega) (by omega) (by omega) (by omega), ep, I_add]
    refine ⟨fun y1 => ?_, fun y1 => ?_⟩
    · rw [if_pos y1] at nx
      exact nx
    · rw [if_neg y1] at nx
      obtain ⟨zn, rfl⟩ := Nn (a := z) (by omega)
      have rz := hr.2.2.1 zn (by omega)
      have bz := hs.2.2.1 zn (by omega)
      rw [Int.toNat_natCast] at nx
      rw [ixI (by omega) (by omega), Int.toNat_natCast, rz.2.1, I_div (by omega) (by omega) (by omega) (by omega), shl0 zn (by omega), I_or, I_add]
      exact ⟨hp, inRI (by omega) (by omega) (by omega), nx⟩
end CRP
