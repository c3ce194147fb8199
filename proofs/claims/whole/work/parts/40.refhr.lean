/-! ===== the reference's hours ===== -/
theorem upf_2 {α : Type} {f : Nat → α} {k : Nat} {a b : α} : upf (upf f k a) k b = upf f k b := by
  funext j
  unfold upf
  split <;> rfl
theorem upf_self {α : Type} {f : Nat → α} {k : Nat} : upf f k (f k) = f := by
  funext j
  unfold upf
  split
  · rename_i h
    rw [h]
  · rfl
section RHR
variable {M : Mm} {g : Nat → Int}
theorem r_riverAt {d : Nat} (hm : M.1 402 = fun k => I (g k)) (hs : RGs g) {t : Int} (ht : (-2147483648 ≤ t ∧ t < 2147483648)) : Ev (d + 1) 92 [.ref 400, .int (I t)] M (some (.int (I (river g t)))) M := by
  obtain ⟨⟨-, -, -, -, h4, -⟩, -, -, -, -, hb, -⟩ := hs
  obtain ⟨n, hn⟩ := Nn h4.1
  exact v_riverAt hm ht hn (by omega) fun k hk => by have := hb k (by omega); omega
theorem r_leaksOf {d : Nat} (hm : M.1 402 = fun k => I (g k)) (hs : RGs g) (hd : RGd g) {w h : Int} (hw : (-2147483648 ≤ w ∧ w < 2147483648)) (hh : (-2147483648 ≤ h ∧ h < 2147483648)) : Ev (d + 2) 94 [.ref 400, .int (I w), .int (I h)] M (some (.int (I (leakS g w h (g 2).toNat)))) M := by
  have hba := bags_b hd
  obtain ⟨⟨-, -, h2, -⟩, -, -, hb, -⟩ := hs
  exact v_leaksOf hm hw hh (nd := (g 2).toNat) (by omega) (by omega) fun k hk => by
    have := hb k hk
    have := hba.2.2.2 k hk
    omega
theorem r_wouldFlood {d : Nat} (hm : M.1 402 = fun k => I (g k)) (hs : RGs g) (hd : RGd g) {k : Nat} (hk : k < 10) {h : Int} (hh : (-2147483648 ≤ h ∧ h < 2147483648)) : Ev (d + 3) 110 [.ref 400, .int (I k), .int (I h)] M (some (.int (I (if floodB g (g 2).toNat (g 98).toNat k h then 1 else 0)))) M := by
  have hba := bags_b hd
  have hq := hd.1.2.2.2.2.2.2.2.2.2.1
  obtain ⟨⟨h0, -, h2, -⟩, hbw, hbk, hb, -⟩ := hs
  have b1 := hbk k hk
  refine v_wouldFlood hm hk hh (q := (g 98).toNat) (nd := (g 2).toNat) (by omega) (by omega) (by omega) (by omega) (by omega) (by omega) (fun w hw h1 => ?_) (fun w hw h1 => ?_) (fun j hj => ?_)
  · have := hbw w hw
    omega
  · exact hba.2.2.1 w hw
  · have := hb j hj
    have := hba.2.2.2 j hj
    omega
theorem r_heightOf {d : Nat} (hm : M.1 402 = fun k => I (g k)) (hs : RGs g) (hd : RGd g) {w : Nat} (hw : (w : Int) < g 0) : Ev (d + 2) 91 [.ref 400, .int (I w)] M (some (.int (I (higI g (g 98).toNat w)))) M := by
  have hba := bags_b hd
  have hq := hd.1.2.2.2.2.2.2.2.2.2.1
  obtain ⟨⟨h0, -⟩, hbw, -⟩ := hs
  have := hbw w (by omega)
  have := hba.2.2.1 w (by omega)
  exact v_heightOf hm (by omega) (q := (g 98).toNat) (by omega) (by omega) (by omega) (by omega)
theorem r_saved {d : Nat} (hm : M.1 402 = fun k => I (g k)) (hs : RGs g) (hd : RGd g) : Ev (d + 2) 100 [.ref 400] M (some (.int (I (savL (fun k => g (23 + k)) (g 100).toNat (g 99).toNat (g 1).toNat)))) M := by
  obtain ⟨-, -, -, -, -, -, -, -, -, -, hu, hf⟩ := hd.1
  obtain ⟨⟨-, h1, -⟩, -, hbk, -⟩ := hs
  refine v_saved hm (nh := (g 1).toNat) (by omega) (by omega) (by omega) (by omega) (by omega) (by omega) fun k hk => ?_
  have := hbk k hk
  omega
theorem r_isOpen {d : Nat} (hm : M.1 402 = fun k => I (g k)) (hs : RGs g) (hd : RGd g) : Ev (d + 2) 109 [.ref 400] M (some (.int (I (if opnG g then 1 else 0)))) M := by
  obtain ⟨-, -, -, -, -, -, hw, -, -, hq, -⟩ := hd.1
  obtain ⟨⟨h0, -, h2, -⟩, -⟩ := hs
  obtain ⟨a, ha⟩ := Nn (a := g 95) (by omega)
  obtain ⟨b, hb⟩ := Nn (a := g 0) (by omega)
  have := v_isOpen (d := d) hm (q := (g 98).toNat) (by omega) (by omega) hb (by omega) ha (by omega)
  unfold opnG
  rw [ha, hb]
  exact this
theorem r_eachBy {d : Nat} (hm : M.1 402 = fun k => I (g k)) (hs : RGs g) {t : Int} (ht : 0 ≤ t ∧ t < 1000) : Ev (d + 2) 99 [.ref 400, .int (I t)] M (some (.int (I (eachI g t)))) M := by
  obtain ⟨⟨-, -, -, -, -, -, -, h7⟩, -⟩ := hs
  exact v_eachBy hm ht (by omega)
theorem r_hour {d : Nat} (hm : M.1 402 = fun k => I (g k)) (hs : RGs g) (hd : RGd g) (ht : g 92 ≤ 199) (h48 : g 89 < 48) : Ev (d + 4) 111 [.ref 400] M none (sS 402 M (hourG g)) := by
  have hf := fillG_b hs hd
  have hca := carG_b hs hd
  have hcel := celG_b hs hd
  have hti := tirG_b hd
  have hba := bags_b hd
  have hd0 := hd.1
  have h92 := hd0.2.2.2.2.1
  have he := eachI_b hs h92.1
  apply Ev.ofQ
  apply e_R_hour
  intro At step
  have e402 : ∀ k, M.1 402 k = I (g k) := fun k => by rw [hm]
  rw [e402]
  refine ⟨_, _, r_eachBy hm hs (by omega), ?_⟩
  simp (disch := omega) only [e402, I_add, I_sub, I_mul, I_div, ixI, Int.toNat_add, Int.toNat_natCast, Int.reduceToNat, I_lt, I_ne, ite_I]
  refine ⟨_, _, v_lesser (by omega) (by omega), ?_⟩
  have efl : mnI (g 90) (g 93 / 2 * eachI g (g 92)) = fillG g := rfl
  rw [efl]
  simp only [e402, I_sub, I_add]
  rw [sI_sS hm, sS_put]
  generalize hg1 : upf (upf g 90 (g 90 - fillG g)) 91 (g 91 + fillG g) = g1
  have a1 : ∀ j, j ≠ 90 → j ≠ 91 → g1 j = g j := fun j q1 q2 => by rw [← hg1, upf_ne q2, upf_ne q1]
  have a90 : g1 90 = g 90 - fillG g := by rw [← hg1, upf_ne (by decide), upf_eq]
  have a91 : g1 91 = g 91 + fillG g := by rw [← hg1, upf_eq]
  have s1 : SameS g g1 := fun j hj => a1 j (by omega) (by omega)
  have hs1 := hs.same s1
  have hd1 : RGd g1 := by
    obtain ⟨⟨b1, b2, b3, b4, b5, b6, b7, b8, -, b9, b10, b11⟩, c1, c2, c3⟩ := hd
    unfold tot at b4
    refine ⟨⟨?_, ?_, ?_, ?_, ?_, ?_, ?_, ?_, trivial, ?_, ?_, ?_⟩, fun w hw => ?_, fun k hk => ?_, fun k hk => ?_⟩
    · rw [a1 89 (by decide) (by decide)]; exact b1
    · omega
    · omega
    · unfold tot
      rw [a90, a91, a1 101 (by decide) (by decide), a1 102 (by decide) (by decide), a1 103 (by decide) (by decide), a1 104 (by decide) (by decide), a1 105 (by decide) (by decide), a1 106 (by decide) (by decide), a1 107 (by decide) (by decide), a1 108 (by decide) (by decide), a1 109 (by decide) (by decide), a1 110 (by decide) (by decide), a1 111 (by decide) (by decide)]
      omega
    · rw [a1 92 (by decide) (by decide)]; exact b5
    · rw [a1 93 (by decide) (by decide), a1 94 (by decide) (by decide)]; exact b6
    · rw [a1 95 (by decide) (by decide), a1 0 (by decide) (by decide), a1 2 (by decide) (by decide)]; exact b7
    · rw [a1 96 (by decide) (by decide)]; exact b8
    · rw [a1 98 (by decide) (by decide)]; exact b9
    · rw [a1 99 (by decide) (by decide)]; exact b10
    · rw [a1 100 (by decide) (by decide)]; exact b11
    · rw [a1 (101 + w) (by omega) (by omega)]; exact c1 w hw
    · rw [a1 (106 + k) (by omega) (by omega)]; exact c2 k hk
    · rw [a1 (112 + k) (by omega) (by omega), a1 100 (by decide) (by decide), a1 1 (by decide) (by decide)]; exact c3 k hk
  have o1 : opnG g1 = opnG g := by
    unfold opnG
    rw [a1 95 (by decide) (by decide), a1 0 (by decide) (by decide), a1 98 (by decide) (by decide)]
  refine ⟨_, _, r_isOpen sS_at hs1 hd1, ?_⟩
  rw [o1, bI0]
  have t231 : ∀ N : Mm, N = sS 402 M (workG g) → At 231 [.ref 400, .retAddr 0, .retAddr 0, .retAddr 0, .int (I (river (workG g) (workG g 89))), .int (I 0)] [] N := by
    intro N hN
    subst hN
    have e1 := workG_same hs hd
    have hsN := hs.same e1
    have hdN := RGd_work hs hd ht
    have h48N : workG g 89 < 48 := by rw [(workG_at hs hd).1]; exact h48
    unfold hourG tideG at step
    have hrb := river_b hsN hdN (workG g 89)
    have h1b := hsN.1.2.1
    generalize workG g = w at step e1 hsN hdN h48N hrb h1b ⊢
    generalize river w (w 89) = R at step hrb ⊢
    obtain ⟨n, hn⟩ := Nn h1b.1
    rw [show (w 1).toNat = n by omega] at step
    refine loopU (P := fun k : Nat => At 231 [.ref 400, .retAddr 0, .retAddr 0, .retAddr 0, .int (I R), .int (I (k : Int))] [] (sS 402 M (flL w R k))) (n := n) ?_ ?_
    · apply s_R_hour_231 step
      have e9 : flL w R n 89 = w 89 := flL_at n 89 (by decide) (Or.inl (by decide))
      have e1 : flL w R n 1 = w 1 := flL_at n 1 (by decide) (Or.inl (by decide))
      rw [sS_at]
      dsimp only
      simp only [e1, hn, e9, I_add, sS_put]
      refine ⟨fun q => absurd q (by rw [I_lt (by omega) (by omega) (by omega) (by omega)]; omega), fun _ => ⟨by trivial, by trivial⟩⟩
    · intro k hk nx
      apply s_R_hour_231 step
      have ea := fun j h1 h2 => flL_at (g := w) (h := R) k j h1 h2
      have hd2 := flL_RGd (h := R) hsN hdN h48N k (by omega)
      have e2 : SameS w (flL w R k) := fun j hj => ea j (by omega) (Or.inl (by omega))
      have hs2 := hsN.same e2
      have e9 : flL w R k 89 = w 89 := ea 89 (by decide) (Or.inl (by decide))
      have e1 : flL w R k 1 = w 1 := ea 1 (by decide) (Or.inl (by decide))
      have ef : floodB (flL w R k) (flL w R k 2).toNat (flL w R k 98).toNat k R = floodB w (w 2).toNat (w 98).toNat k R := by
        rw [ea 2 (by decide) (Or.inl (by decide)), ea 98 (by decide) (Or.inl (by decide))]
        have h2 := hsN.1.2.2.1
        have h0 := hsN.1.1
        have hbk := hsN.2.2.1 k (by omega)
        exact floodB_congr (by omega) (by omega) (by omega) fun j hj => ea j (by omega) (Or.inl (by omega))
      have hwf : ∀ d, Ev (d + 3) 110 [.ref 400, .int (I k), .int (I R)] (sS 402 M (flL w R k)) (some (.int (I (if floodB w (w 2).toNat (w 98).toNat k R then 1 else 0)))) (sS 402 M (flL w R k)) := fun d => by
        have := r_wouldFlood (d := d) (M := sS 402 M (flL w R k)) sS_at hs2 hd2 (k := k) (h := R) (by omega) (by omega)
        rw [ef] at this
        exact this
      have hb3 := hd2.2.2.2 k (by omega)
      have h100 := hd2.1.2.2.2.2.2.2.2.2.2.2.2
      unfold flL fl1 at nx
      generalize flL w R k = z at nx hwf hb3 h100 e9 e1 ⊢
      have ez : ∀ j, (sS 402 M z).1 402 j = I (z j) := fun j => by rw [sS_at]
      rw [ez 1, ez 100, e1, hn, show z 100 = (((z 100).toNat : Nat) : Int) by omega]
      refine ⟨fun _ => ⟨_, _, v_bitOf (by omega) (by omega), ?_⟩, fun q => absurd (show I (k : Int) < I (n : Int) by rw [I_lt (by omega) (by omega) (by omega) (by omega)]; omega) q⟩
      rw [bI0, I_add]
      have hbt := bt_lt (z 100).toNat k
      refine ⟨fun q => ⟨_, _, hwf _, ?_⟩, fun q => ?_⟩
      · have q0 : z (112 + k) = 0 := by
          by_cases q0 : z (112 + k) = 0
          · exact q0
          · exact absurd (hb3.2.2.1.mpr q0) q
        rw [bI0]
        refine ⟨fun r => ?_, fun r => ⟨?_, ?_⟩⟩
        · rw [if_neg (fun y => r y.2)] at nx
          exact nx
        · rw [I_add]
          exact inRI (by omega) (by omega) (by omega)
        · rw [if_pos ⟨q0, Decidable.of_not_not r⟩] at nx
          simp (disch := omega) only [ez, shl0 k (by omega), I_or, I_add, ixI, sS_put, e9, Int.toNat_add, Int.toNat_natCast, Int.reduceToNat]
          rw [show z 100 = (((z 100).toNat : Nat) : Int) by omega, I_or, sS_put, sS_put]
          exact nx
      · rw [if_neg (fun y => q (by intro q9; exact absurd (hb3.2.2.1.mp q9) (fun q8 => q8 y.1)))] at nx
        exact nx
  have t215 : ∀ N : Mm, N = sS 402 M (workG g) → At 215 [.ref 400, .retAddr 0, .retAddr 0, .retAddr 0, .retAddr 0, .retAddr 0] [] N := by
    intro N hN
    apply s_R_hour_215 step
    have h89 := (workG_at hs hd).1
    have em : N.1 402 = fun k => I (workG g k) := by rw [hN, sS_at]
    rw [em]
    dsimp only
    exact ⟨_, _, r_riverAt em (hs.same (workG_same hs hd)) (by omega), t231 N hN⟩
  have t165 : ∀ N : Mm, N = sS 402 M (upf (upf (upf (upf g 90 (g 90 - fillG g)) 91 (g 91 + fillG g - carG g)) 97 (g 97 + carG g)) (celG g) (g (celG g) + carG g)) → At 165 [.ref 400, .retAddr 0, .retAddr 0, .retAddr 0, .retAddr 0, .retAddr 0] [] N := by
    intro N hN
    subst hN
    apply s_R_hour_165 step
    have e : ∀ j, (sS 402 M (upf (upf (upf (upf g 90 (g 90 - fillG g)) 91 (g 91 + fillG g - carG g)) 97 (g 97 + carG g)) (celG g) (g (celG g) + carG g))).1 402 j = I (upf (upf (upf (upf g 90 (g 90 - fillG g)) 91 (g 91 + fillG g - carG g)) 97 (g 97 + carG g)) (celG g) (g (celG g) + carG g) j) := fun j => by rw [sS_at]
    rw [e 93, e 94, e 92]
    simp (disch := omega) only [upf_ne, I_add, I_sub, I_mul, I_div, ixI, Int.toNat_add, Int.toNat_natCast, Int.reduceToNat, I_lt, I_ne, ite_I]
    unfold workG tirG at t215
    refine ⟨fun q => t215 _ ?_, fun q => ⟨_, _, v_greater (by omega) (by omega), t215 _ ?_⟩⟩
    · rw [if_pos q, sS_put]
    · rw [if_neg q, sS_put]
  have t87 : At 87 [.ref 400, .retAddr 0, .retAddr 0, .int (I (carG g)), .retAddr 0, .retAddr 0] [] (sS 402 M g1) := by
    apply s_R_hour_87 step
    have e : ∀ j, (sS 402 M g1).1 402 j = I (g1 j) := fun j => by rw [sS_at]
    have e95 := a1 95 (by decide) (by decide)
    have e97 := a1 97 (by decide) (by decide)
    simp only [e 95, e95, e 91, e 97, a91, e97, I_sub, I_add, sS_put]
    simp (disch := omega) only [I_add, I_sub, I_mul, I_div, ixI, Int.toNat_add, Int.toNat_natCast, Int.reduceToNat, I_lt, I_ne, ite_I]
    have hwh := hd0.2.2.2.2.2.2.1
    have h0b := hs.1.1
    have h2b := hs.1.2.2.1
    have fin : ∀ k : Nat, k = celG g → sI (sS 402 M (upf (upf g1 91 (g 91 + fillG g - carG g)) 97 (g 97 + carG g))) 402 k ((sS 402 M (upf (upf g1 91 (g 91 + fillG g - carG g)) 97 (g 97 + carG g))).1 402 k + I (carG g)) = sS 402 M (upf (upf (upf (upf g 90 (g 90 - fillG g)) 91 (g 91 + fillG g - carG g)) 97 (g 97 + carG g)) (celG g) (g (celG g) + carG g)) := by
      intro k hk
      subst hk
      rw [sS_at]
      dsimp only
      rw [I_add, sS_put, upf_ne (by omega), upf_ne (by omega), a1 _ (by omega) (by omega), ← hg1, upf_2]
    refine ⟨fun q => ⟨inRI (by omega) (by omega) (by omega), inRI (by omega) (by omega) (by omega), fun N hN => t165 N ?_⟩, fun q => ⟨inRI (by omega) (by omega) (by omega), inRI (by omega) (by omega) (by omega), fun N hN => t165 N ?_⟩⟩
    · have ek := hcel.2.2.2 (by omega)
      rw [← fin (101 + (g 95).toNat) (by omega)]
      exact hN
    · have ek := hcel.2.2.1 (by omega)
      rw [← fin (96 + (g 95).toNat) (by omega)]
      rw [hN, show (106 + g 95 - 10).toNat = 96 + (g 95).toNat by omega]
  have ecar : carG g = if opnG g then mnI (g 91 + fillG g) (g 94 * eachI g (g 92)) else 0 := rfl
  refine ⟨fun q => ?_, fun q => ?_⟩
  · rw [if_neg q] at ecar
    rw [ecar] at t87
    exact t87
  · rw [if_pos (Decidable.of_not_not q)] at ecar
    have e : ∀ j, (sS 402 M g1).1 402 j = I (g1 j) := fun j => by rw [sS_at]
    rw [e 91, e 94, a91, a1 94 (by decide) (by decide), I_mul]
    refine ⟨_, _, v_lesser (by omega) (by omega), ?_⟩
    rw [← ecar]
    exact t87
theorem sS_keep {a b : Nat} {N : Mm} {u : Nat → Int} (h : b ≠ a) : (sS a N u).1 b = N.1 b := sS_ne h
/-- how many hours go by -/
def hrsN (g : Nat → Int) (n : Nat) : Int := mnI n (48 - g 89)
theorem r_goesOn {d : Nat} (hm : M.1 402 = fun k => I (g k)) (hs : RGs g) (hd : RGd g) (hn : RN g) {n : Nat} (hn9 : n < 1000) : Ev (d + 5) 112 [.ref 400, .int (I n)] M (some (.int (I (hrsN g n)))) (sS 402 M (hrsG g n)) := by
  apply Ev.ofQ
  apply e_R_goesOn
  intro At step
  have key : ∀ (j i : Nat) (u : Nat → Int), i + j = n → SameS g u → RGd u → RN u → hrsG g n = hrsG u j → u 89 = g 89 + i → At 2 [.ref 400, .int (I n), .int (I i)] [] (sS 402 M u) := by
    intro j
    induction j with
    | zero =>
      intro i u hi eN hdN hnN he e89
      have h0 := hdN.1.1
      apply s_R_goesOn_2 step
      rw [I_lt (by omega) (by omega) (by omega) (by omega)]
      refine ⟨fun q => absurd q (by omega), fun _ => ⟨?_, ?_⟩⟩
      · unfold hrsN mnI
        congr 3
        split <;> omega
      · rw [he]
        rfl
    | succ j ih =>
      intro i u hi eN hdN hnN he e89
      have h0 := hdN.1.1
      apply s_R_goesOn_2 step
      have e : ∀ j, (sS 402 M u).1 402 j = I (u j) := fun j => by rw [sS_at]
      rw [e 89, I_lt (by omega) (by omega) (by omega) (by omega), I_lt (by omega) (by omega) (by omega) (by omega)]
      rw [hrsG_s] at he
      refine ⟨fun _ => ⟨fun q => ?_, fun q => ⟨?_, ?_⟩⟩, fun q => absurd q (by omega)⟩
      · rw [if_pos q] at he
        have hsN := hs.same eN
        have b := RN_b hdN hnN
        refine ⟨_, r_hour sS_at hsN hdN (by omega) q, ?_⟩
        rw [sS_sS, I_add]
        have e2 := hourG_same hsN hdN
        exact ih (i + 1) (hourG u) (by omega) (fun j hj => (e2 j hj).trans (eN j hj)) (RGd_hour hsN hdN (by omega) q) (RN_hour hsN hdN ⟨by have := hnN.1; omega, hnN.2⟩) he (by rw [(hourG_at hsN hdN).1]; omega)
      · unfold hrsN mnI
        congr 3
        split <;> omega
      · rw [if_neg q] at he
        rw [he]
  have := key n 0 g (by omega) (fun _ _ => rfl) hd hn rfl (by omega)
  rw [sS_self hm] at this
  exact this
/-- what 'seed' holds behind n draws, as far as they went -/
def sedN (g : Nat → Int) (x : Int32) : Nat → Int32
  | 0 => x
  | n + 1 => if g 89 < 48 then sedN (hourG (if rndT (rndN x) = I 0 then rainG g else g)) (rndN x) n else x
theorem sedN_s {x : Int32} {n : Nat} : sedN g x (n + 1) = if g 89 < 48 then sedN (hourG (if rndT (rndN x) = I 0 then rainG g else g)) (rndN x) n else x := rfl
theorem r_draws {d : Nat} (hm : M.1 402 = fun k => I (g k)) (hs : RGs g) (hd : RGd g) (hn : RN g) {n : Nat} (hn9 : n < 1000) {x : Int32} : Ev (d + 5) 148 [.ref 400, .int (I n), .int x] M (some (.int (I (hrsN g n)))) (sS 402 (sI M 400 40 (sedN g x n)) (drwG g x n)) := by
  apply Ev.ofQ
  apply e_R_draws
  intro At step
  have key : ∀ (j i : Nat) (x1 : Int32) (u : Nat → Int), i + j = n → SameS g u → RGd u → RN u → drwG g x n = drwG u x1 j → sedN g x n = sedN u x1 j → u 89 = g 89 + i → At 7 [.ref 400, .int (I n), .retAddr 0, .int (I i)] [] (sS 402 (sI M 400 40 x1) u) := by
    intro j
    induction j with
    | zero =>
      intro i x1 u hi eN hdN hnN he hx e89
      have h0 := hdN.1.1
      apply s_R_draws_7 step
      rw [I_lt (by omega) (by omega) (by omega) (by omega)]
      refine ⟨fun q => absurd q (by omega), fun _ => ⟨?_, ?_⟩⟩
      · unfold hrsN mnI
        congr 3
        split <;> omega
      · rw [he, hx]
        rfl
    | succ j ih =>
      intro i x1 u hi eN hdN hnN he hx e89
      have h0 := hdN.1.1
      apply s_R_draws_7 step
      have e : ∀ j, (sS 402 (sI M 400 40 x1) u).1 402 j = I (u j) := fun j => by rw [sS_at]
      rw [e 89, I_lt (by omega) (by omega) (by omega) (by omega), I_lt (by omega) (by omega) (by omega) (by omega)]
      rw [drwG_s] at he
      rw [sedN_s] at hx
      refine ⟨fun _ => ⟨fun q => ?_, fun q => ⟨?_, ?_⟩⟩, fun q => absurd q (by omega)⟩
      · rw [if_pos q] at he hx
        have hsN := hs.same eN
        have b := RN_b hdN hnN
        obtain ⟨r1, r2, r3, r4, r5⟩ := rain_ok (x := rndN x1) hsN hdN hnN q
        have fin0 : ∀ z : Nat → Int, SameS u z → RGd z → (z 96 ≤ z 89 + 1 ∧ z 92 ≤ z 89 + pc10 (z 99).toNat) → z 89 = u 89 → z 92 = u 92 → drwG g x n = drwG (hourG z) (rndN x1) j → sedN g x n = sedN (hourG z) (rndN x1) j → ∃ N4 : Mm, (Ev (d + 4) 111 [.ref 400] (sS 402 (sI M 400 40 (rndN x1)) z) none N4 ∧ (At 7 [.ref 400, .int (I n), .retAddr 0, .int (I i + I 1)] [] N4)) := by
          intro z r1 r2 r3 r4 r5 he hx
          have zs := hsN.same r1
          have ez : SameS g z := fun j hj => (r1 j hj).trans (eN j hj)
          refine ⟨_, r_hour sS_at zs r2 (by omega) (by omega), ?_⟩
          rw [sS_sS, I_add]
          have e2 := hourG_same zs r2
          exact ih (i + 1) (rndN x1) (hourG z) (by omega) (fun j hj => (e2 j hj).trans (ez j hj)) (RGd_hour zs r2 (by omega) (by omega)) (RN_hour zs r2 r3) he hx (by rw [(hourG_at zs r2).1]; omega)
        have fin := fin0 _ r1 r2 r3 r4 r5 he hx
        have e40 : (sS 402 (sI M 400 40 x1) u).1 400 40 = x1 := by
          rw [sS_ne (by decide), mI_eq]
        have eD : Ev (d + 4) 147 [.ref 400, .int (I 6)] (sS 402 (sI M 400 40 x1) u) (some (.int (rndT (rndN x1)))) (sS 402 (sI M 400 40 (rndN x1)) u) := by
          apply Ev.ofQ
          apply e_R_draw
          intro At _
          rw [e40]
          refine ⟨nz_c 6 rfl, rfl, ?_⟩
          rw [sS_sI (by decide)]
          show sS 402 (sI (sI M 400 40 x1) 400 40 (rndN x1)) u = _
          congr 1
          unfold sI
          dsimp only
          congr 1
          funext a
          unfold up2
          split
          · rename_i h; subst h; rw [if_pos rfl, upf_2]
          · rfl
        refine ⟨_, _, eD, fun q2 => ?_, fun q2 => ?_⟩
        · rw [if_pos q2] at fin
          have e96 : (sS 402 (sI M 400 40 (rndN x1)) u).1 402 96 = I (u 96) := by rw [sS_at]
          rw [e96, I_add, sS_put]
          exact fin
        · rw [if_neg q2] at fin
          exact fin
      · unfold hrsN mnI
        congr 3
        split <;> omega
      · rw [if_neg q] at he hx
        rw [he, hx]
  have := key n 0 x g (by omega) (fun _ _ => rfl) hd hn rfl rfl (by omega)
  have hm2 : (sI M 400 40 x).1 402 = fun k => I (g k) := by rw [mI_fn (by decide), hm]
  rw [sS_self hm2] at this
  exact this
end RHR
