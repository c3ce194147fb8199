/-! ===== the crew ===== -/
def wrkG (g : Nat → Int) : Nat → Nat → Int
  | 0 => g
  | n + 1 => workG (wrkG g n)
theorem wrkG_ok {g : Nat → Int} (hs : RGs g) (hd : RGd g) (hn : g 92 ≤ 150) : ∀ n : Nat, n ≤ 20 → SameO g (wrkG g n) ∧ RGd (wrkG g n) ∧ wrkG g n 92 ≤ g 92 + n
  | 0, _ => ⟨SameO.refl, hd, by show g 92 ≤ g 92 + 0; omega⟩
  | n + 1, h => by
    obtain ⟨i1, i2, i3⟩ := wrkG_ok hs hd hn n (by omega)
    have zs := hs.same i1.s
    have t := tirG_b i2
    have hc := celG_b zs i2
    have w := workG_at zs i2
    unfold wrkG
    refine ⟨i1.trans fun j hj => ?_, RGd_work zs i2 (by omega), by rw [w.2.2.2.1]; omega⟩
    unfold workG
    rw [upf_ne (by omega), upf_ne (by omega), upf_ne (by omega), upf_ne (by omega), upf_ne (by omega)]
/-- how many bags are carried in n hours by f and c -/
def crewV (g : Nat → Int) (f c : Int) (n : Nat) : Int := wrkG (postsG g f c (g 95)) n 97 - g 97
theorem wrkG_97 {g : Nat → Int} (hs : RGs g) (hd : RGd g) (hn : g 92 ≤ 150) : ∀ n : Nat, n ≤ 20 → 0 ≤ wrkG g n 97 - g 97 ∧ wrkG g n 97 - g 97 ≤ 1200 * n
  | 0, _ => by show 0 ≤ g 97 - g 97 ∧ g 97 - g 97 ≤ 1200 * 0; omega
  | n + 1, h => by
    obtain ⟨i1, i2, i3⟩ := wrkG_ok hs hd hn n (by omega)
    have ih := wrkG_97 hs hd hn n (by omega)
    have zs := hs.same i1.s
    have w := workG_at zs i2
    have cb := carG_b zs i2
    have hcar : carG (wrkG g n) ≤ 1200 := by
      unfold carG
      split
      · have := mnI_b (a := wrkG g n 91 + fillG (wrkG g n)) (b := wrkG g n 94 * eachI (wrkG g n) (wrkG g n 92)) (by have := i2.1.2.2.1; have := (fillG_b zs i2).1; omega) cb.2.2.1
        omega
      · decide
    unfold wrkG
    rw [w.2.2.2.2.2.2.2.2.1]
    omega
def crS (g : Nat → Int) (n : Nat) (f c : Int) (z : Int × Int × Int) : Int × Int × Int := if z.1 < crewV g f c n then (crewV g f c n, f, c) else z
def crI (g : Nat → Int) (n : Nat) (f : Int) (z : Int × Int × Int) : Nat → Int × Int × Int
  | 0 => z
  | k + 1 => crS g n f k (crI g n f z k)
def crO (g : Nat → Int) (n : Nat) (z : Int × Int × Int) : Nat → Int × Int × Int
  | 0 => z
  | f + 1 => crI g n f (crO g n z f) ((g 5).toNat + 1 - f)
def crewA (g : Nat → Int) (n : Int) : Int := if 1 ≤ n ∧ n ≤ 6 ∧ n ≤ 48 - g 89 then (crO g n.toNat (-1, 0, 0) ((g 5).toNat + 1)).1 else -1
def crewF (g : Nat → Int) (n : Int) (z : Int × Int) : Int × Int := if 1 ≤ n ∧ n ≤ 6 ∧ n ≤ 48 - g 89 then (crO g n.toNat (-1, 0, 0) ((g 5).toNat + 1)).2 else z
theorem crI_ind {g : Nat → Int} {n : Nat} (h : ∀ f c : Int, 0 ≤ f → 0 ≤ c → f + c ≤ g 5 → 0 ≤ crewV g f c n) (h5 : 0 ≤ g 5) {a b : Int × Int} : ∀ k : Nat, crI g n 0 (-1, a) (k + 1) = crI g n 0 (-1, b) (k + 1)
  | 0 => by
    have := h 0 0 (by omega) (by omega) (by omega)
    show crS g n 0 ((0 : Nat) : Int) (-1, a) = crS g n 0 ((0 : Nat) : Int) (-1, b)
    unfold crS
    rw [if_pos (by show (-1 : Int) < crewV g 0 0 n; omega), if_pos (by show (-1 : Int) < crewV g 0 0 n; omega)]
  | k + 1 => by
    show crS g n 0 _ (crI g n 0 (-1, a) (k + 1)) = crS g n 0 _ (crI g n 0 (-1, b) (k + 1))
    rw [crI_ind h h5 k]
theorem crO_ind {g : Nat → Int} {n : Nat} (h : ∀ f c : Int, 0 ≤ f → 0 ≤ c → f + c ≤ g 5 → 0 ≤ crewV g f c n) (h5 : 0 ≤ g 5) {a b : Int × Int} : ∀ k : Nat, crO g n (-1, a) (k + 1) = crO g n (-1, b) (k + 1)
  | 0 => by
    show crI g n ((0 : Nat) : Int) (-1, a) ((g 5).toNat + 1 - 0) = crI g n ((0 : Nat) : Int) (-1, b) ((g 5).toNat + 1 - 0)
    exact crI_ind h h5 _
  | k + 1 => by
    show crI g n _ (crO g n (-1, a) (k + 1)) _ = crI g n _ (crO g n (-1, b) (k + 1)) _
    rw [crO_ind h h5 k]
theorem crewV_b {g : Nat → Int} (hs : RGs g) (hd : RGd g) (hn : RN g) {n : Nat} (hn6 : n ≤ 6) (f c : Int) (hf : 0 ≤ f) (hc : 0 ≤ c) (hfc : f + c ≤ g 5) : 0 ≤ crewV g f c n ∧ crewV g f c n ≤ 7200 := by
  have h5 := hs.1.2.2.2.2.2.1
  have b := RN_b hd hn
  have hw := hd.1.2.2.2.2.2.2.1
  have hd2 : RGd (postsG g f c (g 95)) := RGd_posts hd (by omega) hw
  have := wrkG_97 (g := postsG g f c (g 95)) (hs.same postsG_o.s) hd2 (by show g 92 ≤ 150; omega) n (by omega)
  have e : postsG g f c (g 95) 97 = g 97 := rfl
  rw [e] at this
  unfold crewV
  omega
theorem crI_b {g : Nat → Int} {n : Nat} {f : Int} {z : Int × Int × Int} (hf : 0 ≤ f) (h : ∀ c : Int, 0 ≤ c → f + c ≤ g 5 → 0 ≤ crewV g f c n ∧ crewV g f c n ≤ 7200) (hz : -1 ≤ z.1 ∧ z.1 ≤ 7200) : ∀ k : Nat, (k : Int) ≤ g 5 + 1 - f → -1 ≤ (crI g n f z k).1 ∧ (crI g n f z k).1 ≤ 7200
  | 0, _ => hz
  | k + 1, hk => by
    have ih := crI_b hf h hz k (by omega)
    have := h k (by omega) (by omega)
    unfold crI crS
    split
    · show -1 ≤ crewV g f k n ∧ crewV g f k n ≤ 7200
      omega
    · exact ih
theorem crO_b {g : Nat → Int} {n : Nat} {z : Int × Int × Int} (h5 : 0 ≤ g 5) (h : ∀ f c : Int, 0 ≤ f → 0 ≤ c → f + c ≤ g 5 → 0 ≤ crewV g f c n ∧ crewV g f c n ≤ 7200) (hz : -1 ≤ z.1 ∧ z.1 ≤ 7200) : ∀ k : Nat, (k : Int) ≤ g 5 + 1 → -1 ≤ (crO g n z k).1 ∧ (crO g n z k).1 ≤ 7200
  | 0, _ => hz
  | k + 1, hk => by
    have ih := crO_b h5 h hz k (by omega)
    exact crI_b (by omega) (fun c hc hfc => h k c (by omega) hc hfc) ih _ (by omega)
/-- nothing changed but within lo .. hi, and the numbers of T in the class's own object -/
def F1 (lo hi : Nat) (T : List Nat) (M M' : Mm) : Prop := Fr2 1 2 lo hi M M' ∧ (∀ k, k ∉ T → M'.1 1 k = M.1 1 k) ∧ M'.2.1 1 = M.2.1 1 ∧ M'.2.2 1 = M.2.2 1
theorem F1.refl {lo hi : Nat} {T : List Nat} {M : Mm} : F1 lo hi T M M := ⟨Fr2.refl, fun _ _ => rfl, rfl, rfl⟩
theorem F1.trans {lo hi : Nat} {T : List Nat} {M N O : Mm} (h : F1 lo hi T M N) (k : F1 lo hi T N O) : F1 lo hi T M O := ⟨h.1.trans k.1, fun j hj => (k.2.1 j hj).trans (h.2.1 j hj), k.2.2.1.trans h.2.2.1, k.2.2.2.trans h.2.2.2⟩
theorem F1.of {lo hi : Nat} {T : List Nat} {M N : Mm} (h : Fr lo hi M N) (h1 : 2 ≤ lo) : F1 lo hi T M N := ⟨h.two', fun j _ => by rw [(h 1 (by omega)).1], (h 1 (by omega)).2.1, (h 1 (by omega)).2.2⟩
theorem F1.st {lo hi k : Nat} {T : List Nat} {M : Mm} {v : Int32} (h : k ∈ T) : F1 lo hi T M (sI M 1 k v) := ⟨(Fr.sI (by omega) (by omega)).two, fun j hj => mI_n2 (fun e => hj (e ▸ h)), rfl, rfl⟩
theorem CB.f1 {M : Mm} {ps k : Nat} {g : Nat → Int} {v : Int32} (h : CB M ps g) : CB (sI M 1 k v) ps g := by
  obtain ⟨hp, ep, hr, hc, hx⟩ := h
  have := St_far hp
  exact ⟨hp, ep, hr.of fun a h1 h2 => mI_fn (by omega), hc.of fun a h1 h2 => mI_fn (by omega), hx⟩
theorem crewA_nn {g : Nat → Int} (hs : RGs g) (hd : RGd g) (hn : RN g) {n : Nat} (h1 : 1 ≤ n) (h6 : n ≤ 6) (h : (n : Int) ≤ 48 - g 89) : 0 ≤ crewA g n := by
  have h5 := hs.1.2.2.2.2.2.1
  have hv := fun f c h1 h2 h3 => crewV_b hs hd hn (n := n) (by omega) f c h1 h2 h3
  unfold crewA
  rw [if_pos ⟨by omega, by omega, by omega⟩, Int.toNat_natCast]
  have mono1 : ∀ (f : Int) (z : Int × Int × Int) (k : Nat), z.1 ≤ (crI g n f z k).1 := by
    intro f z k
    induction k with
    | zero => exact Int.le_refl _
    | succ k ih =>
      unfold crI crS
      split
      · rename_i q
        show z.1 ≤ crewV g f k n
        omega
      · exact ih
  have mono2 : ∀ k : Nat, 0 ≤ (crO g n (-1, 0, 0) (k + 1)).1 := by
    intro k
    induction k with
    | zero =>
      have first : ∀ j : Nat, 0 ≤ (crI g n ((0 : Nat) : Int) (-1, 0, 0) (j + 1)).1 := by
        intro j
        induction j with
        | zero =>
          have := hv 0 0 (by omega) (by omega) (by omega)
          show 0 ≤ (crS g n ((0 : Nat) : Int) ((0 : Nat) : Int) (-1, 0, 0)).1
          unfold crS
          rw [if_pos (by show (-1 : Int) < crewV g 0 0 n; omega)]
          exact this.1
        | succ j ih =>
          show 0 ≤ (crS g n _ _ (crI g n ((0 : Nat) : Int) (-1, 0, 0) (j + 1))).1
          unfold crS
          split
          · rename_i q
            show 0 ≤ crewV g _ _ n
            omega
          · exact ih
      exact first _
    | succ k ih =>
      show 0 ≤ (crI g n _ (crO g n (-1, 0, 0) (k + 1)) _).1
      have := mono1 ((k + 1 : Nat) : Int) (crO g n (-1, 0, 0) (k + 1)) ((g 5).toNat + 1 - (k + 1))
      omega
  exact mono2 _
section CRW
variable {M : Mm} {ps : Nat} {g : Nat → Int}
theorem b_carriedBy {d : Nat} (hb : CB M ps g) {f c : Int} {n : Nat} (hf : 0 ≤ f) (hc0 : 0 ≤ c) (hfc : f + c ≤ g 5) (hn6 : n ≤ 6) : EvQ (d + 4) 20 [.ref 1, .int (I f), .int (I c), .int (I n)] M fun r M' => r = some (.int (I (crewV g f c n))) ∧ CB M' ps g ∧ Fr 205 209 M M' := by
  have hb0 := hb
  obtain ⟨hp, ep, hr, hc, hs, hd, hn⟩ := hb
  have h5 := hs.1.2.2.2.2.2.1
  have b := RN_b hd hn
  have hw := hd.1.2.2.2.2.2.2.1
  have hd2 : RGd (postsG g f c (g 95)) := RGd_posts hd (by omega) hw
  have hs2 : RGs (postsG g f c (g 95)) := hs.same postsG_o.s
  apply e_B_bagsCarriedBy
  intro At step
  refine q_non (c_stateCopy Sa205 Sa200 (by decide) hc) ?_
  rintro N ⟨hcN, hfN⟩
  have hbN : CB N ps g := hb0.fr (hfN.mono (by omega) (by omega)).two' SameO.refl hd hn (hc.of fun a h1 h2 => (hfN a (by omega)).1)
  rw [hbN.2.2.2.1.1.2.2.2.2.2.2.2.2.1]
  refine q_non (c_takePosts Sa205 hcN) ?_
  rintro N2 ⟨hc2, hf2⟩
  have hb2 : CB N2 ps g := hbN.fr (hf2.mono (by omega) (by omega)).two' SameO.refl hd hn (hbN.2.2.2.1.of fun a h1 h2 => (hf2 a (by omega)).1)
  refine loopU (P := fun i : Nat => ∀ O : Mm, CB O ps g → CSt O 205 (wrkG (postsG g f c (g 95)) i) → Fr 205 209 M O → At 30 [.ref 1, .retAddr 0, .retAddr 0, .int (I n), .int (I (i : Int))] [] O) (n := n) ?_ ?_ N2 hb2 hc2 (hfN.trans hf2)
  · intro O hbO hcO hfO
    apply s_B_bagsCarriedBy_30 step
    rw [I_lt (by omega) (by omega) (by omega) (by omega), hcO.1.2.2.2.2.2.1, hbO.2.2.2.1.1.2.2.2.2.2.1, I_sub]
    exact ⟨fun q => absurd q (by omega), fun _ => ⟨rfl, hbO, hfO⟩⟩
  · intro i hi nx O hbO hcO hfO
    apply s_B_bagsCarriedBy_30 step
    obtain ⟨i1, i2, i3⟩ := wrkG_ok hs2 hd2 (by show g 92 ≤ 150; omega) i (by omega)
    rw [I_lt (by omega) (by omega) (by omega) (by omega), hbO.2.1]
    refine ⟨fun _ => q_non (c_work Sa205 hp (CSr.same hs hbO.2.2.1 (postsG_o.trans i1).s) hcO (hs2.same i1.s) i2) ?_, fun q => absurd (by omega) q⟩
    rintro O2 ⟨hcO2, hfO2⟩
    rw [I_add]
    exact nx O2 (hbO.fr (hfO2.mono (by omega) (by omega)).two' SameO.refl hd hn (hbO.2.2.2.1.of fun a h1 h2 => (hfO2 a (by omega)).1)) hcO2 (hfO.trans hfO2)
theorem b_crew {d : Nat} (hb : CB M ps g) {z : Int} (hz : (-2147483648 ≤ z ∧ z < 2147483648)) {F0 C0 : Int} (e13 : M.1 1 13 = I F0) (e14 : M.1 1 14 = I C0) : EvQ (d + 5) 19 [.ref 1, .int (I z)] M fun r M' => r = some (.int (I (crewA g z))) ∧ CB M' ps g ∧ M'.1 1 13 = I (crewF g z (F0, C0)).1 ∧ M'.1 1 14 = I (crewF g z (F0, C0)).2 ∧ F1 205 209 [13, 14] M M' := by
  have hb0 := hb
  obtain ⟨hp, ep, hr, hc, hs, hd, hn⟩ := hb
  have h5 := hs.1.2.2.2.2.2.1
  have h89 := hd.1.1
  obtain ⟨P, hP⟩ := Nn (a := g 5) (by omega)
  have hP2 : (g 5).toNat = P := by omega
  apply e_B_crew
  intro At step
  refine ⟨_, _, c_isWithin hz (by omega) (by omega), ?_⟩
  rw [bI0]
  refine ⟨fun q => ⟨by simp (disch := omega) only [crewA, if_neg], hb0, by simp (disch := omega) only [crewF, if_neg]; exact e13, by simp (disch := omega) only [crewF, if_neg]; exact e14, F1.refl⟩, fun q => ?_⟩
  rw [hc.1.1, I_sub, I_lt (by omega) (by omega) (by omega) (by omega)]
  refine ⟨fun q2 => ⟨by simp (disch := omega) only [crewA, if_neg], hb0, by simp (disch := omega) only [crewF, if_neg]; exact e13, by simp (disch := omega) only [crewF, if_neg]; exact e14, F1.refl⟩, fun q2 => ?_⟩
  obtain ⟨n, rfl⟩ := Nn (a := z) (by omega)
  have hv := fun f c h1 h2 h3 => crewV_b hs hd hn (n := n) (by omega) f c h1 h2 h3
  have hA : crewA g n = (crO g n (-1, F0, C0) (P + 1)).1 := by
    unfold crewA
    rw [if_pos ⟨by omega, by omega, by omega⟩, Int.toNat_natCast, hP2]
    exact congrArg (fun y => y.1) (crO_ind (fun f c h1 h2 h3 => (hv f c h1 h2 h3).1) (by omega) P)
  have hF : crewF g n (F0, C0) = (crO g n (-1, F0, C0) (P + 1)).2 := by
    unfold crewF
    rw [if_pos ⟨by omega, by omega, by omega⟩, Int.toNat_natCast, hP2]
    exact congrArg (fun y => y.2) (crO_ind (fun f c h1 h2 h3 => (hv f c h1 h2 h3).1) (by omega) P)
  rw [hA, hF] at step
  have ob := fun k hk => crO_b (g := g) (n := n) (z := (-1, F0, C0)) (by omega) hv (by show (-1 : Int) ≤ -1 ∧ (-1 : Int) ≤ 7200; omega) k hk
  refine loopU (P := fun f : Nat => ∀ O : Mm, CB O ps g → O.1 1 13 = I (crO g n (-1, F0, C0) f).2.1 → O.1 1 14 = I (crO g n (-1, F0, C0) f).2.2 → F1 205 209 [13, 14] M O → At 30 [.ref 1, .int (I n), .int (I (crO g n (-1, F0, C0) f).1), .int (I (f : Int)), .retAddr 0, .retAddr 0] [] O) (n := P + 1) ?_ ?_ M hb0 e13 e14 F1.refl
  · intro O hbO o13 o14 o1
    apply s_B_crew_30 step
    rw [hbO.2.1, hbO.2.2.1.1.2.2.2.2.2.1, I_lt (by omega) (by omega) (by omega) (by omega)]
    exact ⟨hp, fun _ => ⟨rfl, hbO, o13, o14, o1⟩, fun q => absurd (by omega) q⟩
  · intro f hf nx O hbO o13 o14 o1
    apply s_B_crew_30 step
    rw [hbO.2.1, hbO.2.2.1.1.2.2.2.2.2.1, I_lt (by omega) (by omega) (by omega) (by omega)]
    refine ⟨hp, fun q => absurd q (by omega), fun _ => ?_⟩
    have obf := ob f (by omega)
    have hno : crO g n (-1, F0, C0) (f + 1) = crI g n f (crO g n (-1, F0, C0) f) (P + 1 - f) := by
      show crI g n f (crO g n (-1, F0, C0) f) ((g 5).toNat + 1 - f) = _
      rw [hP2]
    rw [hno] at nx
    generalize crO g n (-1, F0, C0) f = zz at nx obf o13 o14 ⊢
    have ib := fun k hk => crI_b (g := g) (n := n) (f := f) (z := zz) (by omega) (fun c hc hfc => hv f c (by omega) hc hfc) obf k hk
    refine loopU (P := fun c : Nat => ∀ O : Mm, CB O ps g → O.1 1 13 = I (crI g n f zz c).2.1 → O.1 1 14 = I (crI g n f zz c).2.2 → F1 205 209 [13, 14] M O → At 44 [.ref 1, .int (I n), .int (I (crI g n f zz c).1), .int (I (f : Int)), .int (I (c : Int)), .retAddr 0] [] O) (n := P + 1 - f) ?_ ?_ O hbO o13 o14 o1
    · intro O hbO o13 o14 o1
      apply s_B_crew_44 step
      rw [hbO.2.1, hbO.2.2.1.1.2.2.2.2.2.1, I_add, I_add, I_lt (by omega) (by omega) (by omega) (by omega)]
      exact ⟨hp, fun _ => nx O hbO o13 o14 o1, fun q => absurd (by omega) q⟩
    · intro c hc2 nx2 O hbO o13 o14 o1
      apply s_B_crew_44 step
      rw [hbO.2.1, hbO.2.2.1.1.2.2.2.2.2.1, I_add, I_lt (by omega) (by omega) (by omega) (by omega)]
      refine ⟨hp, fun q => absurd q (by omega), fun _ => ?_⟩
      refine q_int (P := fun v N => v = I (crewV g f c n) ∧ CB N ps g ∧ Fr 205 209 O N) ((b_carriedBy hbO (by omega) (by omega) (by omega) (by omega)).mono fun r N h => ⟨_, h.1, rfl, h.2⟩) ?_
      rintro v N ⟨rfl, hbN, hfN⟩
      have hvf := hv f c (by omega) (by omega) (by omega)
      have ibc := ib c (by omega)
      have f1 := hfN 1 (by omega)
      unfold crI crS at nx2
      generalize crI g n f zz c = y at nx2 ibc o13 o14 ⊢
      rw [I_lt (by omega) (by omega) (by omega) (by omega), I_add]
      refine ⟨fun q => ?_, fun q => ?_⟩
      · rw [if_pos q] at nx2
        refine nx2 _ hbN.f1.f1 ?_ ?_ (((o1.trans (F1.of hfN (by decide))).trans (F1.st (by simp))).trans (F1.st (by simp)))
        · rw [mI_n2 (by decide), mI_eq]
        · rw [mI_eq]
      · rw [if_neg q] at nx2
        exact nx2 N hbN (by rw [f1.1]; exact o13) (by rw [f1.1]; exact o14) (o1.trans (F1.of hfN (by decide)))
theorem b_crewed {d : Nat} {z : Int} (hz : (-2147483648 ≤ z ∧ z < 2147483648)) {F0 C0 : Int} (e13 : M.1 1 13 = I F0) (e14 : M.1 1 14 = I C0) : Ev (d + 1) 21 [.ref 1, .int (I z)] M (some (.int (I (if z = 0 then F0 else if z = 1 then C0 else -1)))) M := by
  apply Ev.ofQ
  apply e_B_crewed
  intro At _
  rw [e13, e14]
  simp (disch := omega) only [I_ne]
  refine ⟨fun q => ⟨?_, by trivial⟩, fun q => ⟨?_, by trivial⟩, fun q => ⟨?_, by trivial⟩⟩
  all_goals simp (disch := omega) only [if_pos, if_neg]
/-! the reference's crew -/
theorem r_carriedBy {d : Nat} (hm : M.1 402 = fun k => I (g k)) (hs : RGs g) (hd : RGd g) (hn : RN g) {f c : Int} {n : Nat} (hf : 0 ≤ f) (hc0 : 0 ≤ c) (hfc : f + c ≤ g 5) (hn6 : n ≤ 6) : Ev (d + 3) 130 [.ref 400, .int (I f), .int (I c), .int (I n)] M (some (.int (I (crewV g f c n)))) M := by
  have h5 := hs.1.2.2.2.2.2.1
  have b58 := RN_b hd hn
  have h92 := hd.1.2.2.2.2.1
  have hw := hd.1.2.2.2.2.2.2.1
  have hd2 : RGd (postsG g f c (g 95)) := RGd_posts hd (by omega) hw
  have hs2 : RGs (postsG g f c (g 95)) := hs.same postsG_o.s
  have e : ∀ k, M.1 402 k = I (g k) := fun k => by rw [hm]
  have hop : ∀ i : Nat, i ≤ 6 → opnG (wrkG (postsG g f c (g 95)) i) = opnG g ∧ wrkG (postsG g f c (g 95)) i 93 = f ∧ wrkG (postsG g f c (g 95)) i 94 = c ∧ wrkG (postsG g f c (g 95)) i 95 = g 95 ∧ wrkG (postsG g f c (g 95)) i 98 = g 98 ∧ wrkG (postsG g f c (g 95)) i 92 = (if 0 < f + c then g 92 + i else mxI 0 (g 92 - 2 * i)) := by
    intro i
    induction i with
    | zero =>
      intro _
      refine ⟨rfl, rfl, rfl, rfl, rfl, ?_⟩
      show g 92 = _
      unfold mxI
      split
      · omega
      · split <;> omega
    | succ i ih =>
      intro hi
      obtain ⟨i1, i2, i3⟩ := wrkG_ok hs2 hd2 (by show g 92 ≤ 150; omega) i (by omega)
      obtain ⟨j1, j2, j3, j4, j5, j6⟩ := ih (by omega)
      obtain ⟨w89, w90, w91, w92, w93, w94, w95, w96, -, w98, -⟩ := workG_at (hs2.same i1.s) i2
      have e0 := workG_same (hs2.same i1.s) i2 0 (by decide)
      show opnG (workG (wrkG (postsG g f c (g 95)) i)) = _ ∧ workG (wrkG (postsG g f c (g 95)) i) 93 = _ ∧ workG (wrkG (postsG g f c (g 95)) i) 94 = _ ∧ workG (wrkG (postsG g f c (g 95)) i) 95 = _ ∧ workG (wrkG (postsG g f c (g 95)) i) 98 = _ ∧ workG (wrkG (postsG g f c (g 95)) i) 92 = _
      refine ⟨?_, by rw [w93, j2], by rw [w94, j3], by rw [w95, j4], by rw [w98, j5], ?_⟩
      · rw [← j1]
        unfold opnG
        rw [w95, e0, w98]
      · rw [w92]
        unfold tirG
        rw [j2, j3, j6]
        unfold mxI
        by_cases q : 0 < f + c
        · simp only [if_pos q]
          omega
        · simp only [if_neg q]
          split <;> split <;> split <;> omega
  apply Ev.ofQ
  apply e_R_carriedBy
  intro At step
  rw [e, e]
  have ev0 : ∀ i : Nat, i ≤ 6 → 0 ≤ wrkG (postsG g f c (g 95)) i 97 - g 97 ∧ wrkG (postsG g f c (g 95)) i 97 - g 97 ≤ 7200 := fun i hi => by
    have := wrkG_97 hs2 hd2 (by show g 92 ≤ 150; omega) i (by omega)
    have e97 : postsG g f c (g 95) 97 = g 97 := rfl
    rw [e97] at this
    omega
  by_cases hopen : opnG g = true
  · have h := loopU (P := fun i : Nat => At 24 [.ref 400, .int (I f), .int (I c), .int (I n), .int (I (wrkG (postsG g f c (g 95)) i 90)), .int (I (wrkG (postsG g f c (g 95)) i 91)), .int (I (wrkG (postsG g f c (g 95)) i 97 - g 97)), .int (I (i : Int)), .retAddr 0, .retAddr 0, .retAddr 0] [] M) (n := n) ?_ ?_
    · have e97 : wrkG (postsG g f c (g 95)) 0 97 - g 97 = 0 := by
        show g 97 - g 97 = 0
        omega
      rw [e97] at h
      exact h
    · apply s_R_carriedBy_24 step
      rw [I_lt (by omega) (by omega) (by omega) (by omega)]
      exact ⟨fun q => absurd q (by omega), fun _ => ⟨rfl, rfl⟩⟩
    · intro i hi nx
      apply s_R_carriedBy_24 step
      obtain ⟨i1, i2, i3⟩ := wrkG_ok hs2 hd2 (by show g 92 ≤ 150; omega) i (by omega)
      obtain ⟨j1, j2, j3, j4, j5, j6⟩ := hop i (by omega)
      have zs := hs2.same i1.s
      obtain ⟨w89, w90, w91, w92, w93, w94, w95, w96, w97, w98, -⟩ := workG_at zs i2
      have hff := fillG_b zs i2
      have hcc := carG_b zs i2
      have hbb := bags_b i2
      have e7 : eachI (wrkG (postsG g f c (g 95)) i) (wrkG (postsG g f c (g 95)) i 92) = eachI g (wrkG (postsG g f c (g 95)) i 92) := by
        unfold eachI
        rw [(postsG_o.trans i1) 7 (by omega)]
      have efl : fillG (wrkG (postsG g f c (g 95)) i) = mnI (wrkG (postsG g f c (g 95)) i 90) (f / 2 * eachI g (wrkG (postsG g f c (g 95)) i 92)) := by
        unfold fillG
        rw [j2, e7]
      have eca : carG (wrkG (postsG g f c (g 95)) i) = mnI (wrkG (postsG g f c (g 95)) i 91 + fillG (wrkG (postsG g f c (g 95)) i)) (c * eachI g (wrkG (postsG g f c (g 95)) i 92)) := by
        unfold carG
        rw [j1, if_pos hopen, j3, e7]
      rw [j2, e7] at hff
      rw [j3, e7] at hcc
      have nx' : At 24 [.ref 400, .int (I f), .int (I c), .int (I n), .int (I (wrkG (postsG g f c (g 95)) i 90 - fillG (wrkG (postsG g f c (g 95)) i))), .int (I (wrkG (postsG g f c (g 95)) i 91 + fillG (wrkG (postsG g f c (g 95)) i) - carG (wrkG (postsG g f c (g 95)) i))), .int (I (wrkG (postsG g f c (g 95)) i 97 - g 97 + carG (wrkG (postsG g f c (g 95)) i))), .int (I ((i : Int) + 1)), .retAddr 0, .retAddr 0, .retAddr 0] [] M := by
        have nx := nx
        unfold wrkG at nx
        rw [w90, w91, w97, show wrkG (postsG g f c (g 95)) i 97 + carG (wrkG (postsG g f c (g 95)) i) - g 97 = wrkG (postsG g f c (g 95)) i 97 - g 97 + carG (wrkG (postsG g f c (g 95)) i) by omega] at nx
        exact nx
      have h92i := i2.1.2.2.2.2.1
      have hti : wrkG (postsG g f c (g 95)) i 92 ≤ 199 := by
        have : postsG g f c (g 95) 92 = g 92 := rfl
        omega
      clear nx w90 w91 w92 w93 w94 w95 w96 w97 w98 w89 i1 i3 j1 j4 j5
      generalize fillG (wrkG (postsG g f c (g 95)) i) = FL at *
      generalize carG (wrkG (postsG g f c (g 95)) i) = CA at *
      generalize wrkG (postsG g f c (g 95)) i 90 = Z90 at *
      generalize wrkG (postsG g f c (g 95)) i 91 = Z91 at *
      generalize wrkG (postsG g f c (g 95)) i 92 = Z92 at *
      rw [I_lt (by omega) (by omega) (by omega) (by omega)]
      refine ⟨fun _ => ⟨_, _, r_isOpen hm hs hd, ?_⟩, fun q => absurd (by omega) q⟩
      rw [bI0, e, I_add, I_lt (by omega) (by omega) (by omega) (by omega)]
      refine ⟨fun q => absurd hopen q, fun _ => ⟨fun q => ?_, fun q => ?_⟩⟩
      · rw [if_pos q] at j6
        rw [I_add, ← j6]
        refine ⟨_, _, r_eachBy hm hs (by omega), ?_⟩
        simp (disch := omega) only [I_div, I_mul]
        refine ⟨_, _, v_lesser (by omega) (by omega), ?_⟩
        rw [← efl]
        refine ⟨_, _, r_eachBy hm hs (by omega), ?_⟩
        rw [I_add, I_mul]
        refine ⟨_, _, v_lesser (by omega) (by omega), ?_⟩
        rw [← eca, I_sub, I_sub, I_add, I_add]
        exact nx'
      · rw [if_neg q] at j6
        rw [I_mul, I_sub]
        refine ⟨_, _, v_greater (by omega) (by omega), ?_⟩
        rw [← j6]
        refine ⟨_, _, r_eachBy hm hs (by omega), ?_⟩
        simp (disch := omega) only [I_div, I_mul]
        refine ⟨_, _, v_lesser (by omega) (by omega), ?_⟩
        rw [← efl]
        refine ⟨_, _, r_eachBy hm hs (by omega), ?_⟩
        rw [I_add, I_mul]
        refine ⟨_, _, v_lesser (by omega) (by omega), ?_⟩
        rw [← eca, I_sub, I_sub, I_add, I_add]
        exact nx'
  · have hz : ∀ i : Nat, i ≤ 6 → wrkG (postsG g f c (g 95)) i 97 = g 97 := by
      intro i
      induction i with
      | zero => intro _; rfl
      | succ i ih =>
        intro hi
        obtain ⟨i1, i2, i3⟩ := wrkG_ok hs2 hd2 (by show g 92 ≤ 150; omega) i (by omega)
        obtain ⟨j1, -⟩ := hop i (by omega)
        obtain ⟨w89, w90, w91, w92, w93, w94, w95, w96, w97, w98, -⟩ := workG_at (hs2.same i1.s) i2
        show workG (wrkG (postsG g f c (g 95)) i) 97 = g 97
        rw [w97, ih (by omega)]
        unfold carG
        rw [j1, if_neg hopen]
        omega
    have e0 : crewV g f c n = 0 := by
      unfold crewV
      rw [hz n hn6]
      omega
    rw [e0] at step
    apply s_R_carriedBy_24 step
    refine ⟨fun _ => ⟨_, _, r_isOpen hm hs hd, ?_⟩, fun _ => ⟨rfl, rfl⟩⟩
    rw [bI0]
    exact ⟨fun _ => ⟨rfl, rfl⟩, fun q => absurd (Decidable.of_not_not q) hopen⟩
theorem r_crew {d n' : Nat} {us : Nat → Nat → Int} (h : RU M g n' us) {z : Int} (hz : (-2147483648 ≤ z ∧ z < 2147483648)) {F0 C0 : Int} (e29 : M.1 400 29 = I F0) (e30 : M.1 400 30 = I C0) : EvQ (d + 5) 131 [.ref 400, .int (I z)] M fun r M' => r = some (.int (I (crewA g z))) ∧ RU M' g n' us ∧ M'.1 400 29 = I (crewF g z (F0, C0)).1 ∧ M'.1 400 30 = I (crewF g z (F0, C0)).2 ∧ M'.1 400 31 = (if crewA g z = -1 then M.1 400 31 else I 1) ∧ RF [402] [0, 29, 30, 31] M M' := by
  have h1 := h.f0 (v := I 0)
  have f1 : RF [402] [0, 29, 30, 31] M (sI M 400 0 (I 0)) := RF.f0 (by simp)
  have e29' : (sI M 400 0 (I 0)).1 400 29 = I F0 := by rw [mI_n2 (by decide), e29]
  have e30' : (sI M 400 0 (I 0)).1 400 30 = I C0 := by rw [mI_n2 (by decide), e30]
  have e31' : (sI M 400 0 (I 0)).1 400 31 = M.1 400 31 := mI_n2 (by decide)
  apply e_R_crew
  intro At step
  generalize sI M 400 0 (I 0) = N at h1 f1 e29' e30' e31' ⊢
  have h1' := h1
  obtain ⟨hm, hPr, hs, hd, hn⟩ := h1
  have h5 := hs.1.2.2.2.2.2.1
  have h89 := hd.1.1
  obtain ⟨P, hP⟩ := Nn (a := g 5) (by omega)
  have hP2 : (g 5).toNat = P := by omega
  have e : ∀ k, N.1 402 k = I (g k) := fun k => by rw [hm]
  have no : ¬ (1 ≤ z ∧ z ≤ 6 ∧ z ≤ 48 - g 89) → some (Value.int (I (-1))) = some (.int (I (crewA g z))) ∧ RU N g n' us ∧ N.1 400 29 = I (crewF g z (F0, C0)).1 ∧ N.1 400 30 = I (crewF g z (F0, C0)).2 ∧ N.1 400 31 = (if crewA g z = -1 then M.1 400 31 else I 1) ∧ RF [402] [0, 29, 30, 31] M N := by
    intro q
    have hA : crewA g z = -1 := by unfold crewA; rw [if_neg q]
    have hF : crewF g z (F0, C0) = (F0, C0) := by unfold crewF; rw [if_neg q]
    rw [hA, hF, if_pos rfl]
    exact ⟨rfl, h1', e29', e30', e31', f1⟩
  refine ⟨_, _, v_isIn hz (by omega) (by omega), ?_⟩
  rw [bI0, e]
  refine ⟨fun q => no (by omega), fun q => ?_⟩
  rw [I_add, I_lt (by omega) (by omega) (by omega) (by omega)]
  refine ⟨fun q2 => no (by omega), fun q2 => ?_⟩
  obtain ⟨n, rfl⟩ := Nn (a := z) (by omega)
  have hv := fun f c h1 h2 h3 => crewV_b hs hd hn (n := n) (by omega) f c h1 h2 h3
  have hA : crewA g n = (crO g n (-1, F0, C0) (P + 1)).1 := by
    unfold crewA
    rw [if_pos ⟨by omega, by omega, by omega⟩, Int.toNat_natCast, hP2]
    exact congrArg (fun y => y.1) (crO_ind (fun f c h1 h2 h3 => (hv f c h1 h2 h3).1) (by omega) P)
  have hF : crewF g n (F0, C0) = (crO g n (-1, F0, C0) (P + 1)).2 := by
    unfold crewF
    rw [if_pos ⟨by omega, by omega, by omega⟩, Int.toNat_natCast, hP2]
    exact congrArg (fun y => y.2) (crO_ind (fun f c h1 h2 h3 => (hv f c h1 h2 h3).1) (by omega) P)
  have hAp : ¬ crewA g n = -1 := by
    have := crewA_nn hs hd hn (n := n) (by omega) (by omega) (by omega)
    omega
  rw [if_neg hAp, hA, hF] at step
  have ob := fun k hk => crO_b (g := g) (n := n) (z := (-1, F0, C0)) (by omega) hv (by show (-1 : Int) ≤ -1 ∧ (-1 : Int) ≤ 7200; omega) k hk
  refine loopU (P := fun f : Nat => ∀ O : Mm, (O.1 402 = fun k => I (g k)) → PR O n' us → O.1 400 29 = I (crO g n (-1, F0, C0) f).2.1 → O.1 400 30 = I (crO g n (-1, F0, C0) f).2.2 → RF [402] [0, 29, 30, 31] M O → At 35 [.ref 400, .int (I n), .int (I (crO g n (-1, F0, C0) f).1), .int (I (f : Int)), .retAddr 0, .retAddr 0] [] O) (n := P + 1) ?_ ?_ N hm hPr e29' e30' f1
  · intro O hmO hPO o29 o30 o1
    apply s_R_crew_35 step
    rw [hmO]
    dsimp only
    rw [I_lt (by omega) (by omega) (by omega) (by omega)]
    refine ⟨fun _ => ⟨rfl, ⟨by rw [mI_fn (by decide)]; exact hmO, hPO.fr (mI_n2 (by decide)) (mI_fn (by decide)), hs, hd, hn⟩, by rw [mI_n2 (by decide)]; exact o29, by rw [mI_n2 (by decide)]; exact o30, mI_eq, o1.trans (RF.f (by simp))⟩, fun q => absurd (by omega) q⟩
  · intro f hf nx O hmO hPO o29 o30 o1
    apply s_R_crew_35 step
    rw [hmO]
    dsimp only
    rw [I_lt (by omega) (by omega) (by omega) (by omega)]
    refine ⟨fun q => absurd q (by omega), fun _ => ?_⟩
    have obf := ob f (by omega)
    have hno : crO g n (-1, F0, C0) (f + 1) = crI g n f (crO g n (-1, F0, C0) f) (P + 1 - f) := by
      show crI g n f (crO g n (-1, F0, C0) f) ((g 5).toNat + 1 - f) = _
      rw [hP2]
    rw [hno] at nx
    generalize crO g n (-1, F0, C0) f = zz at nx obf o29 o30 ⊢
    have ib := fun k hk => crI_b (g := g) (n := n) (f := f) (z := zz) (by omega) (fun c hc hfc => hv f c (by omega) hc hfc) obf k hk
    refine loopU (P := fun c : Nat => ∀ O : Mm, (O.1 402 = fun k => I (g k)) → PR O n' us → O.1 400 29 = I (crI g n f zz c).2.1 → O.1 400 30 = I (crI g n f zz c).2.2 → RF [402] [0, 29, 30, 31] M O → At 48 [.ref 400, .int (I n), .int (I (crI g n f zz c).1), .int (I (f : Int)), .int (I (c : Int)), .retAddr 0] [] O) (n := P + 1 - f) ?_ ?_ O hmO hPO o29 o30 o1
    · intro O hmO hPO o29 o30 o1
      apply s_R_crew_48 step
      have e5 : O.1 402 5 = I (g 5) := by rw [hmO]
      rw [e5, I_sub, I_add, I_lt (by omega) (by omega) (by omega) (by omega)]
      exact ⟨fun _ => nx O hmO hPO o29 o30 o1, fun q => absurd (by omega) q⟩
    · intro c hc2 nx2 O hmO hPO o29 o30 o1
      apply s_R_crew_48 step
      have e5 : O.1 402 5 = I (g 5) := by rw [hmO]
      rw [e5, I_sub, I_lt (by omega) (by omega) (by omega) (by omega)]
      refine ⟨fun q => absurd q (by omega), fun _ => ⟨_, _, r_carriedBy hmO hs hd hn (by omega) (by omega) (by omega) (by omega), ?_⟩⟩
      have hvf := hv f c (by omega) (by omega) (by omega)
      have ibc := ib c (by omega)
      unfold crI crS at nx2
      generalize crI g n f zz c = y at nx2 ibc o29 o30 ⊢
      rw [I_lt (by omega) (by omega) (by omega) (by omega), I_add]
      refine ⟨fun q => ?_, fun q => ?_⟩
      · rw [if_pos q] at nx2
        refine nx2 _ ?_ (hPO.fr (by rw [mI_n2 (by decide), mI_n2 (by decide)]) (by rw [mI_fn (by decide), mI_fn (by decide)])) ?_ ?_ ((o1.trans (RF.f (by simp))).trans (RF.f (by simp)))
        · rw [mI_fn (by decide), mI_fn (by decide)]
          exact hmO
        · rw [mI_n2 (by decide), mI_eq]
        · rw [mI_eq]
      · rw [if_neg q] at nx2
        exact nx2 O hmO hPO o29 o30 o1
theorem r_crewed {d : Nat} {z F0 C0 : Int} (hz : (-2147483648 ≤ z ∧ z < 2147483648)) (e : (M.1 400 31 = I 0 ∧ F0 = -1 ∧ C0 = -1) ∨ (M.1 400 31 = I 1 ∧ M.1 400 29 = I F0 ∧ M.1 400 30 = I C0)) : Ev (d + 2) 132 [.ref 400, .int (I z)] M (some (.int (I (if z = 0 then F0 else if z = 1 then C0 else -1)))) (sI M 400 0 (I 0)) := by
  apply Ev.ofQ
  apply e_R_crewed
  intro At _
  rcases e with ⟨e1, rfl, rfl⟩ | ⟨e1, e2, e3⟩
  · rw [e1]
    refine ⟨fun _ => ⟨?_, rfl⟩, fun q => absurd rfl q⟩
    split
    · rfl
    · split <;> rfl
  · rw [e1]
    refine ⟨fun q => absurd q (by decide), fun _ => ⟨_, _, v_isIn hz (by omega) (by omega), ?_⟩⟩
    rw [bI0, mI_n2 (by decide), mI_n2 (by decide), e2, e3, I_ne (by omega) (by omega) (by omega) (by omega)]
    refine ⟨fun q => ⟨by simp (disch := omega) only [if_neg], rfl⟩, fun q => ⟨fun q2 => ⟨by rw [if_pos q2], rfl⟩, fun q2 => ⟨by rw [if_neg q2, if_pos (by omega)], rfl⟩⟩⟩
end CRW
