/-! ===== the plan: codes in order, and the class's search ===== -/
def dv (n p : Nat) : Nat → Nat
  | 0 => p
  | j + 1 => dv n (p / n) j
def UU (f : Nat → Nat → Int) (n : Nat) : Nat → Nat → Int
  | 0, _ => 0
  | w + 1, p => UU f n w (p / n) + f w (p % n)
def bgF (g : Nat → Int) (w i : Nat) : Int := g (8 + w) * tri (hV g i)
def gnF (g : Nat → Int) (w i : Nat) : Int := gaS g w (hV g i)
def plS (g : Nat → Int) (W : Nat) (B : Int) (z : Int × Int × Nat) (q : Nat) : Int × Int × Nat :=
  if UU (bgF g) (hN g) W q ≤ B ∧ (z.1 < gaS g (-1) 0 + UU (gnF g) (hN g) W q ∨ (gaS g (-1) 0 + UU (gnF g) (hN g) W q = z.1 ∧ UU (bgF g) (hN g) W q < z.2.1)) then (gaS g (-1) 0 + UU (gnF g) (hN g) W q, UU (bgF g) (hN g) W q, q) else z
def plL (g : Nat → Int) (W : Nat) (B : Int) (z : Int × Int × Nat) (a : Nat) : Nat → Int × Int × Nat
  | 0 => z
  | k + 1 => plS g W B (plL g W B z a k) (a + k)
theorem plL_add {g : Nat → Int} {W : Nat} {B : Int} {z : Int × Int × Nat} {a k : Nat} : ∀ m : Nat, plL g W B z a (k + m) = plL g W B (plL g W B z a k) (a + k) m
  | 0 => rfl
  | m + 1 => by
    show plS g W B (plL g W B z a (k + m)) (a + (k + m)) = plS g W B (plL g W B (plL g W B z a k) (a + k) m) (a + k + m)
    rw [plL_add m, Nat.add_assoc]
theorem plL_skip {g : Nat → Int} {W : Nat} {B : Int} {z : Int × Int × Nat} {a : Nat} : ∀ m : Nat, (∀ j, j < m → B < UU (bgF g) (hN g) W (a + j)) → plL g W B z a m = z
  | 0, _ => rfl
  | m + 1, h => by
    show plS g W B (plL g W B z a m) (a + m) = z
    rw [plL_skip m fun j hj => h j (by omega)]
    have := h m (by omega)
    unfold plS
    rw [if_neg (by omega)]
theorem UU_s {f : Nat → Nat → Int} {n w p c : Nat} (hc : c < n) : UU f n (w + 1) (p * n + c) = UU f n w p + f w c := by
  show UU f n w ((p * n + c) / n) + f w ((p * n + c) % n) = _
  have e1 : (p * n + c) / n = p := by
    rw [Nat.mul_comm, Nat.mul_add_div (by omega), Nat.div_eq_of_lt hc, Nat.add_zero]
  have e2 : (p * n + c) % n = c := by
    rw [Nat.mul_comm, Nat.mul_add_mod, Nat.mod_eq_of_lt hc]
  rw [e1, e2]
theorem UU_ge {f : Nat → Nat → Int} {n w : Nat} (hn : 0 < n) : ∀ (j p r : Nat), (∀ v i, v < w + j → 0 ≤ f v i) → r < n ^ j → UU f n w p ≤ UU f n (w + j) (p * n ^ j + r)
  | 0, p, r, _, hr => by
    have : r = 0 := by
      have e : n ^ 0 = 1 := rfl
      omega
    subst this
    rw [show n ^ 0 = 1 from rfl, Nat.mul_one, Nat.add_zero]
    exact Int.le_refl _
  | j + 1, p, r, hf, hr => by
    have hr' : r / n < n ^ j := by
      rw [Nat.div_lt_iff_lt_mul hn]
      rw [Nat.pow_succ] at hr
      exact hr
    have ih := UU_ge (f := f) (w := w) hn j p (r / n) (fun v i hv => hf v i (by omega)) hr'
    have e : (p * n ^ (j + 1) + r) / n = p * n ^ j + r / n := by
      rw [Nat.pow_succ, ← Nat.mul_assoc, Nat.mul_comm (p * n ^ j) n, Nat.mul_add_div hn]
    show _ ≤ UU f n (w + j) ((p * n ^ (j + 1) + r) / n) + f (w + j) ((p * n ^ (j + 1) + r) % n)
    have := hf (w + j) ((p * n ^ (j + 1) + r) % n) (by omega)
    rw [e]
    omega
theorem dv_s {n p c : Nat} (hc : c < n) (j : Nat) : dv n (p * n + c) (j + 1) = dv n p j := by
  show dv n ((p * n + c) / n) j = dv n p j
  have e1 : (p * n + c) / n = p := by
    rw [Nat.mul_comm, Nat.mul_add_div (by omega), Nat.div_eq_of_lt hc, Nat.add_zero]
  rw [e1]
theorem hV_b {g : Nat → Int} {i : Nat} (h : i < hN g) : 0 ≤ hV g i ∧ hV g i ≤ 60 := (hz_v 61 (Nat.le_refl _)).1 i h
theorem hN_b {g : Nat → Int} (hs : RGs g) : 1 ≤ hN g ∧ hN g ≤ 7 ∧ hV g 0 = 0 := ⟨((hz_v 61 (Nat.le_refl _)).2 (by decide)).1, hz_le hs 61, ((hz_v (g := g) 61 (Nat.le_refl _)).2 (by decide)).2⟩
/-- beyond the heights the row holds noughts -/
theorem hz_out {g : Nat → Int} : ∀ (m i : Nat), (hz g m).1 ≤ i → (hz g m).2 i = 0
  | 0, _, _ => rfl
  | m + 1, i, h => by
    unfold hz at h ⊢
    by_cases q : isCh g m = true
    · rw [if_pos q] at h ⊢
      dsimp only at h ⊢
      rw [upf_ne (by omega)]
      exact hz_out m i (by omega)
    · rw [if_neg q] at h ⊢
      exact hz_out m i h
theorem bgF_b {g : Nat → Int} (hs : RGs g) {w i : Nat} (hw : w < 5) : 0 ≤ bgF g w i ∧ bgF g w i ≤ 36600 := by
  have b := hs.2.1 w hw
  have hv : 0 ≤ hV g i ∧ hV g i ≤ 60 := by
    rcases Nat.lt_or_ge i (hN g) with y | y
    · exact hV_b y
    · have : hV g i = 0 := hz_out 61 i y
      omega
  have ht := tri_nn hv.1
  have ht2 : tri (hV g i) ≤ 1830 := by
    have := tri_mono hv.1 hv.2
    have e : tri 60 = 1830 := by decide
    omega
  have := mulb (a := g (8 + w)) (b := tri (hV g i)) (x := 20) (y := 1830) ⟨by omega, by omega⟩ ⟨by omega, by omega⟩
  unfold bgF
  omega
theorem UUg_b {g : Nat → Int} (hs : RGs g) {n : Nat} : ∀ (w p : Nat), 0 ≤ UU (gnF g) n w p ∧ UU (gnF g) n w p ≤ 588060 * w
  | 0, p => by show (0 : Int) ≤ 0 ∧ (0 : Int) ≤ 588060 * 0; omega
  | w + 1, p => by
    have ih := UUg_b hs (n := n) w (p / n)
    have b := gaS_b hs (w := (w : Int)) (h := hV g (p % n))
    show 0 ≤ UU (gnF g) n w (p / n) + gaS g w (hV g (p % n)) ∧ UU (gnF g) n w (p / n) + gaS g w (hV g (p % n)) ≤ 588060 * ((w + 1 : Nat) : Int)
    omega
theorem UUb_b {g : Nat → Int} (hs : RGs g) {n : Nat} : ∀ (w p : Nat), w ≤ 5 → 0 ≤ UU (bgF g) n w p ∧ UU (bgF g) n w p ≤ 36600 * w
  | 0, p, _ => by show (0 : Int) ≤ 0 ∧ (0 : Int) ≤ 36600 * 0; omega
  | w + 1, p, hw => by
    have ih := UUb_b hs (n := n) w (p / n) (by omega)
    have b := bgF_b hs (w := w) (i := p % n) (by omega)
    show 0 ≤ UU (bgF g) n w (p / n) + bgF g w (p % n) ∧ UU (bgF g) n w (p / n) + bgF g w (p % n) ≤ 36600 * ((w + 1 : Nat) : Int)
    omega
def PLs (M : Mm) (g : Nat → Int) (W : Nat) (B : Int) : Prop := M.1 40 1 = I (hN g) ∧ M.1 40 7 = I W ∧ M.1 40 8 = I B ∧ (∀ i, i < hN g → M.1 41 i = I (hV g i)) ∧ (∀ w c, w < W → c < hN g → M.1 (43 + w) c = I (gnF g w c) ∧ M.1 (49 + w) c = I (bgF g w c))
def PLz (M : Mm) (g : Nat → Int) (W : Nat) (z : Int × Int × Nat) : Prop := M.1 40 10 = I z.1 ∧ M.1 40 9 = I z.2.1 ∧ (z.1 = -1 ∨ ∀ v, v < W → M.1 55 v = I (hV g (dv (hN g) z.2.2 (W - 1 - v) % hN g))) ∧ (-1 ≤ z.1 ∧ z.1 ≤ 4000000) ∧ (0 ≤ z.2.1 ∧ z.2.1 ≤ 999)
def PLc (M : Mm) (g : Nat → Int) (w p : Nat) : Prop := ∀ v, v < w → M.1 54 v = I (hV g (dv (hN g) p (w - 1 - v) % hN g))
/-- what the search leaves as it was -/
def FrT (M M' : Mm) : Prop := (∀ a, a ≠ 40 → a ≠ 54 → a ≠ 55 → M'.1 a = M.1 a) ∧ (∀ k, k ≠ 9 → k ≠ 10 → M'.1 40 k = M.1 40 k) ∧ M'.2 = M.2
theorem FrT.refl {M : Mm} : FrT M M := ⟨fun _ _ _ _ => rfl, fun _ _ _ => rfl, rfl⟩
theorem FrT.trans {M N O : Mm} (h : FrT M N) (k : FrT N O) : FrT M O := ⟨fun a h1 h2 h3 => (k.1 a h1 h2 h3).trans (h.1 a h1 h2 h3), fun j h1 h2 => (k.2.1 j h1 h2).trans (h.2.1 j h1 h2), k.2.2.trans h.2.2⟩
theorem PLs.fr {M M' : Mm} {g : Nat → Int} {W : Nat} {B : Int} (hW : W ≤ 5) (h : PLs M g W B) (f : FrT M M') : PLs M' g W B := by
  obtain ⟨h1, h2, h3, h4, h5⟩ := h
  refine ⟨by rw [f.2.1 1 (by decide) (by decide)]; exact h1, by rw [f.2.1 7 (by decide) (by decide)]; exact h2, by rw [f.2.1 8 (by decide) (by decide)]; exact h3, fun i hi => by rw [f.1 41 (by decide) (by decide) (by decide)]; exact h4 i hi, fun w c hw hc => ?_⟩
  rw [f.1 (43 + w) (by omega) (by omega) (by omega), f.1 (49 + w) (by omega) (by omega) (by omega)]
  exact h5 w c hw hc
theorem lay43 {w : Nat} (hw : w < 5) : lay (43 + 1 * w) = 100 ∧ alen (43 + 1 * w) = 7 ∧ lay (49 + 1 * w) = 100 ∧ alen (49 + 1 * w) = 7 := by
  have : w = 0 ∨ w = 1 ∨ w = 2 ∨ w = 3 ∨ w = 4 := by omega
  rcases this with rfl | rfl | rfl | rfl | rfl <;> exact ⟨rfl, rfl, rfl, rfl⟩
theorem c_tryWall {g : Nat → Int} (hs : RGs g) {W : Nat} {B : Int} (hW : W ≤ 5) (hB : 0 ≤ B ∧ B ≤ 999) : ∀ (r d w p : Nat) (M : Mm) (z : Int × Int × Nat), w + r = W → UU (bgF g) (hN g) w p ≤ B → PLs M g W B → PLz M g W z → PLc M g w p →
    EvQ (d + r + 2) 191 [.ref 40, .int (I w), .int (I (gaS g (-1) 0 + UU (gnF g) (hN g) w p)), .int (I (UU (bgF g) (hN g) w p))] M fun v M' => v = none ∧ PLs M' g W B ∧ PLz M' g W (plL g W B z (p * hN g ^ r) (hN g ^ r)) ∧ PLc M' g w p ∧ FrT M M' := by
  intro r
  have hn := hN_b hs
  have g0 := gaS_b hs (w := -1) (h := 0)
  induction r with
  | zero =>
    intro d w p M z hw hU hPs hPz hPc
    have e0 : w = W := by omega
    subst e0
    have ug := UUg_b hs (n := hN g) w p
    have ub := UUb_b hs (n := hN g) w p hW
    obtain ⟨z1, z2, z3, z4, z5⟩ := hPz
    have hfin : plL g w B z (p * hN g ^ 0) (hN g ^ 0) = plS g w B z p := by
      show plS g w B z (p * 1 + 0) = _
      rw [Nat.mul_one, Nat.add_zero]
    rw [hfin]
    apply e_Planner_tryWall
    intro At _
    rw [hPs.2.1, z1, z2]
    have cpy : ∀ N : Mm, Ev (d + 1) 49 [.ref 54, .ref 55] N none (upr N.1 55 (cpf (N.1 54) (N.1 55) 0 0 5), N.2) := fun N => c_copyInts rfl rfl rfl rfl (by omega)
    generalize hG : gaS g (-1) 0 + UU (gnF g) (hN g) w p = G at *
    generalize hU2 : UU (bgF g) (hN g) w p = U at *
    have yes : (z.1 < G ∨ (G = z.1 ∧ U < z.2.1)) → ∃ N4 : Mm, (Ev (d + 1) 49 [.ref 54, .ref 55] (sI (sI M 40 10 (I G)) 40 9 (I U)) none N4 ∧ ((none : Option Value) = none ∧ PLs N4 g w B ∧ PLz N4 g w (plS g w B z p) ∧ PLc N4 g w p ∧ FrT M N4)) := by
      intro hy
      have eS : plS g w B z p = (G, U, p) := by
        unfold plS
        rw [hG, hU2, if_pos ⟨hU, hy⟩]
      rw [eS]
      have hF : FrT M (upr (sI (sI M 40 10 (I G)) 40 9 (I U)).1 55 (cpf ((sI (sI M 40 10 (I G)) 40 9 (I U)).1 54) ((sI (sI M 40 10 (I G)) 40 9 (I U)).1 55) 0 0 5), (sI (sI M 40 10 (I G)) 40 9 (I U)).2) := by
        refine ⟨fun a h1 h2 h3 => ?_, fun k h1 h2 => ?_, rfl⟩
        · dsimp only
          rw [upr_ne h3, mI_fn h1, mI_fn h1]
        · dsimp only
          rw [upr_ne (by decide), mI_n2 h1, mI_n2 h2]
      refine ⟨_, cpy _, rfl, hPs.fr hW hF, ⟨?_, ?_, Or.inr fun v hv => ?_, by dsimp only; omega, by dsimp only; omega⟩, fun v hv => ?_, hF⟩
      · dsimp only
        rw [upr_ne (by decide), mI_n2 (by decide), mI_eq]
      · dsimp only
        rw [upr_ne (by decide), mI_eq]
      · dsimp only
        rw [upr_eq, cpf_lt (by omega), mI_fn (by decide), mI_fn (by decide)]
        exact hPc v hv
      · dsimp only
        rw [upr_ne (by decide), mI_fn (by decide), mI_fn (by decide)]
        exact hPc v hv
    have noo : ¬ (z.1 < G ∨ (G = z.1 ∧ U < z.2.1)) → (none : Option Value) = none ∧ PLs M g w B ∧ PLz M g w (plS g w B z p) ∧ PLc M g w p ∧ FrT M M := by
      intro hy
      have eS : plS g w B z p = z := by
        unfold plS
        rw [hG, hU2, if_neg (fun x => hy x.2)]
      rw [eS]
      exact ⟨rfl, hPs, ⟨z1, z2, z3, z4, z5⟩, hPc, FrT.refl⟩
    rw [I_lt (by omega) (by omega) (by omega) (by omega), I_lt (by omega) (by omega) (by omega) (by omega), I_lt (by omega) (by omega) (by omega) (by omega), I_ne (by omega) (by omega) (by omega) (by omega)]
    refine ⟨fun q => absurd q (by omega), fun _ => ⟨fun q => yes (Or.inl q), fun q => ⟨fun q2 => ?_, fun q2 => noo (by omega)⟩⟩⟩
    rw [I_lt (by omega) (by omega) (by omega) (by omega)]
    exact ⟨fun q3 => yes (Or.inr ⟨q2, q3⟩), fun q3 => noo (by omega)⟩
  | succ r ih =>
    intro d w p M z hw hU hPs hPz hPc
    have ug := UUg_b hs (n := hN g) w p
    have ub := UUb_b hs (n := hN g) w p (by omega)
    have l43 := lay43 (w := w) (by omega)
    apply e_Planner_tryWall
    intro At step
    rw [hPs.2.1, I_lt (by omega) (by omega) (by omega) (by omega), I_lt (by omega) (by omega) (by omega) (by omega)]
    refine ⟨fun _ => ⟨fun _ => ?_, fun q => absurd (by omega) q⟩, fun q => absurd (by omega) q⟩
    refine loopU (P := fun c : Nat => ∀ N : Mm, PLs N g W B → PLz N g W (plL g W B z (p * hN g ^ (r + 1)) (c * hN g ^ r)) → PLc N g w p → FrT M N → At 62 [.ref 40, .int (I w), .int (I (gaS g (-1) 0 + UU (gnF g) (hN g) w p)), .int (I (UU (bgF g) (hN g) w p)), .int (I (c : Int))] [] N) (n := hN g) ?_ ?_ M hPs (by rw [Nat.zero_mul]; exact hPz) hPc FrT.refl
    · intro N hPsN hPzN hPcN hF
      apply s_Planner_tryWall_62 step
      rw [hPsN.1, I_lt (by omega) (by omega) (by omega) (by omega)]
      refine ⟨fun q => absurd q (by omega), fun _ => ⟨rfl, hPsN, ?_, hPcN, hF⟩⟩
      rw [Nat.pow_succ, Nat.mul_comm (hN g ^ r) (hN g)]
      rw [Nat.pow_succ, Nat.mul_comm (hN g ^ r) (hN g)] at hPzN
      exact hPzN
    · intro c hc nx N hPsN hPzN hPcN hF
      apply s_Planner_tryWall_62 step
      have s5 := hPsN.2.2.2.2 w c (by omega) hc
      have bb := bgF_b hs (w := w) (i := c) (by omega)
      have hi5 : inR (I (w : Int)) 5 := inRI (by omega) (by omega) (by omega)
      have hi7 : inR (I (c : Int)) 7 := inRI (by omega) (by omega) (by omega)
      have ea : p * hN g ^ (r + 1) + c * hN g ^ r = (p * hN g + c) * hN g ^ r := by
        rw [Nat.pow_succ, Nat.add_mul, Nat.mul_assoc, Nat.mul_comm (hN g ^ r) (hN g)]
      have enx : plL g W B z (p * hN g ^ (r + 1)) ((c + 1) * hN g ^ r) = plL g W B (plL g W B z (p * hN g ^ (r + 1)) (c * hN g ^ r)) ((p * hN g + c) * hN g ^ r) (hN g ^ r) := by
        rw [Nat.add_mul, Nat.one_mul, plL_add, ea]
      rw [enx] at nx
      generalize plL g W B z (p * hN g ^ (r + 1)) (c * hN g ^ r) = y at nx hPzN
      have eU : UU (bgF g) (hN g) (w + 1) (p * hN g + c) = UU (bgF g) (hN g) w p + bgF g w c := UU_s hc
      have eG : UU (gnF g) (hN g) (w + 1) (p * hN g + c) = UU (gnF g) (hN g) w p + gnF g w c := UU_s hc
      rw [ixI (by omega) (by omega), ixI (by omega) (by omega), Int.toNat_natCast, Int.toNat_natCast, l43.1, l43.2.1, l43.2.2.1, l43.2.2.2, hPsN.1, hPsN.2.2.1, I_lt (by omega) (by omega) (by omega) (by omega), mI_fn (show 43 + 1 * w ≠ 54 by omega), mI_fn (show 49 + 1 * w ≠ 54 by omega), show 43 + 1 * w = 43 + w by omega, show 49 + 1 * w = 49 + w by omega, s5.1, s5.2, hPsN.2.2.2.1 c hc]
      simp only [I_add]
      rw [I_lt (by omega) (by omega) (by omega) (by omega)]
      refine ⟨fun _ => ⟨hi5, by trivial, hi7, fun q => ?_, fun q => ⟨hi7, hi5, hi5, by trivial, hi7, hi5, by trivial, hi7, ?_⟩⟩, fun q => absurd (by omega) q⟩
      · rw [plL_skip _ (fun j hj => ?_)] at nx
        · exact nx N hPsN hPzN hPcN hF
        · have := UU_ge (f := bgF g) (w := w + 1) (n := hN g) (by omega) r (p * hN g + c) j (fun v i hv => (bgF_b hs (by omega)).1) hj
          rw [show w + 1 + r = W by omega] at this
          omega
      · have hF2 : FrT N (sI N 54 w (I (hV g c))) := ⟨fun a h1 h2 h3 => mI_fn h2, fun k _ _ => mI_n1 (by decide), rfl⟩
        have hPs2 := hPsN.fr hW hF2
        have hPz2 : PLz (sI N 54 w (I (hV g c))) g W y := by
          obtain ⟨y1, y2, y3, y4⟩ := hPzN
          refine ⟨by rw [mI_n1 (by decide)]; exact y1, by rw [mI_n1 (by decide)]; exact y2, ?_, y4⟩
          rcases y3 with y3 | y3
          · exact Or.inl y3
          · exact Or.inr fun v hv => by rw [mI_n1 (by decide)]; exact y3 v hv
        have hPc2 : PLc (sI N 54 w (I (hV g c))) g (w + 1) (p * hN g + c) := by
          intro v hv
          by_cases e : v = w
          · subst e
            rw [mI_eq, show v + 1 - 1 - v = 0 by omega]
            show _ = I (hV g ((p * hN g + c) % hN g))
            rw [Nat.mul_comm, Nat.mul_add_mod, Nat.mod_eq_of_lt hc]
          · rw [mI_n2 e, show w + 1 - 1 - v = (w - 1 - v) + 1 by omega, dv_s hc]
            exact hPcN v (by omega)
        have hih := ih d (w + 1) (p * hN g + c) (sI N 54 w (I (hV g c))) y (by omega) (by omega) hPs2 hPz2 hPc2
        rw [eU, eG, ← Int.add_assoc] at hih
        refine q_non hih ?_
        rintro N3 ⟨a1, a2, a3, a4⟩
        refine nx N3 a1 a2 (fun v hv => ?_) ((hF.trans hF2).trans a4)
        have := a3 v (by omega)
        rw [show w + 1 - 1 - v = (w - 1 - v) + 1 by omega, dv_s hc] at this
        exact this
