/-! ===== the class's plan: its heights and its choice ===== -/
def FrC (M M' : Mm) : Prop := (∀ a, a ≠ 40 → a ≠ 41 → M'.1 a = M.1 a) ∧ (∀ k, k ≠ 1 → M'.1 40 k = M.1 40 k) ∧ M'.2 = M.2
theorem c_findChoices {g : Nat → Int} {d ps : Nat} {M : Mm} (hp : St ps) (hr : CSr M ps g) (hs : RGs g) : EvQ (d + 2) 189 [.ref 40, .ref ps] M fun v M' => v = none ∧ M'.1 40 1 = I (hN g) ∧ (∀ i, i < hN g → M'.1 41 i = I (hV g i)) ∧ FrC M M' := by
  have h3 := hs.1.2.2.2.1
  obtain ⟨nc, hnc⟩ := Nn h3.1
  have enc : (g 3).toNat = nc := by omega
  have hp2 : 42 ≤ ps := by rcases hp with rfl | rfl | rfl | rfl <;> decide
  apply e_Planner_findChoices hp
  intro At step
  refine loopU (P := fun x : Nat => ∀ N : Mm, N.1 40 1 = I (hz g x).1 → (∀ i, i < (hz g x).1 → N.1 41 i = I ((hz g x).2 i)) → FrC M N → At 7 [.ref 40, .ref ps, .int (I x)] [] N) (n := 61) ?_ ?_ (sI M 40 1 (I 0)) mI_eq (fun i hi => absurd hi (by show ¬ i < 0; omega)) ⟨fun a h1 h2 => mI_fn h1, fun k hk => mI_n2 hk, rfl⟩
  · intro N h1 h2 hF
    apply s_Planner_findChoices_7 hp step
    rw [I_lt (by omega) (by omega) (by omega) (by omega)]
    exact ⟨fun _ => ⟨rfl, h1, h2, hF⟩, fun q => absurd (by omega) q⟩
  · intro x hx nx N h1 h2 hF
    apply s_Planner_findChoices_7 hp step
    have b7 := hz_le hs x
    have b8 := hz_le hs (x + 1)
    have hrN : CSr N ps g := hr.of fun a q1 q2 => hF.1 a (by omega) (by omega)
    have yes : isCh g x = true → (hz g x).1 < 7 ∧ At 7 [.ref 40, .ref ps, .int (I ((x : Int) + 1))] [] (sI (sI N 41 (hz g x).1 (I x)) 40 1 (I (((hz g x).1 : Int) + 1))) := by
      intro q
      have e : hz g (x + 1) = ((hz g x).1 + 1, upf (hz g x).2 (hz g x).1 (x : Int)) := if_pos q
      rw [e] at nx b8
      dsimp only at nx b8
      refine ⟨by omega, nx _ mI_eq (fun i hi => ?_) ⟨fun a q1 q2 => ?_, fun k hk => ?_, ?_⟩⟩
      · rw [mI_n1 (by decide)]
        by_cases z : i = (hz g x).1
        · rw [z, mI_eq, upf_eq]
        · rw [mI_n2 z, upf_ne z]
          exact h2 i (by omega)
      · rw [mI_fn q1, mI_fn q2]
        exact hF.1 a q1 q2
      · rw [mI_n2 hk, mI_n1 (by decide)]
        exact hF.2.1 k hk
      · exact hF.2.2
    have no : ¬ isCh g x = true → At 7 [.ref 40, .ref ps, .int (I ((x : Int) + 1))] [] N := by
      intro q
      have e : hz g (x + 1) = hz g x := if_neg q
      rw [e] at nx
      exact nx N h1 h2 hF
    have fits : isCh g x = true → (I ((hz g x).1 : Int) < I 7) = True := fun q => by
      have := (yes q).1
      exact eq_true ((I_lt (by omega) (by omega) (by omega) (by omega)).2 (by omega))
    rw [I_lt (by omega) (by omega) (by omega) (by omega), I_ne (by omega) (by omega) (by omega) (by omega), h1, ixI (by omega) (by omega), Int.toNat_natCast]
    simp only [I_add]
    refine ⟨fun q => absurd q (by omega), fun _ => ⟨fun q => ?_, fun q => ?_⟩⟩
    · have ch : isCh g x = true := by unfold isCh; exact decide_eq_true (Or.inl (by omega))
      have y1 := (yes ch).1
      refine ⟨fun _ => ⟨inRI (by omega) (by omega) (by omega), (yes ch).2⟩, fun q2 => absurd ?_ q2⟩
      rw [fits ch]
      trivial
    · refine ⟨_, _, c_has (St_cr hp) (hrN.1.2.2.2.1.trans (by rw [hnc])) (by omega) (fun j hj => (hrN.2.2.2.2.1 j (by omega)).1) (t := (x : Int)) (by omega) (fun j hj => by have := hs.2.2.2.2.1 j (by omega); omega), ?_⟩
      rw [h1, ixI (by omega) (by omega), Int.toNat_natCast]
      simp only [I_add]
      by_cases ch : isCh g x = true
      · have ex : ∃ k, k < nc ∧ g (61 + k) = (x : Int) := by
          have := of_decide_eq_true ch
          rw [enc] at this
          rcases this with z | z
          · omega
          · exact z
        rw [if_pos ex]
        have y1 := (yes ch).1
        refine ⟨fun z => absurd z (by decide), fun _ => ⟨fun _ => ⟨inRI (by omega) (by omega) (by omega), (yes ch).2⟩, fun q2 => absurd ?_ q2⟩⟩
        rw [fits ch]
        trivial
      · have ex : ¬ ∃ k, k < nc ∧ g (61 + k) = (x : Int) := fun z => ch (by unfold isCh; rw [enc]; exact decide_eq_true (Or.inr z))
        rw [if_neg ex]
        exact ⟨fun _ => no ch, fun z => absurd rfl z⟩
theorem dv0 {n : Nat} : ∀ j : Nat, dv n 0 j = 0
  | 0 => rfl
  | j + 1 => by
    show dv n (0 / n) j = 0
    rw [Nat.zero_div]
    exact dv0 j
theorem UU0 {g : Nat → Int} (hs : RGs g) {n : Nat} (h0 : hV g 0 = 0) : ∀ w : Nat, UU (bgF g) n w 0 = 0
  | 0 => rfl
  | w + 1 => by
    show UU (bgF g) n w (0 / n) + bgF g w (0 % n) = 0
    rw [Nat.zero_div, Nat.zero_mod, UU0 hs h0 w]
    unfold bgF
    rw [h0]
    show 0 + g (8 + w) * 0 = 0
    rw [Int.mul_zero]
    rfl
/-- the search's end -/
def plE (g : Nat → Int) (W : Nat) (B : Int) : Int × Int × Nat := plL g W B (-1, 0, 0) 0 (hN g ^ W)
theorem plS_c {g : Nat → Int} {W : Nat} {B : Int} {z : Int × Int × Nat} {q : Nat} : plS g W B z q = z ∨ (plS g W B z q = (gaS g (-1) 0 + UU (gnF g) (hN g) W q, UU (bgF g) (hN g) W q, q) ∧ z.1 ≤ gaS g (-1) 0 + UU (gnF g) (hN g) W q) := by
  unfold plS
  split
  · rename_i h
    exact Or.inr ⟨rfl, by omega⟩
  · exact Or.inl rfl
/-- code 0 is always among them: the search finds something -/
theorem plL_some {g : Nat → Int} (hs : RGs g) {W : Nat} {B : Int} (hB : 0 ≤ B) : ∀ k : Nat, 0 < k → 0 ≤ (plL g W B (-1, 0, 0) 0 k).1
  | 0, h => absurd h (by decide)
  | 1, _ => by
    have g0 := gaS_b hs (w := -1) (h := 0)
    have u0 := UUg_b hs (n := hN g) W 0
    have b0 := UU0 hs (n := hN g) (hN_b hs).2.2 W
    show 0 ≤ (plS g W B (-1, 0, 0) (0 + 0)).1
    rw [Nat.add_zero]
    unfold plS
    dsimp only
    rw [if_pos ⟨by omega, Or.inl (by omega)⟩]
    dsimp only
    omega
  | k + 2, _ => by
    have ih := plL_some hs (W := W) hB (k + 1) (by omega)
    show 0 ≤ (plS g W B (plL g W B (-1, 0, 0) 0 (k + 1)) (0 + (k + 1))).1
    rcases plS_c (g := g) (W := W) (B := B) (z := plL g W B (-1, 0, 0) 0 (k + 1)) (q := 0 + (k + 1)) with e | ⟨e, h⟩
    · rw [e]
      exact ih
    · rw [e]
      dsimp only
      omega
theorem plE_some {g : Nat → Int} (hs : RGs g) {W : Nat} {B : Int} (hB : 0 ≤ B) : 0 ≤ (plE g W B).1 := plL_some hs hB _ (Nat.pow_pos (by have := hN_b hs; omega))
/-- what the class's choice leaves as it was -/
def FrP (M M' : Mm) : Prop := (∀ a, (a < 40 ∨ 56 ≤ a) → M'.1 a = M.1 a) ∧ M'.2 = M.2
def PLf (M : Mm) (g : Nat → Int) (w : Nat) : Prop := ∀ v c, v < w → c < hN g → M.1 (43 + v) c = I (gnF g v c) ∧ M.1 (49 + v) c = I (bgF g v c)
def PLd (M : Mm) (g : Nat → Int) (W : Nat) (B : Int) : Prop := M.1 40 1 = I (hN g) ∧ M.1 40 7 = I W ∧ M.1 40 8 = I B ∧ (∀ i, i < hN g → M.1 41 i = I (hV g i))
theorem c_choose {g : Nat → Int} {d ps W : Nat} {M : Mm} (hp : St ps) (hr : CSr M ps g) (hs : RGs g) (eW : g 0 = W) {B : Int} (hB : 0 ≤ B ∧ B ≤ 999) : EvQ (d + 8) 188 [.ref 40, .ref ps, .int (I B)] M fun v M' => v = none ∧ M'.1 40 6 = I W ∧ M'.1 40 10 = I (plE g W B).1 ∧ (∀ v, v < W → M'.1 55 v = I (hV g (dv (hN g) (plE g W B).2.2 (W - 1 - v) % hN g))) ∧ FrP M M' := by
  have h0 := hs.1.1
  have hn := hN_b hs
  have hp2 : 56 ≤ ps := by rcases hp with rfl | rfl | rfl | rfl <;> decide
  have g0 := gaS_b hs (w := -1) (h := 0)
  apply e_Planner_choose hp
  intro At step
  have hr0 : CSr (sI (sI M 40 7 (M.1 ps 2)) 40 8 (I B)) ps g := hr.of fun a q1 q2 => by rw [mI_fn (by omega), mI_fn (by omega)]
  refine q_non (c_findChoices hp hr0 hs) ?_
  rintro N1 ⟨a1, a2, a3⟩
  have f7 : N1.1 40 7 = I W := by
    rw [a3.2.1 7 (by decide), mI_n2 (by decide), mI_eq, hr.1.1, eW]
  have f8 : N1.1 40 8 = I B := by
    rw [a3.2.1 8 (by decide), mI_eq]
  have fF : FrP M N1 := ⟨fun a ha => by rw [a3.1 a (by omega) (by omega), mI_fn (by omega), mI_fn (by omega)], a3.2.2⟩
  refine loopU (P := fun w : Nat => ∀ N : Mm, PLd N g W B → PLf N g w → FrP M N → At 20 [.ref 40, .ref ps, .retAddr 0, .int (I w), .retAddr 0] [] N) (n := W) ?_ ?_ N1 ⟨a1, f7, f8, a2⟩ (fun v c hv => absurd hv (by omega)) fF
  · intro N hd hf hF
    apply s_Planner_choose_20 hp step
    have hrN : CSr N ps g := hr.of fun a q1 q2 => hF.1 a (by omega)
    rw [hd.2.1, I_lt (by omega) (by omega) (by omega) (by omega)]
    refine ⟨fun q => absurd q (by omega), fun _ => ?_⟩
    have hr3 : CSr (sI (sI (sI N 40 10 (I (-1))) 40 9 (I 0)) 40 6 (I W)) ps g := hrN.of fun a q1 q2 => by rw [mI_fn (by omega), mI_fn (by omega), mI_fn (by omega)]
    refine ⟨_, _, c_gainOf hp hr3 hs (w := -1) (h := 0) (by omega) (by omega), ?_⟩
    have hS : PLs (sI (sI (sI N 40 10 (I (-1))) 40 9 (I 0)) 40 6 (I W)) g W B := by
      refine ⟨?_, ?_, ?_, fun i hi => ?_, fun w c hw hc => ?_⟩
      · rw [mI_n2 (by decide), mI_n2 (by decide), mI_n2 (by decide)]
        exact hd.1
      · rw [mI_n2 (by decide), mI_n2 (by decide), mI_n2 (by decide)]
        exact hd.2.1
      · rw [mI_n2 (by decide), mI_n2 (by decide), mI_n2 (by decide)]
        exact hd.2.2.1
      · rw [mI_n1 (by decide), mI_n1 (by decide), mI_n1 (by decide)]
        exact hd.2.2.2 i hi
      · rw [mI_n1 (by omega), mI_n1 (by omega), mI_n1 (by omega), mI_n1 (by omega), mI_n1 (by omega), mI_n1 (by omega)]
        exact hf w c hw hc
    have hz0 : PLz (sI (sI (sI N 40 10 (I (-1))) 40 9 (I 0)) 40 6 (I W)) g W (-1, 0, 0) := by
      refine ⟨?_, ?_, Or.inl rfl, by decide, by decide⟩
      · rw [mI_n2 (by decide), mI_n2 (by decide), mI_eq]
      · rw [mI_n2 (by decide), mI_eq]
    have hc0 : PLc (sI (sI (sI N 40 10 (I (-1))) 40 9 (I 0)) 40 6 (I W)) g 0 0 := fun v hv => absurd hv (by omega)
    have ht := c_tryWall hs (W := W) (B := B) (by omega) hB W (d + 5 - W) 0 0 (sI (sI (sI N 40 10 (I (-1))) 40 9 (I 0)) 40 6 (I W)) (-1, 0, 0) (by omega) hB.1 hS hz0 hc0
    rw [show d + 5 - W + W + 2 = d + 7 by omega, show UU (gnF g) (hN g) 0 0 = 0 from rfl, show UU (bgF g) (hN g) 0 0 = 0 from rfl, Int.add_zero, Nat.zero_mul] at ht
    refine q_non ht ?_
    rintro N3 ⟨b1, b2, b3, b4⟩
    have hpos := plE_some hs (W := W) (B := B) hB.1
    refine ⟨rfl, ?_, b2.1, ?_, ⟨fun a ha => ?_, ?_⟩⟩
    · rw [b4.2.1 6 (by decide) (by decide), mI_eq]
    · rcases b2.2.2.1 with z | z
      · exact absurd (show (plE g W B).1 = -1 from z) (by omega)
      · exact z
    · rw [b4.1 a (by omega) (by omega) (by omega), mI_fn (by omega), mI_fn (by omega), mI_fn (by omega)]
      exact hF.1 a ha
    · exact b4.2.2.trans hF.2
  · intro w hw nx N hd hf hF
    apply s_Planner_choose_20 hp step
    rw [hd.2.1, I_lt (by omega) (by omega) (by omega) (by omega)]
    refine ⟨fun _ => ?_, fun q => absurd (by omega) q⟩
    have l43 := lay43 (w := w) (by omega)
    refine loopU (P := fun c : Nat => ∀ N : Mm, PLd N g W B → PLf N g w → (∀ i, i < c → N.1 (43 + w) i = I (gnF g w i) ∧ N.1 (49 + w) i = I (bgF g w i)) → FrP M N → At 31 [.ref 40, .ref ps, .retAddr 0, .int (I w), .int (I c)] [] N) (n := hN g) ?_ ?_ N hd hf (fun i hi => absurd hi (by omega)) hF
    · intro N hd hf hc hF
      apply s_Planner_choose_31 hp step
      rw [hd.1, I_lt (by omega) (by omega) (by omega) (by omega)]
      simp only [I_add]
      refine ⟨fun q => absurd q (by omega), fun _ => nx N hd (fun v c hv hcc => ?_) hF⟩
      by_cases e : v = w
      · subst e
        exact hc c hcc
      · exact hf v c (by omega) hcc
    · intro c hc nx2 N hd hf hcs hF
      apply s_Planner_choose_31 hp step
      have hrN : CSr N ps g := hr.of fun a q1 q2 => hF.1 a (by omega)
      have hvb := hV_b (g := g) hc
      have gb := gaS_b hs (w := (w : Int)) (h := hV g c)
      have i5 : inR (I (w : Int)) 5 := inRI (by omega) (by omega) (by omega)
      have i7 : inR (I (c : Int)) 7 := inRI (by omega) (by omega) (by omega)
      rw [hd.1, I_lt (by omega) (by omega) (by omega) (by omega), ixI (by omega) (by omega), ixI (by omega) (by omega), Int.toNat_natCast, Int.toNat_natCast, hd.2.2.2 c hc, l43.1, l43.2.1, l43.2.2.1, l43.2.2.2]
      refine ⟨fun _ => ⟨i5, i7, _, _, c_gainOf hp hrN hs (w := (w : Int)) (by omega) (by omega), rfl, i7, i5, i7, ?_⟩, fun q => absurd (by omega) q⟩
      have hrN2 : CSr (sI N (43 + 1 * w) c (I (gaS g (w : Int) (hV g c)))) ps g := hrN.of fun a q1 q2 => by rw [mI_fn (by omega)]
      rw [mI_fn (show 41 ≠ 43 + 1 * w by omega), hd.2.2.2 c hc]
      refine ⟨_, _, c_bagsFor hp hrN2 hs (w := (w : Int)) (by omega) (h := hV g c) (by omega) (by omega), rfl, i7, ?_⟩
      simp only [I_add]
      rw [if_pos (by omega), Int.toNat_natCast, show 43 + 1 * w = 43 + w by omega, show 49 + 1 * w = 49 + w by omega]
      refine nx2 _ ⟨?_, ?_, ?_, fun i hi => ?_⟩ (fun v i hv hi => ?_) (fun i hi => ?_) ⟨fun a ha => ?_, hF.2⟩
      · rw [mI_n1 (by omega), mI_n1 (by omega)]
        exact hd.1
      · rw [mI_n1 (by omega), mI_n1 (by omega)]
        exact hd.2.1
      · rw [mI_n1 (by omega), mI_n1 (by omega)]
        exact hd.2.2.1
      · rw [mI_n1 (by omega), mI_n1 (by omega)]
        exact hd.2.2.2 i hi
      · rw [mI_n1 (by omega), mI_n1 (by omega), mI_n1 (by omega), mI_n1 (by omega)]
        exact hf v i hv hi
      · by_cases e : i = c
        · subst e
          rw [mI_n1 (by omega), mI_eq, mI_eq]
          exact ⟨rfl, rfl⟩
        · rw [mI_n2 e, mI_n2 e, mI_n2 e, mI_n2 e]
          exact hcs i (by omega)
      · rw [mI_fn (by omega), mI_fn (by omega)]
        exact hF.1 a ha
