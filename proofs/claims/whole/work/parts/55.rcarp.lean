/-! ===== carpets: the best n are those that the class takes, and the reference ===== -/
def sumB (f : Nat → Int) (a : Nat) : Int := sumL (fun k => (bt a k : Int) * f k) 10
theorem sumB_or {f : Nat → Int} {a k : Nat} (hk : k < 10) (h : bt a k = 0) : sumB f (a ||| 2 ^ k) = sumB f a + f k := by
  unfold sumB
  have aux : ∀ n : Nat, sumL (fun j => (bt (a ||| 2 ^ k) j : Int) * f j) n = sumL (fun j => (bt a j : Int) * f j) n + (if k < n then f k else 0) := by
    intro n
    induction n with
    | zero => rfl
    | succ n ih =>
      unfold sumL
      rw [ih]
      by_cases e : n = k
      · subst e
        rw [bt_orE, h, if_neg (by omega), if_pos (by omega)]
        simp
      · rw [bt_orN e]
        by_cases q : k < n
        · rw [if_pos q, if_pos (by omega)]
          omega
        · rw [if_neg q, if_neg (by omega)]
          omega
  rw [aux, if_pos hk]
theorem sumB_lin {f h : Nat → Int} {c : Int} {a : Nat} : sumB (fun k => c * f k - h k) a = c * sumB f a - sumB h a := by
  unfold sumB
  have aux : ∀ n : Nat, sumL (fun k => (bt a k : Int) * (c * f k - h k)) n = c * sumL (fun k => (bt a k : Int) * f k) n - sumL (fun k => (bt a k : Int) * h k) n := by
    intro n
    induction n with
    | zero => show (0 : Int) = c * 0 - 0; omega
    | succ n ih =>
      unfold sumL
      rw [ih, Int.mul_add, Int.mul_sub]
      have : (bt a n : Int) * (c * f n) = c * ((bt a n : Int) * f n) := by rw [← Int.mul_assoc, ← Int.mul_assoc, Int.mul_comm (bt a n : Int) c]
      omega
  exact aux 10
set_option maxRecDepth 100000 in
theorem sumB_pow : ∀ a : Nat, a < 1024 → sumB (fun k => ((2 ^ k : Nat) : Int)) a = (a : Int) ∧ sumB (fun _ => 1) a = (pc10 a : Int) := by decide +kernel
/-- two sets of like size: where all that are in the one alone weigh th at least, and all in the other alone at most, the one weighs no less -/
theorem exch {f : Nat → Int} {a b : Nat} {th : Int} (ha : a < 1024) (hb : b < 1024) (hn : pc10 a = pc10 b) (h1 : ∀ k, k < 10 → bt a k = 1 → th ≤ f k) (h2 : ∀ k, k < 10 → bt b k = 1 → ¬ bt a k = 1 → f k ≤ th) : sumB f b ≤ sumB f a := by
  have e1 : ∀ c : Nat, c < 1024 → sumB (fun k => 1 * f k - th) c = sumB f c - th * (pc10 c : Int) := by
    intro c hc
    have := sumB_lin (f := f) (h := fun _ => th) (c := 1) (a := c)
    rw [this, Int.one_mul]
    have e2 : sumB (fun _ => th) c = th * (pc10 c : Int) := by
      rw [← (sumB_pow c hc).2]
      unfold sumB
      rw [← sumL_mul]
      refine sumL_congr fun k hk => ?_
      rw [Int.mul_one, Int.mul_comm]
    rw [e2]
  have e3 : sumB (fun k => 1 * f k - th) b ≤ sumB (fun k => 1 * f k - th) a := by
    unfold sumB
    have aux : ∀ n : Nat, n ≤ 10 → sumL (fun k => (bt b k : Int) * (1 * f k - th)) n ≤ sumL (fun k => (bt a k : Int) * (1 * f k - th)) n := by
      intro n
      induction n with
      | zero => intro _; exact Int.le_refl _
      | succ n ih =>
        intro hn
        have i := ih (by omega)
        unfold sumL
        have ba := bt_lt a n
        have bb := bt_lt b n
        rw [Int.one_mul]
        have c1 : bt a n = 0 ∨ bt a n = 1 := by omega
        have c2 : bt b n = 0 ∨ bt b n = 1 := by omega
        rcases c1 with c1 | c1 <;> rcases c2 with c2 | c2 <;> rw [c1, c2]
        · omega
        · have := h2 n (by omega) c2 (by omega)
          simp only [Int.natCast_zero, Int.zero_mul]
          have : ((1 : Nat) : Int) * (f n - th) = f n - th := by simp
          omega
        · have := h1 n (by omega) c1
          simp only [Int.natCast_zero, Int.zero_mul]
          have : ((1 : Nat) : Int) * (f n - th) = f n - th := by simp
          omega
        · omega
    exact aux 10 (Nat.le_refl _)
  rw [e1 a ha, e1 b hb, hn] at e3
  omega
def carF (g : Nat → Int) (k : Nat) : Int := 1024 * carV g k - ((2 ^ k : Nat) : Int)
def carM (g : Nat → Int) : Nat := setL (carS g) (g 1).toNat
theorem dcL_spec {C : Nat → Bool} {v : Nat → Int} : ∀ n : Nat, (dcL C v n = -1 → ∀ k, k < n → ¬ C k = true) ∧ (¬ dcL C v n = -1 → C (dcL C v n).toNat = true ∧ ∀ k, k < n → C k = true → v k < v (dcL C v n).toNat ∨ (v k = v (dcL C v n).toNat ∧ (dcL C v n).toNat ≤ k))
  | 0 => ⟨fun _ k hk => absurd hk (by omega), fun h => absurd rfl h⟩
  | n + 1 => by
    obtain ⟨h1, h2⟩ := dcL_spec (C := C) (v := v) n
    have b := dcL_b (C := C) (v := v) n
    unfold dcL
    by_cases q : C n = true ∧ (dcL C v n = -1 ∨ v (dcL C v n).toNat < v n)
    · rw [if_pos q]
      refine ⟨fun z => absurd z (by omega), fun _ => ⟨by rw [Int.toNat_natCast]; exact q.1, fun k hk hC => ?_⟩⟩
      rw [Int.toNat_natCast]
      by_cases e : k = n
      · subst e
        exact Or.inr ⟨rfl, Nat.le_refl _⟩
      · rcases q.2 with z | z
        · exact absurd hC (h1 z k (by omega))
        · by_cases y0 : dcL C v n = -1
          · exact absurd hC (h1 y0 k (by omega))
          · left
            rcases (h2 y0).2 k (by omega) hC with y | y
            · omega
            · omega
    · rw [if_neg q]
      refine ⟨fun z k hk hC => ?_, fun z => ⟨(h2 z).1, fun k hk hC => ?_⟩⟩
      · by_cases e : k = n
        · subst e
          exact q ⟨hC, Or.inl z⟩
        · exact h1 z k (by omega) hC
      · by_cases e : k = n
        · subst e
          have : ¬ v (dcL C v k).toNat < v k := fun y => q ⟨hC, Or.inr y⟩
          omega
        · exact (h2 z).2 k (by omega) hC
theorem carM_lt {g : Nat → Int} (hs : RGs g) : carM g < 1024 := by
  have h1 := hs.1.2.1
  exact setL_lt10 _ (by omega)
theorem carF_le {g : Nat → Int} {i j : Nat} (hi : i < 10) (hj : j < 10) (h : carV g i < carV g j ∨ (carV g i = carV g j ∧ j ≤ i)) : carF g i ≤ carF g j := by
  unfold carF
  have p1 := pow10 hi
  have p3 := pow10 hj
  have p2 : 0 < 2 ^ i := Nat.pos_of_ne_zero (by simp)
  rcases h with z | ⟨z, y⟩
  · omega
  · have : 2 ^ j ≤ 2 ^ i := Nat.pow_le_pow_right (by decide) y
    omega
theorem pc10_mono {a b : Nat} (h : ∀ k, k < 10 → bt a k = 1 → bt b k = 1) : pc10 a ≤ pc10 b := by
  have f : ∀ k, k < 10 → bt a k ≤ bt b k := fun k hk => by
    have h1 := h k hk
    have b1 := bt_lt a k
    by_cases q : bt a k = 1
    · rw [q, h1 q]
      exact Nat.le_refl _
    · omega
  unfold pc10
  have f0 := f 0 (by decide)
  have f1 := f 1 (by decide)
  have f2 := f 2 (by decide)
  have f3 := f 3 (by decide)
  have f4 := f 4 (by decide)
  have f5 := f 5 (by decide)
  have f6 := f 6 (by decide)
  have f7 := f 7 (by decide)
  have f8 := f 8 (by decide)
  have f9 := f 9 (by decide)
  omega
theorem num_mono {a b : Nat} (ha : a < 1024) (hb : b < 1024) (h : ∀ k, k < 10 → bt a k = 1 → bt b k = 1) : a ≤ b := by
  have e : sumB (fun k => ((2 ^ k : Nat) : Int)) a ≤ sumB (fun k => ((2 ^ k : Nat) : Int)) b := by
    unfold sumB
    have aux : ∀ n : Nat, n ≤ 10 → sumL (fun k => (bt a k : Int) * ((2 ^ k : Nat) : Int)) n ≤ sumL (fun k => (bt b k : Int) * ((2 ^ k : Nat) : Int)) n := by
      intro n
      induction n with
      | zero => intro _; exact Int.le_refl _
      | succ n ih =>
        intro hn
        have i := ih (by omega)
        unfold sumL
        have h1 := h n (by omega)
        have b1 := bt_lt a n
        have b2 := bt_lt b n
        have m : (bt a n : Int) * ((2 ^ n : Nat) : Int) ≤ (bt b n : Int) * ((2 ^ n : Nat) : Int) := by
          apply Int.mul_le_mul_of_nonneg_right
          · by_cases q : bt a n = 1
            · rw [q, h1 q]
              exact Int.le_refl _
            · omega
          · exact Int.natCast_nonneg _
        omega
    exact aux 10 (Nat.le_refl _)
  rw [(sumB_pow a ha).1, (sumB_pow b hb).1] at e
  omega
theorem bt_carM {g : Nat → Int} {k : Nat} : bt (carM g) k = 1 ↔ (k < (g 1).toNat ∧ carS g k = true) := by
  unfold carM
  rw [bt_setL]
  split
  · rename_i h
    exact ⟨fun _ => h, fun _ => rfl⟩
  · rename_i h
    exact ⟨fun z => absurd z (by decide), fun z => absurd z h⟩
theorem gr_inv {g : Nat → Int} (hs : RGs g) : ∀ i : Nat, (∀ k, k < 10 → bt (grL g i).1 k = 1 → bt (carM g) k = 1) ∧ (∃ th : Int, (∀ k, k < 10 → bt (grL g i).1 k = 1 → th ≤ carF g k) ∧ (∀ k, k < 10 → bt (carM g) k = 1 → ¬ bt (grL g i).1 k = 1 → carF g k ≤ th)) ∧ (grL g i).2 = sumB (carV g) (grL g i).1 ∧ pc10 (grL g i).1 = min i (pc10 (carM g))
  | 0 => by
    have h1 := hs.1.2.1
    refine ⟨fun k _ h => ?_, ⟨1024 * 99, fun k _ h => ?_, fun k hk hm _ => ?_⟩, ?_, ?_⟩
    · rw [show (grL g 0).1 = 0 from rfl, bt_zero] at h
      exact absurd h (by decide)
    · rw [show (grL g 0).1 = 0 from rfl, bt_zero] at h
      exact absurd h (by decide)
    · have b := hs.2.2.1 k hk
      have p0 : (0 : Int) ≤ ((2 ^ k : Nat) : Int) := Int.natCast_nonneg _
      unfold carF carV
      omega
    · show (0 : Int) = sumB (carV g) 0
      unfold sumB
      have : ∀ m, sumL (fun k => (bt 0 k : Int) * carV g k) m = 0 := by
        intro m
        induction m with
        | zero => rfl
        | succ m ih =>
          unfold sumL
          rw [ih, bt_zero]
          simp
      rw [this]
    · rw [Nat.zero_min]
      show pc10 0 = 0
      decide
  | i + 1 => by
    obtain ⟨i1, ⟨th, i2, i3⟩, i4, i5⟩ := gr_inv hs i
    have h1 := hs.1.2.1
    have gl := grL_lt hs i
    have sp := dcL_spec (C := carC g (grL g i).1) (v := carV g) (g 1).toNat
    have db := dcL_b (C := carC g (grL g i).1) (v := carV g) (g 1).toNat
    unfold grL
    generalize hG : grL g i = G at i1 i2 i3 i4 i5 sp db gl ⊢
    generalize dcL (carC g G.1) (carV g) (g 1).toNat = z at sp db ⊢
    by_cases q : z = -1
    · rw [if_pos q]
      refine ⟨i1, ⟨th, i2, i3⟩, i4, ?_⟩
      have hall := sp.1 q
      have : G.1 = carM g := by
        refine bt_ext gl (carM_lt hs) fun k hk => ?_
        have b1 := bt_lt G.1 k
        have b2 := bt_lt (carM g) k
        by_cases y : bt (carM g) k = 1
        · have y2 := bt_carM.mp y
          by_cases y3 : bt G.1 k = 1
          · rw [y, y3]
          · exfalso
            apply hall k y2.1
            unfold carC
            rw [y2.2]
            simp [y3]
        · have : ¬ bt G.1 k = 1 := fun x => y (i1 k hk x)
          omega
      rw [this] at i5 ⊢
      omega
    · rw [if_neg q]
      obtain ⟨s1, s2⟩ := sp.2 q
      obtain ⟨n, rfl⟩ := Nn (a := z) (by omega)
      rw [Int.toNat_natCast] at s1 s2 ⊢
      have hn10 : n < 10 := by omega
      have hnS : bt (carM g) n = 1 ∧ ¬ bt G.1 n = 1 := by
        unfold carC at s1
        rw [Bool.and_eq_true] at s1
        refine ⟨bt_carM.mpr ⟨by omega, s1.1⟩, ?_⟩
        have := s1.2
        simp only [Bool.not_eq_true', decide_eq_false_iff_not] at this
        exact this
      have hn0 : bt G.1 n = 0 := by
        have := bt_lt G.1 n
        omega
      have j1 : ∀ k, k < 10 → bt (G.1 ||| 2 ^ n) k = 1 → bt (carM g) k = 1 := by
        intro k hk h
        by_cases e : k = n
        · rw [e]; exact hnS.1
        · rw [bt_orN e] at h
          exact i1 k hk h
      refine ⟨j1, ⟨carF g n, fun k hk h => ?_, fun k hk hm h => ?_⟩, ?_, ?_⟩
      · by_cases e : k = n
        · rw [e]
          exact Int.le_refl _
        · rw [bt_orN e] at h
          have a1 := i2 k hk h
          have a2 := i3 n hn10 hnS.1 hnS.2
          omega
      · have e : k ≠ n := by
          intro e
          rw [e, bt_orE] at h
          exact h rfl
        rw [bt_orN e] at h
        have y2 := bt_carM.mp hm
        refine carF_le hk hn10 (s2 k y2.1 ?_)
        unfold carC
        rw [y2.2]
        simp [h]
      · rw [sumB_or hn10 hn0, ← i4]
      · have e := pc10_or hn10 hnS.2
        have m := pc10_mono j1
        rw [e] at m ⊢
        omega
theorem gr_best {g : Nat → Int} (hs : RGs g) (i : Nat) {T : Nat} (hT : T < 1024) (hsub : les T (carM g) = 0) (hn : pc10 T = min i (pc10 (carM g))) : sumB (carV g) T ≤ (grL g i).2 ∧ (sumB (carV g) T = (grL g i).2 → (grL g i).1 ≤ T) := by
  obtain ⟨i1, ⟨th, i2, i3⟩, i4, i5⟩ := gr_inv hs i
  have gl := grL_lt hs i
  have hT2 := (les_zero hT).mp hsub
  have ex : sumB (carF g) T ≤ sumB (carF g) (grL g i).1 := exch gl hT (by omega) i2 fun k hk h1 h2 => i3 k hk (hT2 k hk h1) h2
  have e : ∀ c : Nat, c < 1024 → sumB (carF g) c = 1024 * sumB (carV g) c - (c : Int) := fun c hc => by
    have := sumB_lin (f := carV g) (h := fun k => ((2 ^ k : Nat) : Int)) (c := 1024) (a := c)
    rw [(sumB_pow c hc).1] at this
    exact this
  rw [e T hT, e _ gl] at ex
  rw [i4]
  omega
/-- the reference's search -/
def cpL (g : Nat → Int) (S m : Nat) (z : Int × Int) : Nat → Int × Int
  | 0 => z
  | a + 1 => if les a S = 0 ∧ pc10 a = m then (if (cpL g S m z a).1 < sumB (carV g) a then (sumB (carV g) a, (a : Int)) else cpL g S m z a) else cpL g S m z a
theorem sumBv_b {g : Nat → Int} (hs : RGs g) {a : Nat} : 0 ≤ sumB (carV g) a ∧ sumB (carV g) a ≤ 990 := by
  have := sumL_b (f := fun k => (bt a k : Int) * carV g k) (c := 99) (N := 10) (fun k hk => by
    have b := hs.2.2.1 k hk
    have b2 := bt_lt a k
    have := mulb (a := (bt a k : Int)) (b := carV g k) (x := 1) (y := 99) ⟨by omega, by omega⟩ ⟨by unfold carV; omega, by unfold carV; omega⟩
    omega) (by decide) 10 (Nat.le_refl _)
  unfold sumB
  omega
theorem cpL_b {g : Nat → Int} (hs : RGs g) {S m : Nat} {mv : Int} : ∀ a : Nat, -1 ≤ (cpL g S m (-1, mv) a).1 ∧ (cpL g S m (-1, mv) a).1 ≤ 990
  | 0 => by show (-1 : Int) ≤ -1 ∧ (-1 : Int) ≤ 990; omega
  | a + 1 => by
    have ih := cpL_b hs (S := S) (m := m) (mv := mv) a
    have sb := sumBv_b hs (a := a)
    unfold cpL
    split
    · split
      · dsimp only
        omega
      · exact ih
    · exact ih
theorem cp_fold {g : Nat → Int} (hs : RGs g) (i : Nat) {mv : Int} : ∀ a : Nat, a ≤ 1024 → (a ≤ (grL g i).1 → (cpL g (carM g) (min i (pc10 (carM g))) (-1, mv) a).1 < (grL g i).2) ∧ ((grL g i).1 < a → cpL g (carM g) (min i (pc10 (carM g))) (-1, mv) a = ((grL g i).2, ((grL g i).1 : Int)))
  | 0, _ => by
    obtain ⟨-, -, i4, -⟩ := gr_inv hs i
    have := sumBv_b hs (a := (grL g i).1)
    refine ⟨fun _ => ?_, fun h => absurd h (by omega)⟩
    show (-1 : Int) < _
    omega
  | a + 1, ha => by
    obtain ⟨h1, h2⟩ := cp_fold hs i (mv := mv) a (by omega)
    obtain ⟨i1, -, i4, i5⟩ := gr_inv hs i
    have gl := grL_lt hs i
    have hq : les (grL g i).1 (carM g) = 0 := (les_zero gl).mpr i1
    unfold cpL
    by_cases q : les a (carM g) = 0 ∧ pc10 a = min i (pc10 (carM g))
    · rw [if_pos q]
      have best := gr_best hs i (T := a) (by omega) q.1 q.2
      refine ⟨fun h => ?_, fun h => ?_⟩
      · have hne : ¬ sumB (carV g) a = (grL g i).2 := fun e => by
          have := best.2 e
          omega
        have := h1 (by omega)
        split
        · show sumB (carV g) a < _
          omega
        · exact this
      · by_cases e : a = (grL g i).1
        · have hb := h1 (by omega)
          rw [e, ← i4, if_pos (by rw [← e]; exact hb)]
        · rw [h2 (by omega)]
          rw [if_neg]
          show ¬ (grL g i).2 < sumB (carV g) a
          omega
    · rw [if_neg q]
      refine ⟨fun h => h1 (by omega), fun h => ?_⟩
      by_cases e : a = (grL g i).1
      · rw [e] at q
        exact absurd ⟨hq, i5⟩ q
      · exact h2 (by omega)
section CPR
variable {M : Mm} {n' : Nat} {g : Nat → Int} {us : Nat → Nat → Int}
theorem r_carpets {d : Nat} (h : RU M g n' us) {w mv : Int} (hw : (-2147483648 ≤ w ∧ w < 2147483648)) (e : (M.1 400 37 = I 0 ∧ mv = -1) ∨ (M.1 400 37 = I 1 ∧ M.1 400 36 = I mv)) : EvQ (d + 4) 143 [.ref 400, .int (I w)] M fun r M' => r = some (.int (I (carpA g w))) ∧ RU M' g n' us ∧ ((M'.1 400 37 = I 0 ∧ carpN g w mv = -1) ∨ (M'.1 400 37 = I 1 ∧ M'.1 400 36 = I (carpN g w mv))) ∧ RF [402] [0, 36, 37] M M' := by
  have h1 := h.f0 (v := I 0)
  have f1 : RF [402] [0, 36, 37] M (sI M 400 0 (I 0)) := RF.f0 (by simp)
  have e36' : (sI M 400 0 (I 0)).1 400 36 = M.1 400 36 := mI_n2 (by decide)
  have e37' : (sI M 400 0 (I 0)).1 400 37 = M.1 400 37 := mI_n2 (by decide)
  apply e_R_carpets
  intro At step
  generalize sI M 400 0 (I 0) = N at h1 f1 e36' e37' ⊢
  rw [← e36', ← e37'] at e
  have h1' := h1
  obtain ⟨hm, hPr, hs, hd, hn⟩ := h1
  have hg1 := hs.1.2.1
  obtain ⟨nh, hnh⟩ := Nn hg1.1
  have enh : (g 1).toNat = nh := by omega
  have eN : ∀ k, N.1 402 k = I (g k) := fun k => by rw [hm]
  refine ⟨_, _, v_isIn hw (by omega) (by omega), ?_⟩
  rw [bI0]
  refine ⟨fun q => ?_, fun q => ?_⟩
  · have q' : ¬ (0 ≤ w ∧ w ≤ 10) := q
    unfold carpA carpN
    rw [if_neg q', if_neg q']
    exact ⟨rfl, h1', e, f1⟩
  obtain ⟨n, rfl⟩ := Nn (a := w) (by omega)
  have hA : carpA g n = (grL g n).2 := by
    unfold carpA
    rw [if_pos (Decidable.of_not_not q), Int.toNat_natCast]
  have hN : carpN g n mv = ((grL g n).1 : Int) := by
    unfold carpN
    rw [if_pos (Decidable.of_not_not q), Int.toNat_natCast]
  have hSl := carM_lt hs
  have hSn : ∀ k, nh ≤ k → bt (carM g) k = 0 := fun k hk => by
    have b := bt_lt (carM g) k
    have : ¬ bt (carM g) k = 1 := fun y => by
      have := (bt_carM.mp y).1
      omega
    omega
  have hfin := (cp_fold hs n (mv := mv) (carM g + 1) (by omega)).2 (by
    have := num_mono (grL_lt hs n) hSl (gr_inv hs n).1
    omega)
  rw [hA, hN] at step
  have sumEq : ∀ a : Nat, les a (carM g) = 0 → a < 1024 → sumL (fun k => if bt a k = 1 then carV g k else 0) nh = sumB (carV g) a := by
    intro a hsub ha
    have ha2 := (les_zero ha).mp hsub
    unfold sumB
    have e1 : ∀ m, sumL (fun k => if bt a k = 1 then carV g k else 0) m = sumL (fun k => (bt a k : Int) * carV g k) m := fun m => sumL_congr fun k _ => by
      have := bt_lt a k
      by_cases y : bt a k = 1
      · rw [if_pos y, y]
        simp
      · have y0 : bt a k = 0 := by omega
        rw [if_neg y, y0]
        simp
    rw [e1]
    have e2 : ∀ m, nh + m ≤ 10 → sumL (fun k => (bt a k : Int) * carV g k) (nh + m) = sumL (fun k => (bt a k : Int) * carV g k) nh := by
      intro m
      induction m with
      | zero => intro _; rfl
      | succ m ih =>
        intro hm
        show sumL (fun k => (bt a k : Int) * carV g k) (nh + m) + (bt a (nh + m) : Int) * carV g (nh + m) = _
        have y0 : bt a (nh + m) = 0 := by
          have b := bt_lt a (nh + m)
          have : ¬ bt a (nh + m) = 1 := fun y => by
            have := ha2 (nh + m) (by omega) y
            rw [hSn _ (by omega)] at this
            exact absurd this (by decide)
          omega
        rw [ih (by omega), y0]
        simp
    have := e2 (10 - nh) (by omega)
    rw [show nh + (10 - nh) = 10 by omega] at this
    exact this.symm
  have t86 : At 86 [.ref 400, .retAddr 0, .int (I (carM g : Nat)), .int (I (min n (pc10 (carM g)) : Nat)), .int (I (-1)), .int (I 0), .retAddr 0, .retAddr 0] [] N := by
    refine loopU (P := fun a : Nat => ∀ O : Mm, (O.1 402 = fun k => I (g k)) → PR O n' us → RF [402] [0, 36, 37] M O → (a = 0 ∨ (cpL g (carM g) (min n (pc10 (carM g))) (-1, mv) a).1 = -1 ∨ O.1 400 36 = I (cpL g (carM g) (min n (pc10 (carM g))) (-1, mv) a).2) → At 86 [.ref 400, .retAddr 0, .int (I (carM g : Nat)), .int (I (min n (pc10 (carM g)) : Nat)), .int (I (cpL g (carM g) (min n (pc10 (carM g))) (-1, mv) a).1), .int (I (a : Int)), .retAddr 0, .retAddr 0] [] O) (n := carM g + 1) ?_ ?_ N hm hPr f1 (Or.inl rfl)
    · intro O hmO hPO o1 o2
      apply s_R_carpets_86 step
      have hp := sumBv_b hs (a := (grL g n).1)
      have i4 := (gr_inv hs n).2.2.1
      rw [hfin] at o2 ⊢
      rw [I_lt (by omega) (by omega) (by omega) (by omega)]
      refine ⟨fun _ => ⟨rfl, ⟨by rw [mI_fn (by decide)]; exact hmO, hPO.fr (mI_n2 (by decide)) (mI_fn (by decide)), hs, hd, hn⟩, Or.inr ⟨mI_eq, ?_⟩, o1.trans (RF.f (by simp))⟩, fun z => absurd (by omega) z⟩
      rw [mI_n2 (by decide)]
      rcases o2 with y | y | y
      · exact absurd y (by omega)
      · have : (grL g n).2 = -1 := y
        omega
      · exact y
    · intro a ha nx O hmO hPO o1 o2
      apply s_R_carpets_86 step
      have cb := cpL_b hs (S := carM g) (m := min n (pc10 (carM g))) (mv := mv) a
      have sb := sumBv_b hs (a := a)
      unfold cpL at nx
      generalize hY : cpL g (carM g) (min n (pc10 (carM g))) (-1, mv) a = y at nx cb o2 ⊢
      have o2' : y.1 = -1 ∨ O.1 400 36 = I y.2 := by
        rcases o2 with z | z | z
        · left
          subst z
          rw [← hY]
          rfl
        · exact Or.inl z
        · exact Or.inr z
      have hl := les_lt (a := a) (b := carM g) (by omega)
      have pcb := pc10_b (carM g)
      have pca := pc10_b a
      rw [I_lt (by omega) (by omega) (by omega) (by omega), I_les (by omega), I_ne (by omega) (by omega) (by omega) (by omega), I_add]
      refine ⟨fun z => absurd z (by omega), fun _ => ⟨fun z => ⟨_, _, r_bits (by omega), ?_⟩, fun z => ?_⟩⟩
      · rw [I_ne (by omega) (by omega) (by omega) (by omega)]
        refine ⟨fun z2 => ?_, fun z2 => ?_⟩
        · rw [if_pos (show les a (carM g) = 0 ∧ pc10 a = min n (pc10 (carM g)) by omega)] at nx
          have sE := sumEq a (by omega) (by omega)
          refine loopU (P := fun k : Nat => At 119 [.ref 400, .retAddr 0, .int (I (carM g : Nat)), .int (I (min n (pc10 (carM g)) : Nat)), .int (I y.1), .int (I (a : Int)), .int (I (sumL (fun k => if bt a k = 1 then carV g k else 0) k)), .int (I (k : Int))] [] O) (n := nh) ?_ ?_
          · apply s_R_carpets_119 step
            have e1 : O.1 402 1 = I (g 1) := by rw [hmO]
            rw [e1, sE, I_lt (by omega) (by omega) (by omega) (by omega), I_lt (by omega) (by omega) (by omega) (by omega)]
            simp only [I_add]
            refine ⟨fun z3 => absurd z3 (by omega), fun _ => ⟨fun z3 => ?_, fun z3 => ?_⟩⟩
            · rw [if_pos z3] at nx
              exact nx _ (by rw [mI_fn (by decide)]; exact hmO) (hPO.fr (mI_n2 (by decide)) (mI_fn (by decide))) (o1.trans (RF.f (by simp))) (Or.inr (Or.inr mI_eq))
            · rw [if_neg z3] at nx
              exact nx O hmO hPO o1 (Or.inr o2')
          · intro k hk nx2
            apply s_R_carpets_119 step
            have e1 : O.1 402 1 = I (g 1) := by rw [hmO]
            have e23 : O.1 402 (23 + k) = I (g (23 + k)) := by rw [hmO]
            have bk := hs.2.2.1 k (by omega)
            unfold sumL at nx2
            rw [e1, I_lt (by omega) (by omega) (by omega) (by omega)]
            refine ⟨fun _ => ⟨_, _, v_bitOf (by omega) (by omega), ?_⟩, fun z3 => absurd (by omega) z3⟩
            rw [bI0]
            simp (disch := omega) only [I_add, I_sub, I_mul, I_div, ixI, Int.toNat_add, Int.toNat_natCast, Int.reduceToNat, I_lt, I_ne, ite_I, e23]
            refine ⟨fun z3 => ?_, fun z3 => ⟨inRI (by omega) (by omega) (by omega), ?_⟩⟩
            · rw [if_neg z3] at nx2
              exact nx2
            · rw [if_pos (Decidable.of_not_not z3)] at nx2
              exact nx2
        · rw [if_neg (fun x => z2 (by omega))] at nx
          exact nx O hmO hPO o1 (Or.inr o2')
      · rw [if_neg (fun x => z (by omega))] at nx
        exact nx O hmO hPO o1 (Or.inr o2')
  refine loopU (P := fun k : Nat => At 21 [.ref 400, .int (I n), .int (I (setL (carS g) k : Nat)), .int (I (k : Int)), .retAddr 0, .retAddr 0, .retAddr 0, .retAddr 0] [] N) (n := nh) ?_ ?_
  · apply s_R_carpets_21 step
    have eM : setL (carS g) nh = carM g := by
      unfold carM
      rw [enh]
    have pcb := pc10_b (carM g)
    rw [eN 1, I_lt (by omega) (by omega) (by omega) (by omega), eM]
    refine ⟨fun z => absurd z (by omega), fun _ => ⟨_, _, r_bits hSl, _, _, v_lesser (by omega) (by omega), ?_⟩⟩
    have em : mnI (n : Int) (pc10 (carM g) : Int) = (min n (pc10 (carM g)) : Nat) := by
      unfold mnI
      split <;> omega
    rw [em]
    exact t86
  · intro k hk nx
    apply s_R_carpets_21 step
    have bk := hs.2.2.1 k (by omega)
    have h3 := hs.1.2.2.2.1
    have mb := mxL_b (f := fun k => g (61 + k)) (c := 60) (N := (g 3).toNat) (fun k hk => by have := hs.2.2.2.2.1 k (by omega); omega) (by decide) _ (Nat.le_refl _)
    have hS : (carS g k = true) = (g (112 + k) = 0 ∧ ¬ bt (g 99).toNat k = 1 ∧ g (33 + k) < mxL (fun k => g (61 + k)) (g 3).toNat) := by
      unfold carS
      rw [decide_eq_true_eq]
    rw [eN 1, I_lt (by omega) (by omega) (by omega) (by omega)]
    refine ⟨fun _ => ⟨_, _, r_whyUp hm hd (by omega), ?_⟩, fun z => absurd (by omega) z⟩
    have hwb : 0 ≤ (if g (112 + k) = 0 then (if bt (g 99).toNat k = 1 then 2 else 0) else 1 : Int) ∧ (if g (112 + k) = 0 then (if bt (g 99).toNat k = 1 then 2 else 0) else 1 : Int) ≤ 2 := by
      split
      · split <;> decide
      · decide
    have hwz : ((if g (112 + k) = 0 then (if bt (g 99).toNat k = 1 then 2 else 0) else 1 : Int) = 0) = (g (112 + k) = 0 ∧ ¬ bt (g 99).toNat k = 1) := by
      by_cases z1 : g (112 + k) = 0
      · by_cases z2 : bt (g 99).toNat k = 1 <;> simp [z1, z2]
      · simp [z1]
    rw [I_ne (by omega) (by omega) (by omega) (by omega), hwz]
    have e33 := eN (33 + k)
    refine ⟨fun z => ?_, fun z => ?_⟩
    · simp (disch := omega) only [I_add, ixI, Int.toNat_add, Int.toNat_natCast, Int.reduceToNat]
      refine ⟨inRI (by omega) (by omega) (by omega), _, _, r_greatestCrest hm hs, ?_⟩
      rw [e33, I_lt (by omega) (by omega) (by omega) (by omega)]
      refine ⟨fun z2 => ?_, fun z2 => ?_⟩
      · rw [or_T (by rw [hS]; exact ⟨z.1, z.2, z2⟩) (by omega)]
        exact nx
      · rw [or_F (by rw [← Bool.not_eq_true, hS]; exact fun x => z2 x.2.2)]
        exact nx
    · rw [or_F (by rw [← Bool.not_eq_true, hS]; exact fun x => z ⟨x.1, x.2.1⟩), I_add]
      exact nx
end CPR
