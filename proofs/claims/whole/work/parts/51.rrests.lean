/-! ===== the game at a wall: the reference ===== -/
section RSR
variable {M : Mm} {g : Nat → Int}
theorem r_greatestCrest {d : Nat} (hm : M.1 402 = fun k => I (g k)) (hs : RGs g) : Ev (d + 2) 133 [.ref 400] M (some (.int (I (mxL (fun k => g (61 + k)) (g 3).toNat)))) M := by
  have h3 := hs.1.2.2.2.1
  obtain ⟨n, hn⟩ := Nn h3.1
  have en : (g 3).toNat = n := by omega
  rw [en]
  apply Ev.ofQ
  apply e_R_greatestCrest
  intro At step
  have e : ∀ k, M.1 402 k = I (g k) := fun k => by rw [hm]
  refine loopU (P := fun k : Nat => At 4 [.ref 400, .int (I (mxL (fun k => g (61 + k)) k)), .int (I (k : Int))] [] M) (n := n) ?_ ?_
  · apply s_R_greatestCrest_4 step
    rw [e 3, hn, I_lt (by omega) (by omega) (by omega) (by omega)]
    exact ⟨fun q => absurd q (by omega), fun _ => ⟨rfl, rfl⟩⟩
  · intro k hk nx
    apply s_R_greatestCrest_4 step
    have b := hs.2.2.2.2.1 k (by omega)
    have mb := mxL_b (f := fun k => g (61 + k)) (c := 60) (N := n) (fun k hk => by have := hs.2.2.2.2.1 k (by omega); omega) (by decide) k (by omega)
    simp (disch := omega) only [e, hn, I_add, I_sub, I_mul, I_div, ixI, Int.toNat_add, Int.toNat_natCast, Int.reduceToNat, I_lt, I_ne, ite_I]
    refine ⟨fun _ => ⟨inRI (by omega) (by omega) (by omega), _, _, v_greater (by omega) (by omega), nx⟩, fun q => absurd (by omega) q⟩
theorem r_holds {d : Nat} (hm : M.1 402 = fun k => I (g k)) (hs : RGs g) {w a : Nat} {b : Int} (hw : w < 5) (ha : a < 1024) (hb : 0 ≤ b ∧ b ≤ 999) : Ev (d + 3) 134 [.ref 400, .int (I w), .int (I a), .int (I b)] M (some (.int (I (if holdB a b (needG g w) then 1 else 0)))) M := by
  have h3 := hs.1.2.2.2.1
  have m0 := many_b (a := a) hb
  have hnb := need_b hs hw
  have mb := mxL_b (f := fun k => g (61 + k)) (c := 60) (N := (g 3).toNat) (fun k hk => by have := hs.2.2.2.2.1 k (by omega); omega) (by decide) _ (Nat.le_refl _)
  apply Ev.ofQ
  apply e_R_holds
  intro At _
  refine ⟨_, _, r_bits ha, _, _, r_greatestCrest hm hs, _, _, v_takesOf hm hw mb.1 (by omega), ?_⟩
  have en : g (8 + w) * tri (mxL (fun k => g (61 + k)) (g 3).toNat) = needG g w := rfl
  rw [en, I_mul, I_lt (by omega) (by omega) (by omega) (by omega)]
  unfold holdB
  simp only [decide_eq_true_eq]
  exact ⟨fun q => ⟨by rw [if_neg (by omega)], by trivial⟩, fun q => ⟨by rw [if_pos (by omega)], by trivial⟩⟩
def savedB (a k : Nat) (b nd : Int) : Bool := holdB a b nd || (!decide (bt a k = 1) && decide (9 ≤ b))
theorem r_isSavedBy {d : Nat} (hm : M.1 402 = fun k => I (g k)) (hs : RGs g) {w a k : Nat} {b : Int} (hw : w < 5) (ha : a < 1024) (hk : k < 10) (hb : 0 ≤ b ∧ b ≤ 999) : Ev (d + 4) 135 [.ref 400, .int (I w), .int (I a), .int (I k), .int (I b)] M (some (.int (I (if savedB a k b (needG g w) then 1 else 0)))) M := by
  apply Ev.ofQ
  apply e_R_isSavedBy
  intro At _
  refine ⟨_, _, r_holds hm hs hw ha hb, ?_⟩
  rw [bI0]
  unfold savedB
  refine ⟨fun q => ⟨_, _, v_bitOf ha hk, ?_⟩, fun q => ⟨by rw [if_pos (by rw [Decidable.of_not_not q]; rfl)], rfl⟩⟩
  rw [bI0, I_lt (by omega) (by omega) (by omega) (by omega)]
  rw [Bool.not_eq_true] at q
  rw [q]
  refine ⟨fun q2 => ⟨fun q3 => ⟨?_, rfl⟩, fun q3 => ⟨?_, rfl⟩⟩, fun q2 => ⟨?_, rfl⟩⟩
  · rw [if_neg (by simp; omega)]
  · rw [if_pos (by simp [q2]; omega)]
  · rw [if_neg (by simp [Decidable.of_not_not q2])]
def restK (a p k : Nat) (b nd : Int) : Bool := !decide (bt p k = 1) || savedB a k b nd || !savedB (a ^^^ 2 ^ k) k b nd
theorem r_restsAt {d : Nat} (hm : M.1 402 = fun k => I (g k)) (hs : RGs g) {w a p k : Nat} {b : Int} (hw : w < 5) (ha : a < 1024) (hp : p < 1024) (hk : k < 10) (hb : 0 ≤ b ∧ b ≤ 999) : Ev (d + 5) 136 [.ref 400, .int (I w), .int (I a), .int (I p), .int (I b), .int (I k)] M (some (.int (I (if restK a p k b (needG g w) then 1 else 0)))) M := by
  have hx : a ^^^ 2 ^ k < 1024 := Nat.xor_lt_two_pow (n := 10) ha (pow10 hk)
  apply Ev.ofQ
  apply e_R_restsAt
  intro At _
  refine ⟨_, _, v_bitOf hp hk, ?_⟩
  rw [bI0]
  unfold restK
  refine ⟨fun q => ⟨by rw [if_pos (by simp [q])], rfl⟩, fun q => ⟨_, _, r_isSavedBy hm hs hw ha hk hb, ?_⟩⟩
  rw [bI0, shl0 k hk, I_xor]
  refine ⟨fun q2 => ⟨_, _, r_isSavedBy hm hs hw hx hk hb, ?_⟩, fun q2 => ⟨by rw [if_pos (by simp [Decidable.of_not_not q2])], rfl⟩⟩
  rw [bI0]
  refine ⟨fun q3 => ⟨by rw [if_pos (by simp [q3])], rfl⟩, fun q3 => ⟨by rw [if_neg (by simp [Decidable.of_not_not q, q2, Decidable.of_not_not q3])], rfl⟩⟩
theorem bt_xorE {n k : Nat} : bt (n ^^^ 2 ^ k) k = 1 - bt n k := by
  rw [bt_tb, bt_tb, Nat.testBit_xor, Nat.testBit_two_pow_self]
  cases n.testBit k <;> rfl
theorem bt_xorN {n k j : Nat} (h : j ≠ k) : bt (n ^^^ 2 ^ k) j = bt n j := by
  rw [bt_tb, bt_tb, Nat.testBit_xor, Nat.testBit_two_pow_of_ne (fun e => h e.symm)]
  cases n.testBit j <;> rfl
theorem pc10_xor {n k : Nat} (hk : k < 10) : (bt n k = 1 → pc10 (n ^^^ 2 ^ k) + 1 = pc10 n) ∧ (¬ bt n k = 1 → pc10 (n ^^^ 2 ^ k) = pc10 n + 1) := by
  have b := bt_lt n k
  unfold pc10
  have : k = 0 ∨ k = 1 ∨ k = 2 ∨ k = 3 ∨ k = 4 ∨ k = 5 ∨ k = 6 ∨ k = 7 ∨ k = 8 ∨ k = 9 := by omega
  rcases this with rfl | rfl | rfl | rfl | rfl | rfl | rfl | rfl | rfl | rfl
  all_goals
    simp (disch := decide) only [bt_xorE, bt_xorN]
    omega
/-- all k at rest, as the class says it -/
theorem rest_eq {a p n : Nat} {b nd : Int} (ha : a < 1024) (hp : p < 2 ^ n) (hn : n ≤ 10) (hsub : les a p = 0) (hb : 0 ≤ b ∧ b ≤ 999) : (∀ k, k < n → restK a p k b nd = true) ↔ restB a p b nd = true := by
  have hp1 : p < 1024 := Nat.lt_of_lt_of_le hp (Nat.pow_le_pow_right (n := 2) (by decide) hn)
  have hs := (les_zero ha).mp hsub
  have hbig : ∀ k, n ≤ k → bt p k = 0 := fun k hk => by
    unfold bt
    rw [Nat.div_eq_of_lt (Nat.lt_of_lt_of_le hp (Nat.pow_le_pow_right (by decide) hk))]
  have hH : ∀ x : Nat, (holdB x b nd = true) = (nd ≤ (pc10 x : Int) * b) := fun x => by
    unfold holdB
    rw [decide_eq_true_eq]
  have m0 := many_b (a := a) hb
  have hR : (restB a p b nd = true) = ((a = 0 ∨ holdB a b nd = true ∨ b < 9) ∧ (a = p ∨ holdB a b nd = true ∨ 9 ≤ b ∨ ((pc10 a : Int) + 1) * b < nd)) := by
    unfold restB
    simp only [Bool.and_eq_true, Bool.or_eq_true, decide_eq_true_eq, or_assoc]
  rw [hR]
  by_cases q1 : holdB a b nd = true
  · constructor
    · intro _
      exact ⟨Or.inr (Or.inl q1), Or.inr (Or.inl q1)⟩
    · intro _ k hk
      unfold restK savedB
      simp [q1]
  · have q1' := q1
    rw [hH] at q1'
    have sv : ∀ k, savedB a k b nd = (!decide (bt a k = 1) && decide (9 ≤ b)) := fun k => by
      unfold savedB
      rw [Bool.not_eq_true] at q1
      rw [q1]
      rfl
    have down : ∀ k, k < 10 → bt a k = 1 → ¬ holdB (a ^^^ 2 ^ k) b nd = true := by
      intro k hk h1
      rw [hH]
      have e := (pc10_xor (n := a) hk).1 h1
      have e2 : ((pc10 (a ^^^ 2 ^ k) : Int)) * b ≤ (pc10 a : Int) * b := Int.mul_le_mul_of_nonneg_right (by omega) hb.1
      omega
    have up : ∀ k, k < 10 → ¬ bt a k = 1 → (holdB (a ^^^ 2 ^ k) b nd = true) = (nd ≤ ((pc10 a : Int) + 1) * b) := by
      intro k hk h1
      rw [hH]
      have e := (pc10_xor (n := a) hk).2 h1
      rw [e]
      rfl
    have inA : ∀ k, k < 10 → bt a k = 1 → (restK a p k b nd = true ↔ b < 9) := by
      intro k hk h1
      have hpk := hs k hk h1
      have hx : bt (a ^^^ 2 ^ k) k = 0 := by rw [bt_xorE, h1]
      have d := down k hk h1
      unfold restK
      rw [sv]
      unfold savedB
      rw [Bool.not_eq_true] at d
      rw [d, hx, h1, hpk]
      simp
    have inB : ∀ k, k < 10 → ¬ bt a k = 1 → bt p k = 1 → (restK a p k b nd = true ↔ (9 ≤ b ∨ ((pc10 a : Int) + 1) * b < nd)) := by
      intro k hk h1 hpk
      have hx : bt (a ^^^ 2 ^ k) k = 1 := by
        rw [bt_xorE]
        have := bt_lt a k
        omega
      have u := up k hk h1
      unfold restK
      rw [sv]
      unfold savedB
      rw [hx, hpk]
      by_cases q9 : 9 ≤ b
      · simp [h1, q9]
      · by_cases qh : holdB (a ^^^ 2 ^ k) b nd = true
        · have q := u.mp qh
          simp [q9, qh]
          omega
        · have q : ¬ nd ≤ ((pc10 a : Int) + 1) * b := fun z => qh (u.mpr z)
          rw [Bool.not_eq_true] at qh
          simp [q9, qh]
          omega
    constructor
    · intro h
      constructor
      · by_cases z : a = 0
        · exact Or.inl z
        · right
          right
          have : ∃ k, k < 10 ∧ bt a k = 1 := by
            by_cases hex : ∃ k, k < 10 ∧ bt a k = 1
            · exact hex
            · exfalso
              apply z
              refine bt_ext ha (by decide) fun k hk => ?_
              rw [bt_zero]
              have b2 := bt_lt a k
              have : ¬ bt a k = 1 := fun y => hex ⟨k, hk, y⟩
              omega
          obtain ⟨k, hk, h1⟩ := this
          have hkn : k < n := by
            rcases Nat.lt_or_ge k n with y | y
            · exact y
            · have := hs k hk h1
              rw [hbig k y] at this
              exact absurd this (by decide)
          exact (inA k hk h1).mp (h k hkn)
      · by_cases z : a = p
        · exact Or.inl z
        · right
          right
          have : ∃ k, k < 10 ∧ ¬ bt a k = 1 ∧ bt p k = 1 := by
            by_cases hex : ∃ k, k < 10 ∧ ¬ bt a k = 1 ∧ bt p k = 1
            · exact hex
            · exfalso
              apply z
              refine bt_ext ha hp1 fun k hk => ?_
              have b1 := bt_lt a k
              have b2 := bt_lt p k
              by_cases y : bt a k = 1
              · rw [y, hs k hk y]
              · have : ¬ bt p k = 1 := fun y2 => hex ⟨k, hk, y, y2⟩
                omega
          obtain ⟨k, hk, h1, h2⟩ := this
          have hkn : k < n := by
            rcases Nat.lt_or_ge k n with y | y
            · exact y
            · rw [hbig k y] at h2
              exact absurd h2 (by decide)
          exact (inB k hk h1 h2).mp (h k hkn)
    · rintro ⟨c1, c2⟩ k hk
      by_cases y : bt p k = 1
      · by_cases y1 : bt a k = 1
        · refine (inA k (by omega) y1).mpr ?_
          rcases c1 with c | c | c
          · rw [c, bt_zero] at y1
            exact absurd y1 (by decide)
          · exact absurd c q1
          · exact c
        · refine (inB k (by omega) y1 y).mpr ?_
          rcases c2 with c | c | c
          · rw [c] at y1
            exact absurd y y1
          · exact absurd c q1
          · exact c
      · unfold restK
        simp [y]
/-- what is saved, house by house -/
theorem save_eq {a p n : Nat} {b nd : Int} (wo : Nat → Int) (hsub : les a p = 0) (ha : a < 1024) (hn : n ≤ 10) : sumL (fun k => if bt p k = 1 ∧ savedB a k b nd = true then wo k else 0) n = if holdB a b nd then sumL (fun k => (bt p k : Int) * wo k) n else if 9 ≤ b then sumL (fun k => (bt (les p a) k : Int) * wo k) n else 0 := by
  have one : ∀ m k : Nat, (bt m k : Int) * wo k = if bt m k = 1 then wo k else 0 := fun m k => by
    have := bt_lt m k
    by_cases q : bt m k = 1
    · rw [if_pos q, q]
      simp
    · have e : bt m k = 0 := by omega
      rw [if_neg q, e]
      simp
  by_cases q1 : holdB a b nd = true
  · rw [if_pos q1]
    refine sumL_congr fun k hk => ?_
    have : savedB a k b nd = true := by
      unfold savedB
      simp [q1]
    rw [one, this]
    simp
  · rw [if_neg q1]
    have sv : ∀ k, (savedB a k b nd = true) = (¬ bt a k = 1 ∧ 9 ≤ b) := fun k => by
      unfold savedB
      simp [q1]
    by_cases q9 : 9 ≤ b
    · rw [if_pos q9]
      refine sumL_congr fun k hk => ?_
      rw [one, bt_les (by omega)]
      simp only [sv]
      by_cases y1 : bt p k = 1 ∧ ¬ bt a k = 1
      · rw [if_pos ⟨y1.1, y1.2, q9⟩, if_pos y1, if_pos rfl]
      · rw [if_neg (fun z => y1 ⟨z.1, z.2.1⟩), if_neg y1, if_neg (by decide)]
    · rw [if_neg q9]
      have : ∀ m, sumL (fun k => if bt p k = 1 ∧ savedB a k b nd = true then wo k else 0) m = 0 := by
        intro m
        induction m with
        | zero => rfl
        | succ m ih =>
          unfold sumL
          rw [ih, if_neg (by rw [sv]; exact fun z => q9 z.2.2)]
          rfl
      exact this n
def allK (a p : Nat) (b nd : Int) : Nat → Bool
  | 0 => true
  | k + 1 => allK a p b nd k && restK a p k b nd
theorem allK_iff {a p : Nat} {b nd : Int} : ∀ n : Nat, allK a p b nd n = true ↔ ∀ k, k < n → restK a p k b nd = true
  | 0 => ⟨fun _ k hk => absurd hk (by omega), fun _ => rfl⟩
  | n + 1 => by
    unfold allK
    rw [Bool.and_eq_true, allK_iff n]
    constructor
    · rintro ⟨h1, h2⟩ k hk
      by_cases e : k = n
      · rw [e]; exact h2
      · exact h1 k (by omega)
    · intro h
      exact ⟨fun k hk => h k (by omega), h n (by omega)⟩
theorem r_rests {d n' : Nat} {us : Nat → Nat → Int} (h : RU M g n' us) {w b mv : Int} (hw : (-2147483648 ≤ w ∧ w < 2147483648)) (hbb : (-2147483648 ≤ b ∧ b < 2147483648)) (e : (M.1 400 33 = I 0 ∧ mv = -1) ∨ (M.1 400 33 = I 1 ∧ M.1 400 32 = I mv)) : EvQ (d + 6) 137 [.ref 400, .int (I w), .int (I b)] M fun r M' => r = some (.int (I (restsA g w b))) ∧ RU M' g n' us ∧ ((M'.1 400 33 = I 0 ∧ wallingN g w b mv = -1) ∨ (M'.1 400 33 = I 1 ∧ M'.1 400 32 = I (wallingN g w b mv))) ∧ RF [402] [0, 32, 33] M M' := by
  have h1 := h.f0 (v := I 0)
  have f1 : RF [402] [0, 32, 33] M (sI M 400 0 (I 0)) := RF.f0 (by simp)
  have e32' : (sI M 400 0 (I 0)).1 400 32 = M.1 400 32 := mI_n2 (by decide)
  have e33' : (sI M 400 0 (I 0)).1 400 33 = M.1 400 33 := mI_n2 (by decide)
  apply e_R_rests
  intro At step
  generalize sI M 400 0 (I 0) = N at h1 f1 e32' e33' ⊢
  rw [← e32', ← e33'] at e
  have h1' := h1
  obtain ⟨hm, hPr, hs, hd, hn⟩ := h1
  have h0 := hs.1.1
  have hh1 := hs.1.2.1
  have no : ¬ ((0 ≤ w ∧ w < g 0) ∧ (0 ≤ b ∧ b ≤ 999)) → some (Value.int (I (-1))) = some (.int (I (restsA g w b))) ∧ RU N g n' us ∧ ((N.1 400 33 = I 0 ∧ wallingN g w b mv = -1) ∨ (N.1 400 33 = I 1 ∧ N.1 400 32 = I (wallingN g w b mv))) ∧ RF [402] [0, 32, 33] M N := by
    intro q
    unfold restsA wallingN
    rw [if_neg q, if_neg q]
    exact ⟨rfl, h1', e, f1⟩
  refine ⟨_, _, r_isWall hm hs hw, ?_⟩
  rw [bI0]
  refine ⟨fun q => no (fun z => q z.1), fun q => ⟨_, _, v_isIn hbb (by omega) (by omega), ?_⟩⟩
  rw [bI0]
  refine ⟨fun q2 => no (fun z => q2 z.2), fun q2 => ?_⟩
  obtain ⟨k, rfl⟩ := Nn (a := w) (by omega)
  refine ⟨_, _, v_housesOf hm (nh := (g 1).toNat) (by omega) (by omega) (by omega) (fun j hj => by have := hs.2.2.1 j hj; omega), ?_⟩
  have hnb := need_b hs (w := k) (by omega)
  have hpn : housesS g k (g 1).toNat < 2 ^ (g 1).toNat := setL_lt _ _
  have hpl : housesS g k (g 1).toNat < 1024 := setL_lt10 _ (by omega)
  have hA : restsA g k b = (rsL g (housesS g k (g 1).toNat) b (needG g k) (0, -1, mv) (housesS g k (g 1).toNat + 1)).1 := by
    unfold restsA
    rw [if_pos ⟨by omega, by omega⟩, Int.toNat_natCast]
    exact (rsL_1 _).1
  have hV : wallingN g k b mv = (rsL g (housesS g k (g 1).toNat) b (needG g k) (0, -1, mv) (housesS g k (g 1).toNat + 1)).2.2 := by
    unfold wallingN
    rw [if_pos ⟨by omega, by omega⟩, Int.toNat_natCast]
  rw [hA, hV] at step
  generalize housesS g k (g 1).toNat = P at step hpl hpn ⊢
  refine loopU (P := fun a : Nat => ∀ O : Mm, (O.1 402 = fun k => I (g k)) → PR O n' us → ((O.1 400 33 = I 0 ∧ (rsL g P b (needG g k) (0, -1, mv) a).2.2 = -1) ∨ (O.1 400 33 = I 1 ∧ O.1 400 32 = I (rsL g P b (needG g k) (0, -1, mv) a).2.2)) → RF [402] [0, 32, 33] M O → At 41 [.ref 400, .int (I k), .int (I b), .int (I P), .int (I (rsL g P b (needG g k) (0, -1, mv) a).1), .int (I (rsL g P b (needG g k) (0, -1, mv) a).2.1), .int (I (a : Int)), .retAddr 0, .retAddr 0, .retAddr 0] [] O) (n := P + 1) ?_ ?_ N hm hPr e f1
  · intro O hmO hPO o15 o1
    apply s_R_rests_41 step
    rw [I_lt (by omega) (by omega) (by omega) (by omega)]
    exact ⟨fun _ => ⟨rfl, ⟨hmO, hPO, hs, hd, hn⟩, o15, o1⟩, fun z => absurd (by omega) z⟩
  · intro a ha nx O hmO hPO o15 o1
    apply s_R_rests_41 step
    have rb := rsL_b hs (p := P) (b := b) (nd := needG g k) (v := mv) a
    have sbb := saveG_b hs (a := a) (p := P) (b := b) (nd := needG g k)
    unfold rsL rsS at nx
    generalize rsL g P b (needG g k) (0, -1, mv) a = y at nx rb o15 ⊢
    have hl := les_lt (a := a) (b := P) (by omega)
    have t188 : ∀ (O2 : Mm) (y' : Int × Int × Int), (if les a P = 0 ∧ restB a P b (needG g k) = true then (if y.2.1 < saveG g a P b (needG g k) then (y.1 + 1, saveG g a P b (needG g k), (a : Int)) else (y.1 + 1, y.2.1, y.2.2)) else y) = y' → (O2.1 402 = fun k => I (g k)) → PR O2 n' us → ((O2.1 400 33 = I 0 ∧ y'.2.2 = -1) ∨ (O2.1 400 33 = I 1 ∧ O2.1 400 32 = I y'.2.2)) → RF [402] [0, 32, 33] M O2 → At 188 [.ref 400, .int (I k), .int (I b), .int (I P), .int (I y'.1), .int (I y'.2.1), .int (I a), .retAddr 0, .retAddr 0, .retAddr 0] [] O2 := by
      intro O2 y' ey a1 a2 a3 a4
      apply s_R_rests_188 step
      rw [I_add]
      rw [ey] at nx
      exact nx O2 a1 a2 a3 a4
    clear nx
    rw [I_lt (by omega) (by omega) (by omega) (by omega), I_les (by omega), I_ne (by omega) (by omega) (by omega) (by omega)]
    refine ⟨fun z => absurd z (by omega), fun _ => ⟨fun z => ?_, fun z => t188 O y (by rw [if_neg (fun x => z (by omega))]) hmO hPO o15 o1⟩⟩
    have hsub : les a P = 0 := by omega
    have sum0 : ∀ j : Nat, j ≤ (g 1).toNat → 0 ≤ sumL (fun j => if bt P j = 1 ∧ savedB a j b (needG g k) = true then g (23 + j) else 0) j ∧ sumL (fun j => if bt P j = 1 ∧ savedB a j b (needG g k) = true then g (23 + j) else 0) j ≤ 99 * j := sumL_b (c := 99) (N := (g 1).toNat) (fun i hi => by
      have b3 := hs.2.2.1 i (by omega)
      split <;> omega) (by decide)
    refine loopU (P := fun j : Nat => At 68 [.ref 400, .int (I k), .int (I b), .int (I P), .int (I y.1), .int (I y.2.1), .int (I a), .int (I (if allK a P b (needG g k) j then 1 else 0)), .int (I (sumL (fun j => if bt P j = 1 ∧ savedB a j b (needG g k) = true then g (23 + j) else 0) j)), .int (I (j : Int))] [] O) (n := (g 1).toNat) ?_ ?_
    · apply s_R_rests_68 step
      have e1 : O.1 402 1 = I (g 1) := by rw [hmO]
      have sm := sum0 (g 1).toNat (Nat.le_refl _)
      have eS : sumL (fun j => if bt P j = 1 ∧ savedB a j b (needG g k) = true then g (23 + j) else 0) (g 1).toNat = saveG g a P b (needG g k) := save_eq (fun j => g (23 + j)) hsub (by omega) (by omega)
      have eR : (allK a P b (needG g k) (g 1).toNat = true) = (restB a P b (needG g k) = true) := propext ((allK_iff _).trans (rest_eq (by omega) hpn (by omega) hsub (by omega)))
      rw [e1, I_lt (by omega) (by omega) (by omega) (by omega), bI0, eS]
      rw [eS] at sm
      refine ⟨fun z => absurd z (by omega), fun _ => ⟨fun z2 => t188 O y (by rw [if_neg (fun x => z2 (eR ▸ x.2))]) hmO hPO o15 o1, fun z2 => ?_⟩⟩
      have z3 : restB a P b (needG g k) = true := eR ▸ Decidable.of_not_not z2
      rw [I_lt (by omega) (by omega) (by omega) (by omega), I_add]
      refine ⟨fun z4 => t188 _ (y.1 + 1, saveG g a P b (needG g k), (a : Int)) (by rw [if_pos ⟨hsub, z3⟩, if_pos z4]) ?_ (hPO.fr (by rw [mI_n2 (by decide), mI_n2 (by decide)]) (by rw [mI_fn (by decide), mI_fn (by decide)])) (Or.inr ⟨mI_eq, by rw [mI_n2 (by decide), mI_eq]⟩) ((o1.trans (RF.f (by simp))).trans (RF.f (by simp))), fun z4 => t188 O (y.1 + 1, y.2.1, y.2.2) (by rw [if_pos ⟨hsub, z3⟩, if_neg z4]) hmO hPO o15 o1⟩
      rw [mI_fn (by decide), mI_fn (by decide)]
      exact hmO
    · intro j hj nx
      have e1 : O.1 402 1 = I (g 1) := by rw [hmO]
      have t105 : ∀ x7 : Bool, x7 = (allK a P b (needG g k) j && restK a P j b (needG g k)) → At 105 [.ref 400, .int (I k), .int (I b), .int (I P), .int (I y.1), .int (I y.2.1), .int (I a), .int (I (if x7 then 1 else 0)), .int (I (sumL (fun j => if bt P j = 1 ∧ savedB a j b (needG g k) = true then g (23 + j) else 0) j)), .int (I (j : Int))] [] O := by
        intro x7 hx7
        subst hx7
        apply s_R_rests_105 step
        unfold allK sumL at nx
        have b3 := hs.2.2.1 j (by omega)
        refine ⟨_, _, v_bitOf hpl (by omega), ?_⟩
        rw [bI0]
        refine ⟨fun q3 => ?_, fun q3 => ⟨_, _, r_isSavedBy hmO hs (by omega) (by omega) (by omega) (by omega), ?_⟩⟩
        · rw [if_neg (show ¬ (bt P j = 1 ∧ savedB a j b (needG g k) = true) from fun x => q3 x.1)] at nx
          rw [I_add, I_add]
          exact nx
        · rw [bI0]
          have e23 : O.1 402 (23 + j) = I (g (23 + j)) := by rw [hmO]
          simp (disch := omega) only [I_add, I_sub, I_mul, I_div, ixI, Int.toNat_add, Int.toNat_natCast, Int.reduceToNat, I_lt, I_ne, ite_I, e23]
          refine ⟨fun q4 => ?_, fun q4 => ⟨inRI (by omega) (by omega) (by omega), ?_⟩⟩
          · rw [if_neg (show ¬ (bt P j = 1 ∧ savedB a j b (needG g k) = true) from fun x => q4 x.2)] at nx
            exact nx
          · rw [if_pos (show bt P j = 1 ∧ savedB a j b (needG g k) = true from ⟨Decidable.of_not_not q3, Decidable.of_not_not q4⟩)] at nx
            exact nx
      apply s_R_rests_68 step
      rw [e1, I_lt (by omega) (by omega) (by omega) (by omega), bI0]
      refine ⟨fun _ => ⟨fun q3 => t105 false ?_, fun q3 => ⟨_, _, r_restsAt hmO hs (by omega) (by omega) hpl (by omega) (by omega), ?_⟩⟩, fun z => absurd (by omega) z⟩
      · rw [Bool.not_eq_true] at q3
        rw [q3]
        rfl
      · rw [bI0]
        refine ⟨fun q4 => t105 false ?_, fun q4 => t105 true ?_⟩
        · rw [Bool.not_eq_true] at q4
          rw [q4, Bool.and_false]
        · rw [Decidable.of_not_not q3, Decidable.of_not_not q4]
          rfl
end RSR
