/-! ===== what is due to those outside: the reference ===== -/
def bsL (l : Nat → Int) : Nat → Nat
  | 0 => 0
  | m + 1 => if l (bsL l m) < l (m + 1) then m + 1 else bsL l m
theorem bsL_spec {l : Nat → Int} : ∀ m : Nat, bsL l m ≤ m ∧ (∀ i, i ≤ m → l i ≤ l (bsL l m)) ∧ (∀ i, i < bsL l m → l i < l (bsL l m))
  | 0 => ⟨Nat.le_refl _, fun i hi => by
      have e : i = 0 := by omega
      subst e
      exact Int.le_refl _, fun i hi => absurd hi (by show ¬ i < 0; omega)⟩
  | m + 1 => by
    obtain ⟨h1, h2, h3⟩ := bsL_spec (l := l) m
    unfold bsL
    by_cases q : l (bsL l m) < l (m + 1)
    · rw [if_pos q]
      refine ⟨Nat.le_refl _, fun i hi => ?_, fun i hi => ?_⟩
      · by_cases e : i = m + 1
        · subst e
          exact Int.le_refl _
        · have := h2 i (by omega)
          omega
      · have := h2 i (by omega)
        omega
    · rw [if_neg q]
      refine ⟨by omega, fun i hi => ?_, h3⟩
      by_cases e : i = m + 1
      · subst e
        omega
      · exact h2 i (by omega)
/-- how things stand when n of the rest are served -/
def servD (g : Nat → Int) (w : Int) (n : Nat) (p l : Nat → Int) : Prop :=
  cntL (fun i => decide (g (13 + i) = 0 ∧ l i = -1)) (g 1).toNat = n ∧
  (∀ i, i < (g 1).toNat → (g (13 + i) = 0 → l i = remW g w i ∨ l i = -1) ∧ (¬ g (13 + i) = 0 → l i = -1) ∧ p i = basW g w i + (if g (13 + i) = 0 ∧ l i = -1 then 1 else 0)) ∧
  (∀ i j, i < (g 1).toNat → j < (g 1).toNat → g (13 + i) = 0 → g (13 + j) = 0 → l i = -1 → ¬ l j = -1 → preW g w i j = true)
theorem rem_b {g : Nat → Int} (hs : RGs g) (hp : 1 ≤ allW g) {w : Int} (j : Nat) : 0 ≤ remW g w j ∧ remW g w j ≤ allW g - 1 := by
  have := Int.emod_lt_of_pos (w * g (23 + j)) (show 0 < allW g by omega)
  have := Int.emod_nonneg (w * g (23 + j)) (show allW g ≠ 0 by omega)
  unfold remW
  omega
theorem servD_step {g : Nat → Int} {w : Int} {n : Nat} {p l : Nat → Int} (hs : RGs g) (hp : 1 ≤ allW g) (h : servD g w n p l) (hn : n < cntL (fun i => decide (g (13 + i) = 0)) (g 1).toNat) : bsL l ((g 1).toNat - 1) < (g 1).toNat ∧ servD g w (n + 1) (upf p (bsL l ((g 1).toNat - 1)) (p (bsL l ((g 1).toNat - 1)) + 1)) (upf l (bsL l ((g 1).toNat - 1)) (-1)) := by
  obtain ⟨h1, h2, h3⟩ := h
  have hb := hs.1.2.1
  obtain ⟨s1, s2, s3⟩ := bsL_spec (l := l) ((g 1).toNat - 1)
  have hpos : 0 < (g 1).toNat := by
    rcases Nat.eq_zero_or_pos (g 1).toNat with z | z
    · rw [z] at hn
      exact absurd hn (by show ¬ n < 0; omega)
    · exact z
  generalize hB : bsL l ((g 1).toNat - 1) = B at s1 s2 s3 ⊢
  have hBn : B < (g 1).toNat := by omega
  have hex : ∃ i, i < (g 1).toNat ∧ g (13 + i) = 0 ∧ ¬ l i = -1 := by
    by_cases z : ∃ i, i < (g 1).toNat ∧ g (13 + i) = 0 ∧ ¬ l i = -1
    · exact z
    · exfalso
      have : cntL (fun i => decide (g (13 + i) = 0)) (g 1).toNat ≤ cntL (fun i => decide (g (13 + i) = 0 ∧ l i = -1)) (g 1).toNat := cntL_mono fun i hi hP => by
        rw [decide_eq_true_eq] at hP ⊢
        refine ⟨hP, ?_⟩
        by_cases y : l i = -1
        · exact y
        · exact absurd ⟨i, hi, hP, y⟩ z
      omega
  obtain ⟨i0, hi0, ho0, hl0⟩ := hex
  have hl0' : 0 ≤ l i0 := by
    rcases (h2 i0 hi0).1 ho0 with z | z
    · have := rem_b hs hp (w := w) i0
      omega
    · exact absurd z hl0
  have hlB : 0 ≤ l B := by
    have := s2 i0 (by omega)
    omega
  have hoB : g (13 + B) = 0 := by
    by_cases z : g (13 + B) = 0
    · exact z
    · have := (h2 B hBn).2.1 z
      omega
  have hrB : l B = remW g w B := by
    rcases (h2 B hBn).1 hoB with z | z
    · exact z
    · omega
  refine ⟨hBn, ?_, fun i hi => ?_, fun i j hi hj oi oj li lj => ?_⟩
  · rw [← h1]
    refine cntL_upd (b := B) (fun i hi hne => ?_) hBn ?_ ?_
    · rw [upf_ne hne]
    · rw [decide_eq_true_eq]
      rintro ⟨-, z⟩
      omega
    · rw [decide_eq_true_eq, upf_eq]
      exact ⟨hoB, rfl⟩
  · by_cases e : i = B
    · subst e
      refine ⟨fun _ => Or.inr upf_eq, fun z => absurd hoB z, ?_⟩
      rw [upf_eq, upf_eq, (h2 i hi).2.2, if_neg (by omega), if_pos ⟨hoB, rfl⟩]
      omega
    · rw [upf_ne e, upf_ne e]
      exact h2 i hi
  · have ljB : j ≠ B := by
      intro e
      subst e
      rw [upf_eq] at lj
      exact lj rfl
    rw [upf_ne ljB] at lj
    by_cases e : i = B
    · subst e
      have hrj : l j = remW g w j := by
        rcases (h2 j hj).1 oj with z | z
        · exact z
        · exact absurd z lj
      have m1 := s2 j (by omega)
      unfold preW
      rw [decide_eq_true_eq]
      refine ⟨oi, ?_⟩
      rcases Int.lt_or_le (l j) (l i) with z | z
      · left
        omega
      · right
        refine ⟨by omega, ?_⟩
        rcases Nat.lt_or_ge j i with y | y
        · have := s3 j y
          omega
        · omega
    · rw [upf_ne e] at li
      exact h3 i j hi hj oi oj li lj
theorem servD_end {g : Nat → Int} {w : Int} {n : Nat} {p l : Nat → Int} (hs : RGs g) (hp : 1 ≤ allW g) (h : servD g w n p l) {k : Nat} (hk : k < (g 1).toNat) (ho : g (13 + k) = 0) : p k = w * g (23 + k) / allW g + (if (cntL (fun i => preW g w i k) (g 1).toNat : Int) < n then 1 else 0) := by
  obtain ⟨h1, h2, h3⟩ := h
  have e : (l k = -1) ↔ cntL (fun i => preW g w i k) (g 1).toNat < n := by
    constructor
    · intro z
      rw [← h1]
      have : cntL (fun i => preW g w i k) (g 1).toNat + 1 ≤ cntL (fun i => decide (g (13 + i) = 0 ∧ l i = -1)) (g 1).toNat := by
        refine cntL_lt (b := k) (fun i hi hP => ?_) hk ?_ ?_
        · rw [decide_eq_true_eq]
          unfold preW at hP
          rw [decide_eq_true_eq] at hP
          refine ⟨hP.1, ?_⟩
          by_cases y : l i = -1
          · exact y
          · have := h3 k i hk hi ho hP.1 z y
            unfold preW at this
            rw [decide_eq_true_eq] at this
            omega
        · unfold preW
          rw [decide_eq_true_eq]
          omega
        · rw [decide_eq_true_eq]
          exact ⟨ho, z⟩
      omega
    · intro z
      by_cases y : l k = -1
      · exact y
      · exfalso
        rw [← h1] at z
        have : cntL (fun i => decide (g (13 + i) = 0 ∧ l i = -1)) (g 1).toNat ≤ cntL (fun i => preW g w i k) (g 1).toNat := by
          refine cntL_mono fun i hi hP => ?_
          rw [decide_eq_true_eq] at hP
          exact h3 i k hi hk hP.1 ho hP.2 y
        omega
  rw [(h2 k hk).2.2]
  have eb : basW g w k = w * g (23 + k) / allW g := if_pos ho
  rw [eb]
  by_cases z : l k = -1
  · rw [if_pos ⟨ho, z⟩, if_pos (by have := e.mp z; omega)]
  · rw [if_neg (fun y => z y.2), if_neg (by intro y; exact z (e.mpr (by omega)))]
theorem sumL_add {f h : Nat → Int} : ∀ n : Nat, sumL (fun k => f k + h k) n = sumL f n + sumL h n
  | 0 => rfl
  | n + 1 => by
    unfold sumL
    rw [sumL_add n]
    omega
theorem sumL_mul {f : Nat → Int} {c : Int} : ∀ n : Nat, sumL (fun k => c * f k) n = c * sumL f n
  | 0 => by show (0 : Int) = c * 0; omega
  | n + 1 => by
    unfold sumL
    rw [sumL_mul n, Int.mul_add]
theorem more_b {g : Nat → Int} (hs : RGs g) (hp : 1 ≤ allW g) {w : Int} (hw : 0 ≤ w ∧ w ≤ 999) : 0 ≤ mreW g w ∧ mreW g w < (cntL (fun i => decide (g (13 + i) = 0)) (g 1).toNat : Int) := by
  have h1 := hs.1.2.1
  have e1 : w * allW g = allW g * sumL (basW g w) (g 1).toNat + sumL (fun k => if g (13 + k) = 0 then remW g w k else 0) (g 1).toNat := by
    rw [← sumL_mul, ← sumL_add]
    unfold allW
    rw [← sumL_mul]
    refine sumL_congr fun k hk => ?_
    have eA : sumL (outW g) (g 1).toNat = allW g := rfl
    rw [eA]
    unfold outW basW remW
    by_cases z : g (13 + k) = 0
    · rw [if_pos z, if_pos z, if_pos z]
      exact (Int.mul_ediv_add_emod _ _).symm
    · rw [if_neg z, if_neg z, if_neg z]
      omega
  have bR : ∀ m : Nat, 0 ≤ sumL (fun k => if g (13 + k) = 0 then remW g w k else 0) m ∧ sumL (fun k => if g (13 + k) = 0 then remW g w k else 0) m ≤ (allW g - 1) * (cntL (fun i => decide (g (13 + i) = 0)) m : Int) := by
    intro m
    induction m with
    | zero =>
      show (0 : Int) ≤ 0 ∧ (0 : Int) ≤ (allW g - 1) * ((0 : Nat) : Int)
      simp
    | succ m ih =>
      unfold sumL cntL
      have rb := rem_b hs hp (w := w) m
      by_cases z : g (13 + m) = 0
      · rw [if_pos z, if_pos (by rw [decide_eq_true_eq]; exact z)]
        have : (allW g - 1) * ((cntL (fun i => decide (g (13 + i) = 0)) m + 1 : Nat) : Int) = (allW g - 1) * (cntL (fun i => decide (g (13 + i) = 0)) m : Int) + (allW g - 1) := by
          rw [Int.natCast_add, Int.mul_add]
          simp
        omega
      · rw [if_neg z, if_neg (by rw [decide_eq_true_eq]; exact z)]
        simp only [Nat.add_zero]
        omega
  have b := bR (g 1).toNat
  generalize sumL (fun k => if g (13 + k) = 0 then remW g w k else 0) (g 1).toNat = R at e1 b
  have hC : 0 ≤ (cntL (fun i => decide (g (13 + i) = 0)) (g 1).toNat : Int) := Int.natCast_nonneg _
  have hC1 : 1 ≤ (cntL (fun i => decide (g (13 + i) = 0)) (g 1).toNat : Int) := by
    rcases Int.lt_or_le 0 (cntL (fun i => decide (g (13 + i) = 0)) (g 1).toNat : Int) with z | z
    · omega
    · exfalso
      have z0 : cntL (fun i => decide (g (13 + i) = 0)) (g 1).toNat = 0 := by omega
      have : allW g = 0 := by
        unfold allW
        have : ∀ m, m ≤ (g 1).toNat → sumL (outW g) m = 0 := by
          intro m
          induction m with
          | zero => intro _; rfl
          | succ m ih =>
            intro hm
            unfold sumL
            rw [ih (by omega)]
            unfold outW
            rw [if_neg]
            · rfl
            · intro y
              have := cntL_lt (P := fun _ => false) (R := fun i => decide (g (13 + i) = 0)) (b := m) (n := (g 1).toNat) (fun _ _ h => by cases h) (by omega) (by decide) (by rw [decide_eq_true_eq]; exact y)
              omega
        exact this _ (Nat.le_refl _)
      omega
  generalize (cntL (fun i => decide (g (13 + i) = 0)) (g 1).toNat : Int) = C at b hC hC1 ⊢
  have e2 : allW g * mreW g w = R := by
    unfold mreW
    rw [Int.mul_sub, Int.mul_comm (allW g) w]
    omega
  constructor
  · rcases Int.lt_or_le (mreW g w) 0 with z | z
    · exfalso
      have : allW g * mreW g w ≤ allW g * (-1) := Int.mul_le_mul_of_nonneg_left (by omega) (by omega)
      omega
    · exact z
  · rcases Int.lt_or_le (mreW g w) C with z | z
    · exact z
    · exfalso
      have q1 : allW g * C ≤ allW g * mreW g w := Int.mul_le_mul_of_nonneg_left z (by omega)
      have q2 : (allW g - 1) * C = allW g * C - C := by rw [Int.sub_mul, Int.one_mul]
      omega
section DUR
variable {M : Mm} {n' : Nat} {g : Nat → Int} {us : Nat → Nat → Int}
theorem r_due {d : Nat} (h : RU M g n' us) {z w : Int} (hz : (-2147483648 ≤ z ∧ z < 2147483648)) (hw : (-2147483648 ≤ w ∧ w < 2147483648)) : EvQ (d + 4) 139 [.ref 400, .int (I z), .int (I w)] M fun r M' => r = some (.int (I (dueA g z w))) ∧ RU M' g n' us ∧ RF [412, 413] [0] M M' := by
  have h1 := h.f0 (v := I 0)
  have f1 : RF [412, 413] [0] M (sI M 400 0 (I 0)) := RF.f0 (by simp)
  apply e_R_due
  intro At step
  generalize sI M 400 0 (I 0) = N at h1 f1 ⊢
  have h1' := h1
  obtain ⟨hm, hPr, hs, hd, hn⟩ := h1
  have hg1 := hs.1.2.1
  have hb0 := hs.1.1
  obtain ⟨nh, hnh⟩ := Nn hg1.1
  have enh : (g 1).toNat = nh := by omega
  have e : ∀ k, N.1 402 k = I (g k) := fun k => by rw [hm]
  refine ⟨_, _, r_isHouse hm hs hz, ?_⟩
  rw [bI0]
  refine ⟨fun q => ⟨by simp (disch := omega) only [dueA, if_neg], h1', f1⟩, fun q => ?_⟩
  obtain ⟨k, rfl⟩ := Nn (a := z) (by omega)
  have hk : (k : Int) < g 1 := by omega
  have bk := hs.2.2.1 k (by omega)
  refine ⟨_, _, v_isOutside hm (by omega) (by omega), ?_⟩
  rw [bI0]
  refine ⟨fun q0 => ⟨by simp (disch := omega) only [dueA, if_neg, Int.toNat_natCast], h1', f1⟩, fun q0 => ⟨_, _, v_isIn hw (by omega) (by omega), ?_⟩⟩
  rw [bI0]
  refine ⟨fun q2 => ⟨by simp (disch := omega) only [dueA, if_neg], h1', f1⟩, fun q2 => ?_⟩
  have ho : g (13 + k) = 0 := Decidable.of_not_not q0
  have ab := allW_b hs
  have ap := allW_pos hs hk ho
  have hA : dueA g k w = w * g (23 + k) / allW g + (if (cntL (fun i => preW g w i k) (g 1).toNat : Int) < mreW g w then 1 else 0) := by
    unfold dueA
    rw [if_pos ⟨by omega, by rw [Int.toNat_natCast]; omega, by omega⟩, Int.toNat_natCast]
  rw [hA] at step
  have mb := more_b hs ap (w := w) (by omega)
  obtain ⟨mr, hmr⟩ := Nn mb.1
  have hmr10 : mr ≤ 10 := by
    have := cntL_b (P := fun i => decide (g (13 + i) = 0)) (g 1).toNat
    omega
  rw [hmr] at step mb
  have t188 : ∀ O : Mm, RF [412, 413] [] N O → (∀ i, i < nh → O.1 412 i = I (basW g w i) ∧ O.1 413 i = I (if g (13 + i) = 0 then remW g w i else -1)) → At 188 [.ref 400, .int (I k), .retAddr 0, .retAddr 0, .int (I mr), .int (I 0), .retAddr 0, .retAddr 0] [] O := by
    intro O hO hO2
    refine loopU (P := fun c : Nat => ∀ (p l : Nat → Int) (O : Mm), servD g w c p l → RF [412, 413] [] N O → (∀ i, i < nh → O.1 412 i = I (p i) ∧ O.1 413 i = I (l i)) → At 188 [.ref 400, .int (I k), .retAddr 0, .retAddr 0, .int (I mr), .int (I (c : Int)), .retAddr 0, .retAddr 0] [] O) (n := mr) ?_ ?_ (basW g w) (fun i => if g (13 + i) = 0 then remW g w i else -1) O ?_ hO hO2
    · intro p l O hsv hO hO2
      apply s_R_due_188 step
      rw [I_lt (by omega) (by omega) (by omega) (by omega), ixI (by omega) (by omega), Int.toNat_natCast, (hO2 k (by omega)).1]
      refine ⟨fun y => absurd y (by omega), fun _ => ⟨inRI (by omega) (by omega) (by omega), ?_, ⟨by rw [(hO.1 402 (by simp) (by decide)).1]; exact hm, hPr.fr (hO.2.1 23 (by simp)) (hO.1 407 (by simp) (by decide)).1, hs, hd, hn⟩, f1.trans (hO.mono (fun _ y => y) (fun _ y => by simp at y))⟩⟩
      rw [servD_end hs ap hsv (by omega) ho]
    · intro c hc nx p l O hsv hO hO2
      apply s_R_due_188 step
      rw [I_lt (by omega) (by omega) (by omega) (by omega)]
      refine ⟨fun _ => ?_, fun y => absurd (by omega) y⟩
      have st := servD_step hs ap hsv (by omega)
      have lb : ∀ i, i < nh → -1 ≤ l i ∧ l i ≤ 990 := fun i hi => by
        have r := rem_b hs ap (w := w) i
        have s2 := hsv.2.1 i (by omega)
        by_cases y : g (13 + i) = 0
        · rcases s2.1 y with x | x <;> omega
        · have := s2.2.1 y
          omega
      rw [enh] at st
      refine loopU (P := fun j : Nat => At 201 [.ref 400, .int (I k), .retAddr 0, .retAddr 0, .int (I mr), .int (I (c : Int)), .int (I (bsL l j : Nat)), .int (I ((j : Int) + 1))] [] O) (n := nh - 1) ?_ ?_
      · apply s_R_due_201 step
        have e1 : O.1 402 1 = I (g 1) := by
          rw [(hO.1 402 (by simp) (by decide)).1]
          exact e 1
        have hB := st.1
        have hpB := hO2 _ hB
        rw [e1, I_lt (by omega) (by omega) (by omega) (by omega), ixI (by omega) (by omega), Int.toNat_natCast, hpB.1, I_add, I_add]
        refine ⟨fun y => absurd y (by omega), fun _ => ⟨inRI (by omega) (by omega) (by omega), inRI (by omega) (by omega) (by omega), inRI (by omega) (by omega) (by omega), nx _ _ _ st.2 ((hO.trans (RF.st (by simp) (by decide))).trans (RF.st (by simp) (by decide))) fun i hi => ?_⟩⟩
        by_cases y : i = bsL l (nh - 1)
        · subst y
          rw [upf_eq, upf_eq]
          exact ⟨by rw [mI_n1 (by decide), mI_eq, I_add], mI_eq⟩
        · rw [upf_ne y, upf_ne y, mI_n2 y, mI_n2 y, mI_n2 y, mI_n2 y]
          exact hO2 i hi
      · intro j hj nx2
        apply s_R_due_201 step
        have e1 : O.1 402 1 = I (g 1) := by
          rw [(hO.1 402 (by simp) (by decide)).1]
          exact e 1
        have sp := (bsL_spec (l := l) j).1
        have lb1 := lb (bsL l j) (by omega)
        have lb2 := lb (j + 1) (by omega)
        unfold bsL at nx2
        have ej : ((j : Int) + 1) = ((j + 1 : Nat) : Int) := by omega
        rw [e1, ej, I_lt (by omega) (by omega) (by omega) (by omega), ixI (by omega) (by omega), ixI (by omega) (by omega), Int.toNat_natCast, Int.toNat_natCast, (hO2 (bsL l j) (by omega)).2, (hO2 (j + 1) (by omega)).2, I_lt (by omega) (by omega) (by omega) (by omega), I_add]
        refine ⟨fun _ => ⟨inRI (by omega) (by omega) (by omega), inRI (by omega) (by omega) (by omega), fun y => ?_, fun y => ?_⟩, fun y => absurd (by omega) y⟩
        · rw [if_pos y] at nx2
          exact nx2
        · rw [if_neg y] at nx2
          exact nx2
    · refine ⟨?_, fun i hi => ⟨fun y => Or.inl (if_pos y), fun y => if_neg y, ?_⟩, fun i j hi hj oi oj li lj => ?_⟩
      · have : ∀ m, cntL (fun i => decide (g (13 + i) = 0 ∧ (if g (13 + i) = 0 then remW g w i else -1) = -1)) m = 0 := by
          intro m
          induction m with
          | zero => rfl
          | succ m ih =>
            unfold cntL
            have r := rem_b hs ap (w := w) m
            rw [ih, if_neg]
            rw [decide_eq_true_eq]
            rintro ⟨y1, y2⟩
            rw [if_pos y1] at y2
            omega
        exact this _
      · have r := rem_b hs ap (w := w) i
        rw [if_neg, Int.add_zero]
        rintro ⟨y1, y2⟩
        dsimp only at y2
        rw [if_pos y1] at y2
        omega
      · have r := rem_b hs ap (w := w) i
        dsimp only at li
        rw [if_pos oi] at li
        omega
  have wb : ∀ i, i < nh → 0 ≤ w * g (23 + i) ∧ w * g (23 + i) ≤ 999 * 99 := fun i hi => wmul_b hs (by omega) (by omega)
  have t88 : At 88 [.ref 400, .int (I k), .int (I w), .int (I (allW g)), .int (I w), .int (I 0), .retAddr 0, .retAddr 0] [] N := by
    have h := loopU (P := fun j : Nat => ∀ O : Mm, RF [412, 413] [] N O → (∀ i, i < j → O.1 412 i = I (basW g w i) ∧ O.1 413 i = I (if g (13 + i) = 0 then remW g w i else -1)) → At 88 [.ref 400, .int (I k), .int (I w), .int (I (allW g)), .int (I (w - sumL (basW g w) j)), .int (I (j : Int)), .retAddr 0, .retAddr 0] [] O) (n := nh) ?_ ?_ N RF.refl (fun i hi => absurd hi (by omega))
    · have e0 : w - sumL (basW g w) 0 = w := by
        show w - 0 = w
        omega
      rw [e0] at h
      exact h
    · intro O hO hO2
      apply s_R_due_88 step
      have e1 : O.1 402 1 = I (g 1) := by
        rw [(hO.1 402 (by simp) (by decide)).1]
        exact e 1
      rw [e1, I_lt (by omega) (by omega) (by omega) (by omega)]
      refine ⟨fun y => absurd y (by omega), fun _ => ?_⟩
      have em : w - sumL (basW g w) nh = mr := by
        rw [← hmr, ← enh]
        rfl
      rw [em]
      exact t188 O hO hO2
    · intro j hj nx O hO hO2
      apply s_R_due_88 step
      have hmO : O.1 402 = fun k => I (g k) := by
        rw [(hO.1 402 (by simp) (by decide)).1]
        exact hm
      have eO : ∀ k, O.1 402 k = I (g k) := fun k => by rw [hmO]
      have bj := hs.2.2.1 j (by omega)
      have wj := wb j hj
      have hi : inR (I (j : Int)) 10 := inRI (by omega) (by omega) (by omega)
      have hi2 : inR (I (23 + (j : Int))) 303 := inRI (by omega) (by omega) (by omega)
      have na : ¬ allW g = 0 := by omega
      have io : ∀ (O2 : Mm), (O2.1 402 = fun k => I (g k)) → Ev (d + 3) 89 [.ref 400, .int (I j)] O2 (some (.int (I (if g (13 + j) = 0 then 1 else 0)))) O2 := fun O2 h2 => v_isOutside h2 (by omega) (by omega)
      have fin : ∀ v1 v2 : Int, v1 = basW g w j → v2 = (if g (13 + j) = 0 then remW g w j else -1) → At 88 [.ref 400, .int (I k), .int (I w), .int (I (allW g)), .int (I (w - sumL (basW g w) j - v1)), .int (I ((j : Int) + 1)), .retAddr 0, .retAddr 0] [] (sI (sI O 412 j (I v1)) 413 j (I v2)) := by
        intro v1 v2 y1 y2
        have nx := nx (sI (sI O 412 j (I v1)) 413 j (I v2)) ((hO.trans (RF.st (by simp) (by decide))).trans (RF.st (by simp) (by decide))) (fun i hi => ?_)
        · unfold sumL at nx
          rw [← y1, show w - (sumL (basW g w) j + v1) = w - sumL (basW g w) j - v1 by omega] at nx
          exact nx
        · by_cases y : i = j
          · subst y
            rw [mI_n1 (by decide), mI_eq, mI_eq, y1, y2]
            exact ⟨rfl, rfl⟩
          · rw [mI_n2 y, mI_n2 y, mI_n2 y, mI_n2 y]
            exact hO2 i (by omega)
      rw [eO 1, I_lt (by omega) (by omega) (by omega) (by omega)]
      refine ⟨fun _ => ⟨_, _, io O hmO, ?_⟩, fun y => absurd (by omega) y⟩
      rw [bI0]
      simp (disch := omega) only [I_add, I_sub, I_mul, I_div, ixI, Int.toNat_add, Int.toNat_natCast, Int.reduceToNat, I_lt, I_ne, ite_I, eO]
      refine ⟨fun y => ⟨hi, _, _, io _ (by rw [mI_fn (by decide)]; exact hmO), ?_⟩, fun y => ⟨hi2, na, hi, _, _, io _ (by rw [mI_fn (by decide)]; exact hmO), ?_⟩⟩
      · rw [bI0]
        refine ⟨fun _ => ⟨hi, hi, ?_⟩, fun y2 => absurd y y2⟩
        rw [mI_eq, I_sub]
        exact fin 0 (-1) (by unfold basW; rw [if_neg y]) (by rw [if_neg y])
      · rw [bI0]
        refine ⟨fun y2 => absurd y2 y, fun _ => ⟨hi2, na, hi, hi, ?_⟩⟩
        have y0 : g (13 + j) = 0 := Decidable.of_not_not y
        rw [mI_eq, mI_n1 (by decide), eO, I_mul, I_rem wj.1 (by omega) (by omega) (by omega), I_sub]
        exact fin (w * g (23 + j) / allW g) (w * g (23 + j) % allW g) (by unfold basW; rw [if_pos y0]) (by rw [if_pos y0]; rfl)
  refine loopU (P := fun j : Nat => At 39 [.ref 400, .int (I k), .int (I w), .int (I (sumL (outW g) j)), .int (I (j : Int)), .retAddr 0, .retAddr 0, .retAddr 0] [] N) (n := nh) ?_ ?_
  · apply s_R_due_39 step
    rw [e 1, I_lt (by omega) (by omega) (by omega) (by omega)]
    refine ⟨fun y => absurd y (by omega), fun _ => ?_⟩
    have ea : sumL (outW g) nh = allW g := by
      unfold allW
      rw [enh]
    rw [ea]
    exact t88
  · intro j hj nx
    apply s_R_due_39 step
    have bj := hs.2.2.1 j (by omega)
    unfold sumL outW at nx
    rw [e 1, I_lt (by omega) (by omega) (by omega) (by omega)]
    refine ⟨fun _ => ⟨_, _, v_isOutside hm (by omega) (by omega), ?_⟩, fun y => absurd (by omega) y⟩
    rw [bI0]
    simp (disch := omega) only [I_add, I_sub, I_mul, I_div, ixI, Int.toNat_add, Int.toNat_natCast, Int.reduceToNat, I_lt, I_ne, ite_I, e]
    refine ⟨fun y => ?_, fun y => ⟨inRI (by omega) (by omega) (by omega), ?_⟩⟩
    · rw [if_neg y] at nx
      exact nx
    · rw [if_pos (Decidable.of_not_not y)] at nx
      exact nx
end DUR
