/-! ===== the tape; the crew ===== -/
theorem byte_bv (X : BitVec 32) (s : Nat) (hs : s ≤ 24) : (X.sshiftRight s).setWidth 8 = ((X >>> s) &&& 255#32).setWidth 8 := by
  apply BitVec.eq_of_getLsbD_eq
  intro i hi
  have h255 : (255#32).getLsbD i = true := by
    have : i = 0 ∨ i = 1 ∨ i = 2 ∨ i = 3 ∨ i = 4 ∨ i = 5 ∨ i = 6 ∨ i = 7 := by omega
    rcases this with rfl | rfl | rfl | rfl | rfl | rfl | rfl | rfl <;> decide
  rw [BitVec.getLsbD_setWidth, BitVec.getLsbD_setWidth, BitVec.getLsbD_and, h255, BitVec.getLsbD_sshiftRight, BitVec.getLsbD_ushiftRight, Bool.and_true]
  have h1 : decide (32 ≤ i) = false := decide_eq_false (by omega)
  rw [h1, if_pos (by omega)]
  rfl
theorem se8 (X : BitVec 32) : X.signExtend 8 = X.setWidth 8 := by
  apply BitVec.eq_of_getLsbD_eq
  intro i hi
  rw [BitVec.getLsbD_signExtend, BitVec.getLsbD_setWidth, if_pos (by omega)]
theorem byte_sh (x : Int32) {s : Int} (hs : s = 24 ∨ s = 16 ∨ s = 8 ∨ s = 0) : ∃ b : Nat, b < 256 ∧ (x.toUInt32 >>> ((I s).toUInt32 &&& Int32.toUInt32 31)).toInt32 &&& I 255 = I b ∧ (x >>> (I s &&& 31)).toInt8.toInt32 = (I b).toInt8.toInt32 := by
  have key : ∀ t : Nat, t ≤ 24 → ∃ b : Nat, b < 256 ∧ BitVec.ofInt 32 (b : Int) = (x.toBitVec >>> t) &&& 255#32 := by
    intro t ht
    refine ⟨((x.toBitVec >>> t) &&& 255#32).toNat, ?_, ?_⟩
    · rw [BitVec.toNat_and]
      have := Nat.and_le_right (n := (x.toBitVec >>> t).toNat) (m := (255#32).toNat)
      have e : (255#32).toNat = 255 := rfl
      omega
    · rw [BitVec.ofInt_natCast, BitVec.ofNat_toNat, BitVec.setWidth_eq]
  have fin : ∀ t : Nat, t ≤ 24 → (x.toUInt32 >>> ((I s).toUInt32 &&& Int32.toUInt32 31)).toInt32.toBitVec = x.toBitVec >>> t → (x >>> (I s &&& 31)).toBitVec = x.toBitVec.sshiftRight t → ∃ b : Nat, b < 256 ∧ (x.toUInt32 >>> ((I s).toUInt32 &&& Int32.toUInt32 31)).toInt32 &&& I 255 = I b ∧ (x >>> (I s &&& 31)).toInt8.toInt32 = (I b).toInt8.toInt32 := by
    intro t ht e1 e2
    obtain ⟨b, hb, e⟩ := key t ht
    refine ⟨b, hb, ?_, ?_⟩
    · apply Int32.toBitVec_inj.mp
      show _ &&& 255#32 = BitVec.ofInt 32 (b : Int)
      rw [e1, e]
    · apply congrArg Int8.toInt32
      apply Int8.toBitVec_inj.mp
      show (x >>> (I s &&& 31)).toBitVec.signExtend 8 = (BitVec.ofInt 32 (b : Int)).signExtend 8
      rw [e2, e, se8, se8, byte_bv _ _ ht]
  rcases hs with rfl | rfl | rfl | rfl
  · exact fin 24 (by decide) rfl rfl
  · exact fin 16 (by decide) rfl rfl
  · exact fin 8 (by decide) rfl rfl
  · exact fin 0 (by decide) rfl rfl
def sb (b : Nat) : Int32 := (I (b : Int)).toInt8.toInt32
set_option maxRecDepth 100000 in
theorem sb_and0 : ∀ b : Nat, b < 256 → sb b &&& I 255 = I (b : Int) := by decide +kernel
set_option maxRecDepth 100000 in
theorem sb_8 : ∀ b : Nat, b < 256 → (sb b).toInt8.toInt32 = sb b := by decide +kernel
/-- the tape, on either side: n bytes -/
def TC (M : Mm) (n : Nat) (by_ : Nat → Nat) : Prop := M.1 2 1 = I n ∧ n ≤ 940 ∧ ∀ k, k < n → M.1 3 k = I (by_ k : Nat) ∧ by_ k < 256
def TR (M : Mm) (n : Nat) (by_ : Nat → Nat) : Prop := M.1 400 2 = I n ∧ n ≤ 940 ∧ ∀ k, k < n → M.1 401 k = sb (by_ k) ∧ by_ k < 256
/-- the byte of x at a shift -/
noncomputable def bySh (x : Int32) (s : Int) : Nat := if h : s = 24 ∨ s = 16 ∨ s = 8 ∨ s = 0 then Classical.choose (byte_sh x h) else 0
theorem bySh_spec {x : Int32} {s : Int} (h : s = 24 ∨ s = 16 ∨ s = 8 ∨ s = 0) : bySh x s < 256 ∧ (x.toUInt32 >>> ((I s).toUInt32 &&& Int32.toUInt32 31)).toInt32 &&& I 255 = I (bySh x s : Nat) ∧ (x >>> (I s &&& 31)).toInt8.toInt32 = sb (bySh x s) := by
  unfold bySh
  rw [dif_pos h]
  exact Classical.choose_spec (byte_sh x h)
/-- the bytes with four more, from place n on -/
noncomputable def fourB (by_ : Nat → Nat) (n : Nat) (x : Int32) : Nat → Nat := fun k => if k = n then bySh x 24 else if k = n + 1 then bySh x 16 else if k = n + 2 then bySh x 8 else if k = n + 3 then bySh x 0 else by_ k
section TAP
variable {M : Mm} {n : Nat} {by_ : Nat → Nat}
theorem c_put {d : Nat} (h : TC M n by_) (hn : n + 4 ≤ 940) {x : Int32} : EvQ (d + 1) 257 [.ref 2, .int x] M fun r M' => r = none ∧ TC M' (n + 4) (fourB by_ n x) ∧ Fr 2 4 M M' := by
  obtain ⟨h1, h2, h3⟩ := h
  apply e_Tape_put
  intro At step
  have stp : ∀ (s : Int) (k : Nat) (N : Mm), (s = 24 ∨ s = 16 ∨ s = 8 ∨ s = 0) → k + 1 ≤ 940 → N.1 2 1 = I k → (∀ N' : Mm, N'.1 2 1 = I (k + 1 : Nat) → N'.1 3 k = I (bySh x s : Nat) → (∀ j, j ≠ k → N'.1 3 j = N.1 3 j) → Fr 2 4 N N' → At 3 [.ref 2, .int x, .int (I (s - 8))] [] N') → At 3 [.ref 2, .int x, .int (I s)] [] N := by
    intro s k N hs hk hN nx
    apply s_Tape_put_3 step
    rw [(bySh_spec hs).2.1, hN]
    simp (disch := omega) only [I_add, I_sub, I_mul, I_div, ixI, Int.toNat_add, Int.toNat_natCast, Int.reduceToNat, I_lt, I_ne, ite_I]
    refine ⟨fun q => absurd q (by omega), fun _ => ⟨fun _ => ⟨inRI (by omega) (by omega) (by omega), ?_⟩, fun q => absurd q (by omega)⟩⟩
    refine nx _ ?_ ?_ (fun j hj => ?_) ((Fr.sI (by omega) (by omega)).trans (Fr.sI (by omega) (by omega)))
    · rw [mI_eq]
      rfl
    · rw [mI_n1 (by omega), mI_eq]
    · rw [mI_n1 (by omega), mI_n2 hj]
  refine stp 24 n M (by omega) (by omega) h1 fun N1 a1 b1 c1 f1 => ?_
  refine stp 16 (n + 1) N1 (by omega) (by omega) a1 fun N2 a2 b2 c2 f2 => ?_
  refine stp 8 (n + 2) N2 (by omega) (by omega) a2 fun N3 a3 b3 c3 f3 => ?_
  refine stp 0 (n + 3) N3 (by omega) (by omega) a3 fun N4 a4 b4 c4 f4 => ?_
  apply s_Tape_put_3 step
  refine ⟨fun _ => ⟨rfl, ⟨a4, by omega, fun k hk => ?_⟩, ((f1.trans f2).trans f3).trans f4⟩, fun q => absurd (by decide) q⟩
  unfold fourB
  by_cases q0 : k = n
  · subst q0
    rw [if_pos rfl, c4 _ (by omega), c3 _ (by omega), c2 _ (by omega), b1]
    exact ⟨rfl, (bySh_spec (by omega)).1⟩
  · rw [if_neg q0]
    by_cases q1 : k = n + 1
    · subst q1
      rw [if_pos rfl, c4 _ (by omega), c3 _ (by omega), b2]
      exact ⟨rfl, (bySh_spec (by omega)).1⟩
    · rw [if_neg q1]
      by_cases q2 : k = n + 2
      · subst q2
        rw [if_pos rfl, c4 _ (by omega), b3]
        exact ⟨rfl, (bySh_spec (by omega)).1⟩
      · rw [if_neg q2]
        by_cases q3 : k = n + 3
        · subst q3
          rw [if_pos rfl, b4]
          exact ⟨rfl, (bySh_spec (by omega)).1⟩
        · rw [if_neg q3, c4 _ (by omega), c3 _ (by omega), c2 _ (by omega), c1 _ (by omega)]
          exact h3 k (by omega)
noncomputable def feedB (by_ : Nat → Nat) (n : Nat) (a b c e f : Int32) : Nat → Nat := fourB (fourB (fourB (fourB (fourB by_ n a) (n + 4) b) (n + 8) c) (n + 12) e) (n + 16) f
def feedA (n : Nat) : Int := if 940 < n + 20 then -1 else n + 20
theorem b_feed {d : Nat} (h : TC M n by_) {a b c e f : Int32} : EvQ (d + 3) 0 [.ref 1, .int a, .int b, .int c, .int e, .int f] M fun r M' => r = some (.int (I (feedA n))) ∧ (if 940 < n + 20 then TC M' n by_ else TC M' (n + 20) (feedB by_ n a b c e f)) ∧ Fr 2 4 M M' := by
  apply e_B_feed
  intro At _
  refine q_int (P := fun v M' => v = I (feedA n) ∧ (if 940 < n + 20 then TC M' n by_ else TC M' (n + 20) (feedB by_ n a b c e f)) ∧ Fr 2 4 M M') ?_ (fun v M' ⟨h1, h2, h3⟩ => ⟨by rw [h1], h2, h3⟩)
  apply e_Tape_append
  intro At _
  have h2 := h.2.1
  rw [h.1, I_add, I_lt (by omega) (by omega) (by omega) (by omega)]
  unfold feedA
  refine ⟨fun q => ⟨_, rfl, by rw [if_pos (by omega)], by rw [if_pos (by omega)]; exact h, Fr.refl⟩, fun q => ?_⟩
  rw [if_neg (by omega)]
  refine q_non (c_put h (by omega)) ?_
  rintro N1 ⟨t1, f1⟩
  refine q_non (c_put t1 (by omega)) ?_
  rintro N2 ⟨t2, f2⟩
  refine q_non (c_put t2 (by omega)) ?_
  rintro N3 ⟨t3, f3⟩
  refine q_non (c_put t3 (by omega)) ?_
  rintro N4 ⟨t4, f4⟩
  refine q_non (c_put t4 (by omega)) ?_
  rintro N5 ⟨t5, f5⟩
  refine ⟨_, rfl, ?_, ?_, (((f1.trans f2).trans f3).trans f4).trans f5⟩
  · rw [t5.1]
    congr 1
  · rw [if_neg (by omega)]
    exact t5
theorem b_end {d : Nat} (h : TC M n by_) {z : Int} (hz : (-2147483648 ≤ z ∧ z < 2147483648)) : EvQ (d + 2) 1 [.ref 1, .int (I z)] M fun r M' => r = some (.int (I (if 0 ≤ z ∧ z ≤ n then 1 else 0))) ∧ TC M' (if 0 ≤ z ∧ z ≤ n then z.toNat else n) by_ ∧ Fr 2 4 M M' := by
  apply e_B_end
  intro At _
  refine q_int (P := fun v M' => v = I (if 0 ≤ z ∧ z ≤ n then 1 else 0) ∧ TC M' (if 0 ≤ z ∧ z ≤ n then z.toNat else n) by_ ∧ Fr 2 4 M M') ?_ (fun v M' ⟨h1, h2, h3⟩ => ⟨by rw [h1]; exact bI01, by rw [h1], h2, h3⟩)
  apply e_Tape_cutTo
  intro At _
  have h2 := h.2.1
  rw [h.1, I_lt (by omega) (by omega) (by omega) (by omega), I_lt (by omega) (by omega) (by omega) (by omega)]
  refine ⟨fun q => ⟨_, rfl, by rw [if_neg (by omega)], by rw [if_neg (by omega)]; exact h, Fr.refl⟩, fun q => ⟨fun q2 => ⟨_, rfl, by rw [if_neg (by omega)], by rw [if_neg (by omega)]; exact h, Fr.refl⟩, fun q2 => ⟨_, rfl, by rw [if_pos (by omega)], ?_, Fr.sI (by omega) (by omega)⟩⟩⟩
  rw [if_pos (by omega)]
  refine ⟨by rw [mI_eq]; congr 1; omega, by omega, fun k hk => ?_⟩
  rw [mI_n1 (by omega)]
  exact h.2.2 k (by omega)
/-! the reference's tape -/
theorem r_four {d : Nat} (h : TR M n by_) (hn : n + 4 ≤ 940) {x : Int32} : EvQ (d + 1) 54 [.ref 400, .int x] M fun r M' => r = none ∧ TR M' (n + 4) (fourB by_ n x) ∧ RF [401] [2] M M' := by
  obtain ⟨h1, h2, h3⟩ := h
  apply e_R_four
  intro At step
  have stp : ∀ (s : Int) (k : Nat) (N : Mm), (s = 24 ∨ s = 16 ∨ s = 8 ∨ s = 0) → k + 1 ≤ 940 → N.1 400 2 = I k → (∀ N' : Mm, N'.1 400 2 = I (k + 1 : Nat) → N'.1 401 k = sb (bySh x s) → (∀ j, j ≠ k → N'.1 401 j = N.1 401 j) → RF [401] [2] N N' → At 3 [.ref 400, .int x, .int (I (s - 8))] [] N') → At 3 [.ref 400, .int x, .int (I s)] [] N := by
    intro s k N hs hk hN nx
    apply s_R_four_3 step
    have hb := bySh_spec (x := x) hs
    rw [hb.2.2, hN]
    simp (disch := omega) only [I_add, I_sub, I_mul, I_div, ixI, Int.toNat_add, Int.toNat_natCast, Int.reduceToNat, I_lt, I_ne, ite_I]
    refine ⟨fun q => absurd q (by omega), fun _ => ⟨sb_8 _ hb.1, inRI (by omega) (by omega) (by omega), ?_⟩⟩
    refine nx _ ?_ ?_ (fun j hj => ?_) ((RF.st (by simp) (by decide)).trans (RF.f (by simp)))
    · rw [mI_eq]
      rfl
    · rw [mI_n1 (by omega), mI_eq]
    · rw [mI_n1 (by omega), mI_n2 hj]
  refine stp 24 n M (by omega) (by omega) h1 fun N1 a1 b1 c1 f1 => ?_
  refine stp 16 (n + 1) N1 (by omega) (by omega) a1 fun N2 a2 b2 c2 f2 => ?_
  refine stp 8 (n + 2) N2 (by omega) (by omega) a2 fun N3 a3 b3 c3 f3 => ?_
  refine stp 0 (n + 3) N3 (by omega) (by omega) a3 fun N4 a4 b4 c4 f4 => ?_
  apply s_R_four_3 step
  refine ⟨fun _ => ⟨rfl, ⟨a4, by omega, fun k hk => ?_⟩, ((f1.trans f2).trans f3).trans f4⟩, fun q => absurd (by decide) q⟩
  unfold fourB
  by_cases q0 : k = n
  · subst q0
    rw [if_pos rfl, c4 _ (by omega), c3 _ (by omega), c2 _ (by omega), b1]
    exact ⟨rfl, (bySh_spec (by omega)).1⟩
  · rw [if_neg q0]
    by_cases q1 : k = n + 1
    · subst q1
      rw [if_pos rfl, c4 _ (by omega), c3 _ (by omega), b2]
      exact ⟨rfl, (bySh_spec (by omega)).1⟩
    · rw [if_neg q1]
      by_cases q2 : k = n + 2
      · subst q2
        rw [if_pos rfl, c4 _ (by omega), b3]
        exact ⟨rfl, (bySh_spec (by omega)).1⟩
      · rw [if_neg q2]
        by_cases q3 : k = n + 3
        · subst q3
          rw [if_pos rfl, b4]
          exact ⟨rfl, (bySh_spec (by omega)).1⟩
        · rw [if_neg q3, c4 _ (by omega), c3 _ (by omega), c2 _ (by omega), c1 _ (by omega)]
          exact h3 k (by omega)
theorem TR.f0 {v : Int32} (h : TR M n by_) : TR (sI M 400 0 v) n by_ := ⟨by rw [mI_n2 (by decide)]; exact h.1, h.2.1, fun k hk => by rw [mI_n1 (by decide)]; exact h.2.2 k hk⟩
theorem r_feed {d : Nat} (h : TR M n by_) {a b c e f : Int32} : EvQ (d + 3) 53 [.ref 400, .int a, .int b, .int c, .int e, .int f] M fun r M' => r = some (.int (I (feedA n))) ∧ (if 940 < n + 20 then TR M' n by_ else TR M' (n + 20) (feedB by_ n a b c e f)) ∧ RF [401] [0, 2] M M' := by
  apply e_R_feed
  intro At _
  have h2 := h.2.1
  have hf : RF [401] [0, 2] M (sI M 400 0 (I 0)) := RF.f0 (by simp)
  have h0 := h.f0 (v := I 0)
  rw [h.1, I_add, I_lt (by omega) (by omega) (by omega) (by omega)]
  generalize sI M 400 0 (I 0) = N at h0 hf ⊢
  unfold feedA
  refine ⟨fun q => ⟨by rw [if_pos (by omega)], by rw [if_pos (by omega)]; exact h0, hf⟩, fun q => ?_⟩
  rw [if_neg (by omega)]
  have mo : ∀ {N N' : Mm}, RF [401] [2] N N' → RF [401] [0, 2] N N' := fun z => z.mono (fun _ q => q) (fun _ q => by simp at q ⊢; omega)
  refine q_non (r_four h0 (by omega)) ?_
  rintro N1 ⟨t1, f1⟩
  refine q_non (r_four t1 (by omega)) ?_
  rintro N2 ⟨t2, f2⟩
  refine q_non (r_four t2 (by omega)) ?_
  rintro N3 ⟨t3, f3⟩
  refine q_non (r_four t3 (by omega)) ?_
  rintro N4 ⟨t4, f4⟩
  refine q_non (r_four t4 (by omega)) ?_
  rintro N5 ⟨t5, f5⟩
  refine ⟨?_, ?_, ((((hf.trans (mo f1)).trans (mo f2)).trans (mo f3)).trans (mo f4)).trans (mo f5)⟩
  · rw [t5.1]
    congr 3
  · rw [if_neg (by omega)]
    exact t5
theorem r_end {d : Nat} (h : TR M n by_) {z : Int} (hz : (-2147483648 ≤ z ∧ z < 2147483648)) : EvQ (d + 2) 55 [.ref 400, .int (I z)] M fun r M' => r = some (.int (I (if 0 ≤ z ∧ z ≤ n then 1 else 0))) ∧ TR M' (if 0 ≤ z ∧ z ≤ n then z.toNat else n) by_ ∧ RF [401] [0, 2] M M' := by
  apply e_R_end
  intro At _
  have h2 := h.2.1
  have hf : RF [401] [0, 2] M (sI M 400 0 (I 0)) := RF.f0 (by simp)
  have h0 := h.f0 (v := I 0)
  rw [h.1, I_lt (by omega) (by omega) (by omega) (by omega), I_lt (by omega) (by omega) (by omega) (by omega)]
  generalize sI M 400 0 (I 0) = N at h0 hf ⊢
  refine ⟨fun q => ⟨by rw [if_neg (by omega)], by rw [if_neg (by omega)]; exact h0, hf⟩, fun q => ⟨fun q2 => ⟨by rw [if_neg (by omega)], by rw [if_neg (by omega)]; exact h0, hf⟩, fun q2 => ⟨by rw [if_pos (by omega)], ?_, hf.trans (RF.f (by simp))⟩⟩⟩
  rw [if_pos (by omega)]
  refine ⟨by rw [mI_eq]; congr 1; omega, by omega, fun k hk => ?_⟩
  rw [mI_n1 (by omega)]
  exact h0.2.2 k (by omega)
end TAP
