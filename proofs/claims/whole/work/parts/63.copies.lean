/-! ===== copies of streets and sentences ===== -/
def cI (M : Mm) (a b n : Nat) : Mm := (upr M.1 b (cpf (M.1 a) (M.1 b) 0 0 n), M.2)
def cL (M : Mm) (a b n : Nat) : Mm := (M.1, upr M.2.1 b (cpf (M.2.1 a) (M.2.1 b) 0 0 n), M.2.2)
theorem cI_ne {M : Mm} {a b n x : Nat} (h : x ≠ b) : (cI M a b n).1 x = M.1 x := upr_ne h
theorem cI_2 {M : Mm} {a b n : Nat} : (cI M a b n).2 = M.2 := rfl
theorem cI_at {M : Mm} {a b n k : Nat} (h : k < n) : (cI M a b n).1 b k = M.1 a k := by
  show upr M.1 b _ b k = _
  rw [upr_eq, cpf_lt h]
theorem cL_1 {M : Mm} {a b n : Nat} : (cL M a b n).1 = M.1 := rfl
theorem cL_3 {M : Mm} {a b n : Nat} : (cL M a b n).2.2 = M.2.2 := rfl
theorem cL_ne {M : Mm} {a b n x : Nat} (h : x ≠ b) : (cL M a b n).2.1 x = M.2.1 x := upr_ne h
theorem cL_at {M : Mm} {a b n k : Nat} (h : k < n) : (cL M a b n).2.1 b k = M.2.1 a k := by
  show upr M.2.1 b _ b k = _
  rw [upr_eq, cpf_lt h]
theorem sI_2 {M : Mm} {a k : Nat} {v : Int32} : (sI M a k v).2 = M.2 := rfl
theorem c_copyI {d : Nat} {M : Mm} {a b n : Nat} (h1 : lay a = 100) (h2 : lay b = 100) (n1 : alen a = n) (n2 : alen b = n) (hn : n < 5000) : Ev (d + 1) 49 [.ref a, .ref b] M none (cI M a b n) := c_copyInts h1 h2 n1 n2 hn
theorem c_copyL {d : Nat} {M : Mm} {a b n : Nat} (h1 : lay a = 101) (h2 : lay b = 101) (n1 : alen a = n) (n2 : alen b = n) (hn : n < 5000) : Ev (d + 1) 50 [.ref a, .ref b] M none (cL M a b n) := by
  apply Ev.ofQ
  apply e_B_copyLongs h1 h2
  intro At _
  have e : (if I (alen b) < I (alen a) then I (alen b) else I (alen a)) = I n := by
    rw [n1, n2]
    split <;> rfl
  rw [e, ixI (by omega) (by omega), Int.toNat_natCast, n1, n2, I_zero, I_lt (by omega) (by omega) (by omega) (by omega)]
  exact ⟨by omega, by omega, by omega, rfl, rfl⟩
theorem c_pairsCopy {d : Nat} {M : Mm} {o p n : Nat} (ho : Pr o n) (hp : Pr p n) (hx : p + 3 ≤ o ∨ o + 3 ≤ p) : Ev (d + 2) 185 [.ref o, .ref p] M none (sI (cI (cI M (p + 1) (o + 1) n) (p + 2) (o + 2) n) o 2 (M.1 p 2)) := by
  have h8 := Pr_le ho
  apply Ev.ofQ
  apply e_Pairs_copyFrom ho hp
  intro At _
  refine ⟨_, c_copyI (Pr_1 hp) (Pr_1 ho) (Prl_1 hp) (Prl_1 ho) (by omega), _, c_copyI (Pr_2 hp) (Pr_2 ho) (Prl_2 hp) (Prl_2 ho) (by omega), ?_⟩
  rw [cI_ne (by omega), cI_ne (by omega)]
  exact ⟨rfl, rfl⟩
theorem St_St {o p : Nat} (ho : St o) (hp : St p) (hne : o ≠ p) : p + 17 ≤ o ∨ o + 17 ≤ p := by
  rcases ho with rfl | rfl | rfl | rfl <;> rcases hp with rfl | rfl | rfl | rfl <;> first | exact absurd rfl hne | decide
theorem c_streetCopy {g : Nat → Int} {d : Nat} {M : Mm} {o p : Nat} (ho : St o) (hp : St p) (hne : o ≠ p) (hr : CSr M p g) (hs : RGs g) : EvQ (d + 3) 231 [.ref o, .ref p] M fun r M' => r = none ∧ CSr M' o g ∧ ((∀ w, w < 5 → M'.2.1 (o + 1) w = M.2.1 (p + 1) w) ∧ (∀ w, w < 10 → M'.2.1 (o + 3) w = M.2.1 (p + 3) w) ∧ (∀ w, w < 6 → M'.2.1 (o + 7) w = M.2.1 (p + 7) w)) ∧ Fr o (o + 17) M M' := by
  have hx := St_St ho hp hne
  obtain ⟨⟨c0, c1, c2, c3, c4, c5, c6, c7⟩, d1, d2, d3, d4, d5⟩ := hr
  have hs1 := hs.1
  apply e_Street_copyFrom ho hp
  intro At _
  refine ⟨_, c_copyL (St_1 hp) (St_1 ho) (Stl_1 hp) (Stl_1 ho) (by omega), _, c_copyI (St_2 hp) (St_2 ho) (Stl_2 hp) (Stl_2 ho) (by omega), _, c_copyL (St_3 hp) (St_3 ho) (Stl_3 hp) (Stl_3 ho) (by omega), _, c_copyI (St_4 hp) (St_4 ho) (Stl_4 hp) (Stl_4 ho) (by omega), _, c_copyI (St_5 hp) (St_5 ho) (Stl_5 hp) (Stl_5 ho) (by omega), _, c_copyI (St_6 hp) (St_6 ho) (Stl_6 hp) (Stl_6 ho) (by omega), _, c_copyL (St_7 hp) (St_7 ho) (Stl_7 hp) (Stl_7 ho) (by omega), _, c_copyI (St_8 hp) (St_8 ho) (Stl_8 hp) (Stl_8 ho) (by omega), _, c_copyI (St_9 hp) (St_9 ho) (Stl_9 hp) (Stl_9 ho) (by omega), _, c_copyI (St_10 hp) (St_10 ho) (Stl_10 hp) (Stl_10 ho) (by omega), _, c_pairsCopy (St_cr ho) (St_cr hp) (by omega), _, c_pairsCopy (St_ga ho) (St_ga hp) (by omega), ?_⟩
  intro N25 hN
  have e2 : N25.2.2 = M.2.2 := by
    subst hN
    rfl
  have eI : ∀ x, (x < o ∨ o + 17 ≤ x) → N25.1 x = M.1 x := by
    intro x q
    subst hN
    simp (disch := omega) only [cI_ne, cL_1, mI_fn]
  have eL : ∀ x, (x < o ∨ o + 17 ≤ x) → N25.2.1 x = M.2.1 x := by
    intro x q
    subst hN
    simp (disch := omega) only [cI_2, cL_ne, sI_2]
  have eF : Fr o (o + 17) M N25 := fun x q => ⟨eI x q, eL x q, by rw [e2]⟩
  refine ⟨rfl, ⟨⟨?_, ?_, ?_, ?_, ?_, ?_, ?_, ?_⟩, fun w hw => ?_, fun k hk => ⟨?_, ?_, ?_⟩, fun k hk => ⟨?_, ?_, ?_⟩, fun k hk => ⟨?_, ?_⟩, fun k hk => ⟨?_, ?_⟩⟩, ⟨fun w hw => ?_, fun w hw => ?_, fun w hw => ?_⟩, eF⟩
  all_goals subst hN
  · simp (disch := omega) only [cI_ne, cL_1, mI_fn, mI_n1, mI_n2, mI_eq, c0]
  · simp (disch := omega) only [cI_ne, cL_1, mI_fn, mI_n1, mI_n2, mI_eq, c1]
  · simp (disch := omega) only [cI_ne, cL_1, mI_fn, mI_n1, mI_n2, mI_eq, c2]
  · simp (disch := omega) only [cI_ne, cL_1, mI_fn, mI_n1, mI_n2, mI_eq, c3]
  · simp (disch := omega) only [cI_ne, cL_1, mI_fn, mI_n1, mI_n2, mI_eq, c4]
  · simp (disch := omega) only [cI_ne, cL_1, mI_fn, mI_n1, mI_n2, mI_eq, c5]
  · simp (disch := omega) only [cI_ne, cL_1, mI_fn, mI_n1, mI_n2, mI_eq, c6]
  · simp (disch := omega) only [cI_ne, cL_1, mI_fn, mI_n1, mI_n2, mI_eq, c7]
  · have hw5 : w < 5 := by omega
    simp (disch := omega) only [cI_ne, cL_1, mI_fn, mI_n1, cI_at]
    exact d1 w hw
  · have hw5 : k < 10 := by omega
    simp (disch := omega) only [cI_ne, cL_1, mI_fn, mI_n1, cI_at]
    exact (d2 k hk).1
  · have hw5 : k < 10 := by omega
    simp (disch := omega) only [cI_ne, cL_1, mI_fn, mI_n1, cI_at]
    exact (d2 k hk).2.1
  · have hw5 : k < 10 := by omega
    simp (disch := omega) only [cI_ne, cL_1, mI_fn, mI_n1, cI_at]
    exact (d2 k hk).2.2
  · have hw5 : k < 6 := by omega
    simp (disch := omega) only [cI_ne, cL_1, mI_fn, mI_n1, cI_at]
    exact (d3 k hk).1
  · have hw5 : k < 6 := by omega
    simp (disch := omega) only [cI_ne, cL_1, mI_fn, mI_n1, cI_at]
    exact (d3 k hk).2.1
  · have hw5 : k < 6 := by omega
    simp (disch := omega) only [cI_ne, cL_1, mI_fn, mI_n1, cI_at]
    exact (d3 k hk).2.2
  · have hw5 : k < 6 := by omega
    simp (disch := omega) only [cI_ne, cL_1, mI_fn, mI_n1, cI_at, show o + 12 = o + 11 + 1 from rfl]
    exact (d4 k hk).1
  · have hw5 : k < 6 := by omega
    simp (disch := omega) only [cI_ne, cL_1, mI_fn, mI_n1, cI_at, show o + 13 = o + 11 + 2 from rfl]
    exact (d4 k hk).2
  · have hw5 : k < 8 := by omega
    simp (disch := omega) only [cI_ne, cL_1, mI_fn, mI_n1, cI_at, show o + 15 = o + 14 + 1 from rfl]
    exact (d5 k hk).1
  · have hw5 : k < 8 := by omega
    simp (disch := omega) only [cI_ne, cL_1, mI_fn, mI_n1, cI_at, show o + 16 = o + 14 + 2 from rfl]
    exact (d5 k hk).2
  · simp (disch := omega) only [cI_2, cL_ne, sI_2, cL_at]
  · simp (disch := omega) only [cI_2, cL_ne, sI_2, cL_at]
  · simp (disch := omega) only [cI_2, cL_ne, sI_2, cL_at]
/-- each verb that lies there is one of the words, or none -/
def VE (M : Mm) (p : Nat) : Prop := ∀ i, i < 40 → rE (M.2.2 (p + 1) i)
theorem Se_Se {o p : Nat} (ho : Se o) (hp : Se p) (hne : o ≠ p) : p + 5 ≤ o ∨ o + 5 ≤ p := by
  rcases ho with rfl | rfl | rfl | rfl <;> rcases hp with rfl | rfl | rfl | rfl <;> first | exact absurd rfl hne | decide
theorem c_sentCopy {g : Nat → Int} {d : Nat} {M : Mm} {o p : Nat} (ho : Se o) (hp : Se p) (hne : o ≠ p) (hq : SG g) (hr : CSq M p g) (hv : VE M p) : EvQ (d + 2) 194 [.ref o, .ref p] M fun r M' => r = none ∧ CSq M' o g ∧ VE M' o ∧ Fr o (o + 5) M M' := by
  have hx := Se_Se ho hp hne
  have hq1 := hq.1
  obtain ⟨r1, r2, r3⟩ := hr
  apply e_Sentence_copyFrom ho hp
  intro At step
  refine loopU (P := fun k : Nat => ∀ N : Mm, N.1 = M.1 → N.2.1 = M.2.1 → (∀ b, b ≠ o + 1 → N.2.2 b = M.2.2 b) → (∀ j, j < k → N.2.2 (o + 1) j = M.2.2 (p + 1) j) → At 2 [.ref o, .ref p, .int (I k)] [] N) (n := 40) ?_ ?_ M rfl rfl (fun _ _ => rfl) (fun j hj => absurd hj (by omega))
  · intro N h1 h2 h3 h4
    apply s_Sentence_copyFrom_2 ho hp step
    rw [Sel_1 ho, I_lt (by omega) (by omega) (by omega) (by omega)]
    refine ⟨fun q => absurd q (by omega), fun _ => ⟨_, c_copyI (Se_2 hp) (Se_2 ho) (Sel_2 hp) (Sel_2 ho) (by omega), _, c_copyI (Se_3 hp) (Se_3 ho) (Sel_3 hp) (Sel_3 ho) (by omega), rfl, ⟨?_, fun i hi => ⟨?_, ?_, ?_⟩, ?_⟩, fun i hi => ?_, fun x q => ⟨?_, ?_, ?_⟩⟩⟩
    · simp (disch := omega) only [cI_ne, mI_eq, mI_n2, h1]
      exact r1
    · simp only [sI_2, cI_2]
      rw [h4 i (by omega)]
      exact (r2 i hi).1
    · have hw : i < 40 := by omega
      simp (disch := omega) only [cI_ne, mI_n1, cI_at, h1]
      exact (r2 i hi).2.1
    · have hw : i < 40 := by omega
      simp (disch := omega) only [cI_ne, mI_n1, cI_at, h1]
      exact (r2 i hi).2.2
    · simp (disch := omega) only [cI_ne, mI_eq, mI_n1, h1]
      exact r3
    · simp only [sI_2, cI_2]
      rw [h4 i hi]
      exact hv i hi
    · simp (disch := omega) only [cI_ne, mI_fn, h1]
    · simp only [sI_2, cI_2, h2]
    · simp only [sI_2, cI_2]
      exact h3 x (by omega)
  · intro k hk nx N h1 h2 h3 h4
    apply s_Sentence_copyFrom_2 ho hp step
    have hi4 : inR (I (k : Int)) 40 := inRI (by omega) (by omega) (by omega)
    rw [Sel_1 ho, I_lt (by omega) (by omega) (by omega) (by omega), ixI (by omega) (by omega), Int.toNat_natCast, h3 (p + 1) (by omega), I_add]
    refine ⟨fun _ => ⟨hi4, hi4, hv k hk, nx _ h1 h2 (fun b hb => ?_) fun j hj => ?_⟩, fun q => absurd (by omega) q⟩
    · show up2 N.2.2 (o + 1) k _ b = _
      rw [up2_ne hb]
      exact h3 b hb
    · show up2 N.2.2 (o + 1) k _ (o + 1) j = _
      by_cases e : j = k
      · subst e
        unfold up2
        rw [if_pos rfl, upf_eq]
      · unfold up2
        rw [if_pos rfl, upf_ne e]
        exact h4 j (by omega)
