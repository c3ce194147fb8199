/-! ===== a sentence's text: the spec ===== -/
abbrev SS : Type := (Nat → Int × Int × Int) × Nat × Nat
def addc (st : SS) (c : Int × Int × Int) : SS := (upf st.1 st.2.1 c, st.2.1 + 1, st.2.2)
def onee (st : SS) : SS := (st.1, st.2.1, st.2.2 + 1)
def lfC (w : Nat) : Int := if w = 16 then 0 else if w = 17 then 1 else if w = 2 then 2 else if w = 18 then 3 else if w = 19 then 4 else if w = 20 then 5 else if w = 21 then 6 else if w = 22 then 7 else -1
section SRS
variable (b : Nat → Nat) (n L : Nat) (g : Nat → Int) (nm : Nat → List Nat)
abbrev isOpn (p : Nat) : Prop := tkK b n L p = 4 ∧ tkV b n p = 40
abbrev isCmp (p : Nat) : Prop := tkK b n L p = 4 ∧ 60 ≤ tkV b n p ∧ tkV b n p ≤ 62
def lfR (st : SS) (p : Nat) : PE (SS × Nat) :=
  if tkW b n L p = 19 then bnd (pNamed b n L nm 0 (g 0).toNat (tkN b n L p)) fun w => .ok (addc (onee st) (4, 0, w), tkN b n L (tkN b n L p))
  else if 5 ≤ lfC (tkW b n L p) then (if isCmp b n L (tkN b n L p) then bnd (pNum b n L 0 999 (tkN b n L (tkN b n L p))) fun x => .ok (addc (onee st) (lfC (tkW b n L p), tkV b n (tkN b n L p), x.1), x.2) else .error (1, tkS b n L (tkN b n L p)))
  else .ok (addc (onee st) (lfC (tkW b n L p), 0, 0), tkN b n L p)
def rdS : Nat → Nat → Nat → SS → Nat → PE (SS × Nat)
  | 0, _, _, _, _ => .error (1, 0)
  | f + 1, md, dp, st, p =>
    if md = 0 then
      (if ¬ isOpn b n L p ∧ ¬ tkW b n L p = 15 ∧ lfC (tkW b n L p) < 0 then .error (1, tkS b n L p)
      else if st.2.2 = 20 ∨ 8 < dp then .error (4, tkS b n L p)
      else if isOpn b n L p then bnd (rdS f 2 (dp + 1) (onee st) (tkN b n L p)) fun x => bnd (pSign b n L 41 x.2) fun q => .ok (x.1, q)
      else if tkW b n L p = 15 then bnd (rdS f 0 (dp + 1) (onee st) (tkN b n L p)) fun x => .ok (addc x.1 (20, 0, 0), x.2)
      else lfR b n L g nm st p)
    else if md = 1 then bnd (rdS f 0 dp st p) fun x => rdS f 3 dp x.1 x.2
    else if md = 3 then (if tkW b n L p = 14 then bnd (rdS f 0 dp st (tkN b n L p)) fun x => rdS f 3 dp (addc x.1 (21, 0, 0)) x.2 else .ok (st, p))
    else if md = 2 then bnd (rdS f 1 dp st p) fun x => rdS f 4 dp x.1 x.2
    else (if tkW b n L p = 13 then bnd (rdS f 1 dp st (tkN b n L p)) fun x => rdS f 4 dp (addc x.1 (22, 0, 0)) x.2 else .ok (st, p))
end SRS
def dpS (cd : Nat → Int × Int × Int) : Nat → Nat
  | 0 => 0
  | i + 1 => if (cd i).1 = 20 then dpS cd i else if (cd i).1 = 21 ∨ (cd i).1 = 22 then dpS cd i - 1 else dpS cd i + 1
def WFc (cd : Nat → Int × Int × Int) (k : Nat) : Prop := ∀ i, i < k → ((0 ≤ (cd i).1 ∧ (cd i).1 ≤ 7) ∧ dpS cd i < 20 ∧ (0 ≤ (cd i).2.2 ∧ (cd i).2.2 ≤ 999) ∧ (5 ≤ (cd i).1 → (cd i).2.1 = 60 ∨ (cd i).2.1 = 61 ∨ (cd i).2.1 = 62) ∧ (0 ≤ (cd i).2.1 ∧ (cd i).2.1 ≤ 62)) ∨ ((cd i).1 = 20 ∧ 1 ≤ dpS cd i) ∨ (((cd i).1 = 21 ∨ (cd i).1 = 22) ∧ 2 ≤ dpS cd i)
/-- a sentence that is being read -/
def SP (st : SS) : Prop := st.2.1 ≤ 2 * st.2.2 ∧ st.2.2 ≤ 20 ∧ WFc st.1 st.2.1 ∧ dpS st.1 st.2.1 ≤ st.2.2
theorem dpS_s {cd : Nat → Int × Int × Int} {i : Nat} : dpS cd (i + 1) = if (cd i).1 = 20 then dpS cd i else if (cd i).1 = 21 ∨ (cd i).1 = 22 then dpS cd i - 1 else dpS cd i + 1 := rfl
theorem dpS_up {cd : Nat → Int × Int × Int} {k : Nat} {c : Int × Int × Int} : ∀ i, i ≤ k → dpS (upf cd k c) i = dpS cd i
  | 0, _ => rfl
  | i + 1, h => by rw [dpS_s, dpS_s, upf_ne (show i ≠ k by omega), dpS_up i (by omega)]
theorem WFc_up {cd : Nat → Int × Int × Int} {k : Nat} {c : Int × Int × Int} (h : WFc cd k) (hc : ((0 ≤ c.1 ∧ c.1 ≤ 7) ∧ dpS cd k < 20 ∧ (0 ≤ c.2.2 ∧ c.2.2 ≤ 999) ∧ (5 ≤ c.1 → c.2.1 = 60 ∨ c.2.1 = 61 ∨ c.2.1 = 62) ∧ (0 ≤ c.2.1 ∧ c.2.1 ≤ 62)) ∨ (c.1 = 20 ∧ 1 ≤ dpS cd k) ∨ ((c.1 = 21 ∨ c.1 = 22) ∧ 2 ≤ dpS cd k)) : WFc (upf cd k c) (k + 1) := by
  intro i hi
  rw [dpS_up i (by omega)]
  by_cases e : i = k
  · subst e
    rw [upf_eq]
    exact hc
  · rw [upf_ne e]
    exact h i (by omega)
theorem lfC_b (w : Nat) : -1 ≤ lfC w ∧ lfC w ≤ 7 := by
  unfold lfC
  repeat' split
  all_goals omega
section SRP
variable {b : Nat → Nat} {n L : Nat} {g : Nat → Int} {nm : Nat → List Nat}
theorem sR_0 {f dp p : Nat} {st : SS} : rdS b n L g nm (f + 1) 0 dp st p = if ¬ isOpn b n L p ∧ ¬ tkW b n L p = 15 ∧ lfC (tkW b n L p) < 0 then .error (1, tkS b n L p)
      else if st.2.2 = 20 ∨ 8 < dp then .error (4, tkS b n L p)
      else if isOpn b n L p then bnd (rdS b n L g nm f 2 (dp + 1) (onee st) (tkN b n L p)) fun x => bnd (pSign b n L 41 x.2) fun q => .ok (x.1, q)
      else if tkW b n L p = 15 then bnd (rdS b n L g nm f 0 (dp + 1) (onee st) (tkN b n L p)) fun x => .ok (addc x.1 (20, 0, 0), x.2)
      else lfR b n L g nm st p := rfl
theorem sR_1 {f dp p : Nat} {st : SS} : rdS b n L g nm (f + 1) 1 dp st p = bnd (rdS b n L g nm f 0 dp st p) fun x => rdS b n L g nm f 3 dp x.1 x.2 := rfl
theorem sR_3 {f dp p : Nat} {st : SS} : rdS b n L g nm (f + 1) 3 dp st p = if tkW b n L p = 14 then bnd (rdS b n L g nm f 0 dp st (tkN b n L p)) fun x => rdS b n L g nm f 3 dp (addc x.1 (21, 0, 0)) x.2 else .ok (st, p) := rfl
theorem sR_2 {f dp p : Nat} {st : SS} : rdS b n L g nm (f + 1) 2 dp st p = bnd (rdS b n L g nm f 1 dp st p) fun x => rdS b n L g nm f 4 dp x.1 x.2 := rfl
theorem sR_4 {f dp p : Nat} {st : SS} : rdS b n L g nm (f + 1) 4 dp st p = if tkW b n L p = 13 then bnd (rdS b n L g nm f 1 dp st (tkN b n L p)) fun x => rdS b n L g nm f 4 dp (addc x.1 (22, 0, 0)) x.2 else .ok (st, p) := rfl
/-- what a ONE, an ALL, a COND leaves -/
def SO (st : SS) (p n : Nat) (x : SS × Nat) : Prop := SP x.1 ∧ x.1.2.1 + 2 * st.2.2 + 1 ≤ 2 * x.1.2.2 + st.2.1 ∧ st.2.2 < x.1.2.2 ∧ dpS x.1.1 x.1.2.1 = dpS st.1 st.2.1 + 1 ∧ p < x.2 ∧ x.2 ≤ n
/-- what comes behind one -/
def SO2 (st : SS) (p n : Nat) (x : SS × Nat) : Prop := SP x.1 ∧ x.1.2.1 + 2 * st.2.2 ≤ 2 * x.1.2.2 + st.2.1 ∧ st.2.2 ≤ x.1.2.2 ∧ dpS x.1.1 x.1.2.1 = dpS st.1 st.2.1 ∧ p ≤ x.2 ∧ x.2 ≤ n
theorem leaf_ok {st : SS} {c : Int × Int × Int} (h : SP st) (ho : st.2.2 < 20) (hc : (0 ≤ c.1 ∧ c.1 ≤ 7) ∧ (0 ≤ c.2.2 ∧ c.2.2 ≤ 999) ∧ (5 ≤ c.1 → c.2.1 = 60 ∨ c.2.1 = 61 ∨ c.2.1 = 62) ∧ (0 ≤ c.2.1 ∧ c.2.1 ≤ 62)) : SP (addc (onee st) c) ∧ dpS (addc (onee st) c).1 (addc (onee st) c).2.1 = dpS st.1 st.2.1 + 1 := by
  obtain ⟨h1, h2, h3, h4⟩ := h
  have e : dpS (upf st.1 st.2.1 c) (st.2.1 + 1) = dpS st.1 st.2.1 + 1 := by
    rw [dpS_s, upf_eq, if_neg (by omega), if_neg (by omega), dpS_up _ (Nat.le_refl _)]
  refine ⟨⟨?_, ?_, WFc_up h3 (Or.inl ⟨hc.1, (show dpS st.1 st.2.1 < 20 by omega), hc.2⟩), ?_⟩, e⟩
  · show st.2.1 + 1 ≤ 2 * (st.2.2 + 1)
    omega
  · show st.2.2 + 1 ≤ 20
    omega
  · show dpS (upf st.1 st.2.1 c) (st.2.1 + 1) ≤ st.2.2 + 1
    omega
theorem op_ok {st : SS} {c : Int} (h : SP st) (h2 : st.2.1 + 1 ≤ 2 * st.2.2) (hc : (c = 20 ∧ 1 ≤ dpS st.1 st.2.1) ∨ ((c = 21 ∨ c = 22) ∧ 2 ≤ dpS st.1 st.2.1)) : SP (addc st (c, 0, 0)) ∧ dpS (addc st (c, 0, 0)).1 (addc st (c, 0, 0)).2.1 = if c = 20 then dpS st.1 st.2.1 else dpS st.1 st.2.1 - 1 := by
  obtain ⟨q1, q2, q3, q4⟩ := h
  have e : dpS (upf st.1 st.2.1 (c, 0, 0)) (st.2.1 + 1) = if c = 20 then dpS st.1 st.2.1 else dpS st.1 st.2.1 - 1 := by
    rw [dpS_s, upf_eq, dpS_up _ (Nat.le_refl _)]
    rcases hc with ⟨rfl, _⟩ | ⟨rfl | rfl, _⟩ <;> rfl
  refine ⟨⟨?_, q2, WFc_up q3 (Or.inr hc), ?_⟩, e⟩
  · show st.2.1 + 1 ≤ 2 * st.2.2
    exact h2
  · show dpS (upf st.1 st.2.1 (c, 0, 0)) (st.2.1 + 1) ≤ st.2.2
    rw [e]
    split <;> omega
theorem lfR_ok {st : SS} {p : Nat} {x : SS × Nat} (hs : RGs g) (hp : p ≤ n) (h : SP st) (ho : st.2.2 < 20) (hl : 0 ≤ lfC (tkW b n L p)) (hr : lfR b n L g nm st p = .ok x) : SO st p n x := by
  have h0 := hs.1.1
  have lb := lfC_b (tkW b n L p)
  have a1 := tk_four (b := b) (n := n) (L := L) hp
  have w2 : tkK b n L p = 2 := by
    refine tkW_2.mp ?_
    generalize tkW b n L p = w at *
    unfold lfC at hl
    by_cases c : w ≤ 23
    · exact c
    · exfalso
      rw [if_neg (by omega), if_neg (by omega), if_neg (by omega), if_neg (by omega), if_neg (by omega), if_neg (by omega), if_neg (by omega), if_neg (by omega)] at hl
      omega
  have p1 := a1.1.2.2.2.1 (by rw [w2]; decide)
  have a2 := tk_four (b := b) (n := n) (L := L) a1.1.2.1
  have fin : ∀ (c : Int × Int × Int) (q : Nat), ((0 ≤ c.1 ∧ c.1 ≤ 7) ∧ (0 ≤ c.2.2 ∧ c.2.2 ≤ 999) ∧ (5 ≤ c.1 → c.2.1 = 60 ∨ c.2.1 = 61 ∨ c.2.1 = 62) ∧ (0 ≤ c.2.1 ∧ c.2.1 ≤ 62)) → p < q → q ≤ n → SO st p n (addc (onee st) c, q) := by
    intro c q hc h1 h2
    obtain ⟨l1, l2⟩ := leaf_ok h ho hc
    refine ⟨l1, ?_, ?_, l2, h1, h2⟩
    · show st.2.1 + 1 + 2 * st.2.2 + 1 ≤ 2 * (st.2.2 + 1) + st.2.1
      omega
    · show st.2.2 < st.2.2 + 1
      omega
  unfold lfR at hr
  by_cases c1 : tkW b n L p = 19
  · rw [if_pos c1] at hr
    obtain ⟨w, h1, h2⟩ := bnd_ok hr
    cases h2
    have f1 := pNamed_ok h1
    have f2 : w < g 0 := by
      have := f1.2.2
      rw [Int.toNat_of_nonneg h0.1] at this
      exact this
    refine fin _ _ ⟨(show (0 : Int) ≤ 4 ∧ (4 : Int) ≤ 7 by decide), ⟨f1.2.1, ?_⟩, fun y => absurd (show (5 : Int) ≤ 4 from y) (by decide), (show (0 : Int) ≤ 0 ∧ (0 : Int) ≤ 62 by decide)⟩ (Nat.lt_of_lt_of_le p1 a2.1.1) a2.1.2.1
    show w ≤ 999
    have := h0.2
    exact Int.le_trans (Int.le_of_lt f2) (Int.le_trans this (by decide))
  rw [if_neg c1] at hr
  by_cases c2 : 5 ≤ lfC (tkW b n L p)
  · rw [if_pos c2] at hr
    by_cases c3 : isCmp b n L (tkN b n L p)
    · rw [if_pos c3] at hr
      obtain ⟨z, h1, h2⟩ := bnd_ok hr
      cases h2
      have f1 := pNum_ok h1
      have a3 := tk_four (b := b) (n := n) (L := L) a2.1.2.1
      have a4 := tk_four (b := b) (n := n) (L := L) a3.1.2.1
      have c4 := c3.2
      rw [f1.2.2.2]
      generalize tkV b n (tkN b n L p) = v at *
      refine fin _ _ ⟨⟨hl, lb.2⟩, ⟨f1.2.1, f1.2.2.1⟩, fun _ => ?_, ?_⟩ (Nat.lt_of_lt_of_le p1 (Nat.le_trans a2.1.1 a3.1.1)) a3.1.2.1
      · show v = 60 ∨ v = 61 ∨ v = 62
        clear a1 a2 a3 a4 f1 h1 p1 w2 hr
        omega
      · show 0 ≤ v ∧ v ≤ 62
        clear a1 a2 a3 a4 f1 h1 p1 w2 hr
        omega
    · rw [if_neg c3] at hr
      cases hr
  · rw [if_neg c2] at hr
    cases hr
    exact fin _ _ ⟨⟨hl, lb.2⟩, (show (0 : Int) ≤ 0 ∧ (0 : Int) ≤ 999 by decide), fun y => absurd y c2, (show (0 : Int) ≤ 0 ∧ (0 : Int) ≤ 62 by decide)⟩ p1 a1.1.2.1
theorem SO_two {st : SS} {p n q : Nat} {c : Int} {x z : SS × Nat} (hc : c = 21 ∨ c = 22) (hD : 1 ≤ dpS st.1 st.2.1) (hp : p < q) (h1 : SO st q n x) (h2 : SP (addc x.1 (c, 0, 0)) → 1 ≤ dpS (addc x.1 (c, 0, 0)).1 (addc x.1 (c, 0, 0)).2.1 → SO2 (addc x.1 (c, 0, 0)) x.2 n z) (hst : st.2.1 + 1 ≤ 2 * st.2.2) : SO2 st p n z := by
  obtain ⟨q1, q2, q3, q4, q5, q6⟩ := h1
  obtain ⟨o1, o2⟩ := op_ok q1 (c := c) (by omega) (Or.inr ⟨hc, by omega⟩)
  rw [if_neg (by omega)] at o2
  obtain ⟨r1, r2, r3, r4, r5, r6⟩ := h2 o1 (by rw [o2]; omega)
  refine ⟨r1, ?_, ?_, ?_, by omega, r6⟩
  · have : (addc x.1 (c, 0, 0)).2.1 = x.1.2.1 + 1 := rfl
    have : (addc x.1 (c, 0, 0)).2.2 = x.1.2.2 := rfl
    omega
  · have : (addc x.1 (c, 0, 0)).2.2 = x.1.2.2 := rfl
    omega
  · rw [r4, o2, q4]
    omega
theorem sR_w3 : ∀ (f dp : Nat) (st : SS) (p : Nat) (x : SS × Nat), rdS b n L g nm f 3 dp st p = .ok x → tkW b n L x.2 ≠ 14
  | 0, _, _, _, _, h => by cases h
  | f + 1, dp, st, p, x, h => by
    rw [sR_3] at h
    by_cases c : tkW b n L p = 14
    · rw [if_pos c] at h
      obtain ⟨y, h1, h2⟩ := bnd_ok h
      exact sR_w3 f dp _ y.2 x h2
    · rw [if_neg c] at h
      cases h
      exact c
theorem sR_w1 {f dp : Nat} {st : SS} {p : Nat} {x : SS × Nat} (h : rdS b n L g nm f 1 dp st p = .ok x) : tkW b n L x.2 ≠ 14 := by
  cases f with
  | zero => cases h
  | succ f =>
    rw [sR_1] at h
    obtain ⟨y, h1, h2⟩ := bnd_ok h
    exact sR_w3 f dp _ y.2 x h2
theorem sR_w4 : ∀ (f dp : Nat) (st : SS) (p : Nat) (x : SS × Nat), tkW b n L p ≠ 14 → rdS b n L g nm f 4 dp st p = .ok x → tkW b n L x.2 ≠ 13 ∧ tkW b n L x.2 ≠ 14
  | 0, _, _, _, _, _, h => by cases h
  | f + 1, dp, st, p, x, h14, h => by
    rw [sR_4] at h
    by_cases c : tkW b n L p = 13
    · rw [if_pos c] at h
      obtain ⟨y, h1, h2⟩ := bnd_ok h
      exact sR_w4 f dp _ y.2 x (sR_w1 h1) h2
    · rw [if_neg c] at h
      cases h
      exact ⟨c, h14⟩
theorem sR_w2 {f dp : Nat} {st : SS} {p : Nat} {x : SS × Nat} (h : rdS b n L g nm f 2 dp st p = .ok x) : tkW b n L x.2 ≠ 13 ∧ tkW b n L x.2 ≠ 14 := by
  cases f with
  | zero => cases h
  | succ f =>
    rw [sR_2] at h
    obtain ⟨y, h1, h2⟩ := bnd_ok h
    exact sR_w4 f dp _ y.2 x (sR_w1 h1) h2
theorem sR_ok (hs : RGs g) : ∀ (f md dp : Nat) (st : SS) (p : Nat) (x : SS × Nat), p ≤ n → SP st → rdS b n L g nm f md dp st p = .ok x →
    (md = 0 ∨ md = 1 ∨ md = 2 → SO st p n x) ∧ (md = 3 ∨ md = 4 → st.2.1 + 1 ≤ 2 * st.2.2 → 1 ≤ dpS st.1 st.2.1 → SO2 st p n x)
  | 0, md, dp, st, p, x, _, _, h => by cases h
  | f + 1, md, dp, st, p, x, hp, hst, h => by
    by_cases m0 : md = 0
    · subst m0
      rw [sR_0] at h
      refine ⟨fun _ => ?_, fun y => absurd y (by decide)⟩
      by_cases c1 : ¬ isOpn b n L p ∧ ¬ tkW b n L p = 15 ∧ lfC (tkW b n L p) < 0
      · rw [if_pos c1] at h
        cases h
      rw [if_neg c1] at h
      by_cases c2 : st.2.2 = 20 ∨ 8 < dp
      · rw [if_pos c2] at h
        cases h
      rw [if_neg c2] at h
      have ho : st.2.2 < 20 := by
        have := hst.2.1
        clear hp c1
        omega
      have hs1 : SP (onee st) := by
        obtain ⟨q1, q2, q3, q4⟩ := hst
        refine ⟨?_, ?_, q3, ?_⟩
        · show st.2.1 ≤ 2 * (st.2.2 + 1)
          clear hp c1
          omega
        · show st.2.2 + 1 ≤ 20
          clear hp c1
          omega
        · show dpS st.1 st.2.1 ≤ st.2.2 + 1
          clear hp c1
          omega
      have a1 := tk_four (b := b) (n := n) (L := L) hp
      by_cases c3 : isOpn b n L p
      · rw [if_pos c3] at h
        obtain ⟨y, h1, h2⟩ := bnd_ok h
        obtain ⟨q, h3, h4⟩ := bnd_ok h2
        cases h4
        have p1 := a1.1.2.2.2.1 (by rw [c3.1]; decide)
        obtain ⟨q1, q2, q3, q4, q5, q6⟩ := (sR_ok hs f 2 (dp + 1) (onee st) (tkN b n L p) y a1.1.2.1 hs1 h1).1 (Or.inr (Or.inr rfl))
        have s1 := pSign_ok h3
        have a2 := tk_four (b := b) (n := n) (L := L) q6
        have p2 := a2.1.2.2.2.1 (by rw [s1.1]; decide)
        have e1 : (onee st).2.1 = st.2.1 := rfl
        have e2 : (onee st).2.2 = st.2.2 + 1 := rfl
        refine ⟨q1, ?_, ?_, q4, ?_, ?_⟩
        · show y.1.2.1 + 2 * st.2.2 + 1 ≤ 2 * y.1.2.2 + st.2.1
          clear a1 a2 c1 c3 s1 p1 p2 hp
          omega
        · show st.2.2 < y.1.2.2
          clear a1 a2 c1 c3 s1 p1 p2 hp
          omega
        · show p < q
          rw [s1.2]
          exact Nat.lt_trans p1 (Nat.lt_trans q5 p2)
        · show q ≤ n
          rw [s1.2]
          exact a2.1.2.1
      rw [if_neg c3] at h
      by_cases c4 : tkW b n L p = 15
      · rw [if_pos c4] at h
        obtain ⟨y, h1, h2⟩ := bnd_ok h
        cases h2
        have p1 := a1.1.2.2.2.1 (by rw [tkW_2.mp (show tkW b n L p ≤ 23 by rw [c4]; decide)]; decide)
        obtain ⟨q1, q2, q3, q4, q5, q6⟩ := (sR_ok hs f 0 (dp + 1) (onee st) (tkN b n L p) y a1.1.2.1 hs1 h1).1 (Or.inl rfl)
        have e1 : (onee st).2.1 = st.2.1 := rfl
        have e2 : (onee st).2.2 = st.2.2 + 1 := rfl
        have b0 := hst.1
        obtain ⟨o1, o2⟩ := op_ok q1 (c := 20) (by clear a1 c1 c3 p1 hp q5; omega) (Or.inl ⟨rfl, by rw [q4]; exact Nat.succ_le_succ (Nat.zero_le _)⟩)
        rw [if_pos rfl] at o2
        refine ⟨o1, ?_, ?_, by rw [o2, q4]; rfl, Nat.lt_trans p1 q5, q6⟩
        · show y.1.2.1 + 1 + 2 * st.2.2 + 1 ≤ 2 * y.1.2.2 + st.2.1
          clear a1 c1 c3 p1 hp q5
          omega
        · show st.2.2 < y.1.2.2
          clear a1 c1 c3 p1 hp q5
          omega
      rw [if_neg c4] at h
      refine lfR_ok hs hp hst ho ?_ h
      have := lfC_b (tkW b n L p)
      exact Int.not_lt.mp fun y => c1 ⟨c3, c4, y⟩
    by_cases m1 : md = 1
    · subst m1
      rw [sR_1] at h
      obtain ⟨y, h1, h2⟩ := bnd_ok h
      obtain ⟨q1, q2, q3, q4, q5, q6⟩ := (sR_ok hs f 0 dp st p y hp hst h1).1 (Or.inl rfl)
      have r := sR_ok hs f 3 dp y.1 y.2 x q6 q1 h2
      have b0 := hst.1
      obtain ⟨r1, r2, r3, r4, r5, r6⟩ := r.2 (Or.inl rfl) (by omega) (by omega)
      exact ⟨fun _ => ⟨r1, by omega, by omega, by omega, by omega, r6⟩, fun y => absurd y (by decide)⟩
    by_cases m3 : md = 3
    · subst m3
      rw [sR_3] at h
      refine ⟨fun y => absurd y (by decide), fun _ hc hD => ?_⟩
      by_cases c : tkW b n L p = 14
      · rw [if_pos c] at h
        obtain ⟨y, h1, h2⟩ := bnd_ok h
        have a1 := tk_four (b := b) (n := n) (L := L) hp
        have p1 := a1.1.2.2.2.1 (by rw [tkW_2.mp (show tkW b n L p ≤ 23 by rw [c]; decide)]; decide)
        have s1 := (sR_ok hs f 0 dp st (tkN b n L p) y a1.1.2.1 hst h1).1 (Or.inl rfl)
        refine SO_two (Or.inl rfl) hD p1 s1 (fun k1 k2 => ?_) hc
        refine (sR_ok hs f 3 dp _ y.2 x s1.2.2.2.2.2 k1 h2).2 (Or.inl rfl) ?_ k2
        obtain ⟨-, u2, -⟩ := s1
        show y.1.2.1 + 1 + 1 ≤ 2 * y.1.2.2
        clear a1 p1 hp c
        omega
      · rw [if_neg c] at h
        cases h
        exact ⟨hst, Nat.le_of_eq (Nat.add_comm _ _), Nat.le_refl _, rfl, Nat.le_refl _, hp⟩
    by_cases m2 : md = 2
    · subst m2
      rw [sR_2] at h
      obtain ⟨y, h1, h2⟩ := bnd_ok h
      have k := sR_ok hs f 1 dp st p y hp hst h1
      obtain ⟨q1, q2, q3, q4, q5, q6⟩ := k.1 (Or.inr (Or.inl rfl))
      have r := sR_ok hs f 4 dp y.1 y.2 x q6 q1 h2
      have b0 := hst.1
      obtain ⟨r1, r2, r3, r4, r5, r6⟩ := r.2 (Or.inr rfl) (by omega) (by omega)
      exact ⟨fun _ => ⟨r1, by omega, by omega, by omega, by omega, r6⟩, fun y => absurd y (by decide)⟩
    by_cases m4 : md = 4
    · subst m4
      rw [sR_4] at h
      refine ⟨fun y => absurd y (by decide), fun _ hc hD => ?_⟩
      by_cases c : tkW b n L p = 13
      · rw [if_pos c] at h
        obtain ⟨y, h1, h2⟩ := bnd_ok h
        have a1 := tk_four (b := b) (n := n) (L := L) hp
        have p1 := a1.1.2.2.2.1 (by rw [tkW_2.mp (show tkW b n L p ≤ 23 by rw [c]; decide)]; decide)
        have s1 := (sR_ok hs f 1 dp st (tkN b n L p) y a1.1.2.1 hst h1).1 (Or.inr (Or.inl rfl))
        refine SO_two (Or.inr rfl) hD p1 s1 (fun k1 k2 => ?_) hc
        refine (sR_ok hs f 4 dp _ y.2 x s1.2.2.2.2.2 k1 h2).2 (Or.inr rfl) ?_ k2
        obtain ⟨-, u2, -⟩ := s1
        show y.1.2.1 + 1 + 1 ≤ 2 * y.1.2.2
        clear a1 p1 hp c
        omega
      · rw [if_neg c] at h
        cases h
        exact ⟨hst, Nat.le_of_eq (Nat.add_comm _ _), Nat.le_refl _, rfl, Nat.le_refl _, hp⟩
    exact ⟨fun y => absurd y (by omega), fun y => absurd y (by omega)⟩
end SRP
