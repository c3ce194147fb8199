/-! ===== what the class's objects hold of the reference's numbers g (the array s) ===== -/
/-- nothing changed but within lo .. hi -/
def Fr (lo hi : Nat) (M M' : Mm) : Prop := ∀ a, (a < lo ∨ hi ≤ a) → M'.1 a = M.1 a ∧ M'.2.1 a = M.2.1 a ∧ M'.2.2 a = M.2.2 a
theorem Fr.refl {lo hi : Nat} {M : Mm} : Fr lo hi M M := fun _ _ => ⟨rfl, rfl, rfl⟩
theorem Fr.trans {lo hi : Nat} {M N O : Mm} (h : Fr lo hi M N) (k : Fr lo hi N O) : Fr lo hi M O := fun a ha =>
  ⟨(k a ha).1.trans (h a ha).1, (k a ha).2.1.trans (h a ha).2.1, (k a ha).2.2.trans (h a ha).2.2⟩
theorem Fr.mono {lo hi lo' hi' : Nat} {M N : Mm} (h : Fr lo hi M N) (h1 : lo' ≤ lo) (h2 : hi ≤ hi') : Fr lo' hi' M N := fun a ha => h a (by omega)
theorem Fr.sI {lo hi a k : Nat} {M : Mm} {v : Int32} (h1 : lo ≤ a) (h2 : a < hi) : Fr lo hi M (sI M a k v) := fun b hb =>
  ⟨up2_ne (by omega), rfl, rfl⟩
theorem Fr.sL {lo hi a k : Nat} {M : Mm} {v : Int64} (h1 : lo ≤ a) (h2 : a < hi) : Fr lo hi M (sL M a k v) := fun b hb =>
  ⟨rfl, up2_ne (by omega), rfl⟩
theorem Fr.sR {lo hi a k : Nat} {M : Mm} {v : Nat} (h1 : lo ≤ a) (h2 : a < hi) : Fr lo hi M (sR M a k v) := fun b hb =>
  ⟨rfl, rfl, up2_ne (by omega)⟩
theorem Fr.upI {lo hi a : Nat} {M : Mm} {g : Nat → Int32} (h1 : lo ≤ a) (h2 : a < hi) : Fr lo hi M (upr M.1 a g, M.2) := fun b hb =>
  ⟨upr_ne (by omega), rfl, rfl⟩
theorem Fr.upL {lo hi a : Nat} {M : Mm} {g : Nat → Int64} (h1 : lo ≤ a) (h2 : a < hi) : Fr lo hi M (M.1, upr M.2.1 a g, M.2.2) := fun b hb =>
  ⟨rfl, upr_ne (by omega), rfl⟩
theorem mI_at {M : Mm} {a k b j : Nat} {v : Int32} : (sI M a k v).1 b j = if b = a ∧ j = k then v else M.1 b j := by
  show up2 M.1 a k v b j = _
  unfold up2
  by_cases h : b = a
  · subst h
    rw [if_pos rfl]
    unfold upf
    by_cases q : j = k
    · rw [if_pos q, if_pos ⟨rfl, q⟩]
    · rw [if_neg q, if_neg (fun r => q r.2)]
  · rw [if_neg h, if_neg (fun r => h r.1)]
theorem mI_2 {M : Mm} {a k : Nat} {v : Int32} : (sI M a k v).2 = M.2 := rfl
theorem mL_1 {M : Mm} {a k : Nat} {v : Int64} : (sL M a k v).1 = M.1 := rfl
theorem mR_1 {M : Mm} {a k : Nat} {v : Nat} : (sR M a k v).1 = M.1 := rfl
/-- of a STREET and of what is so: how large the numbers are -/
def RGs (g : Nat → Int) : Prop := ((0 ≤ g 0 ∧ g 0 ≤ 5) ∧ (0 ≤ g 1 ∧ g 1 ≤ 10) ∧ (0 ≤ g 2 ∧ g 2 ≤ 6) ∧ (0 ≤ g 3 ∧ g 3 ≤ 6) ∧ (0 ≤ g 4 ∧ g 4 ≤ 8) ∧ (1 ≤ g 5 ∧ g 5 ≤ 60) ∧ (0 ≤ g 6 ∧ g 6 ≤ 999) ∧ (1 ≤ g 7 ∧ g 7 ≤ 20)) ∧
  (∀ w : Nat, w < 5 → 0 ≤ g (8 + w) ∧ g (8 + w) ≤ 20 ∧ ((w : Int) < g 0 → 1 ≤ g (8 + w))) ∧
  (∀ k : Nat, k < 10 → 0 ≤ g (13 + k) ∧ g (13 + k) ≤ g 0 ∧ 0 ≤ g (23 + k) ∧ g (23 + k) ≤ 99 ∧ 0 ≤ g (33 + k) ∧ g (33 + k) ≤ 60 ∧ ((k : Int) < g 1 → 1 ≤ g (23 + k))) ∧
  (∀ k : Nat, k < 6 → 0 ≤ g (43 + k) ∧ g (43 + k) ≤ 5 ∧ 0 ≤ g (49 + k) ∧ g (49 + k) ≤ 60 ∧ 0 ≤ g (55 + k) ∧ g (55 + k) ≤ 40 ∧ ((k : Int) < g 2 → g (43 + k) < g 0 ∧ 1 ≤ g (55 + k))) ∧
  (∀ k : Nat, k < 6 → 0 ≤ g (61 + k) ∧ g (61 + k) ≤ 60 ∧ 0 ≤ g (67 + k) ∧ g (67 + k) ≤ 99 ∧ ((k : Int) < g 3 → 1 ≤ g (67 + k))) ∧
  (∀ k : Nat, k < 8 → 0 ≤ g (73 + k) ∧ g (73 + k) ≤ 47 ∧ 0 ≤ g (81 + k) ∧ g (81 + k) ≤ 60) ∧
  (∀ j k : Nat, (j : Int) < g 3 → (k : Int) < g 3 → g (61 + j) = g (61 + k) → j = k) ∧
  (∀ j k : Nat, (j : Int) < g 4 → (k : Int) < g 4 → g (73 + j) = g (73 + k) → j = k)
/-- how many bits of the first ten -/
def pc10 (n : Nat) : Nat := bt n 0 + bt n 1 + bt n 2 + bt n 3 + bt n 4 + bt n 5 + bt n 6 + bt n 7 + bt n 8 + bt n 9
def tot (g : Nat → Int) : Int := g 90 + g 91 + (g 101 + g 102 + g 103 + g 104 + g 105) + (g 106 + g 107 + g 108 + g 109 + g 110 + g 111)
def RGd (g : Nat → Int) : Prop := ((0 ≤ g 89 ∧ g 89 ≤ 48) ∧ 0 ≤ g 90 ∧ 0 ≤ g 91 ∧ tot g ≤ 999 ∧ (0 ≤ g 92 ∧ g 92 ≤ 200) ∧ (0 ≤ g 93 ∧ 0 ≤ g 94 ∧ g 93 + g 94 ≤ 60) ∧ ((0 ≤ g 95 ∧ (g 95 < g 0 ∨ g 0 = 0 ∧ g 95 = 0)) ∨ (10 ≤ g 95 ∧ g 95 < 10 + g 2)) ∧ (0 ≤ g 96 ∧ g 96 ≤ 49) ∧ True ∧ (0 ≤ g 98 ∧ g 98 < 32) ∧ (0 ≤ g 99 ∧ g 99 < 1024) ∧ (0 ≤ g 100 ∧ g 100 < 1024)) ∧
  (∀ w : Nat, w < 5 → 0 ≤ g (101 + w)) ∧ (∀ k : Nat, k < 6 → 0 ≤ g (106 + k)) ∧ (∀ k : Nat, k < 10 → 0 ≤ g (112 + k) ∧ g (112 + k) ≤ 48 ∧ (bt (g 100).toNat k = 1 ↔ g (112 + k) ≠ 0) ∧ (g 1 ≤ (k : Int) → g (112 + k) = 0))
/-- how much it has rained, how tired all are, by the hours gone -/
def RN (g : Nat → Int) : Prop := g 96 ≤ g 89 ∧ g 92 ≤ g 89 + pc10 (g 99).toNat
/-- the class's street at p -/
def CSr (M : Mm) (p : Nat) (g : Nat → Int) : Prop := (M.1 p 2 = I (g 0) ∧ M.1 p 7 = I (g 1) ∧ M.1 p 12 = I (g 2) ∧ M.1 (p + 11) 2 = I (g 3) ∧ M.1 (p + 14) 2 = I (g 4) ∧ M.1 p 15 = I (g 5) ∧ M.1 p 16 = I (g 6) ∧ M.1 p 17 = I (g 7)) ∧
  (∀ w : Nat, (w : Int) < g 0 → M.1 (p + 2) w = I (g (8 + w))) ∧
  (∀ k : Nat, (k : Int) < g 1 → M.1 (p + 4) k = I (g (13 + k) - 1) ∧ M.1 (p + 5) k = I (g (23 + k)) ∧ M.1 (p + 6) k = I (g (33 + k))) ∧
  (∀ k : Nat, (k : Int) < g 2 → M.1 (p + 8) k = I (g (43 + k)) ∧ M.1 (p + 9) k = I (g (49 + k)) ∧ M.1 (p + 10) k = I (g (55 + k))) ∧
  (∀ k : Nat, (k : Int) < g 3 → M.1 (p + 12) k = I (g (61 + k)) ∧ M.1 (p + 13) k = I (g (67 + k))) ∧
  (∀ k : Nat, (k : Int) < g 4 → M.1 (p + 15) k = I (g (73 + k)) ∧ M.1 (p + 16) k = I (g (81 + k)))
/-- the class's state at o -/
def CSt (M : Mm) (o : Nat) (g : Nat → Int) : Prop := (M.1 o 0 = I (g 89) ∧ M.1 o 1 = I (g 90) ∧ M.1 o 2 = I (g 91) ∧ M.1 o 3 = I (g 92) ∧ M.1 o 4 = I (g 96) ∧ M.1 o 5 = I (g 97) ∧ M.1 o 6 = I (g 93) ∧ M.1 o 7 = I (g 94) ∧ M.1 o 8 = I (g 95) ∧ M.1 o 9 = I (g 98) ∧ M.1 o 10 = I (g 99)) ∧
  (∀ w : Nat, w < 5 → M.1 (o + 1) w = I (g (101 + w))) ∧ (∀ k : Nat, k < 6 → M.1 (o + 2) k = I (g (106 + k))) ∧ (∀ k : Nat, k < 10 → M.1 (o + 3) k = I (g (112 + k) - 1))
theorem CSr.of {M M' : Mm} {p : Nat} {g : Nat → Int} (h : CSr M p g) (hf : ∀ a, p ≤ a → a < p + 17 → M'.1 a = M.1 a) : CSr M' p g := by
  unfold CSr at h ⊢
  rw [hf p (by omega) (by omega), hf (p + 11) (by omega) (by omega), hf (p + 14) (by omega) (by omega), hf (p + 2) (by omega) (by omega), hf (p + 4) (by omega) (by omega), hf (p + 5) (by omega) (by omega), hf (p + 6) (by omega) (by omega), hf (p + 8) (by omega) (by omega), hf (p + 9) (by omega) (by omega), hf (p + 10) (by omega) (by omega), hf (p + 12) (by omega) (by omega), hf (p + 13) (by omega) (by omega), hf (p + 15) (by omega) (by omega), hf (p + 16) (by omega) (by omega)]
  exact h
theorem CSt.of {M M' : Mm} {o : Nat} {g : Nat → Int} (h : CSt M o g) (hf : ∀ a, o ≤ a → a < o + 4 → M'.1 a = M.1 a) : CSt M' o g := by
  unfold CSt at h ⊢
  rw [hf o (by omega) (by omega), hf (o + 1) (by omega) (by omega), hf (o + 2) (by omega) (by omega), hf (o + 3) (by omega) (by omega)]
  exact h
/-- a state and a street don't overlap -/
theorem Sa_St {o p : Nat} (h : Sa o) (k : St p) : o + 4 ≤ p ∨ p + 17 ≤ o := by
  rcases k with rfl | rfl | rfl | rfl <;> rcases h with rfl | rfl | rfl | rfl | rfl | rfl | rfl | rfl | rfl | rfl | rfl | rfl <;> first | exact Or.inl (by decide) | exact Or.inr (by decide)
theorem CSr.fr {M M' : Mm} {o p : Nat} {g : Nat → Int} (h : CSr M p g) (ho : Sa o) (hp : St p) (hf : Fr o (o + 4) M M') : CSr M' p g := by
  have := Sa_St ho hp
  exact h.of fun a h1 h2 => (hf a (by omega)).1
theorem Sa_Sa {o p : Nat} (h : Sa o) (k : Sa p) (hne : o ≠ p) : o + 4 ≤ p ∨ p + 4 ≤ o := by
  rcases h with rfl | rfl | rfl | rfl | rfl | rfl | rfl | rfl | rfl | rfl | rfl | rfl <;> rcases k with rfl | rfl | rfl | rfl | rfl | rfl | rfl | rfl | rfl | rfl | rfl | rfl <;> first | exact absurd rfl hne | exact Or.inl (by decide) | exact Or.inr (by decide)
theorem CSt.fr {M M' : Mm} {o p : Nat} {g : Nat → Int} (h : CSt M p g) (ho : Sa o) (hp : Sa p) (hne : o ≠ p) (hf : Fr o (o + 4) M M') : CSt M' p g := by
  have := Sa_Sa ho hp hne
  exact h.of fun a h1 h2 => (hf a (by omega)).1
theorem bags_b {g : Nat → Int} (h : RGd g) : (0 ≤ g 90 ∧ g 90 ≤ 999) ∧ (0 ≤ g 91 ∧ g 91 ≤ 999) ∧ (∀ w : Nat, w < 5 → 0 ≤ g (101 + w) ∧ g (101 + w) ≤ 999) ∧ (∀ k : Nat, k < 6 → 0 ≤ g (106 + k) ∧ g (106 + k) ≤ 999) := by
  obtain ⟨⟨-, h1, h2, h3, -⟩, h4, h5, -⟩ := h
  unfold tot at h3
  have a0 := h4 0 (by decide)
  have a1 := h4 1 (by decide)
  have a2 := h4 2 (by decide)
  have a3 := h4 3 (by decide)
  have a4 := h4 4 (by decide)
  have b0 := h5 0 (by decide)
  have b1 := h5 1 (by decide)
  have b2 := h5 2 (by decide)
  have b3 := h5 3 (by decide)
  have b4 := h5 4 (by decide)
  have b5 := h5 5 (by decide)
  simp only [Nat.reduceAdd] at a0 a1 a2 a3 a4 b0 b1 b2 b3 b4 b5
  refine ⟨by omega, by omega, fun w hw => ?_, fun k hk => ?_⟩
  · have : w = 0 ∨ w = 1 ∨ w = 2 ∨ w = 3 ∨ w = 4 := by omega
    rcases this with rfl | rfl | rfl | rfl | rfl <;> (simp only [Nat.reduceAdd]; omega)
  · have : k = 0 ∨ k = 1 ∨ k = 2 ∨ k = 3 ∨ k = 4 ∨ k = 5 := by omega
    rcases this with rfl | rfl | rfl | rfl | rfl | rfl <;> (simp only [Nat.reduceAdd]; omega)
theorem pc10_b (n : Nat) : pc10 n ≤ 10 := by
  unfold pc10
  have := bt_lt n 0
  have := bt_lt n 1
  have := bt_lt n 2
  have := bt_lt n 3
  have := bt_lt n 4
  have := bt_lt n 5
  have := bt_lt n 6
  have := bt_lt n 7
  have := bt_lt n 8
  have := bt_lt n 9
  omega
