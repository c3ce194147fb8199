/-! ===== acts: what they answer and leave, and that the bounds stay ===== -/
theorem RGd.congr {z z' : Nat → Int} (h : RGd z) (e : ∀ j, j < 122 → z' j = z j) : RGd z' := by
  obtain ⟨⟨a1, a2, a3, a4, a5, a6, a7, a8, -, a9, a10, a11⟩, b1, b2, b3⟩ := h
  refine ⟨⟨?_, ?_, ?_, ?_, ?_, ?_, ?_, ?_, trivial, ?_, ?_, ?_⟩, fun w hw => ?_, fun k hk => ?_, fun k hk => ?_⟩
  · rw [e 89 (by omega)]; exact a1
  · rw [e 90 (by omega)]; exact a2
  · rw [e 91 (by omega)]; exact a3
  · unfold tot at a4 ⊢
    rw [e 90 (by omega), e 91 (by omega), e 101 (by omega), e 102 (by omega), e 103 (by omega), e 104 (by omega), e 105 (by omega), e 106 (by omega), e 107 (by omega), e 108 (by omega), e 109 (by omega), e 110 (by omega), e 111 (by omega)]
    exact a4
  · rw [e 92 (by omega)]; exact a5
  · rw [e 93 (by omega), e 94 (by omega)]; exact a6
  · rw [e 95 (by omega), e 0 (by omega), e 2 (by omega)]; exact a7
  · rw [e 96 (by omega)]; exact a8
  · rw [e 98 (by omega)]; exact a9
  · rw [e 99 (by omega)]; exact a10
  · rw [e 100 (by omega)]; exact a11
  · rw [e (101 + w) (by omega)]; exact b1 w hw
  · rw [e (106 + k) (by omega)]; exact b2 k hk
  · rw [e (112 + k) (by omega), e 100 (by omega), e 1 (by omega)]; exact b3 k hk
theorem RN.congr {z z' : Nat → Int} (h : RN z) (e : ∀ j, j < 122 → z' j = z j) : RN z' := by
  unfold RN at h ⊢
  rw [e 96 (by omega), e 89 (by omega), e 92 (by omega), e 99 (by omega)]
  exact h
/-- what no act changes -/
def SameO (g g' : Nat → Int) : Prop := ∀ j, (j < 89 ∨ 122 ≤ j) → g' j = g j
theorem SameO.s {g g' : Nat → Int} (h : SameO g g') : SameS g g' := fun j hj => h j (Or.inl hj)
theorem SameO.trans {g g' g'' : Nat → Int} (h : SameO g g') (k : SameO g' g'') : SameO g g'' := fun j hj => (k j hj).trans (h j hj)
theorem SameO.refl {g : Nat → Int} : SameO g g := fun _ _ => rfl
theorem hourG_o {g : Nat → Int} (hs : RGs g) (hd : RGd g) : SameO g (hourG g) := by
  intro j hj
  have hc := celG_b hs hd
  have h1 := (hs.same (workG_same hs hd)).1.2.1
  unfold hourG tideG
  rw [upf_ne (by omega), flL_at _ _ (by omega) (by omega)]
  unfold workG
  rw [upf_ne (by omega), upf_ne (by omega), upf_ne (by omega), upf_ne (by omega), upf_ne (by omega)]
theorem hrsG_o : ∀ {n : Nat} {g : Nat → Int}, RGs g → RGd g → RN g → SameO g (hrsG g n)
  | 0, g, hs, hd, hn => SameO.refl
  | n + 1, g, hs, hd, hn => by
    rw [hrsG_s]
    split
    · rename_i h48
      have b := RN_b hd hn
      have e := hourG_o hs hd
      exact e.trans (hrsG_o (n := n) (hs.same e.s) (RGd_hour hs hd (by omega) h48) (RN_hour hs hd ⟨by have := hn.1; omega, hn.2⟩))
    · exact SameO.refl
theorem rainG_o {g : Nat → Int} : SameO g (rainG g) := fun j hj => upf_ne (by omega)
theorem drwG_o : ∀ {n : Nat} {g : Nat → Int} {x : Int32}, RGs g → RGd g → RN g → SameO g (drwG g x n)
  | 0, g, x, hs, hd, hn => SameO.refl
  | n + 1, g, x, hs, hd, hn => by
    rw [drwG_s]
    split
    · rename_i h48
      have b := RN_b hd hn
      obtain ⟨r1, r2, r3, r4, r5⟩ := rain_ok (x := rndN x) hs hd hn h48
      have r0 : SameO g (if rndT (rndN x) = I 0 then rainG g else g) := by
        split
        · exact rainG_o
        · exact SameO.refl
      have key : ∀ z : Nat → Int, SameO g z → RGd z → (z 96 ≤ z 89 + 1 ∧ z 92 ≤ z 89 + pc10 (z 99).toNat) → z 89 = g 89 → z 92 = g 92 → SameO g (drwG (hourG z) (rndN x) n) := by
        intro z r1 r2 r3 r4 r5
        have zs := hs.same r1.s
        have e := hourG_o zs r2
        exact (r1.trans e).trans (drwG_o (n := n) (x := rndN x) (zs.same e.s) (RGd_hour zs r2 (by omega) (by omega)) (RN_hour zs r2 r3))
      exact key _ r0 r2 r3 r4 r5
    · exact SameO.refl
theorem hrsG_cap : ∀ {n : Nat} {g : Nat → Int}, RGs g → RGd g → RN g → hrsG g n = hrsG g (min n (48 - g 89).toNat)
  | 0, g, hs, hd, hn => by rw [Nat.zero_min]
  | n + 1, g, hs, hd, hn => by
    have h0 := hd.1.1
    by_cases h48 : g 89 < 48
    · obtain ⟨m, hm⟩ : ∃ m, (48 - g 89).toNat = m + 1 := ⟨(48 - g 89).toNat - 1, by omega⟩
      rw [hm, Nat.add_min_add_right, hrsG_s, hrsG_s, if_pos h48, if_pos h48]
      have b := RN_b hd hn
      have e := hourG_same hs hd
      rw [hrsG_cap (n := n) (hs.same e) (RGd_hour hs hd (by omega) h48) (RN_hour hs hd ⟨by have := hn.1; omega, hn.2⟩), (hourG_at hs hd).1]
      congr 2
      omega
    · rw [show (48 - g 89).toNat = 0 by omega, Nat.min_zero, hrsG_s, if_neg h48]
      rfl
theorem drwG_cap : ∀ {n : Nat} {g : Nat → Int} {x : Int32}, RGs g → RGd g → RN g → drwG g x n = drwG g x (min n (48 - g 89).toNat)
  | 0, g, x, hs, hd, hn => by rw [Nat.zero_min]
  | n + 1, g, x, hs, hd, hn => by
    have h0 := hd.1.1
    by_cases h48 : g 89 < 48
    · obtain ⟨m, hm⟩ : ∃ m, (48 - g 89).toNat = m + 1 := ⟨(48 - g 89).toNat - 1, by omega⟩
      rw [hm, Nat.add_min_add_right, drwG_s, drwG_s, if_pos h48, if_pos h48]
      have b := RN_b hd hn
      obtain ⟨r1, r2, r3, r4, r5⟩ := rain_ok (x := rndN x) hs hd hn h48
      have key : ∀ z : Nat → Int, SameS g z → RGd z → (z 96 ≤ z 89 + 1 ∧ z 92 ≤ z 89 + pc10 (z 99).toNat) → z 89 = g 89 → z 92 = g 92 → drwG (hourG z) (rndN x) n = drwG (hourG z) (rndN x) (min n m) := by
        intro z r1 r2 r3 r4 r5
        have zs := hs.same r1
        have e := hourG_same zs r2
        rw [drwG_cap (n := n) (x := rndN x) (zs.same e) (RGd_hour zs r2 (by omega) (by omega)) (RN_hour zs r2 r3), (hourG_at zs r2).1]
        congr 2
        omega
      exact key _ r1 r2 r3 r4 r5
    · rw [show (48 - g 89).toNat = 0 by omega, Nat.min_zero, drwG_s, if_neg h48]
      rfl
theorem RGd_posts {g : Nat → Int} {f c w : Int} (hd : RGd g) (h : 0 ≤ f ∧ 0 ≤ c ∧ f + c ≤ 60) (hw : (0 ≤ w ∧ (w < g 0 ∨ g 0 = 0 ∧ w = 0)) ∨ (10 ≤ w ∧ w < 10 + g 2)) : RGd (postsG g f c w) := by
  obtain ⟨⟨a1, a2, a3, a4, a5, a6, a7, a8, -, a9, a10, a11⟩, b1, b2, b3⟩ := hd
  have e : ∀ j, j ≠ 93 → j ≠ 94 → j ≠ 95 → postsG g f c w j = g j := fun j q1 q2 q3 => by
    unfold postsG
    rw [upf_ne q3, upf_ne q2, upf_ne q1]
  refine ⟨⟨?_, ?_, ?_, ?_, ?_, ?_, ?_, ?_, trivial, ?_, ?_, ?_⟩, fun w hw => ?_, fun k hk => ?_, fun k hk => ?_⟩
  · rw [e 89 (by omega) (by omega) (by omega)]; exact a1
  · rw [e 90 (by omega) (by omega) (by omega)]; exact a2
  · rw [e 91 (by omega) (by omega) (by omega)]; exact a3
  · exact a4
  · rw [e 92 (by omega) (by omega) (by omega)]; exact a5
  · show 0 ≤ f ∧ 0 ≤ c ∧ f + c ≤ 60
    exact h
  · exact hw
  · rw [e 96 (by omega) (by omega) (by omega)]; exact a8
  · rw [e 98 (by omega) (by omega) (by omega)]; exact a9
  · rw [e 99 (by omega) (by omega) (by omega)]; exact a10
  · rw [e 100 (by omega) (by omega) (by omega)]; exact a11
  · rw [e (101 + w) (by omega) (by omega) (by omega)]; exact b1 w hw
  · rw [e (106 + k) (by omega) (by omega) (by omega)]; exact b2 k hk
  · rw [e (112 + k) (by omega) (by omega) (by omega), e 100 (by omega) (by omega) (by omega), e 1 (by omega) (by omega) (by omega)]; exact b3 k hk
theorem RGd_quits {g : Nat → Int} {w : Nat} (hd : RGd g) (hw : w < 5) : RGd (quitsG g w) := by
  have hb := (bags_b hd).2.2.1 w hw
  obtain ⟨⟨a1, a2, a3, a4, a5, a6, a7, a8, -, a9, a10, a11⟩, b1, b2, b3⟩ := hd
  have e : ∀ j, j ≠ 91 → j ≠ 101 + w → j ≠ 98 → quitsG g w j = g j := fun j q1 q2 q3 => by
    unfold quitsG
    rw [upf_ne q3, upf_ne q2, upf_ne q1]
  have e91 : quitsG g w 91 = g 91 + g (101 + w) / 2 := by
    unfold quitsG
    rw [upf_ne (by omega), upf_ne (by omega), upf_eq]
  have ew : quitsG g w (101 + w) = 0 := by
    unfold quitsG
    rw [upf_ne (by omega), upf_eq]
  have e98 : quitsG g w 98 = (((g 98).toNat ||| 2 ^ w : Nat) : Int) := by
    unfold quitsG
    rw [upf_eq]
  have ho := or_lt32 (a := (g 98).toNat) (b := 2 ^ w) (by omega) (pow5 hw)
  refine ⟨⟨?_, ?_, ?_, ?_, ?_, ?_, ?_, ?_, trivial, ?_, ?_, ?_⟩, fun v hv => ?_, fun k hk => ?_, fun k hk => ?_⟩
  · rw [e 89 (by omega) (by omega) (by omega)]; exact a1
  · rw [e 90 (by omega) (by omega) (by omega)]; exact a2
  · rw [e91]; omega
  · unfold tot at a4 ⊢
    rw [e91, e 90 (by omega) (by omega) (by omega), e 106 (by omega) (by omega) (by omega), e 107 (by omega) (by omega) (by omega), e 108 (by omega) (by omega) (by omega), e 109 (by omega) (by omega) (by omega), e 110 (by omega) (by omega) (by omega), e 111 (by omega) (by omega) (by omega)]
    have : w = 0 ∨ w = 1 ∨ w = 2 ∨ w = 3 ∨ w = 4 := by omega
    rcases this with rfl | rfl | rfl | rfl | rfl
    · rw [e 102 (by omega) (by omega) (by omega), e 103 (by omega) (by omega) (by omega), e 104 (by omega) (by omega) (by omega), e 105 (by omega) (by omega) (by omega)]
      simp only [Nat.reduceAdd] at ew hb ⊢
      omega
    · rw [e 101 (by omega) (by omega) (by omega), e 103 (by omega) (by omega) (by omega), e 104 (by omega) (by omega) (by omega), e 105 (by omega) (by omega) (by omega)]
      simp only [Nat.reduceAdd] at ew hb ⊢
      omega
    · rw [e 101 (by omega) (by omega) (by omega), e 102 (by omega) (by omega) (by omega), e 104 (by omega) (by omega) (by omega), e 105 (by omega) (by omega) (by omega)]
      simp only [Nat.reduceAdd] at ew hb ⊢
      omega
    · rw [e 101 (by omega) (by omega) (by omega), e 102 (by omega) (by omega) (by omega), e 103 (by omega) (by omega) (by omega), e 105 (by omega) (by omega) (by omega)]
      simp only [Nat.reduceAdd] at ew hb ⊢
      omega
    · rw [e 101 (by omega) (by omega) (by omega), e 102 (by omega) (by omega) (by omega), e 103 (by omega) (by omega) (by omega), e 104 (by omega) (by omega) (by omega)]
      simp only [Nat.reduceAdd] at ew hb ⊢
      omega
  · rw [e 92 (by omega) (by omega) (by omega)]; exact a5
  · rw [e 93 (by omega) (by omega) (by omega), e 94 (by omega) (by omega) (by omega)]; exact a6
  · rw [e 95 (by omega) (by omega) (by omega), e 0 (by omega) (by omega) (by omega), e 2 (by omega) (by omega) (by omega)]; exact a7
  · rw [e 96 (by omega) (by omega) (by omega)]; exact a8
  · rw [e98]; omega
  · rw [e 99 (by omega) (by omega) (by omega)]; exact a10
  · rw [e 100 (by omega) (by omega) (by omega)]; exact a11
  · by_cases q : v = w
    · subst q
      rw [ew]
      exact Int.le_refl 0
    · rw [e (101 + v) (by omega) (by omega) (by omega)]; exact b1 v hv
  · rw [e (106 + k) (by omega) (by omega) (by omega)]; exact b2 k hk
  · rw [e (112 + k) (by omega) (by omega) (by omega), e 100 (by omega) (by omega) (by omega), e 1 (by omega) (by omega) (by omega)]; exact b3 k hk
theorem RGd_ups {g : Nat → Int} {k : Nat} (hd : RGd g) (hk : k < 10) (h : g 92 ≤ 199) : RGd (upsG g k) := by
  obtain ⟨⟨a1, a2, a3, a4, a5, a6, a7, a8, -, a9, a10, a11⟩, b1, b2, b3⟩ := hd
  have e : ∀ j, j ≠ 99 → j ≠ 92 → upsG g k j = g j := fun j q1 q2 => by
    unfold upsG
    rw [upf_ne q2, upf_ne q1]
  have ho := or_lt1024 (a := (g 99).toNat) (b := 2 ^ k) (by omega) (pow10 hk)
  refine ⟨⟨?_, ?_, ?_, ?_, ?_, ?_, ?_, ?_, trivial, ?_, ?_, ?_⟩, fun w hw => ?_, fun k hk => ?_, fun k hk => ?_⟩
  · rw [e 89 (by omega) (by omega)]; exact a1
  · rw [e 90 (by omega) (by omega)]; exact a2
  · rw [e 91 (by omega) (by omega)]; exact a3
  · exact a4
  · unfold upsG
    rw [upf_eq]
    omega
  · rw [e 93 (by omega) (by omega), e 94 (by omega) (by omega)]; exact a6
  · rw [e 95 (by omega) (by omega), e 0 (by omega) (by omega), e 2 (by omega) (by omega)]; exact a7
  · rw [e 96 (by omega) (by omega)]; exact a8
  · rw [e 98 (by omega) (by omega)]; exact a9
  · unfold upsG
    rw [upf_ne (by omega), upf_eq]
    omega
  · rw [e 100 (by omega) (by omega)]; exact a11
  · rw [e (101 + w) (by omega) (by omega)]; exact b1 w hw
  · rw [e (106 + k) (by omega) (by omega)]; exact b2 k hk
  · rw [e (112 + k) (by omega) (by omega), e 100 (by omega) (by omega), e 1 (by omega) (by omega)]; exact b3 k hk
theorem bt_orE {n k : Nat} : bt (n ||| 2 ^ k) k = 1 := by
  rw [bt_or, bt_pow, if_pos rfl, if_pos (Or.inr rfl)]
theorem bt_orN {n k j : Nat} (h : j ≠ k) : bt (n ||| 2 ^ k) j = bt n j := by
  have b := bt_lt n j
  rw [bt_or, bt_pow, if_neg h]
  by_cases q : bt n j = 1
  · rw [if_pos (Or.inl q), q]
  · rw [if_neg (by intro r; rcases r with r | r; exact q r; exact absurd r (by decide))]
    omega
theorem pc10_or {n k : Nat} (hk : k < 10) (h : ¬ bt n k = 1) : pc10 (n ||| 2 ^ k) = pc10 n + 1 := by
  have b := bt_lt n k
  have b0 : bt n k = 0 := by omega
  unfold pc10
  have : k = 0 ∨ k = 1 ∨ k = 2 ∨ k = 3 ∨ k = 4 ∨ k = 5 ∨ k = 6 ∨ k = 7 ∨ k = 8 ∨ k = 9 := by omega
  rcases this with rfl | rfl | rfl | rfl | rfl | rfl | rfl | rfl | rfl | rfl
  all_goals
    simp (disch := decide) only [bt_orE, bt_orN]
    omega
theorem RN_ups {g : Nat → Int} {k : Nat} (hd : RGd g) (hn : RN g) (hk : k < 10) (h : ¬ bt (g 99).toNat k = 1) : RN (upsG g k) := by
  have e := pc10_or hk h
  obtain ⟨h1, h2⟩ := hn
  refine ⟨h1, ?_⟩
  show g 92 + 1 ≤ g 89 + (pc10 ((((g 99).toNat ||| 2 ^ k : Nat) : Int)).toNat : Nat)
  rw [Int.toNat_natCast, e]
  omega
def keptN (b : Bool) (n : Nat) : Nat := if b then (if n < 8 then n + 1 else 8) else n
def keptU (b : Bool) (g : Nat → Int) (us : Nat → Nat → Int) : Nat → Nat → Int := if b then consU g us else us
/-- the states that are kept are in bounds -/
def UI (g : Nat → Int) (n : Nat) (us : Nat → Nat → Int) : Prop := ∀ i, i < n → RGd (mixG g (us i)) ∧ RN (mixG g (us i))
theorem mixG_o {g u : Nat → Int} : SameO g (mixG g u) := fun j hj => by
  unfold mixG
  rw [if_neg (by omega)]
theorem mixG_same {g u : Nat → Int} {j : Nat} (h : 89 ≤ j) (h2 : j < 122) : mixG g u j = u j := by
  unfold mixG
  rw [if_pos ⟨h, h2⟩]
theorem mixG_self {g : Nat → Int} : mixG g g = g := by
  funext j
  unfold mixG
  split <;> rfl
theorem mixG_mix {g g' u : Nat → Int} (h : SameO g g') : mixG g' u = mixG g u := by
  funext j
  unfold mixG
  by_cases q : 89 ≤ j ∧ j < 122
  · rw [if_pos q, if_pos q]
  · rw [if_neg q, if_neg q, h j (by omega)]
theorem UI.kept {g g' : Nat → Int} {n : Nat} {us : Nat → Nat → Int} {b : Bool} (hd : RGd g) (hn : RN g) (h : UI g n us) (e : SameO g g') : UI g' (keptN b n) (keptU b g us) := by
  intro i hi
  rw [mixG_mix e]
  unfold keptN keptU at *
  cases b with
  | false => exact h i hi
  | true =>
    match i, hi with
    | 0, _ =>
      show RGd (mixG g g) ∧ RN (mixG g g)
      rw [mixG_self]
      exact ⟨hd, hn⟩
    | i + 1, hi =>
      rw [if_pos rfl] at hi
      exact h i (by split at hi <;> omega)
theorem UI.tail {g : Nat → Int} {n : Nat} {us : Nat → Nat → Int} (h : UI g n us) (h0 : 0 < n) : UI (mixG g (us 0)) (n - 1) (tailU us) := by
  intro i hi
  rw [mixG_mix mixG_o]
  exact h (i + 1) (by omega)
theorem postsG_o {g : Nat → Int} {f c w : Int} : SameO g (postsG g f c w) := fun j hj => by
  unfold postsG
  rw [upf_ne (by omega), upf_ne (by omega), upf_ne (by omega)]
theorem quitsG_o {g : Nat → Int} {w : Nat} (hw : w < 5) : SameO g (quitsG g w) := fun j hj => by
  unfold quitsG
  rw [upf_ne (by omega), upf_ne (by omega), upf_ne (by omega)]
theorem upsG_o {g : Nat → Int} {k : Nat} : SameO g (upsG g k) := fun j hj => by
  unfold upsG
  rw [upf_ne (by omega), upf_ne (by omega)]
/-! the answers -/
def postA (g : Nat → Int) (f c w : Int) : Int := if (0 ≤ f ∧ f ≤ 60) ∧ (0 ≤ c ∧ c ≤ 60) ∧ f + c ≤ g 5 ∧ (0 ≤ w ∧ w < g 0 ∨ 10 ≤ w ∧ w < 10 + g 2) then (if g 93 = f ∧ g 94 = c ∧ g 95 = w then 1 else 0) else -1
def quitA (g : Nat → Int) (w : Int) : Int := if 0 ≤ w ∧ w < g 0 then (bt (g 98).toNat w.toNat : Int) else -1
def upA (g : Nat → Int) (k : Int) : Int := if 0 ≤ k ∧ k < g 1 then (if g (112 + k.toNat) = 0 then (if bt (g 99).toNat k.toNat = 1 then 2 else 0) else 1) else -1
def hoursA (g : Nat → Int) (n : Int) : Int := if 1 ≤ n ∧ n ≤ 24 then mnI n (48 - g 89) else -1
def whenA (g : Nat → Int) (k : Int) : Int := if (0 ≤ k ∧ k < g 1) ∧ g (112 + k.toNat) = 0 then hrsG g 48 (112 + k.toNat) - 1 else -1
def savedG (g : Nat → Int) : Int := savL (fun k => g (23 + k)) (g 100).toNat (g 99).toNat (g 1).toNat
def oddsL (g : Nat → Int) (k : Nat) (x : Int32) : Nat → Int
  | 0 => 0
  | n + 1 => oddsL g k x n + (if drwG g (x + I n) 24 (112 + k) = 0 then 0 else 1)
def oddsA (g : Nat → Int) (k n : Int) (x : Int32) : Int := if (0 ≤ k ∧ k < g 1) ∧ (1 ≤ n ∧ n ≤ 30) then oddsL g k.toNat x n.toNat else -1
def actG (b : Bool) (g' g : Nat → Int) : Nat → Int := if b then g' else g
