/-! ===== what acts and hours make of the numbers ===== -/
def postsG (g : Nat → Int) (f c w : Int) : Nat → Int := upf (upf (upf g 93 f) 94 c) 95 w
def quitsG (g : Nat → Int) (w : Nat) : Nat → Int := upf (upf (upf g 91 (g 91 + g (101 + w) / 2)) (101 + w) 0) 98 (((g 98).toNat ||| 2 ^ w : Nat) : Int)
def upsG (g : Nat → Int) (k : Nat) : Nat → Int := upf (upf g 99 (((g 99).toNat ||| 2 ^ k : Nat) : Int)) 92 (g 92 + 1)
def fillG (g : Nat → Int) : Int := mnI (g 90) (g 93 / 2 * eachI g (g 92))
def opnG (g : Nat → Int) : Bool := opn (g 95) (g 0) (g 98).toNat
def carG (g : Nat → Int) : Int := if opnG g then mnI (g 91 + fillG g) (g 94 * eachI g (g 92)) else 0
def celG (g : Nat → Int) : Nat := if 10 ≤ g 95 then 96 + (g 95).toNat else 101 + (g 95).toNat
def tirG (g : Nat → Int) : Int := if 0 < g 93 + g 94 then g 92 + 1 else mxI 0 (g 92 - 2)
def workG (g : Nat → Int) : Nat → Int := upf (upf (upf (upf (upf g 90 (g 90 - fillG g)) 91 (g 91 + fillG g - carG g)) 97 (g 97 + carG g)) (celG g) (g (celG g) + carG g)) 92 (tirG g)
def fl1 (g : Nat → Int) (h : Int) (k : Nat) (z : Nat → Int) : Nat → Int :=
  if z (112 + k) = 0 ∧ floodB g (g 2).toNat (g 98).toNat k h = true then upf (upf z 100 (((z 100).toNat ||| 2 ^ k : Nat) : Int)) (112 + k) (g 89 + 1) else z
def flL (g : Nat → Int) (h : Int) : Nat → Nat → Int
  | 0 => g
  | n + 1 => fl1 g h n (flL g h n)
def tideG (g : Nat → Int) : Nat → Int := upf (flL g (river g (g 89)) (g 1).toNat) 89 (g 89 + 1)
def hourG (g : Nat → Int) : Nat → Int := tideG (workG g)
def hrsG (g : Nat → Int) : Nat → Nat → Int
  | 0 => g
  | n + 1 => if g 89 < 48 then hrsG (hourG g) n else g
def rainG (g : Nat → Int) : Nat → Int := upf g 96 (g 96 + 1)
def rndN (x : Int32) : Int32 := x * I 1103515245 + I 12345
def rndT (x : Int32) : Int32 := (x.toUInt32 >>> ((I 8).toUInt32 &&& Int32.toUInt32 31)).toInt32 - (x.toUInt32 >>> ((I 8).toUInt32 &&& Int32.toUInt32 31)).toInt32 / I 6 * I 6
def drwG (g : Nat → Int) (x : Int32) : Nat → Nat → Int
  | 0 => g
  | n + 1 => if g 89 < 48 then drwG (hourG (if rndT (rndN x) = I 0 then rainG g else g)) (rndN x) n else g
theorem upf_at {α : Type} {f : Nat → α} {k j : Nat} {v : α} : upf f k v j = if j = k then v else f j := rfl
theorem pow5 {w : Nat} (h : w < 5) : 2 ^ w < 32 := by
  have : w = 0 ∨ w = 1 ∨ w = 2 ∨ w = 3 ∨ w = 4 := by omega
  rcases this with rfl | rfl | rfl | rfl | rfl <;> decide
theorem pow10 {w : Nat} (h : w < 10) : 2 ^ w < 1024 := by
  have h1 : 2 ^ w ≤ 2 ^ 9 := Nat.pow_le_pow_right (by decide) (by omega)
  have e : (2 : Nat) ^ 9 = 512 := by decide
  omega
theorem or_lt1024 {a b : Nat} (h1 : a < 1024) (h2 : b < 1024) : a ||| b < 1024 := Nat.or_lt_two_pow (n := 10) h1 h2
theorem or_lt32 {a b : Nat} (h1 : a < 32) (h2 : b < 32) : a ||| b < 32 := Nat.or_lt_two_pow (n := 5) h1 h2
/-- the numbers of the STREET alone -/
def SameS (g g' : Nat → Int) : Prop := ∀ j, j < 89 → g' j = g j
theorem RGs.same {g g' : Nat → Int} (h : RGs g) (e : SameS g g') : RGs g' := by
  unfold RGs at h ⊢
  obtain ⟨a, b, c, dd, f, i, j, k⟩ := h
  refine ⟨?_, ?_, ?_, ?_, ?_, ?_, ?_, ?_⟩
  · rw [e 0 (by omega), e 1 (by omega), e 2 (by omega), e 3 (by omega), e 4 (by omega), e 5 (by omega), e 6 (by omega), e 7 (by omega)]
    exact a
  · intro w hw
    rw [e (8 + w) (by omega), e 0 (by omega)]
    exact b w hw
  · intro w hw
    rw [e (13 + w) (by omega), e 0 (by omega), e (23 + w) (by omega), e (33 + w) (by omega), e 1 (by omega)]
    exact c w hw
  · intro w hw
    rw [e (43 + w) (by omega), e (49 + w) (by omega), e (55 + w) (by omega), e 0 (by omega), e 2 (by omega)]
    exact dd w hw
  · intro w hw
    rw [e (61 + w) (by omega), e (67 + w) (by omega), e 3 (by omega)]
    exact f w hw
  · intro w hw
    rw [e (73 + w) (by omega), e (81 + w) (by omega)]
    exact i w hw
  · intro u w hu hw he
    have := a.2.2.2.1
    rw [e 3 (by omega)] at hu hw
    rw [e (61 + u) (by omega), e (61 + w) (by omega)] at he
    exact j u w hu hw he
  · intro u w hu hw he
    have := a.2.2.2.2.1
    rw [e 4 (by omega)] at hu hw
    rw [e (73 + u) (by omega), e (73 + w) (by omega)] at he
    exact k u w hu hw he
theorem CSr.same {M : Mm} {p : Nat} {g g' : Nat → Int} (hs : RGs g) (h : CSr M p g) (e : SameS g g') : CSr M p g' := by
  unfold CSr at h ⊢
  have a := hs.1
  rw [e 0 (by omega), e 1 (by omega), e 2 (by omega), e 3 (by omega), e 4 (by omega), e 5 (by omega), e 6 (by omega), e 7 (by omega)]
  refine ⟨h.1, fun w hw => ?_, fun w hw => ?_, fun w hw => ?_, fun w hw => ?_, fun w hw => ?_⟩
  · rw [e (8 + w) (by omega)]
    exact h.2.1 w hw
  · rw [e (13 + w) (by omega), e (23 + w) (by omega), e (33 + w) (by omega)]
    exact h.2.2.1 w hw
  · rw [e (43 + w) (by omega), e (49 + w) (by omega), e (55 + w) (by omega)]
    exact h.2.2.2.1 w hw
  · rw [e (61 + w) (by omega), e (67 + w) (by omega)]
    exact h.2.2.2.2.1 w hw
  · rw [e (73 + w) (by omega), e (81 + w) (by omega)]
    exact h.2.2.2.2.2 w hw
theorem mnI_b {a b : Int} (ha : 0 ≤ a) (hb : 0 ≤ b) : 0 ≤ mnI a b ∧ mnI a b ≤ a ∧ mnI a b ≤ b := by
  unfold mnI
  split <;> omega
theorem eachI_b {g : Nat → Int} (hs : RGs g) {t : Int} (ht : 0 ≤ t) : 1 ≤ eachI g t ∧ eachI g t ≤ 20 := by
  have h7 := hs.1.2.2.2.2.2.2.2
  unfold eachI mxI
  split <;> omega
theorem mulb {a b : Int} {x y : Int} (h1 : 0 ≤ a ∧ a ≤ x) (h2 : 0 ≤ b ∧ b ≤ y) : 0 ≤ a * b ∧ a * b ≤ x * y :=
  ⟨Int.mul_nonneg h1.1 h2.1, Int.mul_le_mul h1.2 h2.2 h2.1 (by omega)⟩
theorem fillG_b {g : Nat → Int} (hs : RGs g) (hd : RGd g) : 0 ≤ fillG g ∧ fillG g ≤ g 90 ∧ fillG g ≤ g 93 / 2 * eachI g (g 92) ∧ (0 ≤ g 93 / 2 * eachI g (g 92) ∧ g 93 / 2 * eachI g (g 92) ≤ 600) := by
  obtain ⟨⟨-, h90, -, -, h92, h93, -⟩, -⟩ := hd
  have e := eachI_b hs h92.1
  have m := mulb (a := g 93 / 2) (b := eachI g (g 92)) (x := 30) (y := 20) ⟨by omega, by omega⟩ ⟨by omega, e.2⟩
  have q := mnI_b h90 m.1
  unfold fillG
  omega
theorem carG_b {g : Nat → Int} (hs : RGs g) (hd : RGd g) : 0 ≤ carG g ∧ carG g ≤ g 91 + fillG g ∧ (0 ≤ g 94 * eachI g (g 92) ∧ g 94 * eachI g (g 92) ≤ 1200) := by
  have hf := fillG_b hs hd
  obtain ⟨⟨-, h90, h91, -, h92, h93, -⟩, -⟩ := hd
  have e := eachI_b hs h92.1
  have m := mulb (a := g 94) (b := eachI g (g 92)) (x := 60) (y := 20) ⟨by omega, by omega⟩ ⟨by omega, e.2⟩
  have q := mnI_b (a := g 91 + fillG g) (by omega) m.1
  unfold carG
  split <;> omega
theorem tirG_b {g : Nat → Int} (hd : RGd g) : 0 ≤ tirG g ∧ tirG g ≤ g 92 + 1 := by
  obtain ⟨⟨-, h90, h91, -, h92, h93, -⟩, -⟩ := hd
  unfold tirG mxI
  split
  · omega
  · split <;> omega
theorem celG_b {g : Nat → Int} (hs : RGs g) (hd : RGd g) : 101 ≤ celG g ∧ celG g ≤ 111 ∧ (10 ≤ g 95 → celG g = 96 + (g 95).toNat) ∧ (¬ 10 ≤ g 95 → celG g = 101 + (g 95).toNat ∧ (g 95).toNat < 5) := by
  have h0 := hs.1.1
  have h2 := hs.1.2.2.1
  have hw := hd.1.2.2.2.2.2.2.1
  unfold celG
  split <;> omega
theorem workG_same {g : Nat → Int} (hs : RGs g) (hd : RGd g) : SameS g (workG g) := by
  have hc := celG_b hs hd
  intro j hj
  unfold workG
  rw [upf_ne (by omega), upf_ne (by omega), upf_ne (by omega), upf_ne (by omega), upf_ne (by omega)]
theorem workG_at {g : Nat → Int} (hs : RGs g) (hd : RGd g) : workG g 89 = g 89 ∧ workG g 90 = g 90 - fillG g ∧ workG g 91 = g 91 + fillG g - carG g ∧ workG g 92 = tirG g ∧ workG g 93 = g 93 ∧ workG g 94 = g 94 ∧ workG g 95 = g 95 ∧ workG g 96 = g 96 ∧ workG g 97 = g 97 + carG g ∧ workG g 98 = g 98 ∧ workG g 99 = g 99 ∧ workG g 100 = g 100 ∧ (∀ j, 101 ≤ j → j ≤ 111 → workG g j = if j = celG g then g j + carG g else g j) ∧ (∀ j, 112 ≤ j → workG g j = g j) := by
  have hc := celG_b hs hd
  unfold workG
  refine ⟨?_, ?_, ?_, ?_, ?_, ?_, ?_, ?_, ?_, ?_, ?_, ?_, fun j h1 h2 => ?_, fun j h1 => ?_⟩
  rotate_left 12
  · by_cases q : j = celG g
    · subst q
      rw [upf_ne (by omega), upf_eq, if_pos rfl]
    · rw [if_neg q]
      simp (disch := omega) only [upf_ne]
  · simp (disch := omega) only [upf_ne]
  all_goals simp (disch := omega) only [upf_ne, upf_eq]
theorem RGd_work {g : Nat → Int} (hs : RGs g) (hd : RGd g) (ht : g 92 ≤ 199) : RGd (workG g) := by
  have hc := celG_b hs hd
  have hf := fillG_b hs hd
  have hca := carG_b hs hd
  have hti := tirG_b hd
  obtain ⟨w89, w90, w91, w92, w93, w94, w95, w96, -, w98, w99, w100, wb, wh⟩ := workG_at hs hd
  have ws := workG_same hs hd
  obtain ⟨⟨a1, a2, a3, a4, a5, a6, a7, a8, -, a9, a10, a11⟩, b1, b2, b3⟩ := hd
  refine ⟨⟨?_, ?_, ?_, ?_, ?_, ?_, ?_, ?_, trivial, ?_, ?_, ?_⟩, fun w hw => ?_, fun k hk => ?_, fun k hk => ?_⟩
  · rw [w89]; exact a1
  · rw [w90]; omega
  · rw [w91]; omega
  · unfold tot at a4 ⊢
    rw [w90, w91, wb 101 (by omega) (by omega), wb 102 (by omega) (by omega), wb 103 (by omega) (by omega), wb 104 (by omega) (by omega), wb 105 (by omega) (by omega), wb 106 (by omega) (by omega), wb 107 (by omega) (by omega), wb 108 (by omega) (by omega), wb 109 (by omega) (by omega), wb 110 (by omega) (by omega), wb 111 (by omega) (by omega)]
    have : celG g = 101 ∨ celG g = 102 ∨ celG g = 103 ∨ celG g = 104 ∨ celG g = 105 ∨ celG g = 106 ∨ celG g = 107 ∨ celG g = 108 ∨ celG g = 109 ∨ celG g = 110 ∨ celG g = 111 := by omega
    rcases this with e | e | e | e | e | e | e | e | e | e | e <;> (rw [e]; simp; omega)
  · rw [w92]; omega
  · rw [w93, w94]; exact a6
  · rw [w95, ws 0 (by omega), ws 2 (by omega)]; exact a7
  · rw [w96]; exact a8
  · rw [w98]; exact a9
  · rw [w99]; exact a10
  · rw [w100]; exact a11
  · have := b1 w hw
    rw [wb _ (by omega) (by omega)]
    split <;> omega
  · have := b2 k hk
    rw [wb _ (by omega) (by omega)]
    split <;> omega
  · rw [wh _ (by omega), w100, ws 1 (by omega)]
    exact b3 k hk
theorem flL_at {g : Nat → Int} {h : Int} : ∀ (n : Nat) (j : Nat), j ≠ 100 → (j < 112 ∨ 112 + n ≤ j) → flL g h n j = g j
  | 0, j, _, _ => rfl
  | n + 1, j, h1, h2 => by
    unfold flL fl1
    split
    · rw [upf_ne (by omega), upf_ne h1]
      exact flL_at n j h1 (by omega)
    · exact flL_at n j h1 (by omega)
theorem RGd_flood {z : Nat → Int} {n : Nat} {v : Int} (hz : RGd z) (hn : n < 10) (h1 : (n : Int) < z 1) (hv : 1 ≤ v ∧ v ≤ 48) : RGd (upf (upf z 100 (((z 100).toNat ||| 2 ^ n : Nat) : Int)) (112 + n) v) := by
  obtain ⟨⟨a1, a2, a3, a4, a5, a6, a7, a8, -, a9, a10, a11⟩, b1, b2, b3⟩ := hz
  have hp := pow10 hn
  have ho := or_lt1024 (a := (z 100).toNat) (b := 2 ^ n) (by omega) hp
  have e : ∀ j, j ≠ 100 → j ≠ 112 + n → upf (upf z 100 (((z 100).toNat ||| 2 ^ n : Nat) : Int)) (112 + n) v j = z j := fun j q1 q2 => by rw [upf_ne q2, upf_ne q1]
  have e100 : upf (upf z 100 (((z 100).toNat ||| 2 ^ n : Nat) : Int)) (112 + n) v 100 = (((z 100).toNat ||| 2 ^ n : Nat) : Int) := by rw [upf_ne (by omega), upf_eq]
  unfold RGd
  refine ⟨⟨?_, ?_, ?_, ?_, ?_, ?_, ?_, ?_, trivial, ?_, ?_, ?_⟩, fun w hw => ?_, fun k hk => ?_, fun k hk => ?_⟩
  · rw [e 89 (by omega) (by omega)]; exact a1
  · rw [e 90 (by omega) (by omega)]; exact a2
  · rw [e 91 (by omega) (by omega)]; exact a3
  · unfold tot at a4 ⊢
    rw [e 90 (by omega) (by omega), e 91 (by omega) (by omega), e 101 (by omega) (by omega), e 102 (by omega) (by omega), e 103 (by omega) (by omega), e 104 (by omega) (by omega), e 105 (by omega) (by omega), e 106 (by omega) (by omega), e 107 (by omega) (by omega), e 108 (by omega) (by omega), e 109 (by omega) (by omega), e 110 (by omega) (by omega), e 111 (by omega) (by omega)]
    exact a4
  · rw [e 92 (by omega) (by omega)]; exact a5
  · rw [e 93 (by omega) (by omega), e 94 (by omega) (by omega)]; exact a6
  · rw [e 95 (by omega) (by omega), e 0 (by omega) (by omega), e 2 (by omega) (by omega)]; exact a7
  · rw [e 96 (by omega) (by omega)]; exact a8
  · rw [e 98 (by omega) (by omega)]; exact a9
  · rw [e 99 (by omega) (by omega)]; exact a10
  · rw [e100]
    omega
  · rw [e (101 + w) (by omega) (by omega)]; exact b1 w hw
  · rw [e (106 + k) (by omega) (by omega)]; exact b2 k hk
  · have b := b3 k hk
    rw [e100, e 1 (by omega) (by omega), Int.toNat_natCast, bt_or, bt_pow]
    by_cases q : k = n
    · subst q
      rw [upf_eq, if_pos rfl, if_pos (Or.inr rfl)]
      omega
    · rw [e (112 + k) (by omega) (by omega)]
      by_cases q2 : bt (z 100).toNat k = 1
      · rw [if_pos (Or.inl q2)]
        exact ⟨b.1, b.2.1, ⟨fun _ => b.2.2.1.mp q2, fun _ => rfl⟩, b.2.2.2⟩
      · rw [if_neg (show ¬ (bt (z 100).toNat k = 1 ∨ (if k = n then 1 else 0) = 1) by rw [if_neg q]; intro r; rcases r with r | r; exact q2 r; exact absurd r (by decide))]
        exact ⟨b.1, b.2.1, ⟨fun r => absurd r (by decide), fun r => absurd (b.2.2.1.mpr r) q2⟩, b.2.2.2⟩
theorem flL_RGd {g : Nat → Int} {h : Int} (hs : RGs g) (hd : RGd g) (h48 : g 89 < 48) : ∀ n : Nat, n ≤ (g 1).toNat → RGd (flL g h n)
  | 0, _ => hd
  | n + 1, hn => by
    have ih := flL_RGd (h := h) hs hd h48 n (by omega)
    have h10 := hs.1.2.1
    have h89 := hd.1.1
    have e1 := flL_at (g := g) (h := h) n 1 (by decide) (Or.inl (by decide))
    unfold flL fl1
    split
    · exact RGd_flood ih (by omega) (by omega) (by omega)
    · exact ih
theorem RGd_set89 {z : Nat → Int} {v : Int} (hz : RGd z) (hv : 0 ≤ v ∧ v ≤ 48) : RGd (upf z 89 v) := by
  obtain ⟨⟨a1, a2, a3, a4, a5, a6, a7, a8, -, a9, a10, a11⟩, b1, b2, b3⟩ := hz
  refine ⟨⟨?_, a2, a3, a4, a5, a6, a7, a8, trivial, a9, a10, a11⟩, fun w hw => ?_, fun k hk => ?_, fun k hk => ?_⟩
  · rw [upf_eq]; exact hv
  · rw [upf_ne (by omega)]
    exact b1 w hw
  · rw [upf_ne (by omega)]
    exact b2 k hk
  · rw [upf_ne (by omega), upf_ne (by omega), upf_ne (by omega)]
    exact b3 k hk
theorem RGd_tide {g : Nat → Int} (hs : RGs g) (hd : RGd g) (h48 : g 89 < 48) : RGd (tideG g) := by
  have h0 := hd.1.1
  exact RGd_set89 (flL_RGd (h := river g (g 89)) hs hd h48 _ (Nat.le_refl _)) (by omega)
theorem tideG_at {g : Nat → Int} : tideG g 89 = g 89 + 1 ∧ (∀ j, j ≠ 89 → j ≠ 100 → j < 112 → tideG g j = g j) := by
  unfold tideG
  exact ⟨upf_eq, fun j h1 h2 h3 => by rw [upf_ne h1, flL_at _ _ h2 (Or.inl h3)]⟩
theorem tideG_same {g : Nat → Int} : SameS g (tideG g) := fun j hj => tideG_at.2 j (by omega) (by omega) (by omega)
theorem hourG_same {g : Nat → Int} (hs : RGs g) (hd : RGd g) : SameS g (hourG g) := fun j hj => (tideG_same j hj).trans (workG_same hs hd j hj)
theorem RGd_hour {g : Nat → Int} (hs : RGs g) (hd : RGd g) (ht : g 92 ≤ 199) (h48 : g 89 < 48) : RGd (hourG g) := by
  have w := workG_at hs hd
  exact RGd_tide (hs.same (workG_same hs hd)) (RGd_work hs hd ht) (by rw [w.1]; exact h48)
theorem hourG_at {g : Nat → Int} (hs : RGs g) (hd : RGd g) : hourG g 89 = g 89 + 1 ∧ hourG g 92 = tirG g ∧ hourG g 96 = g 96 ∧ hourG g 99 = g 99 ∧ hourG g 98 = g 98 := by
  obtain ⟨w89, w90, w91, w92, w93, w94, w95, w96, -, w98, w99, -⟩ := workG_at hs hd
  have t := tideG_at (g := workG g)
  unfold hourG
  exact ⟨by rw [t.1, w89], by rw [t.2 92 (by decide) (by decide) (by decide), w92], by rw [t.2 96 (by decide) (by decide) (by decide), w96], by rw [t.2 99 (by decide) (by decide) (by decide), w99], by rw [t.2 98 (by decide) (by decide) (by decide), w98]⟩
theorem RN_b {g : Nat → Int} (hd : RGd g) (hn : RN g) : g 92 ≤ 58 := by
  have h1 := pc10_b (g 99).toNat
  have h2 := hd.1.1
  have h3 := hn.2
  omega
theorem RN_hour {g : Nat → Int} (hs : RGs g) (hd : RGd g) (hn : g 96 ≤ g 89 + 1 ∧ g 92 ≤ g 89 + pc10 (g 99).toNat) : RN (hourG g) := by
  obtain ⟨h1, h2, h3, h4, -⟩ := hourG_at hs hd
  have := tirG_b hd
  unfold RN
  rw [h1, h2, h3, h4]
  omega
theorem hrsG_ok : ∀ {n : Nat} {g : Nat → Int}, RGs g → RGd g → RN g → SameS g (hrsG g n) ∧ RGd (hrsG g n) ∧ RN (hrsG g n)
  | 0, g, hs, hd, hn => ⟨fun _ _ => rfl, hd, hn⟩
  | n + 1, g, hs, hd, hn => by
    unfold hrsG
    split
    · rename_i h48
      have b := RN_b hd hn
      have e := hourG_same hs hd
      obtain ⟨i1, i2, i3⟩ := hrsG_ok (n := n) (hs.same e) (RGd_hour hs hd (by omega) h48) (RN_hour hs hd ⟨by have := hn.1; omega, hn.2⟩)
      exact ⟨fun j hj => (i1 j hj).trans (e j hj), i2, i3⟩
    · exact ⟨fun _ _ => rfl, hd, hn⟩
theorem rainG_same {g : Nat → Int} : SameS g (rainG g) := fun j hj => upf_ne (by omega)
theorem RGd_rain {g : Nat → Int} (hd : RGd g) (h : g 96 ≤ 48) : RGd (rainG g) := by
  unfold rainG
  obtain ⟨⟨a1, a2, a3, a4, a5, a6, a7, a8, -, a9, a10, a11⟩, b1, b2, b3⟩ := hd
  refine ⟨⟨a1, a2, a3, a4, a5, a6, a7, ?_, trivial, a9, a10, a11⟩, fun w hw => ?_, fun k hk => ?_, fun k hk => ?_⟩
  · rw [upf_eq]; omega
  · rw [upf_ne (by omega)]
    exact b1 w hw
  · rw [upf_ne (by omega)]
    exact b2 k hk
  · rw [upf_ne (by omega), upf_ne (by omega), upf_ne (by omega)]
    exact b3 k hk
theorem rain_ok {g : Nat → Int} {x : Int32} (hs : RGs g) (hd : RGd g) (hn : RN g) (h48 : g 89 < 48) : SameS g (if rndT x = I 0 then rainG g else g) ∧ RGd (if rndT x = I 0 then rainG g else g) ∧ ((if rndT x = I 0 then rainG g else g) 96 ≤ (if rndT x = I 0 then rainG g else g) 89 + 1 ∧ (if rndT x = I 0 then rainG g else g) 92 ≤ (if rndT x = I 0 then rainG g else g) 89 + pc10 ((if rndT x = I 0 then rainG g else g) 99).toNat) ∧ (if rndT x = I 0 then rainG g else g) 89 = g 89 ∧ (if rndT x = I 0 then rainG g else g) 92 = g 92 := by
  have h1 := hn.1
  have h2 := hn.2
  split
  · refine ⟨rainG_same, RGd_rain hd (by omega), ?_, rfl, rfl⟩
    show (g 96 + 1 : Int) ≤ g 89 + 1 ∧ g 92 ≤ g 89 + pc10 (g 99).toNat
    omega
  · exact ⟨fun _ _ => rfl, hd, ⟨by omega, h2⟩, rfl, rfl⟩
theorem drwG_ok : ∀ {n : Nat} {g : Nat → Int} {x : Int32}, RGs g → RGd g → RN g → SameS g (drwG g x n) ∧ RGd (drwG g x n) ∧ RN (drwG g x n)
  | 0, g, x, hs, hd, hn => ⟨fun _ _ => rfl, hd, hn⟩
  | n + 1, g, x, hs, hd, hn => by
    unfold drwG
    split
    · rename_i h48
      have b := RN_b hd hn
      obtain ⟨r1, r2, r3, r4, r5⟩ := rain_ok (x := rndN x) hs hd hn h48
      have key : ∀ z : Nat → Int, SameS g z → RGd z → (z 96 ≤ z 89 + 1 ∧ z 92 ≤ z 89 + pc10 (z 99).toNat) → z 89 = g 89 → z 92 = g 92 → SameS g (drwG (hourG z) (rndN x) n) ∧ RGd (drwG (hourG z) (rndN x) n) ∧ RN (drwG (hourG z) (rndN x) n) := by
        intro z r1 r2 r3 r4 r5
        have zs := hs.same r1
        have e := hourG_same zs r2
        obtain ⟨i1, i2, i3⟩ := drwG_ok (n := n) (x := rndN x) (zs.same e) (RGd_hour zs r2 (by omega) (by omega)) (RN_hour zs r2 r3)
        exact ⟨fun j hj => ((i1 j hj).trans (e j hj)).trans (r1 j hj), i2, i3⟩
      exact key _ r1 r2 r3 r4 r5
    · exact ⟨fun _ _ => rfl, hd, hn⟩
theorem hrsG_s {g : Nat → Int} {n : Nat} : hrsG g (n + 1) = if g 89 < 48 then hrsG (hourG g) n else g := rfl
theorem drwG_s {g : Nat → Int} {x : Int32} {n : Nat} : drwG g x (n + 1) = if g 89 < 48 then drwG (hourG (if rndT (rndN x) = I 0 then rainG g else g)) (rndN x) n else g := rfl
theorem flL_s {g : Nat → Int} {h : Int} {n : Nat} : flL g h (n + 1) = fl1 g h n (flL g h n) := rfl
