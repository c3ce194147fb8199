/-! ===== fractions, heights, gains ===== -/
theorem gcd_mod {x y : Nat} : Nat.gcd y (x % y) = Nat.gcd x y := by
  rw [Nat.gcd_comm x y, Nat.gcd_rec y x, Nat.gcd_comm]
theorem c_gcd {d : Nat} {M : Mm} {x y : Nat} (hx : x < 1073741824) (hy : y < 1073741824) : Ev (d + 1) 48 [.int (I x), .int (I y)] M (some (.int (I (Nat.gcd x y : Nat)))) M := by
  apply Ev.ofQ
  apply e_B_greatestCommon
  intro At step
  have fin : ∀ (a i : Nat), a < 1073741824 → i < 100 → a = Nat.gcd x y → At 7 [.retAddr 0, .retAddr 0, .int (I a), .int (I 0), .int (I i), .retAddr 0] [] M := by
    intro a i ha hi e
    apply s_B_greatestCommon_7 step
    rw [I_lt (by omega) (by omega) (by omega) (by omega)]
    exact ⟨fun _ => ⟨fun _ => ⟨by rw [e], rfl⟩, fun q => absurd rfl q⟩, fun q => absurd (by omega) q⟩
  have one : ∀ (a b i : Nat), a < 1073741824 → b < 1073741824 → 0 < b → i < 100 → At 7 [.retAddr 0, .retAddr 0, .int (I b), .int (I (a % b : Nat)), .int (I (i + 1 : Nat)), .retAddr 0] [] M → At 7 [.retAddr 0, .retAddr 0, .int (I a), .int (I b), .int (I i), .retAddr 0] [] M := by
    intro a b i ha hb hp hi nx
    apply s_B_greatestCommon_7 step
    rw [I_lt (by omega) (by omega) (by omega) (by omega), I_ne (by omega) (by omega) (by omega) (by omega), I_rem (by omega) (by omega) (by omega) (by omega), I_add]
    exact ⟨fun _ => ⟨fun q => absurd q (by omega), fun q => ⟨by omega, nx⟩⟩, fun q => absurd (by omega) q⟩
  have key : ∀ (m a b i : Nat), b < 2 ^ m → a < 1073741824 → b < 1073741824 → i + 2 * m < 99 → Nat.gcd a b = Nat.gcd x y → At 7 [.retAddr 0, .retAddr 0, .int (I a), .int (I b), .int (I i), .retAddr 0] [] M := by
    intro m
    induction m with
    | zero =>
      intro a b i h1 h2 h3 h4 h5
      have e0 : b = 0 := by
        have : 2 ^ 0 = 1 := rfl
        omega
      subst e0
      rw [Nat.gcd_zero_right] at h5
      exact fin a i h2 (by omega) h5
    | succ m ih =>
      intro a b i h1 h2 h3 h4 h5
      by_cases q : b = 0
      · subst q
        rw [Nat.gcd_zero_right] at h5
        exact fin a i h2 (by omega) h5
      · have hr : a % b < b := Nat.mod_lt _ (by omega)
        refine one a b i h2 h3 (by omega) (by omega) ?_
        rw [← gcd_mod] at h5
        by_cases q2 : a % b = 0
        · rw [q2] at h5 ⊢
          rw [Nat.gcd_zero_right] at h5
          exact fin b (i + 1) h3 (by omega) h5
        · have hr2 : b % (a % b) < a % b := Nat.mod_lt _ (by omega)
          have hdm := Nat.div_add_mod b (a % b)
          have hq1 : 1 ≤ b / (a % b) := (Nat.le_div_iff_mul_le (by omega)).mpr (by omega)
          have hm1 : (a % b) * 1 ≤ (a % b) * (b / (a % b)) := Nat.mul_le_mul_left _ hq1
          have hpow : 2 ^ (m + 1) = 2 * 2 ^ m := by rw [Nat.pow_succ, Nat.mul_comm]
          refine one b (a % b) (i + 1) h3 (by omega) (by omega) (by omega) ?_
          rw [← gcd_mod] at h5
          exact ih (a % b) (b % (a % b)) (i + 1 + 1) (by omega) (by omega) (by omega) (by omega) h5
  exact key 30 x y 0 (by omega) hx hy (by omega) rfl
def fracA (a b : Nat) (x : Int) : Int := (if x = 0 then (a : Int) else b) / (Nat.gcd a b : Int)
theorem c_fraction {d : Nat} {M : Mm} {a b : Nat} {x : Int} (ha : a < 1073741824) (hb : b < 1073741824) (hp : 0 < b) (hx : (-2147483648 ≤ x ∧ x < 2147483648)) : Ev (d + 2) 47 [.int (I a), .int (I b), .int (I x)] M (some (.int (I (fracA a b x)))) M := by
  have hg : 0 < Nat.gcd a b := Nat.gcd_pos_of_pos_right a hp
  have hg2 : Nat.gcd a b ≤ b := Nat.gcd_le_right a hp
  apply Ev.ofQ
  apply e_B_fraction
  intro At _
  refine ⟨_, _, c_gcd ha hb, ?_⟩
  unfold fracA
  generalize Nat.gcd a b = G at hg hg2 ⊢
  rw [I_ne (by omega) (by omega) (by omega) (by omega), I_ne (by omega) (by omega) (by omega) (by omega), I_div (by omega) (by omega) (by omega) (by omega), I_div (by omega) (by omega) (by omega) (by omega)]
  refine ⟨fun q => absurd q (by omega), fun q => ⟨fun q2 => ⟨by omega, by rw [if_pos q2], rfl⟩, fun q2 => ⟨by omega, by rw [if_neg q2], rfl⟩⟩⟩
theorem r_part {d : Nat} {M : Mm} {a b : Nat} {x : Int} (ha : a < 1073741824) (hb : b < 1073741824) (hp : 0 < b) (hx : (-2147483648 ≤ x ∧ x < 2147483648)) : Ev (d + 1) 62 [.int (I a), .int (I b), .int (I x)] M (some (.int (I (fracA a b x)))) M := by
  have hg : 0 < Nat.gcd a b := Nat.gcd_pos_of_pos_right a hp
  have hg2 : Nat.gcd a b ≤ b := Nat.gcd_le_right a hp
  apply Ev.ofQ
  apply e_R_part
  intro At step
  have key : ∀ (v u : Nat), u < 1073741824 → v < 1073741824 → Nat.gcd u v = Nat.gcd a b → At 5 [.int (I a), .int (I b), .int (I x), .int (I u), .int (I v), .retAddr 0] [] M := by
    intro v
    induction v using Nat.strongRecOn with
    | ind v ih =>
      intro u hu hv h
      apply s_R_part_5 step
      rw [I_ne (by omega) (by omega) (by omega) (by omega)]
      refine ⟨fun q => ?_, fun q => ?_⟩
      · have e0 : v = 0 := by omega
        subst e0
        rw [Nat.gcd_zero_right] at h
        subst h
        rw [I_ne (by omega) (by omega) (by omega) (by omega), I_ne (by omega) (by omega) (by omega) (by omega), I_div (by omega) (by omega) (by omega) (by omega), I_div (by omega) (by omega) (by omega) (by omega)]
        unfold fracA
        exact ⟨fun q2 => ⟨by omega, by rw [if_pos q2], rfl⟩, fun q2 => ⟨by omega, by rw [if_neg q2], rfl⟩⟩
      · have hr : u % v < v := Nat.mod_lt _ (by omega)
        rw [I_rem (by omega) (by omega) (by omega) (by omega)]
        rw [← gcd_mod] at h
        exact ⟨q, ih (u % v) hr v hv (by omega) h⟩
  exact key b a ha hb rfl
/-! which inches a plan may choose -/
def isCh (g : Nat → Int) (x : Nat) : Bool := decide (x = 0 ∨ ∃ k, k < (g 3).toNat ∧ g (61 + k) = (x : Int))
def hz (g : Nat → Int) : Nat → Nat × (Nat → Int)
  | 0 => (0, fun _ => 0)
  | m + 1 => if isCh g m = true then ((hz g m).1 + 1, upf (hz g m).2 (hz g m).1 (m : Int)) else hz g m
def hN (g : Nat → Int) : Nat := (hz g 61).1
def hV (g : Nat → Int) : Nat → Int := (hz g 61).2
theorem hz_cnt {g : Nat → Int} : ∀ m : Nat, (hz g m).1 = cntL (isCh g) m
  | 0 => rfl
  | m + 1 => by
    unfold hz cntL
    rw [← hz_cnt m]
    split
    · rfl
    · rfl
theorem cnt_or1 {P R : Nat → Bool} {c : Nat} (h : ∀ i, R i = true → P i = true ∨ i = c) : ∀ m : Nat, cntL R m ≤ cntL P m + (if c < m then 1 else 0)
  | 0 => by show 0 ≤ _; omega
  | m + 1 => by
    have ih := cnt_or1 h m
    unfold cntL
    by_cases y : c < m
    · rw [if_pos y] at ih
      rw [if_pos (show c < m + 1 by omega)]
      by_cases q : R m = true
      · rcases h m q with z | z
        · rw [if_pos q, if_pos z]
          omega
        · omega
      · rw [if_neg q]
        omega
    · rw [if_neg y] at ih
      by_cases y2 : c = m
      · rw [if_pos (show c < m + 1 by omega)]
        have : (if R m = true then 1 else 0) ≤ 1 := by split <;> omega
        omega
      · rw [if_neg (show ¬ c < m + 1 by omega)]
        by_cases q : R m = true
        · rcases h m q with z | z
          · rw [if_pos q, if_pos z]
            omega
          · omega
        · rw [if_neg q]
          omega
theorem cnt_no : ∀ j : Nat, cntL (fun _ => false) j = 0
  | 0 => rfl
  | j + 1 => by
    unfold cntL
    rw [cnt_no j]
    rfl
theorem cnt_ch {g : Nat → Int} (m : Nat) : ∀ n : Nat, cntL (fun x => decide (x = 0 ∨ ∃ k, k < n ∧ g (61 + k) = (x : Int))) m ≤ n + 1
  | 0 => by
    refine Nat.le_trans (cnt_or1 (P := fun _ => false) (c := 0) (fun i hi => ?_) m) ?_
    · rw [decide_eq_true_eq] at hi
      rcases hi with z | ⟨k, hk, -⟩
      · exact Or.inr z
      · exact absurd hk (by omega)
    · rw [cnt_no]
      split <;> omega
  | n + 1 => by
    have ih := cnt_ch (g := g) m n
    refine Nat.le_trans (cnt_or1 (P := fun x => decide (x = 0 ∨ ∃ k, k < n ∧ g (61 + k) = (x : Int))) (c := (g (61 + n)).toNat) (fun i hi => ?_) m) ?_
    · rw [decide_eq_true_eq] at hi
      rw [decide_eq_true_eq]
      rcases hi with z | ⟨k, hk, hg⟩
      · exact Or.inl (Or.inl z)
      · by_cases e : k = n
        · subst e
          right
          omega
        · exact Or.inl (Or.inr ⟨k, by omega, hg⟩)
    · split <;> omega
theorem hz_le {g : Nat → Int} (hs : RGs g) (m : Nat) : (hz g m).1 ≤ 7 := by
  have h3 := hs.1.2.2.2.1
  rw [hz_cnt]
  have := cnt_ch (g := g) m (g 3).toNat
  unfold isCh
  omega
theorem hz_v {g : Nat → Int} : ∀ m : Nat, m ≤ 61 → (∀ i, i < (hz g m).1 → 0 ≤ (hz g m).2 i ∧ (hz g m).2 i ≤ 60) ∧ (1 ≤ m → 1 ≤ (hz g m).1 ∧ (hz g m).2 0 = 0)
  | 0, _ => ⟨fun i hi => absurd hi (by show ¬ i < 0; omega), fun h => absurd h (by omega)⟩
  | m + 1, hm => by
    obtain ⟨h1, h2⟩ := hz_v (g := g) m (by omega)
    unfold hz
    by_cases q : isCh g m = true
    · rw [if_pos q]
      refine ⟨fun i hi => ?_, fun _ => ⟨by dsimp only; omega, ?_⟩⟩
      · dsimp only at hi ⊢
        by_cases e : i = (hz g m).1
        · rw [e, upf_eq]
          omega
        · rw [upf_ne e]
          exact h1 i (by omega)
      · dsimp only
        by_cases e : m = 0
        · subst e
          rw [show (hz g 0).1 = 0 from rfl, upf_eq]
          rfl
        · have := h2 (by omega)
          rw [upf_ne (by omega)]
          exact this.2
    · rw [if_neg q]
      refine ⟨h1, fun _ => ?_⟩
      by_cases e : m = 0
      · subst e
        exact absurd (show isCh g 0 = true by unfold isCh; simp) q
      · exact h2 (by omega)
/-- what is saved behind a wall of this height, each crest by its odds -/
def gaT (g : Nat → Int) (w h : Int) (c k : Nat) : Int := if g (13 + k) = w + 1 ∧ (g (61 + c) ≤ g (33 + k) ∨ ¬ w = -1 ∧ g (61 + c) ≤ h) then g (67 + c) * g (23 + k) else 0
def gaS (g : Nat → Int) (w h : Int) : Int := sumL (fun c => sumL (fun k => gaT g w h c k) (g 1).toNat) (g 3).toNat
theorem sumL_swap {f : Nat → Nat → Int} {n : Nat} : ∀ m : Nat, sumL (fun c => sumL (fun k => f c k) n) m = sumL (fun k => sumL (fun c => f c k) m) n
  | 0 => by
    have : ∀ j, sumL (fun _ => (0 : Int)) j = 0 := by
      intro j
      induction j with
      | zero => rfl
      | succ j ih =>
        unfold sumL
        rw [ih]
        rfl
    show (0 : Int) = sumL (fun k => (0 : Int)) n
    rw [this]
  | m + 1 => by
    show sumL (fun c => sumL (fun k => f c k) n) m + sumL (fun k => f m k) n = sumL (fun k => sumL (fun c => f c k) m + f m k) n
    rw [sumL_swap m, ← sumL_add]
theorem gaT_b {g : Nat → Int} (hs : RGs g) {w h : Int} {c k : Nat} (hc : c < 6) (hk : k < 10) : 0 ≤ gaT g w h c k ∧ gaT g w h c k ≤ 9801 := by
  have b1 := hs.2.2.1 k hk
  have b2 := hs.2.2.2.2.1 c hc
  have := mulb (a := g (67 + c)) (b := g (23 + k)) (x := 99) (y := 99) ⟨by omega, by omega⟩ ⟨by omega, by omega⟩
  unfold gaT
  split <;> omega
theorem gaS_b {g : Nat → Int} (hs : RGs g) {w h : Int} : 0 ≤ gaS g w h ∧ gaS g w h ≤ 588060 := by
  have h1 := hs.1.2.1
  have h3 := hs.1.2.2.2.1
  have inner : ∀ c, c < (g 3).toNat → 0 ≤ sumL (fun k => gaT g w h c k) (g 1).toNat ∧ sumL (fun k => gaT g w h c k) (g 1).toNat ≤ 98010 := fun c hc => by
    have := sumL_b (f := fun k => gaT g w h c k) (c := 9801) (N := (g 1).toNat) (fun k hk => gaT_b hs (by omega) (by omega)) (by decide) _ (Nat.le_refl _)
    omega
  have := sumL_b (f := fun c => sumL (fun k => gaT g w h c k) (g 1).toNat) (c := 98010) (N := (g 3).toNat) inner (by decide) _ (Nat.le_refl _)
  unfold gaS
  omega
section GAI
variable {M : Mm} {ps : Nat} {g : Nat → Int}
theorem c_gainOf {d : Nat} (hp : St ps) (hr : CSr M ps g) (hs : RGs g) {w h : Int} (hw : -1 ≤ w ∧ w ≤ 5) (hh : 0 ≤ h ∧ h ≤ 60) : Ev (d + 1) 190 [.ref ps, .int (I w), .int (I h)] M (some (.int (I (gaS g w h)))) M := by
  have h0 := hs.1.1
  have h1 := hs.1.2.1
  have h3 := hs.1.2.2.2.1
  obtain ⟨nh, hnh⟩ := Nn h1.1
  obtain ⟨nc, hnc⟩ := Nn h3.1
  have enh : (g 1).toNat = nh := by omega
  have enc : (g 3).toNat = nc := by omega
  unfold gaS
  rw [enh, enc]
  apply Ev.ofQ
  apply e_Planner_gainOf hp
  intro At step
  refine loopU (P := fun c : Nat => At 5 [.ref ps, .int (I w), .int (I h), .int (I (sumL (fun c => sumL (fun k => gaT g w h c k) nh) c)), .int (I (c : Int)), .retAddr 0, .retAddr 0, .retAddr 0] [] M) (n := nc) ?_ ?_
  · apply s_Planner_gainOf_5 hp step
    rw [hr.1.2.2.2.1, hnc, I_lt (by omega) (by omega) (by omega) (by omega)]
    exact ⟨fun q => absurd q (by omega), fun _ => ⟨rfl, rfl⟩⟩
  · intro c hc nx
    apply s_Planner_gainOf_5 hp step
    have rc := hr.2.2.2.2.1 c (by omega)
    have bc := hs.2.2.2.2.1 c (by omega)
    unfold sumL at nx
    generalize sumL (fun c => sumL (fun k => gaT g w h c k) nh) c = S at nx ⊢
    rw [hr.1.2.2.2.1, hnc, I_lt (by omega) (by omega) (by omega) (by omega), ixI (by omega) (by omega), Int.toNat_natCast, show ps + 11 + 1 = ps + 12 from rfl, rc.1]
    refine ⟨fun _ => ⟨inRI (by omega) (by omega) (by omega), ?_⟩, fun q => absurd (by omega) q⟩
    have hL := loopU (P := fun k : Nat => At 32 [.ref ps, .int (I w), .int (I h), .int (I (S + sumL (fun k => gaT g w h c k) k)), .int (I (c : Int)), .int (I (g (61 + c))), .int (I (k : Int)), .retAddr 0] [] M) (n := nh) ?_ ?_
    · have e0 : S + sumL (fun k => gaT g w h c k) 0 = S := by
        show S + 0 = S
        omega
      rw [e0] at hL
      exact hL
    · apply s_Planner_gainOf_32 hp step
      rw [hr.1.2.1, hnh, I_lt (by omega) (by omega) (by omega) (by omega)]
      simp only [I_add]
      exact ⟨fun q => absurd q (by omega), fun _ => nx⟩
    · intro k hk nx2
      apply s_Planner_gainOf_32 hp step
      have rk := hr.2.2.1 k (by omega)
      have bk := hs.2.2.1 k (by omega)
      have hi : inR (I (k : Int)) 10 := inRI (by omega) (by omega) (by omega)
      have hi2 : inR (I (c : Int)) 6 := inRI (by omega) (by omega) (by omega)
      have no : ¬ (g (13 + k) = w + 1 ∧ (g (61 + c) ≤ g (33 + k) ∨ ¬ w = -1 ∧ g (61 + c) ≤ h)) → At 32 [.ref ps, .int (I w), .int (I h), .int (I (S + sumL (fun k => gaT g w h c k) k)), .int (I (c : Int)), .int (I (g (61 + c))), .int (I ((k : Int) + 1)), .retAddr 0] [] M := by
        intro z
        unfold sumL at nx2
        have e : gaT g w h c k = 0 := if_neg z
        rw [e, Int.add_zero] at nx2
        exact nx2
      have yes : (g (13 + k) = w + 1 ∧ (g (61 + c) ≤ g (33 + k) ∨ ¬ w = -1 ∧ g (61 + c) ≤ h)) → At 32 [.ref ps, .int (I w), .int (I h), .int (I (S + sumL (fun k => gaT g w h c k) k + g (67 + c) * g (23 + k))), .int (I (c : Int)), .int (I (g (61 + c))), .int (I ((k : Int) + 1)), .retAddr 0] [] M := by
        intro z
        unfold sumL at nx2
        have e : gaT g w h c k = g (67 + c) * g (23 + k) := if_pos z
        rw [e, ← Int.add_assoc] at nx2
        exact nx2
      simp only [show ps + 11 + 2 = ps + 13 from rfl]
      rw [hr.1.2.1, hnh, I_lt (by omega) (by omega) (by omega) (by omega), ixI (by omega) (by omega), ixI (by omega) (by omega), Int.toNat_natCast, Int.toNat_natCast, rk.1, rk.2.1, rk.2.2, rc.2, I_lt (by omega) (by omega) (by omega) (by omega), I_lt (by omega) (by omega) (by omega) (by omega), I_ne (by omega) (by omega) (by omega) (by omega), I_ne (by omega) (by omega) (by omega) (by omega)]
      simp only [I_mul, I_add]
      refine ⟨fun _ => ⟨hi, fun q1 => ⟨fun q2 => ⟨hi, fun q3 => no (by omega), fun q3 => no (by omega)⟩, fun q2 => ⟨fun q3 => ⟨hi, fun q4 => no (by omega), fun q4 => no (by omega)⟩, fun q3 => ⟨hi, fun q4 => ⟨hi2, hi, yes (by omega)⟩, fun q4 => no (by omega)⟩⟩⟩, fun q1 => ⟨hi, fun q4 => ⟨hi2, hi, yes (by omega)⟩, fun q4 => no (by omega)⟩⟩, fun q => absurd (by omega) q⟩
theorem r_gainOf {d : Nat} (hm : M.1 402 = fun k => I (g k)) (hs : RGs g) {w h : Int} (hw : -1 ≤ w ∧ w ≤ 5) (hh : 0 ≤ h ∧ h ≤ 60) : Ev (d + 1) 125 [.ref 400, .int (I (w + 1)), .int (I h)] M (some (.int (I (gaS g w h)))) M := by
  have h0 := hs.1.1
  have h1 := hs.1.2.1
  have h3 := hs.1.2.2.2.1
  obtain ⟨nh, hnh⟩ := Nn h1.1
  obtain ⟨nc, hnc⟩ := Nn h3.1
  have enh : (g 1).toNat = nh := by omega
  have enc : (g 3).toNat = nc := by omega
  have e : ∀ k, M.1 402 k = I (g k) := fun k => by rw [hm]
  unfold gaS
  rw [enh, enc, sumL_swap]
  apply Ev.ofQ
  apply e_R_gainOf
  intro At step
  refine loopU (P := fun k : Nat => At 5 [.ref 400, .int (I (w + 1)), .int (I h), .int (I (sumL (fun k => sumL (fun c => gaT g w h c k) nc) k)), .int (I (k : Int)), .retAddr 0] [] M) (n := nh) ?_ ?_
  · apply s_R_gainOf_5 step
    rw [e 1, hnh, I_lt (by omega) (by omega) (by omega) (by omega)]
    exact ⟨fun q => absurd q (by omega), fun _ => ⟨rfl, rfl⟩⟩
  · intro k hk nx
    apply s_R_gainOf_5 step
    have bk := hs.2.2.1 k (by omega)
    unfold sumL at nx
    generalize sumL (fun k => sumL (fun c => gaT g w h c k) nc) k = S at nx ⊢
    simp (disch := omega) only [e, hnh, I_add, I_sub, I_mul, I_div, ixI, Int.toNat_add, Int.toNat_natCast, Int.reduceToNat, I_lt, I_ne, ite_I]
    refine ⟨fun _ => ⟨inRI (by omega) (by omega) (by omega), fun q => ?_, fun q => ?_⟩, fun q => absurd (by omega) q⟩
    · have hL := loopU (P := fun c : Nat => At 36 [.ref 400, .int (I (w + 1)), .int (I h), .int (I (S + sumL (fun c => gaT g w h c k) c)), .int (I (k : Int)), .int (I (c : Int))] [] M) (n := nc) ?_ ?_
      · have e0 : S + sumL (fun c => gaT g w h c k) 0 = S := by
          show S + 0 = S
          omega
        rw [e0] at hL
        exact hL
      · apply s_R_gainOf_36 step
        rw [e 3, hnc, I_lt (by omega) (by omega) (by omega) (by omega)]
        simp only [I_add]
        exact ⟨fun z => absurd z (by omega), fun _ => nx⟩
      · intro c hc nx2
        apply s_R_gainOf_36 step
        have bc := hs.2.2.2.2.1 c (by omega)
        have hi1 : inR (I (61 + (c : Int))) 303 := inRI (by omega) (by omega) (by omega)
        have hi2 : inR (I (33 + (k : Int))) 303 := inRI (by omega) (by omega) (by omega)
        have hi3 : inR (I (23 + (k : Int))) 303 := inRI (by omega) (by omega) (by omega)
        have hi4 : inR (I (67 + (c : Int))) 303 := inRI (by omega) (by omega) (by omega)
        have no : ¬ (g (13 + k) = w + 1 ∧ (g (61 + c) ≤ g (33 + k) ∨ ¬ w = -1 ∧ g (61 + c) ≤ h)) → At 36 [.ref 400, .int (I (w + 1)), .int (I h), .int (I (S + sumL (fun c => gaT g w h c k) c)), .int (I (k : Int)), .int (I ((c : Int) + 1))] [] M := by
          intro z
          unfold sumL at nx2
          have e : gaT g w h c k = 0 := if_neg z
          rw [e, Int.add_zero] at nx2
          exact nx2
        have yes : (g (13 + k) = w + 1 ∧ (g (61 + c) ≤ g (33 + k) ∨ ¬ w = -1 ∧ g (61 + c) ≤ h)) → At 36 [.ref 400, .int (I (w + 1)), .int (I h), .int (I (S + sumL (fun c => gaT g w h c k) c + g (23 + k) * g (67 + c))), .int (I (k : Int)), .int (I ((c : Int) + 1))] [] M := by
          intro z
          unfold sumL at nx2
          have e : gaT g w h c k = g (67 + c) * g (23 + k) := if_pos z
          rw [e, ← Int.add_assoc, Int.mul_comm (g (67 + c))] at nx2
          exact nx2
        simp (disch := omega) only [e, hnc, I_add, I_sub, I_mul, I_div, ixI, Int.toNat_add, Int.toNat_natCast, Int.reduceToNat, I_lt, I_ne, ite_I]
        refine ⟨fun _ => ⟨hi1, hi2, fun q1 => ⟨fun q2 => ⟨hi1, fun q3 => no (by omega), fun q3 => ⟨hi3, hi4, yes (by omega)⟩⟩, fun q2 => no (by omega)⟩, fun q1 => ⟨hi3, hi4, yes (by omega)⟩⟩, fun z => absurd (by omega) z⟩
    · have : ∀ m, sumL (fun c => gaT g w h c k) m = 0 := by
        intro m
        induction m with
        | zero => rfl
        | succ m ih =>
          unfold sumL
          have e : gaT g w h m k = 0 := if_neg (fun z => q z.1)
          rw [ih, e]
          rfl
      rw [this, Int.add_zero] at nx
      exact nx
end GAI
