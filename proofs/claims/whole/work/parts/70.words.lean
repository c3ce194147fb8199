/-! ===== words and names ===== -/
def wl : Nat → List Nat
  | 0 => [23, 1, 12, 12]
  | 1 => [8, 15, 21, 19, 5]
  | 2 => [15, 21, 20, 19, 9, 4, 5]
  | 3 => [4, 18, 1, 9, 14]
  | 4 => [3, 18, 5, 19, 20]
  | 5 => [7, 1, 21, 7, 5]
  | 6 => [16, 5, 15, 16, 12, 5]
  | 7 => [19, 1, 14, 4]
  | 8 => [18, 1, 20, 5]
  | 9 => [16, 15, 19, 20]
  | 10 => [17, 21, 9, 20]
  | 11 => [21, 16]
  | 12 => [8, 15, 21, 18]
  | 13 => [15, 18]
  | 14 => [1, 14, 4]
  | 15 => [14, 15, 20]
  | 16 => [6, 12, 15, 15, 4, 5, 4]
  | 17 => [21, 16, 16, 5, 4]
  | 18 => [19, 1, 6, 5]
  | 19 => [2, 5, 8, 9, 14, 4]
  | 20 => [23, 15, 18, 20, 8]
  | 21 => [6, 12, 15, 15, 18]
  | 22 => [14, 21, 13, 2, 5, 18]
  | _ => []
def wxs (l : List Nat) : Nat → Nat → Nat
  | 0, _ => 23
  | f + 1, k => if wl k = l then k else wxs l f (k + 1)
def wix (l : List Nat) : Nat := wxs l 23 0
theorem wxs_s {l : List Nat} {f k : Nat} : wxs l (f + 1) k = if wl k = l then k else wxs l f (k + 1) := rfl
theorem wxs_sp {l : List Nat} : ∀ f k : Nat, k + f = 23 → (wxs l f k = 23 ∧ ∀ i, k ≤ i → i < 23 → wl i ≠ l) ∨ (k ≤ wxs l f k ∧ wxs l f k < 23 ∧ wl (wxs l f k) = l)
  | 0, k, h => Or.inl ⟨rfl, fun i h1 h2 => absurd h2 (by omega)⟩
  | f + 1, k, h => by
    rw [wxs_s]
    by_cases e : wl k = l
    · rw [if_pos e]
      exact Or.inr ⟨Nat.le_refl _, by omega, e⟩
    · rw [if_neg e]
      rcases wxs_sp (l := l) f (k + 1) (by omega) with ⟨a1, a2⟩ | ⟨a1, a2, a3⟩
      · refine Or.inl ⟨a1, fun i h1 h2 => ?_⟩
        by_cases z : i = k
        · rw [z]
          exact e
        · exact a2 i (by omega) h2
      · exact Or.inr ⟨by omega, a2, a3⟩
theorem wl_inj : ∀ i : Nat, i < 23 → ∀ j : Nat, j < 23 → wl i = wl j → i = j := by decide +kernel
theorem wix_b (l : List Nat) : wix l ≤ 23 := by
  rcases wxs_sp (l := l) 23 0 rfl with ⟨a1, _⟩ | ⟨_, a2, _⟩
  · exact Nat.le_of_eq a1
  · exact Nat.le_of_lt a2
theorem wix_e {l : List Nat} {k : Nat} (hk : k < 23) : wix l = k ↔ l = wl k := by
  rcases wxs_sp (l := l) 23 0 rfl with ⟨a1, a2⟩ | ⟨_, a2, a3⟩
  · constructor
    · intro h
      have : wix l = 23 := a1
      omega
    · intro h
      exact absurd h.symm (a2 k (by omega) hk)
  · constructor
    · intro h
      rw [← h]
      exact a3.symm
    · intro h
      exact wl_inj _ a2 k hk (a3.trans h)
theorem wl_ok : ∀ i : Nat, i < 23 → (1 ≤ (wl i).length ∧ (wl i).length ≤ 7 ∧ ∀ x, x ∈ wl i → 1 ≤ x ∧ x ≤ 26) := by decide +kernel
theorem pk_wl : ∀ k : Nat, k < 23 → pkTab k = J (nmC (wl k)) := by decide +kernel
def vB (B : Nat) (c : Nat → Nat) : List Nat → Nat
  | [] => 0
  | x :: r => vB B c r * B + c x
theorem dmB {a c a' c' B : Nat} (h : a * B + c = a' * B + c') (h1 : c < B) (h2 : c' < B) : a = a' ∧ c = c' := by
  have e : ∀ a c : Nat, c < B → (a * B + c) / B = a := fun a c q => by
    rw [Nat.mul_comm, Nat.mul_add_div (by omega), Nat.div_eq_of_lt q, Nat.add_zero]
  have e1 := e a c h1
  have e2 := e a' c' h2
  rw [h, e2] at e1
  subst e1
  exact ⟨rfl, by omega⟩
theorem vB_inj {B : Nat} {c : Nat → Nat} (hc : ∀ x, 1 ≤ x → x ≤ 26 → 1 ≤ c x ∧ c x < B) (ci : ∀ x y, c x = c y → x = y) : ∀ r r' : List Nat, (∀ x, x ∈ r → 1 ≤ x ∧ x ≤ 26) → (∀ x, x ∈ r' → 1 ≤ x ∧ x ≤ 26) → vB B c r = vB B c r' → r = r'
  | [], [], _, _, _ => rfl
  | [], y :: r', _, h2, h => by
    have hy := h2 y (List.mem_cons_self ..)
    have := hc y hy.1 hy.2
    have e : 0 = vB B c r' * B + c y := h
    omega
  | x :: r, [], h1, _, h => by
    have hx := h1 x (List.mem_cons_self ..)
    have := hc x hx.1 hx.2
    have e : vB B c r * B + c x = 0 := h
    omega
  | x :: r, y :: r', h1, h2, h => by
    have hx := h1 x (List.mem_cons_self ..)
    have hy := h2 y (List.mem_cons_self ..)
    have e : vB B c r * B + c x = vB B c r' * B + c y := h
    obtain ⟨e1, e2⟩ := dmB e (hc x hx.1 hx.2).2 (hc y hy.1 hy.2).2
    rw [ci x y e2, vB_inj hc ci r r' (fun z hz => h1 z (List.mem_cons_of_mem _ hz)) (fun z hz => h2 z (List.mem_cons_of_mem _ hz)) e1]
theorem vB_b {B : Nat} {c : Nat → Nat} (hB : 0 < B) (hc : ∀ x, 1 ≤ x → x ≤ 26 → 1 ≤ c x ∧ c x < B) : ∀ r : List Nat, (∀ x, x ∈ r → 1 ≤ x ∧ x ≤ 26) → vB B c r < B ^ r.length
  | [], _ => Nat.pow_pos (n := 0) hB
  | x :: r, h => by
    have hx := h x (List.mem_cons_self ..)
    have hcx := (hc x hx.1 hx.2).2
    have ih := vB_b hB hc r fun z hz => h z (List.mem_cons_of_mem _ hz)
    have hm := Nat.mul_le_mul_right B (show vB B c r + 1 ≤ B ^ r.length from ih)
    rw [Nat.succ_mul] at hm
    show vB B c r * B + c x < B ^ (r.length + 1)
    rw [Nat.pow_succ]
    omega
theorem nmC_v : ∀ r : List Nat, nmC r.reverse = vB 27 (fun x => x) r
  | [] => rfl
  | x :: r => by
    rw [List.reverse_cons, nmC_s, nmC_v r]
    rfl
theorem nmR_v : ∀ r : List Nat, nmR r.reverse = vB 256 (fun x => 96 + x) r
  | [] => rfl
  | x :: r => by
    rw [List.reverse_cons, nmR_s, nmR_v r]
    rfl
theorem J_inj {a c : Nat} (h1 : a < 9223372036854775808) (h2 : c < 9223372036854775808) (h : J a = J c) : a = c := by
  have e : ∀ z : Nat, z < 9223372036854775808 → (J z).toInt = z := fun z hz => by
    show (Int64.ofInt (z : Int)).toInt = z
    rw [Int64.toInt_ofInt]
    have hs : Int64.size = 18446744073709551616 := rfl
    exact Int.bmod_eq_of_le (by omega) (by omega)
  have := congrArg Int64.toInt h
  rw [e a h1, e c h2] at this
  omega
theorem nm_pow {B k : Nat} (hB : 0 < B) (hk : k ≤ 7) : B ^ k ≤ B ^ 7 := Nat.pow_le_pow_right hB hk
theorem nmC_inj {l l' : List Nat} (h : nmOk l) (h' : nmOk l') : J (nmC l) = J (nmC l') ↔ l = l' := by
  constructor
  · intro e
    have hc : ∀ x : Nat, 1 ≤ x → x ≤ 26 → 1 ≤ x ∧ x < 27 := fun x a b => ⟨a, by omega⟩
    have m1 : ∀ x, x ∈ l.reverse → 1 ≤ x ∧ x ≤ 26 := fun x hx => h.2.2 x (List.mem_reverse.mp hx)
    have m2 : ∀ x, x ∈ l'.reverse → 1 ≤ x ∧ x ≤ 26 := fun x hx => h'.2.2 x (List.mem_reverse.mp hx)
    have v1 := nmC_v l.reverse
    have v2 := nmC_v l'.reverse
    rw [List.reverse_reverse] at v1 v2
    rw [v1, v2] at e
    have b1 := vB_b (B := 27) (c := fun x => x) (by decide) hc _ m1
    have b2 := vB_b (B := 27) (c := fun x => x) (by decide) hc _ m2
    rw [List.length_reverse] at b1 b2
    have p1 := nm_pow (B := 27) (by decide) h.2.1
    have p2 := nm_pow (B := 27) (by decide) h'.2.1
    have p7 : (27 : Nat) ^ 7 = 10460353203 := by decide
    have := vB_inj (B := 27) (c := fun x => x) hc (fun _ _ q => q) _ _ m1 m2 (J_inj (by omega) (by omega) e)
    exact List.reverse_inj.mp this
  · intro e
    rw [e]
theorem nmR_inj {l l' : List Nat} (h : nmOk l) (h' : nmOk l') : J (nmR l) = J (nmR l') ↔ l = l' := by
  constructor
  · intro e
    have hc : ∀ x : Nat, 1 ≤ x → x ≤ 26 → 1 ≤ 96 + x ∧ 96 + x < 256 := fun x a b => ⟨by omega, by omega⟩
    have m1 : ∀ x, x ∈ l.reverse → 1 ≤ x ∧ x ≤ 26 := fun x hx => h.2.2 x (List.mem_reverse.mp hx)
    have m2 : ∀ x, x ∈ l'.reverse → 1 ≤ x ∧ x ≤ 26 := fun x hx => h'.2.2 x (List.mem_reverse.mp hx)
    have v1 := nmR_v l.reverse
    have v2 := nmR_v l'.reverse
    rw [List.reverse_reverse] at v1 v2
    rw [v1, v2] at e
    have b1 := vB_b (B := 256) (c := fun x => 96 + x) (by decide) hc _ m1
    have b2 := vB_b (B := 256) (c := fun x => 96 + x) (by decide) hc _ m2
    rw [List.length_reverse] at b1 b2
    have p1 := nm_pow (B := 256) (by decide) h.2.1
    have p2 := nm_pow (B := 256) (by decide) h'.2.1
    have p7 : (256 : Nat) ^ 7 = 72057594037927936 := by decide
    have := vB_inj (B := 256) (c := fun x => 96 + x) hc (fun _ _ q => by omega) _ _ m1 m2 (J_inj (by omega) (by omega) e)
    exact List.reverse_inj.mp this
  · intro e
    rw [e]
theorem wd_C {l : List Nat} (h : nmOk l) : wdA (J (nmC l)) = if wix l < 23 then 600 + wix l else 0 := by
  have key : ∀ f k : Nat, k + f = 23 → wdS (J (nmC l)) f k = if wxs l f k < 23 then 600 + wxs l f k else 0 := by
    intro f
    induction f with
    | zero =>
      intro k hk
      rfl
    | succ f ih =>
      intro k hk
      rw [wdS_s, wxs_s, pk_wl k (by omega)]
      by_cases e : wl k = l
      · rw [if_pos e, if_pos (by rw [e]), if_pos (by omega)]
      · rw [if_neg e, if_neg (fun z => e ((nmC_inj (wl_ok k (by omega)) h).mp z))]
        exact ih (k + 1) (by omega)
  exact key 23 0 rfl
/-- which of the words the token is: 23, a name; 24, none -/
def tkW (b : Nat → Nat) (n L p : Nat) : Nat := if tkK b n L p = 2 then wix (tkL b n p) else 24
theorem tkW_2 {b : Nat → Nat} {n L p : Nat} : tkW b n L p ≤ 23 ↔ tkK b n L p = 2 := by
  unfold tkW
  by_cases h : tkK b n L p = 2
  · rw [if_pos h]
    have := wix_b (tkL b n p)
    omega
  · rw [if_neg h]
    omega
theorem seg_len {b : Nat → Nat} {q : Nat} : ∀ k : Nat, (seg b q k).length = k
  | 0 => rfl
  | k + 1 => by
    rw [seg_s, List.length_append, seg_len k]
    rfl
theorem seg_mem {b : Nat → Nat} {q x : Nat} : ∀ k : Nat, x ∈ seg b q k → ∃ i, i < k ∧ x = b (q + i) - 96
  | 0, h => absurd h (by show ¬ x ∈ []; simp)
  | k + 1, h => by
    rw [seg_s, List.mem_append] at h
    rcases h with h | h
    · obtain ⟨i, h1, h2⟩ := seg_mem k h
      exact ⟨i, by omega, h2⟩
    · exact ⟨k, by omega, by simpa using h⟩
theorem nvl_b {b : Nat → Nat} {q : Nat} : ∀ k : Nat, (∀ i, i < k → isDi (b (q + i))) → 0 ≤ nvl b q k ∧ nvl b q k < ((10 ^ k : Nat) : Int)
  | 0, _ => ⟨Int.le_refl _, by show (0 : Int) < 1; decide⟩
  | k + 1, h => by
    have ih := nvl_b k fun i hi => h i (by omega)
    have hk := h k (by omega)
    rw [nvl_s, Nat.pow_succ]
    omega
theorem tk_bnd {b : Nat → Nat} {n L p : Nat} (hp : p ≤ n) : (p ≤ tkQ b n p ∧ tkQ b n p ≤ n) ∧ (tkQ b n p < n → isLe (b (tkQ b n p)) ∨ isDi (b (tkQ b n p)) → tkQ b n p < tkE b n p ∧ tkE b n p ≤ n ∧ ∀ i, tkQ b n p ≤ i → i < tkE b n p → isLe (b i) ∨ isDi (b i)) := by
  have hq : p ≤ tkQ b n p ∧ tkQ b n p ≤ n := sk_b (P := blF b) (n := n) (p := p) hp
  refine ⟨hq, fun h1 h2 => ?_⟩
  have ha : alF b (tkQ b n p) = true := decide_eq_true h2
  have e := sk_go h1 ha
  have e2 := sk_b (P := alF b) (n := n) (p := tkQ b n p + 1) (by omega)
  have e3 : tkE b n p = sk (alF b) n (tkQ b n p + 1) := e
  exact ⟨by omega, by omega, fun i a1 a2 => of_decide_eq_true (sk_all (P := alF b) (n := n) a1 a2).2⟩
theorem tk_four {b : Nat → Nat} {n L p : Nat} (hp : p ≤ n) : (p ≤ tkN b n L p ∧ tkN b n L p ≤ n ∧ tkK b n L p ≤ 4 ∧ (2 ≤ tkK b n L p → p < tkN b n L p) ∧ tkS b n L p ≤ n) ∧ (tkK b n L p = 2 → nmOk (tkL b n p) ∧ p + (tkL b n p).length ≤ tkN b n L p) ∧ (tkK b n L p = 3 → 0 ≤ tkV b n p ∧ tkV b n p ≤ 999) ∧ (tkK b n L p = 4 → tkV b n p = 59 ∨ tkV b n p = 40 ∨ tkV b n p = 41 ∨ (60 ≤ tkV b n p ∧ tkV b n p ≤ 62)) := by
  obtain ⟨hq, hr⟩ := tk_bnd (b := b) (L := L) hp
  by_cases h1 : L < n ∧ L ≤ tkQ b n p
  · obtain ⟨k1, k2, k3⟩ := tk_lim h1
    rw [k1, k2, k3]
    exact ⟨⟨by omega, by omega, by omega, by omega, by omega⟩, by omega, by omega, by omega⟩
  · by_cases h2 : n ≤ tkQ b n p
    · obtain ⟨k1, k2, k3⟩ := tk_end h1 h2
      rw [k1, k2, k3]
      exact ⟨⟨by omega, by omega, by omega, by omega, by omega⟩, by omega, by omega, by omega⟩
    · by_cases h3 : isLe (b (tkQ b n p)) ∨ isDi (b (tkQ b n p))
      · obtain ⟨k1, k2, k3, k4⟩ := tk_run h1 h2 h3
        obtain ⟨r1, r2, r3⟩ := hr (by omega) h3
        rw [k1, k2, k3, k4]
        unfold tkL
        generalize tkE b n p = e at *
        generalize tkQ b n p = q at *
        obtain ⟨r, hr⟩ : ∃ r, e = q + r := ⟨e - q, by omega⟩
        subst hr
        rw [show q + r - q = r by omega]
        have kk : rnK (cdg b q r) r ≤ 4 := by
          unfold rnK
          split
          · decide
          · split <;> decide
        refine ⟨⟨by omega, by omega, kk, by omega, by omega⟩, fun w => ?_, fun w => ?_, fun w => ?_⟩
        · have w2 : cdg b q r = 0 ∧ r ≤ 7 := by
            unfold rnK at w
            split at w
            · assumption
            · split at w
              · exact absurd w (by decide)
              · exact absurd w (by decide)
          refine ⟨⟨by rw [seg_len]; omega, by rw [seg_len]; omega, fun x hx => ?_⟩, by rw [seg_len]; omega⟩
          obtain ⟨i, i1, i2⟩ := seg_mem r hx
          have a1 := r3 (q + i) (by omega) (by omega)
          have a2 := cdg_0 r w2.1 i i1
          omega
        · have w2 : cdg b q r = r ∧ r ≤ 3 := by
            unfold rnK at w
            split at w
            · exact absurd w (by decide)
            · split at w
              · assumption
              · exact absurd w (by decide)
          have := nvl_b r (cdg_k r w2.1)
          have p3 : 10 ^ r ≤ 10 ^ 3 := Nat.pow_le_pow_right (by decide) w2.2
          have p4 : (10 : Nat) ^ 3 = 1000 := by decide
          omega
        · exfalso
          unfold rnK at w
          split at w
          · exact absurd w (by decide)
          · split at w <;> exact absurd w (by decide)
      · obtain ⟨k1, k2, k3, k4⟩ := tk_sig h1 h2 h3
        rw [k1, k2, k3, k4]
        by_cases h4 : isSi (b (tkQ b n p))
        · rw [if_pos h4]
          exact ⟨⟨by omega, by omega, by omega, by omega, by omega⟩, by omega, by omega, by omega⟩
        · rw [if_neg h4]
          exact ⟨⟨by omega, by omega, by omega, by omega, by omega⟩, by omega, by omega, by omega⟩
/-- the class reads, its token is the one behind p -/
def CT (M : Mm) (b : Nat → Nat) (n L p : Nat) : Prop := (TC M n b ∧ M.1 2 2 = I L ∧ M.1 2 9 = I 0 ∧ p ≤ n ∧ L < 1000) ∧ M.1 2 3 = I (tkN b n L p) ∧ M.1 2 4 = I (tkS b n L p) ∧ M.1 2 5 = I (tkK b n L p) ∧ M.2.2 2 8 = (if tkW b n L p < 23 then 600 + tkW b n L p else 0) ∧ (tkK b n L p = 2 → M.2.1 2 7 = J (nmC (tkL b n p))) ∧ (tkK b n L p = 3 ∨ tkK b n L p = 4 → M.1 2 6 = I (tkV b n p))
theorem CT_of {M : Mm} {b : Nat → Nat} {n L p : Nat} (h1 : TC M n b) (h2 : M.1 2 2 = I L) (h3 : M.1 2 9 = I 0) (h4 : p ≤ n) (h5 : L < 1000) (h : CTk M b n L p) : CT M b n L p := by
  obtain ⟨a1, a2, a3, a4, a5, a6⟩ := h
  refine ⟨⟨h1, h2, h3, h4, h5⟩, a1, a2, a3, ?_, fun w => (a4 w).1, a6⟩
  unfold tkW
  by_cases w : tkK b n L p = 2
  · rw [if_pos w, (a4 w).2, wd_C ((tk_four h4).2.1 w).1]
  · rw [if_neg w, a5 w]
    rfl
theorem CT_fr {M M' : Mm} {b : Nat → Nat} {n L p : Nat} (h : CT M b n L p) (h1 : M'.1 2 = M.1 2) (h2 : M'.1 3 = M.1 3) (h3 : M'.2.1 2 = M.2.1 2) (h4 : M'.2.2 2 = M.2.2 2) : CT M' b n L p := by
  unfold CT TC at h ⊢
  rw [h1, h2, h3, h4]
  exact h
/-- the reference reads -/
def RT (M : Mm) (b : Nat → Nat) (n L p : Nat) : Prop := (TRr M n b ∧ M.1 400 5 = I L ∧ M.1 400 15 = I 0 ∧ p ≤ n ∧ L < 1000) ∧ RTk M b n L p ∧ ∀ k, k < 23 → M.2.1 406 k = J (nmR (wl k))
section NXT
variable {M : Mm} {b : Nat → Nat} {n L p : Nat}
theorem c_nextT {d : Nat} (h : CT M b n L p) : EvQ (d + 3) 260 [.ref 2] M fun v M' => v = none ∧ Fr 2 3 M M' ∧ CT M' b n L (tkN b n L p) := by
  obtain ⟨⟨h1, h2, h3, h4, h5⟩, a1, -⟩ := h
  have hn := (tk_four (b := b) (L := L) h4).1
  refine (c_next h1 h2 h5 a1 hn.2.1).mono ?_
  rintro r M' ⟨q1, q2, q3⟩
  refine ⟨q1, fun a ha => q2.1 a (by omega), CT_of ⟨by rw [q2.2 1 (by decide) (by decide) (by decide) (by decide)]; exact h1.1, h1.2.1, fun k hk => by rw [(q2.1 3 (by decide)).1]; exact h1.2.2 k hk⟩ (by rw [q2.2 2 (by decide) (by decide) (by decide) (by decide)]; exact h2) (by rw [q2.2 9 (by decide) (by decide) (by decide) (by decide)]; exact h3) hn.2.1 h5 q3⟩
theorem r_nextT {d : Nat} (h : RT M b n L p) : EvQ (d + 2) 68 [.ref 400] M fun v M' => v = none ∧ RF [] FJ M M' ∧ RT M' b n L (tkN b n L p) := by
  obtain ⟨⟨h1, h2, h3, h4, h5⟩, ⟨a1, -⟩, h6⟩ := h
  have hn := (tk_four (b := b) (L := L) h4).1
  refine (r_next h1 h2 h5 a1 hn.2.1).mono ?_
  rintro r M' ⟨q1, q2, q3⟩
  refine ⟨q1, q2, ⟨⟨by rw [q2.2.1 3 (by decide)]; exact h1.1, h1.2.1, fun k hk => by rw [(q2.1 401 (by decide) (by decide)).1]; exact h1.2.2 k hk⟩, by rw [q2.2.1 5 (by decide)]; exact h2, by rw [q2.2.1 15 (by decide)]; exact h3, hn.2.1, h5⟩, q3, fun k hk => by rw [(q2.1 406 (by decide) (by decide)).2]; exact h6 k hk⟩
end NXT
