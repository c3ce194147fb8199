/-! ===== tokens: what they are, and the class's ===== -/
abbrev isBl (c : Nat) : Prop := c = 32 ∨ c = 10
abbrev isLe (c : Nat) : Prop := 97 ≤ c ∧ c ≤ 122
abbrev isDi (c : Nat) : Prop := 48 ≤ c ∧ c ≤ 57
abbrev isSi (c : Nat) : Prop := c = 59 ∨ c = 40 ∨ c = 41 ∨ 60 ≤ c ∧ c ≤ 62
def stp (P : Nat → Bool) (n : Nat) : Nat → Nat → Nat
  | 0, p => p
  | f + 1, p => if p < n ∧ P p = true then stp P n f (p + 1) else p
def sk (P : Nat → Bool) (n p : Nat) : Nat := stp P n (n - p) p
theorem sk_go {P : Nat → Bool} {n p : Nat} (h : p < n) (hP : P p = true) : sk P n p = sk P n (p + 1) := by
  unfold sk
  rw [show n - p = (n - (p + 1)) + 1 by omega]
  show (if p < n ∧ P p = true then stp P n (n - (p + 1)) (p + 1) else p) = _
  rw [if_pos ⟨h, hP⟩]
theorem sk_no {P : Nat → Bool} {n p : Nat} (h : ¬ (p < n ∧ P p = true)) : sk P n p = p := by
  unfold sk
  rcases Nat.eq_zero_or_pos (n - p) with e | e
  · rw [e]
    rfl
  · obtain ⟨m, hm⟩ : ∃ m, n - p = m + 1 := ⟨n - p - 1, by omega⟩
    rw [hm]
    show (if p < n ∧ P p = true then stp P n m (p + 1) else p) = _
    rw [if_neg h]
theorem stp_b {P : Nat → Bool} {n : Nat} : ∀ f p : Nat, p + f ≤ n → p ≤ stp P n f p ∧ stp P n f p ≤ p + f
  | 0, p, _ => ⟨Nat.le_refl _, Nat.le_refl _⟩
  | f + 1, p, h => by
    unfold stp
    split
    · have := stp_b (P := P) (n := n) f (p + 1) (by omega)
      omega
    · omega
theorem sk_b {P : Nat → Bool} {n p : Nat} (h : p ≤ n) : p ≤ sk P n p ∧ sk P n p ≤ n := by
  have := stp_b (P := P) (n := n) (n - p) p (by omega)
  unfold sk
  omega
def seg (b : Nat → Nat) (q : Nat) : Nat → List Nat
  | 0 => []
  | k + 1 => seg b q k ++ [b (q + k) - 96]
def nvl (b : Nat → Nat) (q : Nat) : Nat → Int
  | 0 => 0
  | k + 1 => nvl b q k * 10 + ((b (q + k) : Int) - 48)
def cdg (b : Nat → Nat) (q : Nat) : Nat → Nat
  | 0 => 0
  | k + 1 => cdg b q k + (if isDi (b (q + k)) then 1 else 0)
theorem cdg_s {b : Nat → Nat} {q k : Nat} : cdg b q (k + 1) = cdg b q k + (if isDi (b (q + k)) then 1 else 0) := rfl
theorem nvl_s {b : Nat → Nat} {q k : Nat} : nvl b q (k + 1) = nvl b q k * 10 + ((b (q + k) : Int) - 48) := rfl
theorem seg_s {b : Nat → Nat} {q k : Nat} : seg b q (k + 1) = seg b q k ++ [b (q + k) - 96] := rfl
theorem cdg_b {b : Nat → Nat} {q : Nat} : ∀ k : Nat, cdg b q k ≤ k
  | 0 => Nat.le_refl _
  | k + 1 => by
    have := cdg_b (b := b) (q := q) k
    rw [cdg_s]
    split <;> omega
def blF (b : Nat → Nat) : Nat → Bool := fun i => decide (isBl (b i))
def alF (b : Nat → Nat) : Nat → Bool := fun i => decide (isLe (b i) ∨ isDi (b i))
/-- where the token that comes behind p starts, and where its run ends -/
def tkQ (b : Nat → Nat) (n p : Nat) : Nat := sk (blF b) n p
def tkE (b : Nat → Nat) (n p : Nat) : Nat := sk (alF b) n (tkQ b n p)
def tkK (b : Nat → Nat) (n L p : Nat) : Nat :=
  if L < n ∧ L ≤ tkQ b n p then 1 else if n ≤ tkQ b n p then 0
  else if isLe (b (tkQ b n p)) ∨ isDi (b (tkQ b n p)) then
    (if cdg b (tkQ b n p) (tkE b n p - tkQ b n p) = 0 ∧ tkE b n p - tkQ b n p ≤ 7 then 2 else if cdg b (tkQ b n p) (tkE b n p - tkQ b n p) = tkE b n p - tkQ b n p ∧ tkE b n p - tkQ b n p ≤ 3 then 3 else 1)
  else if isSi (b (tkQ b n p)) then 4 else 1
def tkS (b : Nat → Nat) (n L p : Nat) : Nat := if L < n ∧ L ≤ tkQ b n p then L else tkQ b n p
def tkN (b : Nat → Nat) (n L p : Nat) : Nat :=
  if L < n ∧ L ≤ tkQ b n p then tkQ b n p else if n ≤ tkQ b n p then tkQ b n p
  else if isLe (b (tkQ b n p)) ∨ isDi (b (tkQ b n p)) then tkE b n p else tkQ b n p + 1
def tkL (b : Nat → Nat) (n p : Nat) : List Nat := seg b (tkQ b n p) (tkE b n p - tkQ b n p)
def tkV (b : Nat → Nat) (n p : Nat) : Int := if isLe (b (tkQ b n p)) ∨ isDi (b (tkQ b n p)) then nvl b (tkQ b n p) (tkE b n p - tkQ b n p) else b (tkQ b n p)
def wdS (x : Int64) : Nat → Nat → Nat
  | 0, _ => 0
  | f + 1, k => if pkTab k = x then 600 + k else wdS x f (k + 1)
def wdA (x : Int64) : Nat := wdS x 23 0
theorem J_add (a c : Nat) : J a + J c = J (a + c) := by
  unfold J
  rw [← Int64.ofInt_add]
  rfl
theorem J_mul (a c : Nat) : J a * J c = J (a * c) := by
  unfold J
  rw [← Int64.ofInt_mul]
  rfl
theorem to64 : ∀ z : Nat, z < 256 → (I (z : Int)).toInt64 = J z := by decide +kernel
theorem nmC_s {l : List Nat} {x : Nat} : nmC (l ++ [x]) = nmC l * 27 + x := by
  unfold nmC
  rw [List.foldl_append]
  rfl
theorem nmR_s {l : List Nat} {x : Nat} : nmR (l ++ [x]) = nmR l * 256 + (96 + x) := by
  unfold nmR
  rw [List.foldl_append]
  rfl
section TOK
variable {M : Mm}
theorem c_isBlank {d c : Nat} (hc : c < 256) : Ev (d + 1) 262 [.int (I c)] M (some (.int (I (if isBl c then 1 else 0)))) M := by
  apply Ev.ofQ
  apply e_Tape_isBlank
  intro At _
  rw [I_ne (by omega) (by omega) (by omega) (by omega), I_ne (by omega) (by omega) (by omega) (by omega)]
  refine ⟨fun q => ?_, fun q => ⟨fun q2 => ?_, fun q2 => ?_⟩⟩
  · rw [if_pos (Or.inl (by omega))]
    exact ⟨rfl, rfl⟩
  · rw [if_pos (Or.inr (by omega))]
    exact ⟨rfl, rfl⟩
  · rw [if_neg (by omega)]
    exact ⟨rfl, rfl⟩
theorem c_isLetter {d c : Nat} (hc : c < 256) : Ev (d + 1) 263 [.int (I c)] M (some (.int (I (if isLe c then 1 else 0)))) M := by
  apply Ev.ofQ
  apply e_Tape_isLetter
  intro At _
  rw [I_lt (by omega) (by omega) (by omega) (by omega), I_lt (by omega) (by omega) (by omega) (by omega)]
  refine ⟨fun q => ?_, fun q => ⟨fun q2 => ?_, fun q2 => ?_⟩⟩
  · rw [if_neg (by omega)]
    exact ⟨rfl, rfl⟩
  · rw [if_neg (by omega)]
    exact ⟨rfl, rfl⟩
  · rw [if_pos (by omega)]
    exact ⟨rfl, rfl⟩
theorem c_isDigit {d c : Nat} (hc : c < 256) : Ev (d + 1) 264 [.int (I c)] M (some (.int (I (if isDi c then 1 else 0)))) M := by
  apply Ev.ofQ
  apply e_Tape_isDigit
  intro At _
  rw [I_lt (by omega) (by omega) (by omega) (by omega), I_lt (by omega) (by omega) (by omega) (by omega)]
  refine ⟨fun q => ?_, fun q => ⟨fun q2 => ?_, fun q2 => ?_⟩⟩
  · rw [if_neg (by omega)]
    exact ⟨rfl, rfl⟩
  · rw [if_neg (by omega)]
    exact ⟨rfl, rfl⟩
  · rw [if_pos (by omega)]
    exact ⟨rfl, rfl⟩
theorem c_isSign {d c : Nat} (hc : c < 256) : Ev (d + 1) 265 [.int (I c)] M (some (.int (I (if isSi c then 1 else 0)))) M := by
  apply Ev.ofQ
  apply e_Tape_isSign
  intro At _
  rw [I_ne (by omega) (by omega) (by omega) (by omega), I_ne (by omega) (by omega) (by omega) (by omega), I_ne (by omega) (by omega) (by omega) (by omega), I_ne (by omega) (by omega) (by omega) (by omega), I_ne (by omega) (by omega) (by omega) (by omega), I_ne (by omega) (by omega) (by omega) (by omega)]
  have y : isSi c → some (Value.int (I 1)) = some (Value.int (I (if isSi c then 1 else 0))) ∧ M = M := fun z => by
    rw [if_pos z]
    exact ⟨rfl, rfl⟩
  have n : ¬ isSi c → some (Value.int (I 0)) = some (Value.int (I (if isSi c then 1 else 0))) ∧ M = M := fun z => by
    rw [if_neg z]
    exact ⟨rfl, rfl⟩
  exact ⟨fun q => y (by omega), fun q => ⟨fun q2 => y (by omega), fun q2 => ⟨fun q3 => y (by omega), fun q3 => ⟨fun q4 => y (by omega), fun q4 => ⟨fun q5 => y (by omega), fun q5 => ⟨fun q6 => y (by omega), fun q6 => n (by omega)⟩⟩⟩⟩⟩⟩
theorem c_packed {d a c : Nat} (hc : 97 ≤ c ∧ c < 256) : Ev (d + 1) 273 [.long (J a), .int (I c)] M (some (.long (J (a * 27 + (c - 96))))) M := by
  apply Ev.ofQ
  apply e_Word_packedWith
  intro At _
  rw [I_sub, I_add, show (c : Int) - 97 + 1 = ((c - 96 : Nat) : Int) by omega, to64 _ (by omega), show (Int64.ofNat 27) = J 27 from rfl, J_mul, J_add]
  exact ⟨rfl, rfl⟩
theorem lg0 {x y : Int64} : lg_cmp x y = I 0 ↔ x = y := by
  unfold lg_cmp
  by_cases h : x > y
  · rw [if_pos h]
    exact ⟨fun q => absurd q (by decide), fun q => absurd h (by rw [q]; exact fun z => Int64.lt_irrefl z)⟩
  · rw [if_neg h]
    by_cases e : x = y
    · rw [if_pos e]
      exact ⟨fun _ => e, fun _ => rfl⟩
    · rw [if_neg e]
      exact ⟨fun q => absurd q (by decide), fun q => absurd q e⟩
theorem wdS_s {x : Int64} {f k : Nat} : wdS x (f + 1) k = if pkTab k = x then 600 + k else wdS x f (k + 1) := rfl
theorem c_wordOf {d : Nat} {x : Int64} : Ev (d + 1) 274 [.long x] M (some (.ref (wdA x))) M := by
  apply Ev.ofQ
  apply e_Word_of
  intro At step
  have key : ∀ f k : Nat, k + f = 23 → wdS x f k = wdA x → At 2 [.long x, .retAddr 0, .int (I k)] [] M := by
    intro f
    induction f with
    | zero =>
      intro k hk e
      apply s_Word_of_2 step
      rw [I_lt (by omega) (by omega) (by omega) (by omega), ← e]
      exact ⟨fun q => absurd q (by omega), fun _ => ⟨rfl, rfl⟩⟩
    | succ f ih =>
      intro k hk e
      apply s_Word_of_2 step
      rw [wdS_s] at e
      have hi : inR (I (k : Int)) 23 := inRI (by omega) (by omega) (by omega)
      rw [I_lt (by omega) (by omega) (by omega) (by omega), ixI (by omega) (by omega), Int.toNat_natCast, I_add, show 600 + k - 600 = k by omega, lg0]
      refine ⟨fun _ => ⟨hi, by omega, fun q => ⟨hi, ?_⟩, fun q => ih (k + 1) (by omega) ?_⟩, fun q => absurd (by omega) q⟩
      · rw [if_pos q] at e
        rw [← e]
        exact ⟨rfl, rfl⟩
      · rw [if_neg q] at e
        exact e
  exact key 23 0 rfl rfl
theorem stp_all {P : Nat → Bool} {n : Nat} : ∀ f p : Nat, ∀ i, p ≤ i → i < stp P n f p → i < n ∧ P i = true
  | 0, p, i, h1, h2 => absurd h2 (by show ¬ i < p; omega)
  | f + 1, p, i, h1, h2 => by
    unfold stp at h2
    by_cases h : p < n ∧ P p = true
    · rw [if_pos h] at h2
      by_cases e : i = p
      · rw [e]
        exact h
      · exact stp_all f (p + 1) i (by omega) h2
    · rw [if_neg h] at h2
      omega
theorem stp_end {P : Nat → Bool} {n : Nat} : ∀ f p : Nat, p + f = n → ¬ (stp P n f p < n ∧ P (stp P n f p) = true)
  | 0, p, h => fun q => by
    have : stp P n 0 p = p := rfl
    omega
  | f + 1, p, h => by
    unfold stp
    by_cases h' : p < n ∧ P p = true
    · rw [if_pos h']
      exact stp_end f (p + 1) (by omega)
    · rw [if_neg h']
      exact h'
theorem sk_all {P : Nat → Bool} {n p i : Nat} (h1 : p ≤ i) (h2 : i < sk P n p) : i < n ∧ P i = true := stp_all _ _ i h1 h2
theorem sk_end {P : Nat → Bool} {n p : Nat} (h : p ≤ n) : ¬ (sk P n p < n ∧ P (sk P n p) = true) := stp_end _ _ (by omega)
/-- what the reading of a token leaves as it was -/
def FrK (M M' : Mm) : Prop := (∀ a, a ≠ 2 → M'.1 a = M.1 a ∧ M'.2.1 a = M.2.1 a ∧ M'.2.2 a = M.2.2 a) ∧ (∀ k, k ≠ 3 → k ≠ 4 → k ≠ 5 → k ≠ 6 → M'.1 2 k = M.1 2 k)
theorem FrK.trans {N O : Mm} (h : FrK M N) (k : FrK N O) : FrK M O := ⟨fun a ha => ⟨(k.1 a ha).1.trans (h.1 a ha).1, (k.1 a ha).2.1.trans (h.1 a ha).2.1, (k.1 a ha).2.2.trans (h.1 a ha).2.2⟩, fun j a b c d => (k.2 j a b c d).trans (h.2 j a b c d)⟩
theorem FrK_i {N : Mm} {k : Nat} {v : Int32} (h : FrK M N) (hk : k = 3 ∨ k = 4 ∨ k = 5 ∨ k = 6) : FrK M (sI N 2 k v) := ⟨fun a ha => ⟨by rw [mI_fn ha]; exact (h.1 a ha).1, (h.1 a ha).2.1, (h.1 a ha).2.2⟩, fun j h3 h4 h5 h6 => by rw [mI_n2 (by omega)]; exact h.2 j h3 h4 h5 h6⟩
theorem FrK_l {N : Mm} {k : Nat} {v : Int64} (h : FrK M N) : FrK M (sL N 2 k v) := ⟨fun a ha => ⟨(h.1 a ha).1, by rw [sL_ne ha]; exact (h.1 a ha).2.1, (h.1 a ha).2.2⟩, h.2⟩
theorem FrK_r {N : Mm} {k v : Nat} (h : FrK M N) : FrK M (sR N 2 k v) := ⟨fun a ha => ⟨(h.1 a ha).1, (h.1 a ha).2.1, by
  show up2 N.2.2 2 k v a = _
  rw [up2_ne ha]
  exact (h.1 a ha).2.2⟩, h.2⟩
def rnK (c r : Nat) : Nat := if c = 0 ∧ r ≤ 7 then 2 else if c = r ∧ r ≤ 3 then 3 else 1
theorem mR_eq3 {a k v : Nat} : (sR M a k v).2.2 a k = v := by
  show up2 M.2.2 a k v a k = v
  rw [up2_eq, upf_eq]
theorem c_readRun {d n q : Nat} {b : Nat → Nat} (hT : TC M n b) (h3 : M.1 2 3 = I q) (h4 : M.1 2 4 = I q) (h6 : M.1 2 6 = I 0) (h7 : M.2.1 2 7 = J 0) (h8 : M.2.2 2 8 = 0) (hq : q < n) (ha : alF b q = true) : EvQ (d + 2) 261 [.ref 2] M fun v M' => v = none ∧ FrK M M' ∧ M'.1 2 3 = I (sk (alF b) n q) ∧ M'.1 2 4 = I q ∧ M'.1 2 5 = I (rnK (cdg b q (sk (alF b) n q - q)) (sk (alF b) n q - q)) ∧
    (rnK (cdg b q (sk (alF b) n q - q)) (sk (alF b) n q - q) = 2 → M'.2.1 2 7 = J (nmC (seg b q (sk (alF b) n q - q))) ∧ M'.2.2 2 8 = wdA (J (nmC (seg b q (sk (alF b) n q - q))))) ∧ (rnK (cdg b q (sk (alF b) n q - q)) (sk (alF b) n q - q) ≠ 2 → M'.2.2 2 8 = 0) ∧ (rnK (cdg b q (sk (alF b) n q - q)) (sk (alF b) n q - q) = 3 → M'.1 2 6 = I (nvl b q (sk (alF b) n q - q))) := by
  have hsk := sk_b (P := alF b) (n := n) (p := q) (by omega)
  have hsk1 : q + 1 ≤ sk (alF b) n q := by
    rw [sk_go hq ha]
    exact (sk_b (P := alF b) (n := n) (p := q + 1) (by omega)).1
  have hend := sk_end (P := alF b) (n := n) (p := q) (by omega)
  have hall : ∀ i, q ≤ i → i < sk (alF b) n q → i < n ∧ alF b i = true := fun i a1 a2 => sk_all a1 a2
  generalize sk (alF b) n q = e at *
  obtain ⟨r, hr⟩ : ∃ r, e = q + r := ⟨e - q, by omega⟩
  subst hr
  rw [show q + r - q = r by omega]
  have h940 := hT.2.1
  apply e_Tape_readRun
  intro At step
  have tc : ∀ N : Mm, FrK M N → N.1 2 1 = I n ∧ ∀ k, k < n → N.1 3 k = I (b k : Nat) ∧ b k < 256 := fun N hF => ⟨by rw [hF.2 1 (by decide) (by decide) (by decide) (by decide)]; exact hT.1, fun k hk => by rw [(hF.1 3 (by decide)).1]; exact hT.2.2 k hk⟩
  refine loopU (P := fun j : Nat => ∀ N : Mm, FrK M N → N.1 2 3 = I ((q + j : Nat) : Int) → N.1 2 4 = I q → N.2.2 2 8 = 0 → (∃ a, N.2.1 2 7 = J a ∧ (cdg b q j = 0 → a = nmC (seg b q j))) → (cdg b q j = j → N.1 2 6 = I (nvl b q j)) → At 2 [.ref 2, .int (I (cdg b q j)), .retAddr 0] [] N) (n := r) ?_ ?_ M ⟨fun _ _ => ⟨rfl, rfl, rfl⟩, fun _ _ _ _ _ => rfl⟩ h3 h4 h8 ⟨0, h7, fun _ => rfl⟩ (fun _ => h6)
  · intro N hF n3 n4 n8 n7 n6
    obtain ⟨t1, t2⟩ := tc N hF
    have cb := cdg_b (b := b) (q := q) r
    have fin : At 107 [.ref 2, .int (I (cdg b q r)), .retAddr 0] [] N := by
      apply s_Tape_readRun_107 step
      rw [n3, n4, I_sub, show ((q + r : Nat) : Int) - q = (r : Int) by omega, I_ne (by omega) (by omega) (by omega) (by omega), I_ne (by omega) (by omega) (by omega) (by omega), I_lt (by omega) (by omega) (by omega) (by omega), I_lt (by omega) (by omega) (by omega) (by omega)]
      have no : rnK (cdg b q r) r = 1 → none = (none : Option Value) ∧ FrK M (sI N 2 5 (I 1)) ∧ (sI N 2 5 (I 1)).1 2 3 = I ((q + r : Nat) : Int) ∧ (sI N 2 5 (I 1)).1 2 4 = I q ∧ (sI N 2 5 (I 1)).1 2 5 = I (rnK (cdg b q r) r) ∧ (rnK (cdg b q r) r = 2 → (sI N 2 5 (I 1)).2.1 2 7 = J (nmC (seg b q r)) ∧ (sI N 2 5 (I 1)).2.2 2 8 = wdA (J (nmC (seg b q r)))) ∧ (rnK (cdg b q r) r ≠ 2 → (sI N 2 5 (I 1)).2.2 2 8 = 0) ∧ (rnK (cdg b q r) r = 3 → (sI N 2 5 (I 1)).1 2 6 = I (nvl b q r)) := fun z =>
        ⟨rfl, FrK_i hF (by omega), by rw [mI_n2 (by decide)]; exact n3, by rw [mI_n2 (by decide)]; exact n4, by rw [mI_eq, z]; rfl, fun y => absurd y (by omega), fun _ => n8, fun y => absurd y (by omega)⟩
      have num : rnK (cdg b q r) r = 3 → cdg b q r = r → none = (none : Option Value) ∧ FrK M (sI N 2 5 (I 3)) ∧ (sI N 2 5 (I 3)).1 2 3 = I ((q + r : Nat) : Int) ∧ (sI N 2 5 (I 3)).1 2 4 = I q ∧ (sI N 2 5 (I 3)).1 2 5 = I (rnK (cdg b q r) r) ∧ (rnK (cdg b q r) r = 2 → (sI N 2 5 (I 3)).2.1 2 7 = J (nmC (seg b q r)) ∧ (sI N 2 5 (I 3)).2.2 2 8 = wdA (J (nmC (seg b q r)))) ∧ (rnK (cdg b q r) r ≠ 2 → (sI N 2 5 (I 3)).2.2 2 8 = 0) ∧ (rnK (cdg b q r) r = 3 → (sI N 2 5 (I 3)).1 2 6 = I (nvl b q r)) := fun z w =>
        ⟨rfl, FrK_i hF (by omega), by rw [mI_n2 (by decide)]; exact n3, by rw [mI_n2 (by decide)]; exact n4, by rw [mI_eq, z]; rfl, fun y => absurd y (by omega), fun _ => n8, fun _ => by rw [mI_n2 (by decide)]; exact n6 w⟩
      have k0 : cdg b q r = 0 → r ≤ 7 → rnK (cdg b q r) r = 2 := fun a c => by unfold rnK; rw [if_pos ⟨a, c⟩]
      have k1 : cdg b q r = r → r ≤ 3 → rnK (cdg b q r) r = 3 := fun a c => by unfold rnK; rw [if_neg (by omega), if_pos ⟨a, c⟩]
      have k2 : ¬ (cdg b q r = 0 ∧ r ≤ 7) → ¬ (cdg b q r = r ∧ r ≤ 3) → rnK (cdg b q r) r = 1 := fun a c => by unfold rnK; rw [if_neg a, if_neg c]
      refine ⟨fun z => ⟨fun z2 => ⟨fun z3 => absurd z3 (by omega), fun z3 => no (k2 (by omega) (by omega))⟩, fun z2 => ⟨_, _, c_wordOf, ?_⟩⟩, fun z => ⟨fun z2 => ⟨fun z3 => no (k2 (by omega) (by omega)), fun z3 => num (k1 (by omega) (by omega)) (by omega)⟩, fun z2 => no (k2 (by omega) (by omega))⟩⟩
      have kk := k0 (by omega) (by omega)
      obtain ⟨a7, e7, f7⟩ := n7
      rw [f7 (by omega)] at e7
      rw [kk, e7]
      exact ⟨rfl, FrK_r (FrK_i hF (by omega)), by rw [mR_1, mI_n2 (by decide)]; exact n3, by rw [mR_1, mI_n2 (by decide)]; exact n4, by rw [mR_1, mI_eq]; rfl, fun _ => ⟨e7, mR_eq3⟩, fun y => absurd rfl y, fun y => absurd y (by decide)⟩
    apply s_Tape_readRun_2 step
    rw [n3, t1, I_lt (by omega) (by omega) (by omega) (by omega), ixI (by omega) (by omega), Int.toNat_natCast]
    refine ⟨fun z => ?_, fun _ => fin⟩
    have hlt : q + r < n := by omega
    have hi : inR (I ((q + r : Nat) : Int)) 940 := inRI (by omega) (by omega) (by omega)
    obtain ⟨y1, y2⟩ := t2 (q + r) hlt
    have nal : ¬ (isLe (b (q + r)) ∨ isDi (b (q + r))) := fun y => hend ⟨hlt, decide_eq_true y⟩
    rw [y1]
    refine ⟨hi, _, _, c_isLetter y2, fun _ => ?_, fun z2 => ?_⟩
    · rw [n3, ixI (by omega) (by omega), Int.toNat_natCast, y1]
      refine ⟨hi, _, _, c_isDigit y2, fun _ => fin, fun z3 => ?_⟩
      rw [if_neg (fun y => nal (Or.inr y))] at z3
      exact absurd rfl z3
    · rw [if_neg (fun y => nal (Or.inl y))] at z2
      exact absurd rfl z2
  · intro j hj nx N hF n3 n4 n8 n7 n6
    obtain ⟨t1, t2⟩ := tc N hF
    obtain ⟨hlt, hal⟩ := hall (q + j) (by omega) (by omega)
    have hal2 : isLe (b (q + j)) ∨ isDi (b (q + j)) := of_decide_eq_true hal
    obtain ⟨y1, y2⟩ := t2 (q + j) hlt
    have hi : inR (I ((q + j : Nat) : Int)) 940 := inRI (by omega) (by omega) (by omega)
    have cb := cdg_b (b := b) (q := q) j
    rw [cdg_s, nvl_s, seg_s] at nx
    have go94 : ∀ (x : Int) (N2 : Mm), At 2 [.ref 2, .int (I x), .retAddr 0] [] (sI N2 2 3 (N2.1 2 3 + I 1)) → At 94 [.ref 2, .int (I x), .retAddr 0] [] N2 := fun x N2 y => by
      apply s_Tape_readRun_94 step
      exact y
    have go43 : At 43 [.ref 2, .int (I (cdg b q j)), .retAddr 0] [] N := by
      apply s_Tape_readRun_43 step
      rw [n3, ixI (by omega) (by omega), Int.toNat_natCast, y1]
      refine ⟨hi, _, _, c_isDigit y2, fun z => ?_, fun z => ?_⟩
      · have nd : ¬ isDi (b (q + j)) := fun y => by
          rw [if_pos y] at z
          exact absurd z (by decide)
        rw [if_neg nd, Nat.add_zero] at nx
        obtain ⟨a7, e7, f7⟩ := n7
        have hle : isLe (b (q + j)) := by
          rcases hal2 with y | y
          · exact y
          · exact absurd y nd
        rw [e7]
        refine ⟨_, _, c_packed (by omega), go94 _ _ ?_⟩
        rw [sL_1, n3, I_add]
        refine nx _ (FrK_i (FrK_l hF) (by omega)) mI_eq (by rw [mI_n2 (by decide)]; exact n4) n8 ⟨_, sL_eq, fun y => ?_⟩ fun y => absurd y (by omega)
        rw [f7 y, nmC_s]
      · have nd : isDi (b (q + j)) := Classical.byContradiction fun y => z (by rw [if_neg y])
        rw [if_pos nd] at nx
        rw [I_add]
        refine go94 _ _ ?_
        rw [mI_n2 (show 3 ≠ 6 by decide), n3, I_add]
        obtain ⟨a7, e7, f7⟩ := n7
        refine nx _ (FrK_i (FrK_i hF (by omega)) (by omega)) mI_eq (by rw [mI_n2 (by decide), mI_n2 (by decide)]; exact n4) n8 ⟨a7, e7, fun y => absurd y (by omega)⟩ fun y => ?_
        rw [mI_n2 (by decide), mI_eq, n6 (by omega), I_sub, I_mul, I_add]
    apply s_Tape_readRun_2 step
    rw [n3, t1, I_lt (by omega) (by omega) (by omega) (by omega), ixI (by omega) (by omega), Int.toNat_natCast, y1]
    refine ⟨fun _ => ⟨hi, _, _, c_isLetter y2, fun z => ?_, fun _ => go43⟩, fun z => absurd (by omega) z⟩
    rw [n3, ixI (by omega) (by omega), Int.toNat_natCast, y1]
    refine ⟨hi, _, _, c_isDigit y2, fun z2 => ?_, fun _ => go43⟩
    exfalso
    rcases hal2 with y | y
    · rw [if_pos y] at z
      exact absurd z (by decide)
    · rw [if_pos y] at z2
      exact absurd z2 (by decide)
/-- the class's token: the one behind p -/
def CTk (M : Mm) (b : Nat → Nat) (n L p : Nat) : Prop := M.1 2 3 = I (tkN b n L p) ∧ M.1 2 4 = I (tkS b n L p) ∧ M.1 2 5 = I (tkK b n L p) ∧ (tkK b n L p = 2 → M.2.1 2 7 = J (nmC (tkL b n p)) ∧ M.2.2 2 8 = wdA (J (nmC (tkL b n p)))) ∧ (tkK b n L p ≠ 2 → M.2.2 2 8 = 0) ∧ (tkK b n L p = 3 ∨ tkK b n L p = 4 → M.1 2 6 = I (tkV b n p))
theorem c_next {d n L p : Nat} {b : Nat → Nat} (hT : TC M n b) (hL : M.1 2 2 = I L) (hL9 : L < 1000) (h3 : M.1 2 3 = I p) (hp : p ≤ n) : EvQ (d + 3) 260 [.ref 2] M fun v M' => v = none ∧ FrK M M' ∧ CTk M' b n L p := by
  have h940 := hT.2.1
  have hq := sk_b (P := blF b) (n := n) (p := p) hp
  have hqe := sk_end (P := blF b) (n := n) (p := p) hp
  have hqa : ∀ i, p ≤ i → i < sk (blF b) n p → i < n ∧ blF b i = true := fun i a1 a2 => sk_all a1 a2
  unfold CTk tkN tkS tkK tkL tkV tkE tkQ
  generalize sk (blF b) n p = q at *
  apply e_Tape_next
  intro At step
  have tc : ∀ N : Mm, FrK M N → N.1 2 1 = I n ∧ N.1 2 2 = I L ∧ ∀ k, k < n → N.1 3 k = I (b k : Nat) ∧ b k < 256 := fun N hF => ⟨by rw [hF.2 1 (by decide) (by decide) (by decide) (by decide)]; exact hT.1, by rw [hF.2 2 (by decide) (by decide) (by decide) (by decide)]; exact hL, fun k hk => by rw [(hF.1 3 (by decide)).1]; exact hT.2.2 k hk⟩
  have F0 : FrK M (sI (sL (sR M 2 8 0) 2 7 (Int64.ofNat 0)) 2 6 (I 0)) := FrK_i (FrK_l (FrK_r ⟨fun _ _ => ⟨rfl, rfl, rfl⟩, fun _ _ _ _ _ => rfl⟩)) (by omega)
  obtain ⟨r, hr⟩ : ∃ r, q = p + r := ⟨q - p, by omega⟩
  subst hr
  refine loopU (P := fun j : Nat => ∀ N : Mm, FrK M N → N.1 2 3 = I ((p + j : Nat) : Int) → N.1 2 6 = I 0 → N.2.1 2 7 = J 0 → N.2.2 2 8 = 0 → At 15 [.ref 2] [] N) (n := r) ?_ ?_ _ F0 (by rw [mI_n2 (by decide)]; exact h3) mI_eq sL_eq (by show (sR M 2 8 0).2.2 2 8 = 0; exact mR_eq3)
  · intro N hF n3 n6 n7 n8
    obtain ⟨t1, t2, t3⟩ := tc N hF
    have hTN : TC (sI N 2 4 (I ((p + r : Nat) : Int))) n b := ⟨by rw [mI_n2 (by decide)]; exact t1, h940, fun k hk => by rw [mI_n1 (by decide)]; exact t3 k hk⟩
    have FN : FrK M (sI N 2 4 (I ((p + r : Nat) : Int))) := FrK_i hF (by omega)
    have at157 : ¬ (L < n ∧ L ≤ p + r) → p + r < n → (isLe (b (p + r)) ∨ isDi (b (p + r))) → At 157 [.ref 2] [] (sI N 2 4 (I ((p + r : Nat) : Int))) := by
      intro hno hlt hal
      apply s_Tape_next_157 step
      have hal2 : alF b (p + r) = true := decide_eq_true hal
      refine q_non (c_readRun hTN (by rw [mI_n2 (by decide)]; exact n3) mI_eq (by rw [mI_n2 (by decide)]; exact n6) n7 n8 hlt hal2) ?_
      rintro N2 ⟨a1, a2, a3, a4, a5, a6, a7⟩
      have hn2 : ¬ n ≤ p + r := by omega
      refine ⟨rfl, FN.trans a1, ?_, ?_, ?_, ?_, ?_, ?_⟩
      · rw [if_neg hno, if_neg hn2, if_pos hal]
        exact a2
      · rw [if_neg hno]
        exact a3
      · rw [if_neg hno, if_neg hn2, if_pos hal]
        exact a4
      · rw [if_neg hno, if_neg hn2, if_pos hal]
        exact a5
      · rw [if_neg hno, if_neg hn2, if_pos hal]
        exact a6
      · rw [if_neg hno, if_neg hn2, if_pos hal, if_pos hal]
        intro y
        refine a7 ?_
        rcases y with y | y
        · exact y
        · exfalso
          revert y
          split
          · decide
          · split <;> decide
    have at100 : ¬ (L < n ∧ L ≤ p + r) → At 100 [.ref 2] [] (sI N 2 4 (I ((p + r : Nat) : Int))) := by
      intro hno
      apply s_Tape_next_100 step
      rw [mI_n2 (show 3 ≠ 4 by decide), mI_n2 (show 1 ≠ 4 by decide), n3, t1, I_lt (by omega) (by omega) (by omega) (by omega), ixI (by omega) (by omega), Int.toNat_natCast, mI_n1 (show 3 ≠ 2 by decide)]
      refine ⟨fun z => ?_, fun z => ?_⟩
      · have hlt : p + r < n := by omega
        have hn2 : ¬ n ≤ p + r := by omega
        have hi : inR (I ((p + r : Nat) : Int)) 940 := inRI (by omega) (by omega) (by omega)
        obtain ⟨y1, y2⟩ := t3 (p + r) hlt
        rw [y1]
        refine ⟨hi, _, _, c_isLetter y2, fun z2 => ?_, fun z2 => ?_⟩
        · have nl : ¬ isLe (b (p + r)) := fun y => by
            rw [if_pos y] at z2
            exact absurd z2 (by decide)
          rw [mI_n2 (show 3 ≠ 4 by decide), n3, ixI (by omega) (by omega), Int.toNat_natCast, mI_n1 (show 3 ≠ 2 by decide), y1]
          refine ⟨hi, _, _, c_isDigit y2, fun z3 => ?_, fun z3 => ?_⟩
          · have nd : ¬ isDi (b (p + r)) := fun y => by
              rw [if_pos y] at z3
              exact absurd z3 (by decide)
            have nal : ¬ (isLe (b (p + r)) ∨ isDi (b (p + r))) := fun y => by
              rcases y with y | y
              · exact nl y
              · exact nd y
            rw [mI_n2 (show 3 ≠ 4 by decide), n3, ixI (by omega) (by omega), Int.toNat_natCast, mI_n1 (show 3 ≠ 2 by decide), y1]
            have last : ∀ v : Int, (v = if isSi (b (p + r)) then 4 else 1) → none = (none : Option Value) ∧ FrK M (sI (sI (sI (sI N 2 4 (I ((p + r : Nat) : Int))) 2 6 (I (b (p + r) : Nat))) 2 5 (I v)) 2 3 (I ((p + r : Nat) + 1))) ∧ (sI (sI (sI (sI N 2 4 (I ((p + r : Nat) : Int))) 2 6 (I (b (p + r) : Nat))) 2 5 (I v)) 2 3 (I ((p + r : Nat) + 1))).1 2 3 = I ((p + r + 1 : Nat) : Int) ∧ (sI (sI (sI (sI N 2 4 (I ((p + r : Nat) : Int))) 2 6 (I (b (p + r) : Nat))) 2 5 (I v)) 2 3 (I ((p + r : Nat) + 1))).1 2 4 = I ((p + r : Nat) : Int) ∧ (sI (sI (sI (sI N 2 4 (I ((p + r : Nat) : Int))) 2 6 (I (b (p + r) : Nat))) 2 5 (I v)) 2 3 (I ((p + r : Nat) + 1))).1 2 5 = I v ∧ (sI (sI (sI (sI N 2 4 (I ((p + r : Nat) : Int))) 2 6 (I (b (p + r) : Nat))) 2 5 (I v)) 2 3 (I ((p + r : Nat) + 1))).2.2 2 8 = 0 ∧ (sI (sI (sI (sI N 2 4 (I ((p + r : Nat) : Int))) 2 6 (I (b (p + r) : Nat))) 2 5 (I v)) 2 3 (I ((p + r : Nat) + 1))).1 2 6 = I (b (p + r) : Nat) := fun v _ =>
              ⟨rfl, FrK_i (FrK_i (FrK_i FN (by omega)) (by omega)) (by omega), mI_eq, by rw [mI_n2 (by decide), mI_n2 (by decide), mI_n2 (by decide), mI_eq], by rw [mI_n2 (by decide), mI_eq], n8, by rw [mI_n2 (by decide), mI_n2 (by decide), mI_eq]⟩
            have e3 : ∀ x : Int, (sI (sI (sI N 2 4 (I ((p + r : Nat) : Int))) 2 6 (I (b (p + r) : Nat))) 2 5 (I x)).1 2 3 = I ((p + r : Nat) : Int) := fun x => by rw [mI_n2 (by decide), mI_n2 (by decide), mI_n2 (by decide), n3]
            refine ⟨hi, _, _, c_isSign y2, fun z4 => ?_, fun z4 => ?_⟩
            · have ns : ¬ isSi (b (p + r)) := fun y => by
                rw [if_pos y] at z4
                exact absurd z4 (by decide)
              obtain ⟨x1, x2, x3, x4, x5, x6, x7⟩ := last 1 (by rw [if_neg ns])
              rw [mI_n2 (show 3 ≠ 6 by decide), mI_n2 (show 3 ≠ 4 by decide), n3, I_add]
              refine ⟨x1, x2, ?_, ?_, ?_, ?_, ?_, ?_⟩
              · rw [if_neg hno, if_neg hn2, if_neg nal]
                exact x3
              · rw [if_neg hno]
                exact x4
              · rw [if_neg hno, if_neg hn2, if_neg nal, if_neg ns]
                exact x5
              · rw [if_neg hno, if_neg hn2, if_neg nal, if_neg ns]
                exact fun y => absurd y (by decide)
              · exact fun _ => x6
              · rw [if_neg hno, if_neg hn2, if_neg nal, if_neg ns]
                exact fun y => absurd y (by decide)
            · have ns : isSi (b (p + r)) := Classical.byContradiction fun y => z4 (by rw [if_neg y])
              obtain ⟨x1, x2, x3, x4, x5, x6, x7⟩ := last 4 (by rw [if_pos ns])
              rw [mI_n2 (show 3 ≠ 6 by decide), mI_n2 (show 3 ≠ 4 by decide), n3, I_add]
              refine ⟨x1, x2, ?_, ?_, ?_, ?_, ?_, ?_⟩
              · rw [if_neg hno, if_neg hn2, if_neg nal]
                exact x3
              · rw [if_neg hno]
                exact x4
              · rw [if_neg hno, if_neg hn2, if_neg nal, if_pos ns]
                exact x5
              · rw [if_neg hno, if_neg hn2, if_neg nal, if_pos ns]
                exact fun y => absurd y (by decide)
              · exact fun _ => x6
              · rw [if_neg nal, if_neg nal]
                exact fun _ => x7
          · have nd : isDi (b (p + r)) := Classical.byContradiction fun y => z3 (by rw [if_neg y])
            exact at157 hno hlt (Or.inr nd)
        · have nl : isLe (b (p + r)) := Classical.byContradiction fun y => z2 (by rw [if_neg y])
          exact at157 hno hlt (Or.inl nl)
      · have hn2 : n ≤ p + r := by omega
        have en : n = p + r := by omega
        refine ⟨rfl, FrK_i (FrK_i FN (by omega)) (by omega), ?_, ?_, ?_, ?_, ?_, ?_⟩
        · rw [if_neg hno, if_pos hn2, mI_n2 (by decide), mI_n2 (by decide), mI_n2 (by decide)]
          exact n3
        · rw [if_neg hno, mI_eq, en]
        · rw [if_neg hno, if_pos hn2, mI_n2 (by decide), mI_eq]
          rfl
        · rw [if_neg hno, if_pos hn2]
          exact fun y => absurd y (by decide)
        · exact fun _ => n8
        · rw [if_neg hno, if_pos hn2]
          exact fun y => absurd y (by decide)
    have at54 : At 54 [.ref 2] [] N := by
      apply s_Tape_next_54 step
      rw [t1, t2, n3, I_lt (by omega) (by omega) (by omega) (by omega), I_lt (by omega) (by omega) (by omega) (by omega)]
      refine ⟨fun z => ⟨fun z2 => at100 (by omega), fun z2 => ?_⟩, fun z => at100 (by omega)⟩
      have hc : L < n ∧ L ≤ p + r := by omega
      refine ⟨rfl, FrK_i (FrK_i (FrK_i hF (by omega)) (by omega)) (by omega), ?_, ?_, ?_, ?_, ?_, ?_⟩
      · rw [if_pos hc, mI_n2 (by decide), mI_n2 (by decide), mI_n2 (by decide)]
        exact n3
      · rw [if_pos hc, mI_eq]
      · rw [if_pos hc, mI_n2 (by decide), mI_eq]
        rfl
      · rw [if_pos hc]
        exact fun y => absurd y (by decide)
      · exact fun _ => n8
      · rw [if_pos hc]
        exact fun y => absurd y (by decide)
    apply s_Tape_next_15 step
    rw [n3, t1, I_lt (by omega) (by omega) (by omega) (by omega), ixI (by omega) (by omega), Int.toNat_natCast]
    refine ⟨fun z => ?_, fun _ => at54⟩
    have hlt : p + r < n := by omega
    obtain ⟨y1, y2⟩ := t3 (p + r) hlt
    have nb : ¬ isBl (b (p + r)) := fun y => hqe ⟨hlt, decide_eq_true y⟩
    rw [y1]
    refine ⟨inRI (by omega) (by omega) (by omega), _, _, c_isBlank y2, fun _ => at54, fun z2 => ?_⟩
    rw [if_neg nb] at z2
    exact absurd rfl z2
  · intro j hj nx N hF n3 n6 n7 n8
    obtain ⟨t1, t2, t3⟩ := tc N hF
    obtain ⟨hlt, hbl⟩ := hqa (p + j) (by omega) (by omega)
    have hbl2 : isBl (b (p + j)) := of_decide_eq_true hbl
    obtain ⟨y1, y2⟩ := t3 (p + j) hlt
    apply s_Tape_next_15 step
    rw [n3, t1, I_lt (by omega) (by omega) (by omega) (by omega), ixI (by omega) (by omega), Int.toNat_natCast, y1]
    refine ⟨fun _ => ⟨inRI (by omega) (by omega) (by omega), _, _, c_isBlank y2, fun z => ?_, fun _ => ?_⟩, fun z => absurd (by omega) z⟩
    · rw [if_pos hbl2] at z
      exact absurd z (by decide)
    · rw [n3, I_add]
      exact nx _ (FrK_i hF (by omega)) mI_eq (by rw [mI_n2 (by decide)]; exact n6) n7 n8
end TOK
