/-! ===== a street's text: the spec; the class's reader ===== -/
abbrev ST : Type := (Nat → Int) × (Nat → List Nat) × Nat
section LNS
variable (b : Nat → Nat) (n L : Nat)
def pFresh (g : Nat → Int) (nm : Nat → List Nat) (p : Nat) : PE (List Nat × Nat) := if tkW b n L p = 23 then (if fnd nm (tkL b n p) 0 (g 0).toNat ≠ -1 ∨ fnd nm (tkL b n p) 5 (g 1).toNat ≠ -1 ∨ fnd nm (tkL b n p) 15 (g 2).toNat ≠ -1 then .error (3, tkS b n L p) else .ok (tkL b n p, tkN b n L p)) else .error (1, tkS b n L p)
def lnWall (g : Nat → Int) (nm : Nat → List Nat) (on p : Nat) : PE (ST × Nat) := if g 0 = 5 then .error (4, tkS b n L p) else bnd (pFresh b n L g nm (tkN b n L p)) fun x => bnd (pNum b n L 1 20 x.2) fun y => .ok ((upf (upf g (8 + (g 0).toNat) y.1) 0 (g 0 + 1), upf nm (g 0).toNat x.1, on), y.2)
def pWO (g : Nat → Int) (nm : Nat → List Nat) (p : Nat) : PE Int := if tkW b n L p = 2 then .ok 0 else bnd (pNamed b n L nm 0 (g 0).toNat p) fun w => .ok (w + 1)
def lnHouse (g : Nat → Int) (nm : Nat → List Nat) (on p : Nat) : PE (ST × Nat) := if g 1 = 10 then .error (4, tkS b n L p) else bnd (pFresh b n L g nm (tkN b n L p)) fun x => bnd (pWO b n L g nm x.2) fun w => bnd (pNum b n L 1 99 (tkN b n L x.2)) fun y => bnd (pNum b n L 0 60 y.2) fun z => .ok ((upf (upf (upf (upf g (13 + (g 1).toNat) w) (23 + (g 1).toNat) y.1) (33 + (g 1).toNat) z.1) 1 (g 1 + 1), upf nm (5 + (g 1).toNat) x.1, on), z.2)
def lnDrain (g : Nat → Int) (nm : Nat → List Nat) (on p : Nat) : PE (ST × Nat) := if g 2 = 6 then .error (4, tkS b n L p) else bnd (pFresh b n L g nm (tkN b n L p)) fun x => bnd (pNamed b n L nm 0 (g 0).toNat x.2) fun w => bnd (pNum b n L 0 60 (tkN b n L x.2)) fun y => bnd (pNum b n L 1 40 y.2) fun z => .ok ((upf (upf (upf (upf g (43 + (g 2).toNat) w) (49 + (g 2).toNat) y.1) (55 + (g 2).toNat) z.1) 2 (g 2 + 1), upf nm (15 + (g 2).toNat) x.1, on), z.2)
def lnPair (cnt most fst : Nat) (high : Int) (snd : Nat) (lo hi : Int) (g : Nat → Int) (nm : Nat → List Nat) (on p : Nat) : PE (ST × Nat) := if g cnt = most then .error (4, tkS b n L p) else bnd (pSee b n L 0 high (tkN b n L p)) fun x => if ∃ k, k < (g cnt).toNat ∧ g (fst + k) = x then .error (3, tkS b n L (tkN b n L p)) else bnd (pNum b n L lo hi (tkN b n L (tkN b n L p))) fun y => .ok ((upf (upf (upf g (fst + (g cnt).toNat) x) (snd + (g cnt).toNat) y.1) cnt (g cnt + 1), nm, on), y.2)
def lnOnce (k to : Nat) (lo hi : Int) (g : Nat → Int) (nm : Nat → List Nat) (on p : Nat) : PE (ST × Nat) := if bt on k = 1 then .error (3, tkS b n L p) else bnd (pNum b n L lo hi (tkN b n L p)) fun y => .ok ((upf g to y.1, nm, on ||| 2 ^ k), y.2)
def lnS (g : Nat → Int) (nm : Nat → List Nat) (on p : Nat) : PE (ST × Nat) :=
  if tkW b n L p = 0 then lnWall b n L g nm on p else if tkW b n L p = 1 then lnHouse b n L g nm on p else if tkW b n L p = 3 then lnDrain b n L g nm on p
  else if tkW b n L p = 4 then lnPair b n L 3 6 61 60 67 1 99 g nm on p else if tkW b n L p = 5 then lnPair b n L 4 8 73 47 81 0 60 g nm on p
  else if tkW b n L p = 6 then lnOnce b n L 0 5 1 60 g nm on p else if tkW b n L p = 7 then lnOnce b n L 1 6 0 999 g nm on p else if tkW b n L p = 8 then lnOnce b n L 2 7 1 20 g nm on p
  else .error (1, tkS b n L p)
def lnsS : Nat → Nat → ST → Nat → PE (Nat × ST)
  | 0, _, _, _ => .error (1, 0)
  | f + 1, ln, st, p => if tkK b n L p = 0 then .ok (ln, st) else bnd (lnS b n L st.1 st.2.1 st.2.2 p) fun x => bnd (pSign b n L 59 x.2) fun q => lnsS f (ln + 1) x.1 q
end LNS
def g00 : Nat → Int := fun k => if k = 5 then 10 else if k = 6 then 900 else if k = 7 then 11 else 0
section LNP
variable {b : Nat → Nat} {n L p : Nat} {g : Nat → Int} {nm : Nat → List Nat}
theorem lnsS_s {f ln : Nat} {st : ST} : lnsS b n L (f + 1) ln st p = if tkK b n L p = 0 then .ok (ln, st) else bnd (lnS b n L st.1 st.2.1 st.2.2 p) fun x => bnd (pSign b n L 59 x.2) fun q => lnsS b n L f (ln + 1) x.1 q := rfl
theorem bnd_ok {α β : Type} {x : PE α} {f : α → PE β} {y : β} (h : bnd x f = .ok y) : ∃ z, x = .ok z ∧ f z = .ok y := by
  cases x with
  | error e => cases h
  | ok z => exact ⟨z, rfl, h⟩
theorem pSee_ok {lo hi x : Int} (h : pSee b n L lo hi p = .ok x) : tkK b n L p = 3 ∧ lo ≤ x ∧ x ≤ hi ∧ x = tkV b n p := by
  unfold pSee at h
  by_cases h1 : tkK b n L p = 3
  · rw [if_pos h1] at h
    by_cases h2 : tkV b n p < lo ∨ hi < tkV b n p
    · rw [if_pos h2] at h
      cases h
    · rw [if_neg h2] at h
      cases h
      exact ⟨h1, by omega, by omega, rfl⟩
  · rw [if_neg h1] at h
    cases h
theorem pNum_ok {lo hi : Int} {x : Int × Nat} (h : pNum b n L lo hi p = .ok x) : tkK b n L p = 3 ∧ lo ≤ x.1 ∧ x.1 ≤ hi ∧ x.2 = tkN b n L p := by
  obtain ⟨z, h1, h2⟩ := bnd_ok h
  cases h2
  have := pSee_ok h1
  exact ⟨this.1, this.2.1, this.2.2.1, rfl⟩
theorem pSign_ok {c : Int} {q : Nat} (h : pSign b n L c p = .ok q) : tkK b n L p = 4 ∧ q = tkN b n L p := by
  unfold pSign at h
  by_cases h1 : tkK b n L p = 4 ∧ tkV b n p = c
  · rw [if_pos h1] at h
    cases h
    exact ⟨h1.1, rfl⟩
  · rw [if_neg h1] at h
    cases h
theorem pNamed_ok {f many : Nat} {x : Int} (h : pNamed b n L nm f many p = .ok x) : tkK b n L p = 2 ∧ 0 ≤ x ∧ x < many := by
  unfold pNamed at h
  by_cases h1 : tkW b n L p = 23
  · rw [if_pos h1] at h
    by_cases h2 : fnd nm (tkL b n p) f many = -1
    · rw [if_pos h2] at h
      cases h
    · rw [if_neg h2] at h
      cases h
      have := fnd_b (nm := nm) (l := tkL b n p) (f := f) (m := many)
      exact ⟨tkW_2.mp (by omega), by omega, by omega⟩
  · rw [if_neg h1] at h
    cases h
theorem pFresh_ok {x : List Nat × Nat} (h : pFresh b n L g nm p = .ok x) : tkK b n L p = 2 ∧ x.1 = tkL b n p ∧ x.2 = tkN b n L p := by
  unfold pFresh at h
  by_cases h1 : tkW b n L p = 23
  · rw [if_pos h1] at h
    by_cases h2 : fnd nm (tkL b n p) 0 (g 0).toNat ≠ -1 ∨ fnd nm (tkL b n p) 5 (g 1).toNat ≠ -1 ∨ fnd nm (tkL b n p) 15 (g 2).toNat ≠ -1
    · rw [if_pos h2] at h
      cases h
    · rw [if_neg h2] at h
      cases h
      exact ⟨tkW_2.mp (by omega), rfl, rfl⟩
  · rw [if_neg h1] at h
    cases h
theorem pWO_ok {x : Int} (hg : 0 ≤ g 0) (h : pWO b n L g nm p = .ok x) : tkK b n L p = 2 ∧ 0 ≤ x ∧ x ≤ g 0 := by
  unfold pWO at h
  by_cases h1 : tkW b n L p = 2
  · rw [if_pos h1] at h
    cases h
    exact ⟨tkW_2.mp (by omega), by omega, hg⟩
  · rw [if_neg h1] at h
    obtain ⟨z, h2, h3⟩ := bnd_ok h
    cases h3
    have := pNamed_ok h2
    exact ⟨this.1, by omega, by omega⟩
end LNP
