/-! ===== only the first 303 numbers count ===== -/
section CG
variable {g g' : Nat → Int}
theorem RGs_cg (e : ∀ i, i < 303 → g' i = g i) (h : RGs g) : RGs g' := by
  obtain ⟨h1, h2, h3, h4, h5, h6, h7, h8⟩ := h
  refine ⟨?_, fun w hw => ?_, fun k hk => ?_, fun k hk => ?_, fun k hk => ?_, fun k hk => ?_, fun j k hj hk => ?_, fun j k hj hk => ?_⟩
  · rw [e 0 (by omega), e 1 (by omega), e 2 (by omega), e 3 (by omega), e 4 (by omega), e 5 (by omega), e 6 (by omega), e 7 (by omega)]
    exact h1
  · rw [e (8 + w) (by omega), e 0 (by omega)]
    exact h2 w hw
  · rw [e (13 + k) (by omega), e (23 + k) (by omega), e (33 + k) (by omega), e 0 (by omega), e 1 (by omega)]
    exact h3 k hk
  · rw [e (43 + k) (by omega), e (49 + k) (by omega), e (55 + k) (by omega), e 0 (by omega), e 2 (by omega)]
    exact h4 k hk
  · rw [e (61 + k) (by omega), e (67 + k) (by omega), e 3 (by omega)]
    exact h5 k hk
  · rw [e (73 + k) (by omega), e (81 + k) (by omega)]
    exact h6 k hk
  · rw [e 3 (by omega)] at hj hk
    rw [e (61 + j) (by omega), e (61 + k) (by omega)]
    exact h7 j k hj hk
  · rw [e 4 (by omega)] at hj hk
    rw [e (73 + j) (by omega), e (73 + k) (by omega)]
    exact h8 j k hj hk
theorem RGd_cg (e : ∀ i, i < 303 → g' i = g i) (h : RGd g) : RGd g' := by
  obtain ⟨h1, h2, h3, h4⟩ := h
  refine ⟨?_, fun w hw => ?_, fun k hk => ?_, fun k hk => ?_⟩
  · unfold tot at h1 ⊢
    rw [e 89 (by omega), e 90 (by omega), e 91 (by omega), e 92 (by omega), e 93 (by omega), e 94 (by omega), e 95 (by omega), e 96 (by omega), e 98 (by omega), e 99 (by omega), e 100 (by omega), e 101 (by omega), e 102 (by omega), e 103 (by omega), e 104 (by omega), e 105 (by omega), e 106 (by omega), e 107 (by omega), e 108 (by omega), e 109 (by omega), e 110 (by omega), e 111 (by omega), e 0 (by omega), e 2 (by omega)]
    exact h1
  · rw [e (101 + w) (by omega)]
    exact h2 w hw
  · rw [e (106 + k) (by omega)]
    exact h3 k hk
  · rw [e (112 + k) (by omega), e 100 (by omega), e 1 (by omega)]
    exact h4 k hk
theorem RN_cg (e : ∀ i, i < 303 → g' i = g i) (h : RN g) : RN g' := by
  unfold RN at h ⊢
  rw [e 96 (by omega), e 89 (by omega), e 92 (by omega), e 99 (by omega)]
  exact h
theorem CSr_cg (e : ∀ i, i < 303 → g' i = g i) {M : Mm} {p : Nat} (hs : RGs g) (h : CSr M p g) : CSr M p g' := by
  have hs1 := hs.1
  obtain ⟨h1, h2, h3, h4, h5, h6⟩ := h
  refine ⟨?_, fun w hw => ?_, fun k hk => ?_, fun k hk => ?_, fun k hk => ?_, fun k hk => ?_⟩
  · rw [e 0 (by omega), e 1 (by omega), e 2 (by omega), e 3 (by omega), e 4 (by omega), e 5 (by omega), e 6 (by omega), e 7 (by omega)]
    exact h1
  · rw [e 0 (by omega)] at hw
    rw [e (8 + w) (by omega)]
    exact h2 w hw
  · rw [e 1 (by omega)] at hk
    rw [e (13 + k) (by omega), e (23 + k) (by omega), e (33 + k) (by omega)]
    exact h3 k hk
  · rw [e 2 (by omega)] at hk
    rw [e (43 + k) (by omega), e (49 + k) (by omega), e (55 + k) (by omega)]
    exact h4 k hk
  · rw [e 3 (by omega)] at hk
    rw [e (61 + k) (by omega), e (67 + k) (by omega)]
    exact h5 k hk
  · rw [e 4 (by omega)] at hk
    rw [e (73 + k) (by omega), e (81 + k) (by omega)]
    exact h6 k hk
theorem CSt_cg (e : ∀ i, i < 303 → g' i = g i) {M : Mm} {o : Nat} (h : CSt M o g) : CSt M o g' := by
  obtain ⟨h1, h2, h3, h4⟩ := h
  refine ⟨?_, fun w hw => ?_, fun k hk => ?_, fun k hk => ?_⟩
  · rw [e 89 (by omega), e 90 (by omega), e 91 (by omega), e 92 (by omega), e 93 (by omega), e 94 (by omega), e 95 (by omega), e 96 (by omega), e 97 (by omega), e 98 (by omega), e 99 (by omega)]
    exact h1
  · rw [e (101 + w) (by omega)]
    exact h2 w hw
  · rw [e (106 + k) (by omega)]
    exact h3 k hk
  · rw [e (112 + k) (by omega)]
    exact h4 k hk
theorem cd_cg (e : ∀ i, i < 303 → g' i = g i) {i : Nat} (h : i < 40) : cdC g' i = cdC g i ∧ cdS g' i = cdS g i ∧ cdN g' i = cdN g i := by
  unfold cdC cdS cdN
  exact ⟨e _ (by omega), e _ (by omega), e _ (by omega)⟩
theorem dp_cg (e : ∀ i, i < 303 → g' i = g i) : ∀ i : Nat, i ≤ 40 → dpG g' i = dpG g i
  | 0, _ => rfl
  | i + 1, h => by
    rw [dpG_s, dpG_s, (cd_cg e (show i < 40 by omega)).1, dp_cg e i (by omega)]
theorem SG_cg (e : ∀ i, i < 303 → g' i = g i) (h : SG g) : SG g' := by
  obtain ⟨h1, h2, h3⟩ := h
  have e2 := e 122 (by omega)
  refine ⟨by rw [e2]; exact h1, by rw [e2, dp_cg e _ (by omega)]; exact h2, fun i hi => ?_⟩
  rw [e2] at hi
  obtain ⟨x1, x2, x3⟩ := cd_cg e (show i < 40 by omega)
  rw [x1, x2, x3, dp_cg e i (by omega)]
  exact h3 i hi
theorem CSq_cg (e : ∀ i, i < 303 → g' i = g i) {M : Mm} {o : Nat} (hq : SG g) (h : CSq M o g) : CSq M o g' := by
  have hq1 := hq.1
  obtain ⟨h1, h2, h3⟩ := h
  have e2 := e 122 (by omega)
  refine ⟨by rw [e2]; exact h1, fun i hi => ?_, by rw [e2]; exact h3⟩
  rw [e2] at hi
  obtain ⟨x1, x2, x3⟩ := cd_cg e (show i < 40 by omega)
  rw [x1, x2, x3]
  exact h2 i hi
end CG
/-! ===== names: what the class keeps, what the reference keeps ===== -/
/-- letters are 1 .. 26; the class packs them by 27, the reference as bytes -/
def nmC (l : List Nat) : Nat := l.foldl (fun a x => a * 27 + x) 0
def nmR (l : List Nat) : Nat := l.foldl (fun a x => a * 256 + (96 + x)) 0
def nmOk (l : List Nat) : Prop := 1 ≤ l.length ∧ l.length ≤ 7 ∧ ∀ x, x ∈ l → 1 ≤ x ∧ x ≤ 26
def J (a : Nat) : Int64 := Int64.ofInt (a : Int)
def CNm (M : Mm) (p : Nat) (g : Nat → Int) (nm : Nat → List Nat) : Prop := (∀ w : Nat, (w : Int) < g 0 → M.2.1 (p + 1) w = J (nmC (nm w))) ∧ (∀ k : Nat, (k : Int) < g 1 → M.2.1 (p + 3) k = J (nmC (nm (5 + k)))) ∧ (∀ k : Nat, (k : Int) < g 2 → M.2.1 (p + 7) k = J (nmC (nm (15 + k))))
def RNm (M : Mm) (a off : Nat) (g : Nat → Int) (nm : Nat → List Nat) : Prop := (∀ w : Nat, (w : Int) < g 0 → M.2.1 a (off + w) = J (nmR (nm w))) ∧ (∀ k : Nat, (k : Int) < g 1 → M.2.1 a (off + (5 + k)) = J (nmR (nm (5 + k)))) ∧ (∀ k : Nat, (k : Int) < g 2 → M.2.1 a (off + (15 + k)) = J (nmR (nm (15 + k))))
def NMo (g : Nat → Int) (nm : Nat → List Nat) : Prop := (∀ w : Nat, (w : Int) < g 0 → nmOk (nm w)) ∧ (∀ k : Nat, (k : Int) < g 1 → nmOk (nm (5 + k))) ∧ (∀ k : Nat, (k : Int) < g 2 → nmOk (nm (15 + k)))
theorem CNm_cg {M : Mm} {p : Nat} {g g' : Nat → Int} {nm : Nat → List Nat} (e : ∀ i, i < 303 → g' i = g i) (h : CNm M p g nm) : CNm M p g' nm := by
  unfold CNm at h ⊢
  rw [e 0 (by omega), e 1 (by omega), e 2 (by omega)]
  exact h
theorem RNm_cg {M : Mm} {a off : Nat} {g g' : Nat → Int} {nm : Nat → List Nat} (e : ∀ i, i < 303 → g' i = g i) (h : RNm M a off g nm) : RNm M a off g' nm := by
  unfold RNm at h ⊢
  rw [e 0 (by omega), e 1 (by omega), e 2 (by omega)]
  exact h
theorem NMo_cg {g g' : Nat → Int} {nm : Nat → List Nat} (e : ∀ i, i < 303 → g' i = g i) (h : NMo g nm) : NMo g' nm := by
  unfold NMo at h ⊢
  rw [e 0 (by omega), e 1 (by omega), e 2 (by omega)]
  exact h
