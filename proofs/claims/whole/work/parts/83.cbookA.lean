/-! ===== a book's text: the spec; the class's reader ===== -/
abbrev BL : Type := Nat × Int × Int × Int
section BKS
variable (b : Nat → Nat) (n L : Nat)
def pTgt (g : Nat → Int) (nm : Nat → List Nat) (p : Nat) : PE Int := if tkW b n L p = 23 then (if fnd nm (tkL b n p) 15 (g 2).toNat ≠ -1 then .ok (10 + fnd nm (tkL b n p) 15 (g 2).toNat) else pNamed b n L nm 0 (g 0).toNat p) else .error (1, tkS b n L p)
def pPost (g : Nat → Int) (nm : Nat → List Nat) (p : Nat) : PE (BL × Nat) := bnd (pNum b n L 0 60 p) fun x => bnd (pNum b n L 0 60 x.2) fun y => bnd (pTgt b n L g nm y.2) fun t => .ok ((0, x.1, y.1, t), tkN b n L y.2)
def bkLn (g : Nat → Int) (nm : Nat → List Nat) (m p : Nat) : PE (BL × Nat) :=
  if tkW b n L p = 9 then (if m = 40 then .error (4, tkS b n L p) else pPost b n L g nm (tkN b n L p))
  else if tkW b n L p = 10 then (if m = 40 then .error (4, tkS b n L p) else bnd (pNamed b n L nm 0 (g 0).toNat (tkN b n L p)) fun w => .ok ((1, w, 0, 0), tkN b n L (tkN b n L p)))
  else if tkW b n L p = 11 then (if m = 40 then .error (4, tkS b n L p) else bnd (pNamed b n L nm 5 (g 1).toNat (tkN b n L p)) fun w => .ok ((2, w, 0, 0), tkN b n L (tkN b n L p)))
  else if tkW b n L p = 12 then (if m = 40 then .error (4, tkS b n L p) else bnd (pSee b n L 1 24 (tkN b n L p)) fun w => .ok ((3, w, 0, 0), tkN b n L (tkN b n L p)))
  else .error (1, tkS b n L p)
def bkS (g : Nat → Int) (nm : Nat → List Nat) : Nat → Nat → (Nat → BL) → Nat → PE (Nat × (Nat → BL))
  | 0, _, _, _ => .error (1, 0)
  | f + 1, m, bk, p => if tkK b n L p = 0 then .ok (m, bk) else bnd (bkLn b n L g nm m p) fun x => bnd (pSign b n L 59 x.2) fun q => bkS g nm f (m + 1) (upf bk m x.1) q
end BKS
def bkOk (g : Nat → Int) (l : BL) : Prop := (l.1 = 0 ∧ (0 ≤ l.2.1 ∧ l.2.1 ≤ 60) ∧ (0 ≤ l.2.2.1 ∧ l.2.2.1 ≤ 60) ∧ ((0 ≤ l.2.2.2 ∧ l.2.2.2 < g 0) ∨ (10 ≤ l.2.2.2 ∧ l.2.2.2 < 10 + g 2))) ∨ (l.1 = 1 ∧ 0 ≤ l.2.1 ∧ l.2.1 < g 0) ∨ (l.1 = 2 ∧ 0 ≤ l.2.1 ∧ l.2.1 < g 1) ∨ (l.1 = 3 ∧ 1 ≤ l.2.1 ∧ l.2.1 ≤ 24)
section BKP
variable {b : Nat → Nat} {n L p : Nat} {g : Nat → Int} {nm : Nat → List Nat}
theorem bkS_s {f m : Nat} {bk : Nat → BL} : bkS b n L g nm (f + 1) m bk p = if tkK b n L p = 0 then .ok (m, bk) else bnd (bkLn b n L g nm m p) fun x => bnd (pSign b n L 59 x.2) fun q => bkS b n L g nm f (m + 1) (upf bk m x.1) q := rfl
theorem pTgt_ok {x : Int} (hs : RGs g) (h : pTgt b n L g nm p = .ok x) : tkK b n L p = 2 ∧ ((0 ≤ x ∧ x < g 0) ∨ (10 ≤ x ∧ x < 10 + g 2)) := by
  have h1 := hs.1
  unfold pTgt at h
  by_cases c : tkW b n L p = 23
  · rw [if_pos c] at h
    have k2 : tkK b n L p = 2 := tkW_2.mp (by omega)
    have hb := fnd_b (nm := nm) (l := tkL b n p) (f := 15) (m := (g 2).toNat)
    by_cases c2 : fnd nm (tkL b n p) 15 (g 2).toNat ≠ -1
    · rw [if_pos c2] at h
      cases h
      exact ⟨k2, by omega⟩
    · rw [if_neg c2] at h
      have := pNamed_ok h
      exact ⟨k2, by omega⟩
  · rw [if_neg c] at h
    cases h
theorem bkLn_ok {m : Nat} {x : BL × Nat} (hp : p ≤ n) (hs : RGs g) (h : bkLn b n L g nm m p = .ok x) : bkOk g x.1 ∧ tkN b n L p ≤ x.2 ∧ x.2 ≤ n ∧ tkK b n L p = 2 ∧ m ≠ 40 := by
  have h0 := hs.1
  have a1 := tk_four (b := b) (n := n) (L := L) hp
  have a2 := tk_four (b := b) (n := n) (L := L) a1.1.2.1
  unfold bkLn at h
  by_cases c9 : tkW b n L p = 9
  · rw [if_pos c9] at h
    by_cases cm : m = 40
    · rw [if_pos cm] at h
      cases h
    rw [if_neg cm] at h
    obtain ⟨y, h1, h2⟩ := bnd_ok h
    obtain ⟨z, h3, h4⟩ := bnd_ok h2
    obtain ⟨t, h5, h6⟩ := bnd_ok h4
    cases h6
    have f1 := pNum_ok h1
    rw [f1.2.2.2] at h3
    have f2 := pNum_ok h3
    rw [f2.2.2.2] at h5
    have f3 := pTgt_ok hs h5
    have a3 := tk_four (b := b) (n := n) (L := L) a2.1.2.1
    have a4 := tk_four (b := b) (n := n) (L := L) a3.1.2.1
    rw [f2.2.2.2]
    exact ⟨Or.inl ⟨rfl, ⟨f1.2.1, f1.2.2.1⟩, ⟨f2.2.1, f2.2.2.1⟩, f3.2⟩, Nat.le_trans a2.1.1 (Nat.le_trans a3.1.1 a4.1.1), a4.1.2.1, tkW_2.mp (by rw [c9]; decide), cm⟩
  rw [if_neg c9] at h
  by_cases c10 : tkW b n L p = 10
  · rw [if_pos c10] at h
    by_cases cm : m = 40
    · rw [if_pos cm] at h
      cases h
    rw [if_neg cm] at h
    obtain ⟨w, h1, h2⟩ := bnd_ok h
    cases h2
    have f1 := pNamed_ok h1
    have f2 : w < g 0 := by
      have := f1.2.2
      rw [Int.toNat_of_nonneg h0.1.1] at this
      exact this
    exact ⟨Or.inr (Or.inl ⟨rfl, f1.2.1, f2⟩), a2.1.1, a2.1.2.1, tkW_2.mp (by rw [c10]; decide), cm⟩
  rw [if_neg c10] at h
  by_cases c11 : tkW b n L p = 11
  · rw [if_pos c11] at h
    by_cases cm : m = 40
    · rw [if_pos cm] at h
      cases h
    rw [if_neg cm] at h
    obtain ⟨w, h1, h2⟩ := bnd_ok h
    cases h2
    have f1 := pNamed_ok h1
    have f2 : w < g 1 := by
      have := f1.2.2
      rw [Int.toNat_of_nonneg h0.2.1.1] at this
      exact this
    exact ⟨Or.inr (Or.inr (Or.inl ⟨rfl, f1.2.1, f2⟩)), a2.1.1, a2.1.2.1, tkW_2.mp (by rw [c11]; decide), cm⟩
  rw [if_neg c11] at h
  by_cases c12 : tkW b n L p = 12
  · rw [if_pos c12] at h
    by_cases cm : m = 40
    · rw [if_pos cm] at h
      cases h
    rw [if_neg cm] at h
    obtain ⟨w, h1, h2⟩ := bnd_ok h
    cases h2
    have f1 := pSee_ok h1
    exact ⟨Or.inr (Or.inr (Or.inr ⟨rfl, f1.2.1, f1.2.2.1⟩)), a2.1.1, a2.1.2.1, tkW_2.mp (by rw [c12]; decide), cm⟩
  rw [if_neg c12] at h
  cases h
theorem bk_step {m q : Nat} {x : BL × Nat} (hp : p ≤ n) (hs : RGs g) (h : bkLn b n L g nm m p = .ok x) (h2 : pSign b n L 59 x.2 = .ok q) : bkOk g x.1 ∧ p < q ∧ q ≤ n ∧ m ≠ 40 := by
  obtain ⟨a1, a2, a3, a4, a5⟩ := bkLn_ok hp hs h
  have b1 := (tk_four (b := b) (L := L) hp).1.2.2.2.1 (by rw [a4]; decide)
  have k2 := pSign_ok h2
  have b2 := (tk_four (b := b) (L := L) a3).1
  rw [k2.2]
  exact ⟨a1, Nat.lt_of_lt_of_le b1 (Nat.le_trans a2 b2.1), b2.2.1, a5⟩
end BKP
/-- the class's book: m lines -/
def CBk (M : Mm) (m : Nat) (bk : Nat → BL) : Prop := M.1 30 4 = I m ∧ ∀ i, i < m → M.2.2 31 i = 609 + (bk i).1 ∧ ((bk i).1 = 0 → M.1 32 i = I (bk i).2.1 ∧ M.1 33 i = I (bk i).2.2.1 ∧ M.1 34 i = I (bk i).2.2.2) ∧ ((bk i).1 ≠ 0 → M.1 34 i = I (bk i).2.1)
section CBR
variable {M : Mm} {b : Nat → Nat} {n L p ps m : Nat} {g : Nat → Int} {nm : Nat → List Nat} {bk : Nat → BL}
theorem CBk_fr {N : Mm} (h : CBk M m bk) (hF : Fr 2 3 M N) : CBk N m bk := by
  unfold CBk at h ⊢
  rw [(hF 30 (by omega)).1, (hF 31 (by omega)).2.2, (hF 32 (by omega)).1, (hF 33 (by omega)).1, (hF 34 (by omega)).1]
  exact h
/-- the street that stands, its names -/
def CN0 (M : Mm) (ps : Nat) (g : Nat → Int) (nm : Nat → List Nat) : Prop := St ps ∧ CSr M ps g ∧ CNm M ps g nm ∧ RGs g ∧ NMo g nm
theorem CN0_fr {N : Mm} (h : CN0 M ps g nm) (hf : ∀ a, ps ≤ a → a < ps + 17 → N.1 a = M.1 a ∧ N.2.1 a = M.2.1 a) : CN0 N ps g nm := ⟨h.1, h.2.1.of fun a x y => (hf a x y).1, CNm_fr h.2.2.1 fun a x y => (hf a x y).2, h.2.2.2⟩
theorem CN0_2 {N : Mm} (h : CN0 M ps g nm) (hF : Fr 2 3 M N) : CN0 N ps g nm := CN0_fr h fun a x y => by
  have := St_lo h.1
  exact ⟨(hF a (by omega)).1, (hF a (by omega)).2.1⟩
theorem c_seeWall {d : Nat} (h : CT M b n L p) (hn : CN0 M ps g nm) : EvQ (d + 2) 272 [.ref 2, .ref (ps + 1), .int (I (g 0))] M fun r N => ∃ v, r = some (.int v) ∧ (Fr 2 3 M N ∧ PN1 (pNamed b n L nm 0 (g 0).toNat p) v N fun x => N = M ∧ 0 ≤ x ∧ x < 100) := by
  obtain ⟨hp, hr, hN, hs, hm⟩ := hn
  have h0 := hs.1.1
  obtain ⟨x1, -⟩ := St_al hp
  obtain ⟨k, hk⟩ := Nn h0.1
  rw [hk, Int.toNat_natCast]
  refine (c_seeNamed (nm := nm) (f := 0) h x1.1 (by omega) (by omega) (fun k hk => ⟨by rw [Nat.zero_add]; exact hN.1 k (by omega), by rw [Nat.zero_add]; exact hm.1 k (by omega)⟩)).mono ?_
  rintro r N ⟨v, rfl, hF, e1, e2⟩
  exact ⟨v, rfl, hF, e1, fun x hx => ⟨(e2 x hx).1, (e2 x hx).2.1, by have := (e2 x hx).2.2; omega⟩⟩
theorem c_seeHouse {d : Nat} (h : CT M b n L p) (hn : CN0 M ps g nm) : EvQ (d + 2) 272 [.ref 2, .ref (ps + 3), .int (I (g 1))] M fun r N => ∃ v, r = some (.int v) ∧ (Fr 2 3 M N ∧ PN1 (pNamed b n L nm 5 (g 1).toNat p) v N fun x => N = M ∧ 0 ≤ x ∧ x < 100) := by
  obtain ⟨hp, hr, hN, hs, hm⟩ := hn
  have h0 := hs.1.2.1
  obtain ⟨-, x1, -⟩ := St_al hp
  obtain ⟨k, hk⟩ := Nn h0.1
  rw [hk, Int.toNat_natCast]
  refine (c_seeNamed (nm := nm) (f := 5) h x1.1 (by omega) (by omega) (fun k hk => ⟨hN.2.1 k (by omega), hm.2.1 k (by omega)⟩)).mono ?_
  rintro r N ⟨v, rfl, hF, e1, e2⟩
  exact ⟨v, rfl, hF, e1, fun x hx => ⟨(e2 x hx).1, (e2 x hx).2.1, by have := (e2 x hx).2.2; omega⟩⟩
theorem c_seeTarget {d : Nat} (h : CT M b n L p) (hn : CN0 M ps g nm) : EvQ (d + 3) 172 [.ref 2, .ref ps] M fun r N => ∃ v, r = some (.int v) ∧ (Fr 2 3 M N ∧ PN1 (pTgt b n L g nm p) v N fun x => N = M ∧ 0 ≤ x ∧ x < 100) := by
  obtain ⟨hp, hr, hN, hs, hm⟩ := id hn
  have w2 := tkW_2 (b := b) (n := n) (L := L) (p := p)
  obtain ⟨k1, k2, k3, k4⟩ := tk_four (b := b) (L := L) h.1.2.2.2.1
  have h0 := hs.1.2.2.1
  obtain ⟨-, -, x1, -⟩ := St_al hp
  obtain ⟨k, hk⟩ := Nn h0.1
  have sw : ∀ d : Nat, tkW b n L p = 23 → fnd nm (tkL b n p) 15 k = -1 → EvQ (d + 2) 272 [.ref 2, .ref (ps + 1), .int (I (g 0))] M fun r N => ∃ v, r = some (.int v) ∧ (Fr 2 3 M N ∧ PN1 (pTgt b n L g nm p) v N fun x => N = M ∧ 0 ≤ x ∧ x < 100) := by
    intro d z z2
    have e : pTgt b n L g nm p = pNamed b n L nm 0 (g 0).toNat p := by
      unfold pTgt
      rw [if_pos z, hk, Int.toNat_natCast, if_neg (by omega)]
    rw [e]
    exact c_seeWall h hn
  apply e_Book_seeTarget hp
  intro At _
  refine ⟨_, _, c_atName h, fun z => ?_, fun z => ?_⟩
  · rw [bI0] at z
    rw [hr.1.1]
    refine q_int (c_seeWall h hn) ?_
    rintro v N ⟨hF, e1, e2⟩
    have e : pNamed b n L nm 0 (g 0).toNat p = .error (1, tkS b n L p) := by
      unfold pNamed
      rw [if_neg z]
    obtain ⟨rfl, w⟩ := e1 _ e
    refine ⟨_, rfl, hF, PN1e (e := (1, tkS b n L p)) ?_ rfl w⟩
    unfold pTgt
    rw [if_neg z]
  · have z2 : tkW b n L p = 23 := Classical.byContradiction fun y => z (by rw [bI0]; exact y)
    have z3 : tkK b n L p = 2 := w2.mp (by omega)
    have hb := fnd_b (nm := nm) (l := tkL b n p) (f := 15) (m := k)
    rw [hr.1.2.2.1, hk, h.2.2.2.2.2.1 z3]
    refine ⟨_, _, c_indexOf (nm := nm) (f := 15) x1.1 (by omega) (by omega) (fun k hk => ⟨hN.2.2 k (by omega), hm.2.2 k (by omega)⟩) (k2 z3).1, ?_⟩
    rw [I_ne (by omega) (by omega) (by omega) (by omega)]
    refine ⟨fun q => ?_, fun q => ?_⟩
    · rw [hr.1.1]
      exact q_int (sw _ z2 q) fun v N hv => ⟨_, rfl, hv⟩
    · rw [I_add]
      refine ⟨_, rfl, Fr.refl, PN1k (x := 10 + fnd nm (tkL b n p) 15 k) ?_ rfl ⟨rfl, by omega, by omega⟩⟩
      unfold pTgt
      rw [if_pos z2, hk, Int.toNat_natCast, if_pos q]
theorem c_movesOn {d : Nat} {x : Int} (h : CT M b n L p) (hx : 0 ≤ x ∧ x < 1000) : EvQ (d + 4) 174 [.ref 2, .int (I x)] M fun r N => r = some (.int (I 1)) ∧ Fr 2 3 M N ∧ CT N b n L (tkN b n L p) := by
  apply e_Book_movesOn
  intro At _
  rw [I_ne (by omega) (by omega) (by omega) (by omega)]
  refine ⟨fun q => absurd q (by omega), fun q => ?_⟩
  refine q_non (c_nextT h) ?_
  rintro N ⟨f1, t1⟩
  exact ⟨fun q => absurd q (by omega), fun _ => ⟨rfl, f1, t1⟩⟩
theorem c_movesNo {d : Nat} : Ev (d + 1) 174 [.ref 2, .int (I (-1))] M (some (.int (I 0))) M := by
  apply Ev.ofQ
  apply e_Book_movesOn
  intro At _
  exact ⟨fun _ => ⟨fun _ => ⟨rfl, rfl⟩, fun z => absurd rfl z⟩, fun z => absurd rfl z⟩
theorem c_readPost {d : Nat} (h : CT M b n L p) (hn : CN0 M ps g nm) (hm : M.1 30 4 = I (m : Int)) (hm4 : m < 40) : EvQ (d + 5) 171 [.ref 30, .ref 2, .ref ps] M fun r N => ∃ v, r = some (.int v) ∧ (Fr2 2 3 32 35 M N ∧ (∀ i, i ≠ m → N.1 32 i = M.1 32 i ∧ N.1 33 i = M.1 33 i ∧ N.1 34 i = M.1 34 i) ∧ PBo (pPost b n L g nm p) v N fun z => CT N b n L z.2 ∧ z.1.1 = 0 ∧ N.1 32 m = I z.1.2.1 ∧ N.1 33 m = I z.1.2.2.1 ∧ N.1 34 m = I z.1.2.2.2) := by
  have hp := hn.1
  have hlo := St_lo hp
  apply e_Book_readPost hp
  intro At _
  rw [hm, ixI (by omega) (by omega), Int.toNat_natCast]
  refine q_int (c_takeNumber h (by decide) (by decide)) ?_
  rintro v N1 ⟨f1, e1, e2⟩
  have m1 : N1.1 30 4 = I (m : Int) := by rw [(f1 30 (by omega)).1, hm]
  rw [m1, ixI (by omega) (by omega), Int.toNat_natCast, mI_eq]
  refine ⟨inRI (by omega) (by omega) (by omega), inRI (by omega) (by omega) (by omega), ?_⟩
  have F2 : ∀ v, Fr2 2 3 32 35 M (sI N1 32 m v) := fun v => (Fr.two f1).trans (Fr.two' (Fr.sI (by omega) (by omega)))
  have K2 : ∀ v i, i ≠ m → (sI N1 32 m v).1 32 i = M.1 32 i ∧ (sI N1 32 m v).1 33 i = M.1 33 i ∧ (sI N1 32 m v).1 34 i = M.1 34 i := fun v i hi => ⟨by rw [mI_n2 hi, (f1 32 (by omega)).1], by rw [mI_n1 (by decide), (f1 33 (by omega)).1], by rw [mI_n1 (by decide), (f1 34 (by omega)).1]⟩
  rcases pe_cases (pNum b n L 0 60 p) with ⟨e, he⟩ | ⟨x, hx⟩
  · obtain ⟨rfl, w⟩ := e1 e he
    exact ⟨fun _ => ⟨_, rfl, F2 _, K2 _, PBe (e := e) (bnd_e he) rfl (cFl_fr w (mI_fn (by decide)))⟩, fun z => absurd rfl z⟩
  obtain ⟨rfl, t1, x1, x2⟩ := e2 x hx
  rw [I_ne (by omega) (by omega) (by omega) (by omega)]
  refine ⟨fun z => absurd z (by omega), fun _ => ?_⟩
  have t1' : CT (sI N1 32 m (I x.1)) b n L x.2 := CT_fr t1 (mI_fn (by decide)) (mI_fn (by decide)) rfl rfl
  refine q_int (c_takeNumber t1' (by decide) (by decide)) ?_
  rintro v N6 ⟨f6, e3, e4⟩
  have m6 : N6.1 30 4 = I (m : Int) := by rw [(f6 30 (by omega)).1, mI_n1 (by decide), m1]
  rw [m6, ixI (by omega) (by omega), Int.toNat_natCast, mI_eq]
  refine ⟨inRI (by omega) (by omega) (by omega), inRI (by omega) (by omega) (by omega), ?_⟩
  have F6 : ∀ v, Fr2 2 3 32 35 M (sI N6 33 m v) := fun v => ((F2 _).trans (Fr.two f6)).trans (Fr.two' (Fr.sI (by omega) (by omega)))
  have K6 : ∀ v i, i ≠ m → (sI N6 33 m v).1 32 i = M.1 32 i ∧ (sI N6 33 m v).1 33 i = M.1 33 i ∧ (sI N6 33 m v).1 34 i = M.1 34 i := fun v i hi => ⟨by rw [mI_n1 (by decide), (f6 32 (by omega)).1]; exact (K2 _ i hi).1, by rw [mI_n2 hi, (f6 33 (by omega)).1]; exact (K2 (I x.1) i hi).2.1, by rw [mI_n1 (by decide), (f6 34 (by omega)).1]; exact (K2 (I x.1) i hi).2.2⟩
  rcases pe_cases (pNum b n L 0 60 x.2) with ⟨e, he⟩ | ⟨y, hy⟩
  · obtain ⟨rfl, w⟩ := e3 e he
    refine ⟨fun _ => ⟨_, rfl, F6 _, K6 _, PBe (e := e) ?_ rfl (cFl_fr w (mI_fn (by decide)))⟩, fun z => absurd rfl z⟩
    unfold pPost
    rw [bnd_o hx, bnd_e he]
  obtain ⟨rfl, t6, y1, y2⟩ := e4 y hy
  rw [I_ne (by omega) (by omega) (by omega) (by omega)]
  refine ⟨fun z => absurd z (by omega), fun _ => ?_⟩
  have t6' : CT (sI N6 33 m (I y.1)) b n L y.2 := CT_fr t6 (mI_fn (by decide)) (mI_fn (by decide)) rfl rfl
  have hn6 : CN0 (sI N6 33 m (I y.1)) ps g nm := CN0_fr hn fun a a1 a2 => ⟨(F6 (I y.1) a (by omega) (by omega)).1, (F6 (I y.1) a (by omega) (by omega)).2.1⟩
  refine q_int (c_seeTarget t6' hn6) ?_
  rintro v N11 ⟨f11, e5, e6⟩
  have m11 : N11.1 30 4 = I (m : Int) := by rw [(f11 30 (by omega)).1, mI_n1 (by decide), m6]
  rw [m11, ixI (by omega) (by omega), Int.toNat_natCast, mI_eq]
  refine ⟨inRI (by omega) (by omega) (by omega), inRI (by omega) (by omega) (by omega), ?_⟩
  have F11 : ∀ v, Fr2 2 3 32 35 M (sI N11 34 m v) := fun v => ((F6 _).trans (Fr.two f11)).trans (Fr.two' (Fr.sI (by omega) (by omega)))
  have K11 : ∀ v i, i ≠ m → (sI N11 34 m v).1 32 i = M.1 32 i ∧ (sI N11 34 m v).1 33 i = M.1 33 i ∧ (sI N11 34 m v).1 34 i = M.1 34 i := fun v i hi => ⟨by rw [mI_n1 (by decide), (f11 32 (by omega)).1]; exact (K6 _ i hi).1, by rw [mI_n1 (by decide), (f11 33 (by omega)).1]; exact (K6 (I y.1) i hi).2.1, by rw [mI_n2 hi, (f11 34 (by omega)).1]; exact (K6 (I y.1) i hi).2.2⟩
  rcases pe_cases (pTgt b n L g nm y.2) with ⟨e, he⟩ | ⟨t, ht⟩
  · obtain ⟨rfl, w⟩ := e5 e he
    refine ⟨_, _, c_movesNo, Or.inl rfl, _, rfl, F11 _, K11 _, PBe (e := e) ?_ rfl (cFl_fr w (mI_fn (by decide)))⟩
    unfold pPost
    rw [bnd_o hx, bnd_o hy, bnd_e he]
  obtain ⟨rfl, rfl, z1, z2⟩ := e6 t ht
  have t11 : CT (sI (sI N6 33 m (I y.1)) 34 m (I t)) b n L y.2 := CT_fr t6' (mI_fn (by decide)) (mI_fn (by decide)) rfl rfl
  obtain ⟨r, N15, hE, rfl, f15, t15⟩ := c_movesOn (d := d) t11 (x := t) (by omega)
  refine ⟨_, N15, hE, Or.inr rfl, _, rfl, (F11 _).trans (Fr.two f15), fun i hi => ?_, PBk (x := ((0, x.1, y.1, t), tkN b n L y.2)) ?_ rfl ⟨t15, rfl, ?_, ?_, ?_⟩⟩
  · rw [(f15 32 (by omega)).1, (f15 33 (by omega)).1, (f15 34 (by omega)).1]
    exact K11 _ i hi
  · unfold pPost
    rw [bnd_o hx, bnd_o hy, bnd_o ht]
  · rw [(f15 32 (by omega)).1, mI_n1 (by decide), mI_n1 (by decide), (f6 32 (by omega)).1, mI_eq]
  · rw [(f15 33 (by omega)).1, mI_n1 (by decide), mI_eq]
  · rw [(f15 34 (by omega)).1, mI_eq]
end CBR
