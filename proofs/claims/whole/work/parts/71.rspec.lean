/-! ===== reading: the spec; the class's small readers ===== -/
abbrev PE (α : Type) : Type := Except (Int × Nat) α
def bnd {α β : Type} (x : PE α) (f : α → PE β) : PE β := match x with
  | .error e => .error e
  | .ok y => f y
theorem bnd_e {α β : Type} {x : PE α} {f : α → PE β} {e : Int × Nat} (h : x = .error e) : bnd x f = .error e := by
  rw [h]
  rfl
theorem bnd_o {α β : Type} {x : PE α} {f : α → PE β} {y : α} (h : x = .ok y) : bnd x f = f y := by
  rw [h]
  rfl
theorem pe_cases {α : Type} (x : PE α) : (∃ e, x = .error e) ∨ ∃ y, x = .ok y := by
  cases x with
  | error e => exact Or.inl ⟨e, rfl⟩
  | ok y => exact Or.inr ⟨y, rfl⟩
def fdS (nm : Nat → List Nat) (l : List Nat) (f : Nat) : Nat → Nat → Int
  | 0, _ => -1
  | m + 1, k => if nm (f + k) = l then (k : Int) else fdS nm l f m (k + 1)
def fnd (nm : Nat → List Nat) (l : List Nat) (f many : Nat) : Int := fdS nm l f many 0
theorem fdS_s {nm : Nat → List Nat} {l : List Nat} {f m k : Nat} : fdS nm l f (m + 1) k = if nm (f + k) = l then (k : Int) else fdS nm l f m (k + 1) := rfl
theorem fdS_b {nm : Nat → List Nat} {l : List Nat} {f : Nat} : ∀ m k : Nat, fdS nm l f m k = -1 ∨ ((k : Int) ≤ fdS nm l f m k ∧ fdS nm l f m k < k + m ∧ nm (f + (fdS nm l f m k).toNat) = l)
  | 0, k => Or.inl rfl
  | m + 1, k => by
    rw [fdS_s]
    by_cases e : nm (f + k) = l
    · rw [if_pos e]
      exact Or.inr ⟨Int.le_refl _, by omega, by rw [Int.toNat_natCast]; exact e⟩
    · rw [if_neg e]
      rcases fdS_b (nm := nm) (l := l) (f := f) m (k + 1) with h | ⟨h1, h2, h3⟩
      · exact Or.inl h
      · exact Or.inr ⟨by omega, by omega, h3⟩
theorem fnd_b {nm : Nat → List Nat} {l : List Nat} {f m : Nat} : fnd nm l f m = -1 ∨ (0 ≤ fnd nm l f m ∧ fnd nm l f m < m ∧ nm (f + (fnd nm l f m).toNat) = l) := by
  rcases fdS_b (nm := nm) (l := l) (f := f) m 0 with h | ⟨h1, h2, h3⟩
  · exact Or.inl h
  · exact Or.inr ⟨by unfold fnd; omega, by unfold fnd; omega, h3⟩
section SPC
variable (b : Nat → Nat) (n L : Nat)
def pSee (lo hi : Int) (p : Nat) : PE Int := if tkK b n L p = 3 then (if tkV b n p < lo ∨ hi < tkV b n p then .error (2, tkS b n L p) else .ok (tkV b n p)) else .error (1, tkS b n L p)
def pNum (lo hi : Int) (p : Nat) : PE (Int × Nat) := bnd (pSee b n L lo hi p) fun v => .ok (v, tkN b n L p)
def pSign (c : Int) (p : Nat) : PE Nat := if tkK b n L p = 4 ∧ tkV b n p = c then .ok (tkN b n L p) else .error (1, tkS b n L p)
def pNamed (nm : Nat → List Nat) (f many p : Nat) : PE Int := if tkW b n L p = 23 then (if fnd nm (tkL b n p) f many = -1 then .error (3, tkS b n L p) else .ok (fnd nm (tkL b n p) f many)) else .error (1, tkS b n L p)
end SPC
def cFl (N : Mm) (e : Int × Nat) : Prop := N.1 2 9 = I e.1 ∧ N.1 2 10 = I e.2 ∧ 1 ≤ e.1 ∧ e.1 ≤ 4 ∧ e.2 ≤ 940
def PBo {α : Type} (R : PE α) (v : Int32) (N : Mm) (ok : α → Prop) : Prop := (∀ e, R = .error e → v = I 0 ∧ cFl N e) ∧ ∀ x, R = .ok x → v = I 1 ∧ ok x
def PN1 (R : PE Int) (v : Int32) (N : Mm) (ok : Int → Prop) : Prop := (∀ e, R = .error e → v = I (-1) ∧ cFl N e) ∧ ∀ x, R = .ok x → v = I x ∧ ok x
def PN2 (R : PE (Int × Nat)) (v : Int32) (N : Mm) (ok : Int × Nat → Prop) : Prop := (∀ e, R = .error e → v = I (-1) ∧ cFl N e) ∧ ∀ x, R = .ok x → v = I x.1 ∧ ok x
theorem PBe {α : Type} {R : PE α} {v : Int32} {N : Mm} {ok : α → Prop} {e : Int × Nat} (h : R = .error e) (h1 : v = I 0) (h2 : cFl N e) : PBo R v N ok := ⟨fun e' q => (by rw [h] at q; cases q; exact ⟨h1, h2⟩), fun x q => (by rw [h] at q; cases q)⟩
theorem PBk {α : Type} {R : PE α} {v : Int32} {N : Mm} {ok : α → Prop} {x : α} (h : R = .ok x) (h1 : v = I 1) (h2 : ok x) : PBo R v N ok := ⟨fun e' q => (by rw [h] at q; cases q), fun x q => (by rw [h] at q; cases q; exact ⟨h1, h2⟩)⟩
theorem PN1e {R : PE Int} {v : Int32} {N : Mm} {ok : Int → Prop} {e : Int × Nat} (h : R = .error e) (h1 : v = I (-1)) (h2 : cFl N e) : PN1 R v N ok := ⟨fun e' q => (by rw [h] at q; cases q; exact ⟨h1, h2⟩), fun x q => (by rw [h] at q; cases q)⟩
theorem PN1k {R : PE Int} {v : Int32} {N : Mm} {ok : Int → Prop} {x : Int} (h : R = .ok x) (h1 : v = I x) (h2 : ok x) : PN1 R v N ok := ⟨fun e' q => (by rw [h] at q; cases q), fun x q => (by rw [h] at q; cases q; exact ⟨h1, h2⟩)⟩
theorem PN2e {R : PE (Int × Nat)} {v : Int32} {N : Mm} {ok : Int × Nat → Prop} {e : Int × Nat} (h : R = .error e) (h1 : v = I (-1)) (h2 : cFl N e) : PN2 R v N ok := ⟨fun e' q => (by rw [h] at q; cases q; exact ⟨h1, h2⟩), fun x q => (by rw [h] at q; cases q)⟩
theorem PN2k {R : PE (Int × Nat)} {v : Int32} {N : Mm} {ok : Int × Nat → Prop} {x : Int × Nat} (h : R = .ok x) (h1 : v = I x.1) (h2 : ok x) : PN2 R v N ok := ⟨fun e' q => (by rw [h] at q; cases q), fun x q => (by rw [h] at q; cases q; exact ⟨h1, h2⟩)⟩
section CSM
variable {M : Mm} {b : Nat → Nat} {n L p : Nat} {nm : Nat → List Nat}
theorem c_failT {d : Nat} (h : CT M b n L p) {k : Int} (hk : 1 ≤ k ∧ k ≤ 4) {K : Int32 → Mm → Prop} (q : ∀ N, Fr 2 3 M N → cFl N (k, tkS b n L p) → K (I 0) N) : ∃ (v : Int32) (N : Mm), Ev (d + 1) 266 [.ref 2, .int (I k)] M (some (.int v)) N ∧ K v N := by
  have h940 := h.1.1.2.1
  have hs := (tk_four (b := b) (L := L) h.1.2.2.2.1).1
  refine ⟨I 0, sI (sI M 2 9 (I k)) 2 10 (M.1 2 4), ?_, q _ ((Fr.sI (by omega) (by omega)).trans (Fr.sI (by omega) (by omega))) ⟨by rw [mI_n2 (by decide), mI_eq], by rw [mI_eq]; exact h.2.2.1, hk.1, hk.2, by show tkS b n L p ≤ 940; omega⟩⟩
  apply Ev.ofQ
  apply e_Tape_fail
  intro At _
  exact ⟨rfl, rfl⟩
theorem c_atSign {d : Nat} (h : CT M b n L p) {c : Int} (hc : 0 ≤ c ∧ c < 256) : Ev (d + 1) 267 [.ref 2, .int (I c)] M (some (.int (I (if tkK b n L p = 4 ∧ tkV b n p = c then 1 else 0)))) M := by
  obtain ⟨k1, k2, k3, k4⟩ := tk_four (b := b) (L := L) h.1.2.2.2.1
  apply Ev.ofQ
  apply e_Tape_atSign
  intro At _
  obtain ⟨-, -, -, a5, -, -, a6⟩ := h
  rw [a5, I_ne (by omega) (by omega) (by omega) (by omega)]
  refine ⟨fun q => ?_, fun q => ?_⟩
  · have q4 : tkK b n L p = 4 := by omega
    have := k4 q4
    rw [a6 (Or.inr q4), I_ne (by omega) (by omega) (by omega) (by omega)]
    refine ⟨fun q2 => ?_, fun q2 => ?_⟩
    · rw [if_pos ⟨q4, q2⟩]
      exact ⟨rfl, rfl⟩
    · rw [if_neg (fun z => q2 z.2)]
      exact ⟨rfl, rfl⟩
  · rw [if_neg (fun z => q (by omega))]
    exact ⟨rfl, rfl⟩
theorem c_takeSign {d : Nat} (h : CT M b n L p) {c : Int} (hc : 0 ≤ c ∧ c < 256) : EvQ (d + 4) 268 [.ref 2, .int (I c)] M fun r N => ∃ v, r = some (.int v) ∧ (Fr 2 3 M N ∧ PBo (pSign b n L c p) v N fun q => CT N b n L q) := by
  apply e_Tape_takeSign
  intro At _
  refine ⟨_, _, c_atSign h hc, fun z => ?_, fun z => ?_⟩
  · rw [bI0] at z
    refine c_failT h (by decide) fun N hF hN => ⟨Or.inl rfl, _, rfl, hF, PBe (e := (1, tkS b n L p)) ?_ rfl hN⟩
    unfold pSign
    rw [if_neg z]
  · have z2 : tkK b n L p = 4 ∧ tkV b n p = c := Classical.byContradiction fun y => z (by rw [bI0]; exact y)
    refine q_non (c_nextT h) ?_
    rintro N ⟨hF, hN⟩
    refine ⟨_, rfl, hF, PBk (x := tkN b n L p) ?_ rfl hN⟩
    unfold pSign
    rw [if_pos z2]
theorem c_atName {d : Nat} (h : CT M b n L p) : Ev (d + 1) 269 [.ref 2] M (some (.int (I (if tkW b n L p = 23 then 1 else 0)))) M := by
  have w2 := tkW_2 (b := b) (n := n) (L := L) (p := p)
  have k1 := (tk_four (b := b) (L := L) h.1.2.2.2.1).1
  apply Ev.ofQ
  apply e_Tape_atName
  intro At _
  obtain ⟨-, -, -, a5, a8, -, -⟩ := h
  rw [a5, a8, I_ne (by omega) (by omega) (by omega) (by omega)]
  refine ⟨fun q => ⟨fun q2 => ?_, fun q2 => ?_⟩, fun q => ?_⟩
  · rw [if_pos (c := tkW b n L p = 23)]
    · exact ⟨rfl, rfl⟩
    · by_cases w : tkW b n L p < 23
      · rw [if_pos w] at q2
        omega
      · omega
  · rw [if_neg (c := tkW b n L p = 23)]
    · exact ⟨rfl, rfl⟩
    · intro w
      rw [if_neg (by omega)] at q2
      exact q2 rfl
  · rw [if_neg (c := tkW b n L p = 23)]
    · exact ⟨rfl, rfl⟩
    · omega
theorem c_seeNumber {d : Nat} (h : CT M b n L p) {lo hi : Int} (hl : 0 ≤ lo ∧ lo < 1000) (hh : 0 ≤ hi ∧ hi < 1000) : EvQ (d + 2) 270 [.ref 2, .int (I lo), .int (I hi)] M fun r N => ∃ v, r = some (.int v) ∧ (Fr 2 3 M N ∧ PN1 (pSee b n L lo hi p) v N fun x => N = M ∧ lo ≤ x ∧ x ≤ hi) := by
  obtain ⟨k1, k2, k3, k4⟩ := tk_four (b := b) (L := L) h.1.2.2.2.1
  have a5 := h.2.2.2.1
  have a6 := h.2.2.2.2.2.2
  apply e_Tape_seeNumber
  intro At _
  rw [a5, I_ne (by omega) (by omega) (by omega) (by omega)]
  refine ⟨fun q => ?_, fun q => ?_⟩
  · have q3 : tkK b n L p = 3 := by omega
    have b3 := k3 q3
    rw [a6 (Or.inl q3), I_lt (by omega) (by omega) (by omega) (by omega), I_lt (by omega) (by omega) (by omega) (by omega)]
    have er : (tkV b n p < lo ∨ hi < tkV b n p) → pSee b n L lo hi p = .error (2, tkS b n L p) := fun y => by
      unfold pSee
      rw [if_pos q3, if_pos y]
    refine ⟨fun z => ?_, fun z => ⟨fun z2 => ?_, fun z2 => ?_⟩⟩
    · exact c_failT h (by decide) fun N hF hN => ⟨_, rfl, hF, PN1e (er (Or.inl z)) rfl hN⟩
    · exact c_failT h (by decide) fun N hF hN => ⟨_, rfl, hF, PN1e (er (Or.inr z2)) rfl hN⟩
    · refine ⟨_, rfl, Fr.refl, PN1k (x := tkV b n p) ?_ rfl ⟨rfl, by omega, by omega⟩⟩
      unfold pSee
      rw [if_pos q3, if_neg (by omega)]
  · refine c_failT h (by decide) fun N hF hN => ⟨_, rfl, hF, PN1e ?_ rfl hN⟩
    unfold pSee
    rw [if_neg (by omega)]
theorem c_takeNumber {d : Nat} (h : CT M b n L p) {lo hi : Int} (hl : 0 ≤ lo ∧ lo < 1000) (hh : 0 ≤ hi ∧ hi < 1000) : EvQ (d + 4) 271 [.ref 2, .int (I lo), .int (I hi)] M fun r N => ∃ v, r = some (.int v) ∧ (Fr 2 3 M N ∧ PN2 (pNum b n L lo hi p) v N fun x => CT N b n L x.2 ∧ lo ≤ x.1 ∧ x.1 ≤ hi) := by
  apply e_Tape_takeNumber
  intro At _
  refine q_int (c_seeNumber h hl hh) ?_
  rintro v N ⟨hF, h1, h2⟩
  rcases pe_cases (pSee b n L lo hi p) with ⟨e, he⟩ | ⟨x, hx⟩
  · obtain ⟨e1, e2⟩ := h1 e he
    subst e1
    refine ⟨fun _ => ⟨_, rfl, hF, PN2e (bnd_e he) rfl e2⟩, fun z => absurd rfl z⟩
  · obtain ⟨e1, rfl, e2, e3⟩ := h2 x hx
    subst e1
    rw [I_ne (by omega) (by omega) (by omega) (by omega)]
    refine ⟨fun z => absurd z (by omega), fun _ => ?_⟩
    refine q_non (c_nextT h) ?_
    rintro N2 ⟨f1, f2⟩
    exact ⟨_, rfl, f1, PN2k (bnd_o hx) rfl ⟨f2, e2, e3⟩⟩
theorem c_indexOf {d a f many : Nat} {l : List Nat} (ha : lay a = 101) (h1 : many ≤ alen a) (h2 : alen a < 1000) (hN : ∀ k, k < many → M.2.1 a k = J (nmC (nm (f + k))) ∧ nmOk (nm (f + k))) (hl : nmOk l) : Ev (d + 1) 232 [.ref a, .int (I many), .long (J (nmC l))] M (some (.int (I (fnd nm l f many)))) M := by
  apply Ev.ofQ
  apply e_Street_indexOf ha
  intro At step
  have key : ∀ m k : Nat, k + m = many → fdS nm l f m k = fnd nm l f many → At 3 [.ref a, .int (I many), .long (J (nmC l)), .retAddr 0, .int (I k)] [] M := by
    intro m
    induction m with
    | zero =>
      intro k hk e
      apply s_Street_indexOf_3 ha step
      rw [I_lt (by omega) (by omega) (by omega) (by omega), ← e]
      exact ⟨fun q => absurd q (by omega), fun _ => ⟨rfl, rfl⟩⟩
    | succ m ih =>
      intro k hk e
      apply s_Street_indexOf_3 ha step
      obtain ⟨n1, n2⟩ := hN k (by omega)
      rw [fdS_s] at e
      rw [I_lt (by omega) (by omega) (by omega) (by omega), I_lt (by omega) (by omega) (by omega) (by omega), ixI (by omega) (by omega), Int.toNat_natCast, n1, lg0, nmC_inj n2 hl, I_add]
      refine ⟨fun _ => ⟨fun _ => ⟨inRI (by omega) (by omega) (by omega), fun q => ?_, fun q => ?_⟩, fun q => absurd (by omega) q⟩, fun q => absurd (by omega) q⟩
      · rw [if_pos q] at e
        rw [← e]
        exact ⟨rfl, rfl⟩
      · rw [if_neg q] at e
        exact ih (k + 1) (by omega) e
  exact key many 0 (by omega) rfl
theorem c_seeNamed {d a f many : Nat} (h : CT M b n L p) (ha : lay a = 101) (h1 : many ≤ alen a) (h2 : alen a < 1000) (hN : ∀ k, k < many → M.2.1 a k = J (nmC (nm (f + k))) ∧ nmOk (nm (f + k))) : EvQ (d + 2) 272 [.ref 2, .ref a, .int (I many)] M fun r N => ∃ v, r = some (.int v) ∧ (Fr 2 3 M N ∧ PN1 (pNamed b n L nm f many p) v N fun x => N = M ∧ 0 ≤ x ∧ x < many) := by
  have w2 := tkW_2 (b := b) (n := n) (L := L) (p := p)
  obtain ⟨k1, k2, k3, k4⟩ := tk_four (b := b) (L := L) h.1.2.2.2.1
  apply e_Tape_seeNamed ha
  intro At _
  refine ⟨_, _, c_atName h, fun z => ?_, fun z => ?_⟩
  · rw [bI0] at z
    refine c_failT h (by decide) fun N hF hN => ⟨_, rfl, hF, PN1e ?_ rfl hN⟩
    unfold pNamed
    rw [if_neg z]
  · have z2 : tkW b n L p = 23 := Classical.byContradiction fun y => z (by rw [bI0]; exact y)
    have z3 : tkK b n L p = 2 := w2.mp (by omega)
    have hb := fnd_b (nm := nm) (l := tkL b n p) (f := f) (m := many)
    have e7 := h.2.2.2.2.2.1 z3
    rw [e7]
    refine ⟨_, _, c_indexOf ha h1 h2 hN (k2 z3).1, ?_⟩
    rw [I_ne (by omega) (by omega) (by omega) (by omega)]
    refine ⟨fun q => ?_, fun q => ?_⟩
    · refine c_failT h (by decide) fun N hF hN => ⟨_, rfl, hF, PN1e (e := (3, tkS b n L p)) ?_ (by rw [q]) hN⟩
      unfold pNamed
      rw [if_pos z2, if_pos q]
    · refine ⟨_, rfl, Fr.refl, PN1k (x := fnd nm (tkL b n p) f many) ?_ rfl ⟨rfl, by omega, by omega⟩⟩
      unfold pNamed
      rw [if_pos z2, if_neg q]
end CSM
